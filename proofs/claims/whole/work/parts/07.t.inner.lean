def T_J6_bitCount_0f7a4 : List (Nat × Op) := [(0, op_ild 0 1), (1, op_ild 0 1), (2, op_ic 1 1), (3, op_iushr), (4, op_ic (1431655765) 3), (7, op_iand), (8, op_isub), (9, op_ist 0 1), (10, op_ild 0 1), (11, op_ic (858993459) 3), (14, op_iand), (15, op_ild 0 1), (16, op_ic 2 1), (17, op_iushr), (18, op_ic (858993459) 3), (21, op_iand), (22, op_iadd), (23, op_ist 0 1), (24, op_ild 0 1), (25, op_ild 0 1), (26, op_ic 4 1), (27, op_iushr), (28, op_iadd), (29, op_ic (252645135) 3), (32, op_iand), (33, op_ist 0 1), (34, op_ild 0 1), (35, op_ild 0 1), (36, op_ic 8 2), (38, op_iushr), (39, op_iadd), (40, op_ist 0 1), (41, op_ild 0 1), (42, op_ild 0 1), (43, op_ic 16 2), (45, op_iushr), (46, op_iadd), (47, op_ist 0 1), (48, op_ild 0 1), (49, op_ic 63 2), (51, op_iand), (52, op_iret)]
set_option maxRecDepth 20000 in
theorem K_J6_bitCount_0f7a4 : ∀ r ∈ T_J6_bitCount_0f7a4, OpOK M_J6_bitCount_0f7a4 r.1 r.2 :=
  fc (ok_ildn (q := 0) (by decide +kernel) rfl) <|
  fc (ok_ildn (q := 0) (by decide +kernel) rfl) <|
  fc (ok_iconst (n := 1) (by decide +kernel) (by decide +kernel)) <|
  fc (ok_iushr (by decide +kernel)) <|
  fc (ok_ldcw mk_J6_bitCount_0f7a4 uw432 (by decide +kernel)) <|
  fc (ok_iand (by decide +kernel)) <|
  fc (ok_isub (by decide +kernel)) <|
  fc (ok_istn (q := 0) (by decide +kernel) rfl (by decide)) <|
  fc (ok_ildn (q := 0) (by decide +kernel) rfl) <|
  fc (ok_ldcw mk_J6_bitCount_0f7a4 uw433 (by decide +kernel)) <|
  fc (ok_iand (by decide +kernel)) <|
  fc (ok_ildn (q := 0) (by decide +kernel) rfl) <|
  fc (ok_iconst (n := 2) (by decide +kernel) (by decide +kernel)) <|
  fc (ok_iushr (by decide +kernel)) <|
  fc (ok_ldcw mk_J6_bitCount_0f7a4 uw433 (by decide +kernel)) <|
  fc (ok_iand (by decide +kernel)) <|
  fc (ok_iadd (by decide +kernel)) <|
  fc (ok_istn (q := 0) (by decide +kernel) rfl (by decide)) <|
  fc (ok_ildn (q := 0) (by decide +kernel) rfl) <|
  fc (ok_ildn (q := 0) (by decide +kernel) rfl) <|
  fc (ok_iconst (n := 4) (by decide +kernel) (by decide +kernel)) <|
  fc (ok_iushr (by decide +kernel)) <|
  fc (ok_iadd (by decide +kernel)) <|
  fc (ok_ldcw mk_J6_bitCount_0f7a4 uw434 (by decide +kernel)) <|
  fc (ok_iand (by decide +kernel)) <|
  fc (ok_istn (q := 0) (by decide +kernel) rfl (by decide)) <|
  fc (ok_ildn (q := 0) (by decide +kernel) rfl) <|
  fc (ok_ildn (q := 0) (by decide +kernel) rfl) <|
  fc (ok_bipush (n := 8) (by decide +kernel) (by decide +kernel)) <|
  fc (ok_iushr (by decide +kernel)) <|
  fc (ok_iadd (by decide +kernel)) <|
  fc (ok_istn (q := 0) (by decide +kernel) rfl (by decide)) <|
  fc (ok_ildn (q := 0) (by decide +kernel) rfl) <|
  fc (ok_ildn (q := 0) (by decide +kernel) rfl) <|
  fc (ok_bipush (n := 16) (by decide +kernel) (by decide +kernel)) <|
  fc (ok_iushr (by decide +kernel)) <|
  fc (ok_iadd (by decide +kernel)) <|
  fc (ok_istn (q := 0) (by decide +kernel) rfl (by decide)) <|
  fc (ok_ildn (q := 0) (by decide +kernel) rfl) <|
  fc (ok_bipush (n := 63) (by decide +kernel) (by decide +kernel)) <|
  fc (ok_iand (by decide +kernel)) <|
  fc (ok_iret rfl (by decide +kernel)) <| fn
def T_J6_numberOfTrailingZeros_0f7a4 : List (Nat × Op) := [(0, op_ild 0 1), (1, op_ic (-1) 1), (2, op_ixor), (3, op_ild 0 1), (4, op_ic 1 1), (5, op_isub), (6, op_iand), (7, op_ist 0 1), (8, op_ild 0 1), (9, op_ifgt 17), (12, op_ild 0 1), (13, op_ic 32 2), (15, op_iand), (16, op_iret), (17, op_ic 1 1), (18, op_ist 1 1), (19, op_ild 0 1), (20, op_ic (65536) 3), (23, op_icle 34), (26, op_iinc 1 16), (29, op_ild 0 1), (30, op_ic 16 2), (32, op_iushr), (33, op_ist 0 1), (34, op_ild 0 1), (35, op_ic 256 3), (38, op_icle 49), (41, op_iinc 1 8), (44, op_ild 0 1), (45, op_ic 8 2), (47, op_iushr), (48, op_ist 0 1), (49, op_ild 0 1), (50, op_ic 16 2), (52, op_icle 62), (55, op_iinc 1 4), (58, op_ild 0 1), (59, op_ic 4 1), (60, op_iushr), (61, op_ist 0 1), (62, op_ild 0 1), (63, op_ic 4 1), (64, op_icle 74), (67, op_iinc 1 2), (70, op_ild 0 1), (71, op_ic 2 1), (72, op_iushr), (73, op_ist 0 1), (74, op_ild 1 1), (75, op_ild 0 1), (76, op_ic 1 1), (77, op_iushr), (78, op_iadd), (79, op_iret)]
set_option maxRecDepth 20000 in
theorem K_J6_numberOfTrailingZeros_0f7a4 : ∀ r ∈ T_J6_numberOfTrailingZeros_0f7a4, OpOK M_J6_numberOfTrailingZeros_0f7a4 r.1 r.2 :=
  fc (ok_ildn (q := 0) (by decide +kernel) rfl) <|
  fc (ok_iconst (n := -1) (by decide +kernel) (by decide +kernel)) <|
  fc (ok_ixor (by decide +kernel)) <|
  fc (ok_ildn (q := 0) (by decide +kernel) rfl) <|
  fc (ok_iconst (n := 1) (by decide +kernel) (by decide +kernel)) <|
  fc (ok_isub (by decide +kernel)) <|
  fc (ok_iand (by decide +kernel)) <|
  fc (ok_istn (q := 0) (by decide +kernel) rfl (by decide)) <|
  fc (ok_ildn (q := 0) (by decide +kernel) rfl) <|
  fc (ok_ifgt (off := 8) (by decide +kernel) (by decide)) <|
  fc (ok_ildn (q := 0) (by decide +kernel) rfl) <|
  fc (ok_bipush (n := 32) (by decide +kernel) (by decide +kernel)) <|
  fc (ok_iand (by decide +kernel)) <|
  fc (ok_iret rfl (by decide +kernel)) <|
  fc (ok_iconst (n := 1) (by decide +kernel) (by decide +kernel)) <|
  fc (ok_istn (q := 1) (by decide +kernel) rfl (by decide)) <|
  fc (ok_ildn (q := 0) (by decide +kernel) rfl) <|
  fc (ok_ldcw mk_J6_numberOfTrailingZeros_0f7a4 uw828 (by decide +kernel)) <|
  fc (ok_icle (off := 11) (by decide +kernel) (by decide)) <|
  fc (ok_iinc (n := 16) (by decide +kernel) (by decide +kernel) (by decide)) <|
  fc (ok_ildn (q := 0) (by decide +kernel) rfl) <|
  fc (ok_bipush (n := 16) (by decide +kernel) (by decide +kernel)) <|
  fc (ok_iushr (by decide +kernel)) <|
  fc (ok_istn (q := 0) (by decide +kernel) rfl (by decide)) <|
  fc (ok_ildn (q := 0) (by decide +kernel) rfl) <|
  fc (ok_sipush (n := 256) (by decide +kernel) (by decide +kernel)) <|
  fc (ok_icle (off := 11) (by decide +kernel) (by decide)) <|
  fc (ok_iinc (n := 8) (by decide +kernel) (by decide +kernel) (by decide)) <|
  fc (ok_ildn (q := 0) (by decide +kernel) rfl) <|
  fc (ok_bipush (n := 8) (by decide +kernel) (by decide +kernel)) <|
  fc (ok_iushr (by decide +kernel)) <|
  fc (ok_istn (q := 0) (by decide +kernel) rfl (by decide)) <|
  fc (ok_ildn (q := 0) (by decide +kernel) rfl) <|
  fc (ok_bipush (n := 16) (by decide +kernel) (by decide +kernel)) <|
  fc (ok_icle (off := 10) (by decide +kernel) (by decide)) <|
  fc (ok_iinc (n := 4) (by decide +kernel) (by decide +kernel) (by decide)) <|
  fc (ok_ildn (q := 0) (by decide +kernel) rfl) <|
  fc (ok_iconst (n := 4) (by decide +kernel) (by decide +kernel)) <|
  fc (ok_iushr (by decide +kernel)) <|
  fc (ok_istn (q := 0) (by decide +kernel) rfl (by decide)) <|
  fc (ok_ildn (q := 0) (by decide +kernel) rfl) <|
  fc (ok_iconst (n := 4) (by decide +kernel) (by decide +kernel)) <|
  fc (ok_icle (off := 10) (by decide +kernel) (by decide)) <|
  fc (ok_iinc (n := 2) (by decide +kernel) (by decide +kernel) (by decide)) <|
  fc (ok_ildn (q := 0) (by decide +kernel) rfl) <|
  fc (ok_iconst (n := 2) (by decide +kernel) (by decide +kernel)) <|
  fc (ok_iushr (by decide +kernel)) <|
  fc (ok_istn (q := 0) (by decide +kernel) rfl (by decide)) <|
  fc (ok_ildn (q := 1) (by decide +kernel) rfl) <|
  fc (ok_ildn (q := 0) (by decide +kernel) rfl) <|
  fc (ok_iconst (n := 1) (by decide +kernel) (by decide +kernel)) <|
  fc (ok_iushr (by decide +kernel)) <|
  fc (ok_iadd (by decide +kernel)) <|
  fc (ok_iret rfl (by decide +kernel)) <| fn
def T_X9_tells_ : List (Nat × Op) := [(0, op_ald 0 1), (1, op_ic 0 1), (2, op_pi 9 1), (5, op_ald 0 1), (6, op_lld 1 1), (7, op_cv M_X9_adds 9 1), (10, op_ald 0 1), (11, op_lld 3 1), (12, op_cv M_X9_adds 9 1), (15, op_vret)]
set_option maxRecDepth 20000 in
theorem K_X9_tells_ : ∀ r ∈ T_X9_tells_, OpOK M_X9_tells_ r.1 r.2 :=
  fc (ok_aldn (q := 0) (by decide +kernel) rfl) <|
  fc (ok_iconst (n := 0) (by decide +kernel) (by decide +kernel)) <|
  fc (ok_pi mk_X9_tells_ (fo_RX9_15 rfl) to_9_1 rfl (by decide +kernel)) <|
  fc (ok_aldn (q := 0) (by decide +kernel) rfl) <|
  fc (ok_lldn (q := 1) (by decide +kernel) rfl) <|
  fc (ok_cv mk_X9_tells_ mk_X9_adds ⟨uw656, uw657, uw658, uw19, by decide +kernel⟩ (T := TX9) (N := 2) rfl (by decide +kernel)) <|
  fc (ok_aldn (q := 0) (by decide +kernel) rfl) <|
  fc (ok_lldn (q := 3) (by decide +kernel) rfl) <|
  fc (ok_cv mk_X9_tells_ mk_X9_adds ⟨uw656, uw657, uw658, uw19, by decide +kernel⟩ (T := TX9) (N := 2) rfl (by decide +kernel)) <|
  fc (ok_vret rfl (by decide +kernel)) <| fn
def T_X9_adds : List (Nat × Op) := [(0, op_ald 0 1), (1, op_gi 9 1), (4, op_iflt 36), (7, op_ald 0 1), (8, op_gi 9 1), (11, op_ic 9 2), (13, op_icge 36), (16, op_ald 0 1), (17, op_gf 9 0 1), (20, op_ald 0 1), (21, op_gi 9 1), (24, op_lld 1 1), (25, op_last), (26, op_ald 0 1), (27, op_dup), (28, op_gi 9 1), (31, op_ic 1 1), (32, op_iadd), (33, op_pi 9 1), (36, op_vret)]
set_option maxRecDepth 20000 in
theorem K_X9_adds : ∀ r ∈ T_X9_adds, OpOK M_X9_adds r.1 r.2 :=
  fc (ok_aldn (q := 0) (by decide +kernel) rfl) <|
  fc (ok_gi mk_X9_adds (fo_RX9_15 rfl) rfl (by decide +kernel)) <|
  fc (ok_iflt (off := 32) (by decide +kernel) (by decide)) <|
  fc (ok_aldn (q := 0) (by decide +kernel) rfl) <|
  fc (ok_gi mk_X9_adds (fo_RX9_15 rfl) rfl (by decide +kernel)) <|
  fc (ok_bipush (n := 9) (by decide +kernel) (by decide +kernel)) <|
  fc (ok_icge (off := 23) (by decide +kernel) (by decide)) <|
  fc (ok_aldn (q := 0) (by decide +kernel) rfl) <|
  fc (ok_gf mk_X9_adds (fo_RX9_11 rfl) rfl (by decide +kernel)) <|
  fc (ok_aldn (q := 0) (by decide +kernel) rfl) <|
  fc (ok_gi mk_X9_adds (fo_RX9_15 rfl) rfl (by decide +kernel)) <|
  fc (ok_lldn (q := 1) (by decide +kernel) rfl) <|
  fc (ok_last (by decide +kernel)) <|
  fc (ok_aldn (q := 0) (by decide +kernel) rfl) <|
  fc (ok_dup (by decide +kernel)) <|
  fc (ok_gi mk_X9_adds (fo_RX9_15 rfl) rfl (by decide +kernel)) <|
  fc (ok_iconst (n := 1) (by decide +kernel) (by decide +kernel)) <|
  fc (ok_iadd (by decide +kernel)) <|
  fc (ok_pi mk_X9_adds (fo_RX9_15 rfl) to_9_1 rfl (by decide +kernel)) <|
  fc (ok_vret rfl (by decide +kernel)) <| fn
def T_X9_clears : List (Nat × Op) := [(0, op_ald 0 1), (1, op_ic 0 1), (2, op_pi 9 1), (5, op_vret)]
set_option maxRecDepth 20000 in
theorem K_X9_clears : ∀ r ∈ T_X9_clears, OpOK M_X9_clears r.1 r.2 :=
  fc (ok_aldn (q := 0) (by decide +kernel) rfl) <|
  fc (ok_iconst (n := 0) (by decide +kernel) (by decide +kernel)) <|
  fc (ok_pi mk_X9_clears (fo_RX9_15 rfl) to_9_1 rfl (by decide +kernel)) <|
  fc (ok_vret rfl (by decide +kernel)) <| fn
def T_X9_tells : List (Nat × Op) := [(0, op_ald 0 1), (1, op_ic 0 1), (2, op_pi 9 1), (5, op_ald 0 1), (6, op_lld 1 1), (7, op_cv M_X9_adds 9 1), (10, op_vret)]
set_option maxRecDepth 20000 in
theorem K_X9_tells : ∀ r ∈ T_X9_tells, OpOK M_X9_tells r.1 r.2 :=
  fc (ok_aldn (q := 0) (by decide +kernel) rfl) <|
  fc (ok_iconst (n := 0) (by decide +kernel) (by decide +kernel)) <|
  fc (ok_pi mk_X9_tells (fo_RX9_15 rfl) to_9_1 rfl (by decide +kernel)) <|
  fc (ok_aldn (q := 0) (by decide +kernel) rfl) <|
  fc (ok_lldn (q := 1) (by decide +kernel) rfl) <|
  fc (ok_cv mk_X9_tells mk_X9_adds ⟨uw656, uw657, uw658, uw19, by decide +kernel⟩ (T := TX9) (N := 2) rfl (by decide +kernel)) <|
  fc (ok_vret rfl (by decide +kernel)) <| fn
def T_X10_toHold : List (Nat × Op) := [(0, op_ald 1 1), (1, op_gf 2 3 4), (4, op_ild 3 1), (5, op_iald), (6, op_ild 4 2), (8, op_icne 13), (11, op_ic 0 1), (12, op_iret), (13, op_ald 0 1), (14, op_ic 0 1), (15, op_pi 10 3), (18, op_ald 0 1), (19, op_ic 0 1), (20, op_pi 10 2), (23, op_ald 0 1), (24, op_ald 1 1), (25, op_ald 2 1), (26, op_ild 3 1), (27, op_cv M_X2_sayers 2 2), (30, op_ic (-1) 1), (31, op_cv M_X10_meets 10 2), (34, op_ald 1 1), (35, op_gf 2 4 5), (38, op_ild 3 1), (39, op_ic 0 1), (40, op_iast), (41, op_ic 0 1), (42, op_ist 5 2), (44, op_ic 1 1), (45, op_ist 6 2), (47, op_ild 6 2), (49, op_ic 4 1), (50, op_icgt 138), (53, op_ald 0 1), (54, op_gi 10 3), (57, op_ild 4 2), (59, op_ishr), (60, op_ic 1 1), (61, op_iand), (62, op_ic 1 1), (63, op_icne 75), (66, op_ald 0 1), (67, op_ild 4 2), (69, op_ild 6 2), (71, op_cv M_X10_traces 10 2), (74, op_iret), (75, op_ald 0 1), (76, op_gi 10 2), (79, op_ist 7 2), (81, op_ild 5 2), (83, op_ist 8 2), (85, op_ild 8 2), (87, op_ild 7 2), (89, op_icge 128), (92, op_ald 1 1), (93, op_gf 2 3 4), (96, op_ild 3 1), (97, op_ald 0 1), (98, op_gf 10 1 2), (101, op_ild 8 2), (103, op_iald), (104, op_iast), (105, op_ald 0 1), (106, op_ald 1 1), (107, op_ald 2 1), (108, op_ild 3 1), (109, op_cv M_X2_sayers 2 2), (112, op_ald 0 1), (113, op_gf 10 1 2), (116, op_ild 8 2), (118, op_iald), (119, op_cv M_X10_meets 10 2), (122, op_iinc 8 1), (125, op_goto 85), (128, op_ild 7 2), (130, op_ist 5 2), (132, op_iinc 6 1), (135, op_goto 47), (138, op_ic (-1) 1), (139, op_iret)]
set_option maxRecDepth 20000 in
theorem K_X10_toHold : ∀ r ∈ T_X10_toHold, OpOK M_X10_toHold r.1 r.2 :=
  fc (ok_aldn (q := 1) (by decide +kernel) rfl) <|
  fc (ok_gf mk_X10_toHold (fo_RX10_34 rfl) rfl (by decide +kernel)) <|
  fc (ok_ildn (q := 3) (by decide +kernel) rfl) <|
  fc (ok_iald (by decide +kernel)) <|
  fc (ok_ild (by decide +kernel)) <|
  fc (ok_icne (off := 5) (by decide +kernel) (by decide)) <|
  fc (ok_iconst (n := 0) (by decide +kernel) (by decide +kernel)) <|
  fc (ok_iret rfl (by decide +kernel)) <|
  fc (ok_aldn (q := 0) (by decide +kernel) rfl) <|
  fc (ok_iconst (n := 0) (by decide +kernel) (by decide +kernel)) <|
  fc (ok_pi mk_X10_toHold (fo_RX10_39 rfl) to_10_3 rfl (by decide +kernel)) <|
  fc (ok_aldn (q := 0) (by decide +kernel) rfl) <|
  fc (ok_iconst (n := 0) (by decide +kernel) (by decide +kernel)) <|
  fc (ok_pi mk_X10_toHold (fo_RX10_43 rfl) to_10_2 rfl (by decide +kernel)) <|
  fc (ok_aldn (q := 0) (by decide +kernel) rfl) <|
  fc (ok_aldn (q := 1) (by decide +kernel) rfl) <|
  fc (ok_aldn (q := 2) (by decide +kernel) rfl) <|
  fc (ok_ildn (q := 3) (by decide +kernel) rfl) <|
  fc (ok_cv mk_X10_toHold mk_X2_sayers ⟨uw745, uw481, uw482, uw23, by decide +kernel⟩ (T := TX2) (N := 8) rfl (by decide +kernel)) <|
  fc (ok_iconst (n := -1) (by decide +kernel) (by decide +kernel)) <|
  fc (ok_cv mk_X10_toHold mk_X10_meets ⟨uw746, uw747, uw748, uw36, by decide +kernel⟩ (T := TX10) (N := 14) rfl (by decide +kernel)) <|
  fc (ok_aldn (q := 1) (by decide +kernel) rfl) <|
  fc (ok_gf mk_X10_toHold (fo_RX10_54 rfl) rfl (by decide +kernel)) <|
  fc (ok_ildn (q := 3) (by decide +kernel) rfl) <|
  fc (ok_iconst (n := 0) (by decide +kernel) (by decide +kernel)) <|
  fc (ok_iast (by decide +kernel)) <|
  fc (ok_iconst (n := 0) (by decide +kernel) (by decide +kernel)) <|
  fc (ok_ist (by decide +kernel) (by decide)) <|
  fc (ok_iconst (n := 1) (by decide +kernel) (by decide +kernel)) <|
  fc (ok_ist (by decide +kernel) (by decide)) <|
  fc (ok_ild (by decide +kernel)) <|
  fc (ok_iconst (n := 4) (by decide +kernel) (by decide +kernel)) <|
  fc (ok_icgt (off := 88) (by decide +kernel) (by decide)) <|
  fc (ok_aldn (q := 0) (by decide +kernel) rfl) <|
  fc (ok_gi mk_X10_toHold (fo_RX10_39 rfl) rfl (by decide +kernel)) <|
  fc (ok_ild (by decide +kernel)) <|
  fc (ok_ishr (by decide +kernel)) <|
  fc (ok_iconst (n := 1) (by decide +kernel) (by decide +kernel)) <|
  fc (ok_iand (by decide +kernel)) <|
  fc (ok_iconst (n := 1) (by decide +kernel) (by decide +kernel)) <|
  fc (ok_icne (off := 12) (by decide +kernel) (by decide)) <|
  fc (ok_aldn (q := 0) (by decide +kernel) rfl) <|
  fc (ok_ild (by decide +kernel)) <|
  fc (ok_ild (by decide +kernel)) <|
  fc (ok_cv mk_X10_toHold mk_X10_traces ⟨uw750, uw751, uw752, uw36, by decide +kernel⟩ (T := TX10) (N := 14) rfl (by decide +kernel)) <|
  fc (ok_iret rfl (by decide +kernel)) <|
  fc (ok_aldn (q := 0) (by decide +kernel) rfl) <|
  fc (ok_gi mk_X10_toHold (fo_RX10_43 rfl) rfl (by decide +kernel)) <|
  fc (ok_ist (by decide +kernel) (by decide)) <|
  fc (ok_ild (by decide +kernel)) <|
  fc (ok_ist (by decide +kernel) (by decide)) <|
  fc (ok_ild (by decide +kernel)) <|
  fc (ok_ild (by decide +kernel)) <|
  fc (ok_icge (off := 39) (by decide +kernel) (by decide)) <|
  fc (ok_aldn (q := 1) (by decide +kernel) rfl) <|
  fc (ok_gf mk_X10_toHold (fo_RX10_34 rfl) rfl (by decide +kernel)) <|
  fc (ok_ildn (q := 3) (by decide +kernel) rfl) <|
  fc (ok_aldn (q := 0) (by decide +kernel) rfl) <|
  fc (ok_gf mk_X10_toHold (fo_RX10_15 rfl) rfl (by decide +kernel)) <|
  fc (ok_ild (by decide +kernel)) <|
  fc (ok_iald (by decide +kernel)) <|
  fc (ok_iast (by decide +kernel)) <|
  fc (ok_aldn (q := 0) (by decide +kernel) rfl) <|
  fc (ok_aldn (q := 1) (by decide +kernel) rfl) <|
  fc (ok_aldn (q := 2) (by decide +kernel) rfl) <|
  fc (ok_ildn (q := 3) (by decide +kernel) rfl) <|
  fc (ok_cv mk_X10_toHold mk_X2_sayers ⟨uw745, uw481, uw482, uw23, by decide +kernel⟩ (T := TX2) (N := 8) rfl (by decide +kernel)) <|
  fc (ok_aldn (q := 0) (by decide +kernel) rfl) <|
  fc (ok_gf mk_X10_toHold (fo_RX10_15 rfl) rfl (by decide +kernel)) <|
  fc (ok_ild (by decide +kernel)) <|
  fc (ok_iald (by decide +kernel)) <|
  fc (ok_cv mk_X10_toHold mk_X10_meets ⟨uw746, uw747, uw748, uw36, by decide +kernel⟩ (T := TX10) (N := 14) rfl (by decide +kernel)) <|
  fc (ok_iinc (n := 1) (by decide +kernel) (by decide +kernel) (by decide)) <|
  fc (ok_goto (off := -40) (by decide +kernel) (by decide)) <|
  fc (ok_ild (by decide +kernel)) <|
  fc (ok_ist (by decide +kernel) (by decide)) <|
  fc (ok_iinc (n := 1) (by decide +kernel) (by decide +kernel) (by decide)) <|
  fc (ok_goto (off := -88) (by decide +kernel) (by decide)) <|
  fc (ok_iconst (n := -1) (by decide +kernel) (by decide +kernel)) <|
  fc (ok_iret rfl (by decide +kernel)) <| fn
def T_X10_meets : List (Nat × Op) := [(0, op_ic 0 1), (1, op_ist 3 1), (2, op_ild 3 1), (3, op_ic 7 2), (5, op_icge 78), (8, op_ild 1 1), (9, op_ald 0 1), (10, op_gi 10 3), (13, op_ic (-1) 1), (14, op_ixor), (15, op_iand), (16, op_ild 3 1), (17, op_ishr), (18, op_ic 1 1), (19, op_iand), (20, op_ic 1 1), (21, op_icne 72), (24, op_ald 0 1), (25, op_gi 10 2), (28, op_ic 7 2), (30, op_icge 72), (33, op_ald 0 1), (34, op_dup), (35, op_gi 10 3), (38, op_ic 1 1), (39, op_ild 3 1), (40, op_ishl), (41, op_ior), (42, op_pi 10 3), (45, op_ald 0 1), (46, op_gf 10 0 1), (49, op_ild 3 1), (50, op_ild 2 1), (51, op_iast), (52, op_ald 0 1), (53, op_gf 10 1 2), (56, op_ald 0 1), (57, op_gi 10 2), (60, op_ild 3 1), (61, op_iast), (62, op_ald 0 1), (63, op_dup), (64, op_gi 10 2), (67, op_ic 1 1), (68, op_iadd), (69, op_pi 10 2), (72, op_iinc 3 1), (75, op_goto 2), (78, op_vret)]
set_option maxRecDepth 20000 in
theorem K_X10_meets : ∀ r ∈ T_X10_meets, OpOK M_X10_meets r.1 r.2 :=
  fc (ok_iconst (n := 0) (by decide +kernel) (by decide +kernel)) <|
  fc (ok_istn (q := 3) (by decide +kernel) rfl (by decide)) <|
  fc (ok_ildn (q := 3) (by decide +kernel) rfl) <|
  fc (ok_bipush (n := 7) (by decide +kernel) (by decide +kernel)) <|
  fc (ok_icge (off := 73) (by decide +kernel) (by decide)) <|
  fc (ok_ildn (q := 1) (by decide +kernel) rfl) <|
  fc (ok_aldn (q := 0) (by decide +kernel) rfl) <|
  fc (ok_gi mk_X10_meets (fo_RX10_39 rfl) rfl (by decide +kernel)) <|
  fc (ok_iconst (n := -1) (by decide +kernel) (by decide +kernel)) <|
  fc (ok_ixor (by decide +kernel)) <|
  fc (ok_iand (by decide +kernel)) <|
  fc (ok_ildn (q := 3) (by decide +kernel) rfl) <|
  fc (ok_ishr (by decide +kernel)) <|
  fc (ok_iconst (n := 1) (by decide +kernel) (by decide +kernel)) <|
  fc (ok_iand (by decide +kernel)) <|
  fc (ok_iconst (n := 1) (by decide +kernel) (by decide +kernel)) <|
  fc (ok_icne (off := 51) (by decide +kernel) (by decide)) <|
  fc (ok_aldn (q := 0) (by decide +kernel) rfl) <|
  fc (ok_gi mk_X10_meets (fo_RX10_43 rfl) rfl (by decide +kernel)) <|
  fc (ok_bipush (n := 7) (by decide +kernel) (by decide +kernel)) <|
  fc (ok_icge (off := 42) (by decide +kernel) (by decide)) <|
  fc (ok_aldn (q := 0) (by decide +kernel) rfl) <|
  fc (ok_dup (by decide +kernel)) <|
  fc (ok_gi mk_X10_meets (fo_RX10_39 rfl) rfl (by decide +kernel)) <|
  fc (ok_iconst (n := 1) (by decide +kernel) (by decide +kernel)) <|
  fc (ok_ildn (q := 3) (by decide +kernel) rfl) <|
  fc (ok_ishl (by decide +kernel)) <|
  fc (ok_ior (by decide +kernel)) <|
  fc (ok_pi mk_X10_meets (fo_RX10_39 rfl) to_10_3 rfl (by decide +kernel)) <|
  fc (ok_aldn (q := 0) (by decide +kernel) rfl) <|
  fc (ok_gf mk_X10_meets (fo_RX10_11 rfl) rfl (by decide +kernel)) <|
  fc (ok_ildn (q := 3) (by decide +kernel) rfl) <|
  fc (ok_ildn (q := 2) (by decide +kernel) rfl) <|
  fc (ok_iast (by decide +kernel)) <|
  fc (ok_aldn (q := 0) (by decide +kernel) rfl) <|
  fc (ok_gf mk_X10_meets (fo_RX10_15 rfl) rfl (by decide +kernel)) <|
  fc (ok_aldn (q := 0) (by decide +kernel) rfl) <|
  fc (ok_gi mk_X10_meets (fo_RX10_43 rfl) rfl (by decide +kernel)) <|
  fc (ok_ildn (q := 3) (by decide +kernel) rfl) <|
  fc (ok_iast (by decide +kernel)) <|
  fc (ok_aldn (q := 0) (by decide +kernel) rfl) <|
  fc (ok_dup (by decide +kernel)) <|
  fc (ok_gi mk_X10_meets (fo_RX10_43 rfl) rfl (by decide +kernel)) <|
  fc (ok_iconst (n := 1) (by decide +kernel) (by decide +kernel)) <|
  fc (ok_iadd (by decide +kernel)) <|
  fc (ok_pi mk_X10_meets (fo_RX10_43 rfl) to_10_2 rfl (by decide +kernel)) <|
  fc (ok_iinc (n := 1) (by decide +kernel) (by decide +kernel) (by decide)) <|
  fc (ok_goto (off := -73) (by decide +kernel) (by decide)) <|
  fc (ok_vret rfl (by decide +kernel)) <| fn
def T_X10_traces : List (Nat × Op) := [(0, op_ild 1 1), (1, op_ist 3 1), (2, op_ild 2 1), (3, op_ic 1 1), (4, op_isub), (5, op_ist 4 2), (7, op_ild 4 2), (9, op_iflt 37), (12, op_ild 3 1), (13, op_iflt 37), (16, op_ald 0 1), (17, op_gf 10 4 3), (20, op_ild 4 2), (22, op_ild 3 1), (23, op_iast), (24, op_ald 0 1), (25, op_gf 10 0 1), (28, op_ild 3 1), (29, op_iald), (30, op_ist 3 1), (31, op_iinc 4 (-1)), (34, op_goto 7), (37, op_ild 2 1), (38, op_iret)]
set_option maxRecDepth 20000 in
theorem K_X10_traces : ∀ r ∈ T_X10_traces, OpOK M_X10_traces r.1 r.2 :=
  fc (ok_ildn (q := 1) (by decide +kernel) rfl) <|
  fc (ok_istn (q := 3) (by decide +kernel) rfl (by decide)) <|
  fc (ok_ildn (q := 2) (by decide +kernel) rfl) <|
  fc (ok_iconst (n := 1) (by decide +kernel) (by decide +kernel)) <|
  fc (ok_isub (by decide +kernel)) <|
  fc (ok_ist (by decide +kernel) (by decide)) <|
  fc (ok_ild (by decide +kernel)) <|
  fc (ok_iflt (off := 28) (by decide +kernel) (by decide)) <|
  fc (ok_ildn (q := 3) (by decide +kernel) rfl) <|
  fc (ok_iflt (off := 24) (by decide +kernel) (by decide)) <|
  fc (ok_aldn (q := 0) (by decide +kernel) rfl) <|
  fc (ok_gf mk_X10_traces (fo_RX10_18 rfl) rfl (by decide +kernel)) <|
  fc (ok_ild (by decide +kernel)) <|
  fc (ok_ildn (q := 3) (by decide +kernel) rfl) <|
  fc (ok_iast (by decide +kernel)) <|
  fc (ok_aldn (q := 0) (by decide +kernel) rfl) <|
  fc (ok_gf mk_X10_traces (fo_RX10_11 rfl) rfl (by decide +kernel)) <|
  fc (ok_ildn (q := 3) (by decide +kernel) rfl) <|
  fc (ok_iald (by decide +kernel)) <|
  fc (ok_istn (q := 3) (by decide +kernel) rfl (by decide)) <|
  fc (ok_iinc (n := -1) (by decide +kernel) (by decide +kernel) (by decide)) <|
  fc (ok_goto (off := -27) (by decide +kernel) (by decide)) <|
  fc (ok_ildn (q := 2) (by decide +kernel) rfl) <|
  fc (ok_iret rfl (by decide +kernel)) <| fn
def T_X10_sayer : List (Nat × Op) := [(0, op_ild 1 1), (1, op_iflt 18), (4, op_ild 1 1), (5, op_ic 4 1), (6, op_icge 18), (9, op_ald 0 1), (10, op_gf 10 4 3), (13, op_ild 1 1), (14, op_iald), (15, op_goto 19), (18, op_ic (-1) 1), (19, op_iret)]
set_option maxRecDepth 20000 in
theorem K_X10_sayer : ∀ r ∈ T_X10_sayer, OpOK M_X10_sayer r.1 r.2 :=
  fc (ok_ildn (q := 1) (by decide +kernel) rfl) <|
  fc (ok_iflt (off := 17) (by decide +kernel) (by decide)) <|
  fc (ok_ildn (q := 1) (by decide +kernel) rfl) <|
  fc (ok_iconst (n := 4) (by decide +kernel) (by decide +kernel)) <|
  fc (ok_icge (off := 12) (by decide +kernel) (by decide)) <|
  fc (ok_aldn (q := 0) (by decide +kernel) rfl) <|
  fc (ok_gf mk_X10_sayer (fo_RX10_18 rfl) rfl (by decide +kernel)) <|
  fc (ok_ildn (q := 1) (by decide +kernel) rfl) <|
  fc (ok_iald (by decide +kernel)) <|
  fc (ok_goto (off := 4) (by decide +kernel) (by decide)) <|
  fc (ok_iconst (n := -1) (by decide +kernel) (by decide +kernel)) <|
  fc (ok_iret rfl (by decide +kernel)) <| fn
def T_X10_sayBack : List (Nat × Op) := [(0, op_ald 0 1), (1, op_ald 1 1), (2, op_pr 10 12), (5, op_ald 0 1), (6, op_ald 2 1), (7, op_pr 10 13), (10, op_ald 0 1), (11, op_ic 0 1), (12, op_pi 10 9), (15, op_ic 0 1), (16, op_ist 3 1), (17, op_ild 3 1), (18, op_ald 0 1), (19, op_gr 10 12), (22, op_gi 2 5), (25, op_icge 76), (28, op_ald 0 1), (29, op_gi 10 9), (32, op_ic 6 2), (34, op_icge 76), (37, op_ald 0 1), (38, op_gr 10 12), (41, op_gf 2 3 4), (44, op_ild 3 1), (45, op_iald), (46, op_ild 3 1), (47, op_iceq 70), (50, op_ald 0 1), (51, op_gf 10 5 4), (54, op_ald 0 1), (55, op_gi 10 9), (58, op_ild 3 1), (59, op_iast), (60, op_ald 0 1), (61, op_dup), (62, op_gi 10 9), (65, op_ic 1 1), (66, op_iadd), (67, op_pi 10 9), (70, op_iinc 3 1), (73, op_goto 17), (76, op_ic 0 1), (77, op_ist 3 1), (78, op_ild 3 1), (79, op_ic 64 2), (81, op_icge 97), (84, op_ald 0 1), (85, op_gf 10 7 6), (88, op_ild 3 1), (89, op_lc 0 1), (90, op_last), (91, op_iinc 3 1), (94, op_goto 78), (97, op_ald 0 1), (98, op_ald 0 1), (99, op_gr 10 12), (102, op_cv M_X2_homes 2 0), (105, op_cs M_J6_bitCount_0f7a4 1), (108, op_pi 10 11), (111, op_ald 0 1), (112, op_ic (-1) 1), (113, op_pi 10 10), (116, op_ald 0 1), (117, op_ic 0 1), (118, op_ic 0 1), (119, op_ic 0 1), (120, op_cv M_X10_takesTurn 10 3), (123, op_ald 0 1), (124, op_gi 10 10), (127, op_iret)]
set_option maxRecDepth 20000 in
theorem K_X10_sayBack : ∀ r ∈ T_X10_sayBack, OpOK M_X10_sayBack r.1 r.2 :=
  fc (ok_aldn (q := 0) (by decide +kernel) rfl) <|
  fc (ok_aldn (q := 1) (by decide +kernel) rfl) <|
  fc (ok_pr mk_X10_sayBack (fo_RX10_61 rfl) to_10_12 (fun _ => rfl) (fun _ => rfl) rfl (by decide +kernel)) <|
  fc (ok_aldn (q := 0) (by decide +kernel) rfl) <|
  fc (ok_aldn (q := 2) (by decide +kernel) rfl) <|
  fc (ok_pr mk_X10_sayBack (fo_RX10_65 rfl) to_10_13 (fun _ => rfl) (fun _ => rfl) rfl (by decide +kernel)) <|
  fc (ok_aldn (q := 0) (by decide +kernel) rfl) <|
  fc (ok_iconst (n := 0) (by decide +kernel) (by decide +kernel)) <|
  fc (ok_pi mk_X10_sayBack (fo_RX10_69 rfl) to_10_9 rfl (by decide +kernel)) <|
  fc (ok_iconst (n := 0) (by decide +kernel) (by decide +kernel)) <|
  fc (ok_istn (q := 3) (by decide +kernel) rfl (by decide)) <|
  fc (ok_ildn (q := 3) (by decide +kernel) rfl) <|
  fc (ok_aldn (q := 0) (by decide +kernel) rfl) <|
  fc (ok_gr mk_X10_sayBack (fo_RX10_61 rfl) rfl (by decide +kernel)) <|
  fc (ok_gi mk_X10_sayBack (fo_RX10_72 rfl) rfl (by decide +kernel)) <|
  fc (ok_icge (off := 51) (by decide +kernel) (by decide)) <|
  fc (ok_aldn (q := 0) (by decide +kernel) rfl) <|
  fc (ok_gi mk_X10_sayBack (fo_RX10_69 rfl) rfl (by decide +kernel)) <|
  fc (ok_bipush (n := 6) (by decide +kernel) (by decide +kernel)) <|
  fc (ok_icge (off := 42) (by decide +kernel) (by decide)) <|
  fc (ok_aldn (q := 0) (by decide +kernel) rfl) <|
  fc (ok_gr mk_X10_sayBack (fo_RX10_61 rfl) rfl (by decide +kernel)) <|
  fc (ok_gf mk_X10_sayBack (fo_RX10_34 rfl) rfl (by decide +kernel)) <|
  fc (ok_ildn (q := 3) (by decide +kernel) rfl) <|
  fc (ok_iald (by decide +kernel)) <|
  fc (ok_ildn (q := 3) (by decide +kernel) rfl) <|
  fc (ok_iceq (off := 23) (by decide +kernel) (by decide)) <|
  fc (ok_aldn (q := 0) (by decide +kernel) rfl) <|
  fc (ok_gf mk_X10_sayBack (fo_RX10_21 rfl) rfl (by decide +kernel)) <|
  fc (ok_aldn (q := 0) (by decide +kernel) rfl) <|
  fc (ok_gi mk_X10_sayBack (fo_RX10_69 rfl) rfl (by decide +kernel)) <|
  fc (ok_ildn (q := 3) (by decide +kernel) rfl) <|
  fc (ok_iast (by decide +kernel)) <|
  fc (ok_aldn (q := 0) (by decide +kernel) rfl) <|
  fc (ok_dup (by decide +kernel)) <|
  fc (ok_gi mk_X10_sayBack (fo_RX10_69 rfl) rfl (by decide +kernel)) <|
  fc (ok_iconst (n := 1) (by decide +kernel) (by decide +kernel)) <|
  fc (ok_iadd (by decide +kernel)) <|
  fc (ok_pi mk_X10_sayBack (fo_RX10_69 rfl) to_10_9 rfl (by decide +kernel)) <|
  fc (ok_iinc (n := 1) (by decide +kernel) (by decide +kernel) (by decide)) <|
  fc (ok_goto (off := -56) (by decide +kernel) (by decide)) <|
  fc (ok_iconst (n := 0) (by decide +kernel) (by decide +kernel)) <|
  fc (ok_istn (q := 3) (by decide +kernel) rfl (by decide)) <|
  fc (ok_ildn (q := 3) (by decide +kernel) rfl) <|
  fc (ok_bipush (n := 64) (by decide +kernel) (by decide +kernel)) <|
  fc (ok_icge (off := 16) (by decide +kernel) (by decide)) <|
  fc (ok_aldn (q := 0) (by decide +kernel) rfl) <|
  fc (ok_gf mk_X10_sayBack (fo_RX10_27 rfl) rfl (by decide +kernel)) <|
  fc (ok_ildn (q := 3) (by decide +kernel) rfl) <|
  fc (ok_lconst (n := 0) (by decide +kernel) rfl) <|
  fc (ok_last (by decide +kernel)) <|
  fc (ok_iinc (n := 1) (by decide +kernel) (by decide +kernel) (by decide)) <|
  fc (ok_goto (off := -16) (by decide +kernel) (by decide)) <|
  fc (ok_aldn (q := 0) (by decide +kernel) rfl) <|
  fc (ok_aldn (q := 0) (by decide +kernel) rfl) <|
  fc (ok_gr mk_X10_sayBack (fo_RX10_61 rfl) rfl (by decide +kernel)) <|
  fc (ok_cv mk_X10_sayBack mk_X2_homes ⟨uw865, uw661, uw662, uw23, by decide +kernel⟩ (T := TX2) (N := 8) rfl (by decide +kernel)) <|
  fc (ok_cs mk_X10_sayBack mk_J6_bitCount_0f7a4 ⟨uw866, uw429, uw430, by decide +kernel⟩ (by decide +kernel)) <|
  fc (ok_pi mk_X10_sayBack (fo_RX10_85 rfl) to_10_11 rfl (by decide +kernel)) <|
  fc (ok_aldn (q := 0) (by decide +kernel) rfl) <|
  fc (ok_iconst (n := -1) (by decide +kernel) (by decide +kernel)) <|
  fc (ok_pi mk_X10_sayBack (fo_RX10_88 rfl) to_10_10 rfl (by decide +kernel)) <|
  fc (ok_aldn (q := 0) (by decide +kernel) rfl) <|
  fc (ok_iconst (n := 0) (by decide +kernel) (by decide +kernel)) <|
  fc (ok_iconst (n := 0) (by decide +kernel) (by decide +kernel)) <|
  fc (ok_iconst (n := 0) (by decide +kernel) (by decide +kernel)) <|
  fc (ok_cv mk_X10_sayBack mk_X10_takesTurn ⟨uw867, uw868, uw869, uw36, by decide +kernel⟩ (T := TX10) (N := 14) rfl (by decide +kernel)) <|
  fc (ok_aldn (q := 0) (by decide +kernel) rfl) <|
  fc (ok_gi mk_X10_sayBack (fo_RX10_88 rfl) rfl (by decide +kernel)) <|
  fc (ok_iret rfl (by decide +kernel)) <| fn
def T_X10_takesTurn : List (Nat × Op) := [(0, op_ald 0 1), (1, op_gi 10 11), (4, op_ild 3 1), (5, op_cs M_J6_bitCount_0f7a4 1), (8, op_iadd), (9, op_ist 4 2), (11, op_ild 4 2), (13, op_ald 0 1), (14, op_gi 10 9), (17, op_iadd), (18, op_ild 1 1), (19, op_isub), (20, op_ald 0 1), (21, op_gi 10 10), (24, op_icle 42), (27, op_ald 0 1), (28, op_gf 10 7 6), (31, op_ild 2 1), (32, op_lald), (33, op_ild 3 1), (34, op_lshr), (35, op_lc 1 1), (36, op_land), (37, op_lc 1 1), (38, op_lcmp), (39, op_ifne 46), (42, op_ic 1 1), (43, op_goto 47), (46, op_ic 0 1), (47, op_ist 5 2), (49, op_ild 5 2), (51, op_ifeq 55), (54, op_vret), (55, op_ald 0 1), (56, op_gf 10 7 6), (59, op_ild 2 1), (60, op_dup2), (61, op_lald), (62, op_lc 1 1), (63, op_ild 3 1), (64, op_lshl), (65, op_lor), (66, op_last), (67, op_ild 1 1), (68, op_ald 0 1), (69, op_gi 10 9), (72, op_iclt 97), (75, op_ald 0 1), (76, op_ild 4 2), (78, op_pi 10 10), (81, op_ald 0 1), (82, op_gf 10 6 5), (85, op_ic 0 1), (86, op_ald 0 1), (87, op_gf 10 8 7), (90, op_ic 0 1), (91, op_ic 6 2), (93, op_cpi), (96, op_vret), (97, op_ic 0 1), (98, op_ist 6 2), (100, op_ild 6 2), (102, op_ald 0 1), (103, op_gi 10 9), (106, op_icge 146), (109, op_ild 2 1), (110, op_ild 6 2), (112, op_ishr), (113, op_ic 1 1), (114, op_iand), (115, op_ifne 140), (118, op_ald 0 1), (119, op_gf 10 6 5), (122, op_ild 1 1), (123, op_ald 0 1), (124, op_gf 10 5 4), (127, op_ild 6 2), (129, op_iald), (130, op_iast), (131, op_ald 0 1), (132, op_ild 6 2), (134, op_ild 1 1), (135, op_ild 2 1), (136, op_ild 3 1), (137, op_cv M_X10_saysOwn 10 4), (140, op_iinc 6 1), (143, op_goto 100), (146, op_vret)]
set_option maxRecDepth 20000 in
theorem K_X10_takesTurn : ∀ r ∈ T_X10_takesTurn, OpOK M_X10_takesTurn r.1 r.2 :=
  fc (ok_aldn (q := 0) (by decide +kernel) rfl) <|
  fc (ok_gi mk_X10_takesTurn (fo_RX10_85 rfl) rfl (by decide +kernel)) <|
  fc (ok_ildn (q := 3) (by decide +kernel) rfl) <|
  fc (ok_cs mk_X10_takesTurn mk_J6_bitCount_0f7a4 ⟨uw866, uw429, uw430, by decide +kernel⟩ (by decide +kernel)) <|
  fc (ok_iadd (by decide +kernel)) <|
  fc (ok_ist (by decide +kernel) (by decide)) <|
  fc (ok_ild (by decide +kernel)) <|
  fc (ok_aldn (q := 0) (by decide +kernel) rfl) <|
  fc (ok_gi mk_X10_takesTurn (fo_RX10_69 rfl) rfl (by decide +kernel)) <|
  fc (ok_iadd (by decide +kernel)) <|
  fc (ok_ildn (q := 1) (by decide +kernel) rfl) <|
  fc (ok_isub (by decide +kernel)) <|
  fc (ok_aldn (q := 0) (by decide +kernel) rfl) <|
  fc (ok_gi mk_X10_takesTurn (fo_RX10_88 rfl) rfl (by decide +kernel)) <|
  fc (ok_icle (off := 18) (by decide +kernel) (by decide)) <|
  fc (ok_aldn (q := 0) (by decide +kernel) rfl) <|
  fc (ok_gf mk_X10_takesTurn (fo_RX10_27 rfl) rfl (by decide +kernel)) <|
  fc (ok_ildn (q := 2) (by decide +kernel) rfl) <|
  fc (ok_lald (by decide +kernel)) <|
  fc (ok_ildn (q := 3) (by decide +kernel) rfl) <|
  fc (ok_lshr (by decide +kernel)) <|
  fc (ok_lconst (n := 1) (by decide +kernel) rfl) <|
  fc (ok_land (by decide +kernel)) <|
  fc (ok_lconst (n := 1) (by decide +kernel) rfl) <|
  fc (ok_lcmp (by decide +kernel)) <|
  fc (ok_ifne (off := 7) (by decide +kernel) (by decide)) <|
  fc (ok_iconst (n := 1) (by decide +kernel) (by decide +kernel)) <|
  fc (ok_goto (off := 4) (by decide +kernel) (by decide)) <|
  fc (ok_iconst (n := 0) (by decide +kernel) (by decide +kernel)) <|
  fc (ok_ist (by decide +kernel) (by decide)) <|
  fc (ok_ild (by decide +kernel)) <|
  fc (ok_ifeq (off := 4) (by decide +kernel) (by decide)) <|
  fc (ok_vret rfl (by decide +kernel)) <|
  fc (ok_aldn (q := 0) (by decide +kernel) rfl) <|
  fc (ok_gf mk_X10_takesTurn (fo_RX10_27 rfl) rfl (by decide +kernel)) <|
  fc (ok_ildn (q := 2) (by decide +kernel) rfl) <|
  fc (ok_dup2 (by decide +kernel)) <|
  fc (ok_lald (by decide +kernel)) <|
  fc (ok_lconst (n := 1) (by decide +kernel) rfl) <|
  fc (ok_ildn (q := 3) (by decide +kernel) rfl) <|
  fc (ok_lshl (by decide +kernel)) <|
  fc (ok_lor (by decide +kernel)) <|
  fc (ok_last (by decide +kernel)) <|
  fc (ok_ildn (q := 1) (by decide +kernel) rfl) <|
  fc (ok_aldn (q := 0) (by decide +kernel) rfl) <|
  fc (ok_gi mk_X10_takesTurn (fo_RX10_69 rfl) rfl (by decide +kernel)) <|
  fc (ok_iclt (off := 25) (by decide +kernel) (by decide)) <|
  fc (ok_aldn (q := 0) (by decide +kernel) rfl) <|
  fc (ok_ild (by decide +kernel)) <|
  fc (ok_pi mk_X10_takesTurn (fo_RX10_88 rfl) to_10_10 rfl (by decide +kernel)) <|
  fc (ok_aldn (q := 0) (by decide +kernel) rfl) <|
  fc (ok_gf mk_X10_takesTurn (fo_RX10_24 rfl) rfl (by decide +kernel)) <|
  fc (ok_iconst (n := 0) (by decide +kernel) (by decide +kernel)) <|
  fc (ok_aldn (q := 0) (by decide +kernel) rfl) <|
  fc (ok_gf mk_X10_takesTurn (fo_RX10_31 rfl) rfl (by decide +kernel)) <|
  fc (ok_iconst (n := 0) (by decide +kernel) (by decide +kernel)) <|
  fc (ok_bipush (n := 6) (by decide +kernel) (by decide +kernel)) <|
  fc (ok_cpi mk_X10_takesTurn uw871 uw540 uw541 uw542 (by decide +kernel)) <|
  fc (ok_vret rfl (by decide +kernel)) <|
  fc (ok_iconst (n := 0) (by decide +kernel) (by decide +kernel)) <|
  fc (ok_ist (by decide +kernel) (by decide)) <|
  fc (ok_ild (by decide +kernel)) <|
  fc (ok_aldn (q := 0) (by decide +kernel) rfl) <|
  fc (ok_gi mk_X10_takesTurn (fo_RX10_69 rfl) rfl (by decide +kernel)) <|
  fc (ok_icge (off := 40) (by decide +kernel) (by decide)) <|
  fc (ok_ildn (q := 2) (by decide +kernel) rfl) <|
  fc (ok_ild (by decide +kernel)) <|
  fc (ok_ishr (by decide +kernel)) <|
  fc (ok_iconst (n := 1) (by decide +kernel) (by decide +kernel)) <|
  fc (ok_iand (by decide +kernel)) <|
  fc (ok_ifne (off := 25) (by decide +kernel) (by decide)) <|
  fc (ok_aldn (q := 0) (by decide +kernel) rfl) <|
  fc (ok_gf mk_X10_takesTurn (fo_RX10_24 rfl) rfl (by decide +kernel)) <|
  fc (ok_ildn (q := 1) (by decide +kernel) rfl) <|
  fc (ok_aldn (q := 0) (by decide +kernel) rfl) <|
  fc (ok_gf mk_X10_takesTurn (fo_RX10_21 rfl) rfl (by decide +kernel)) <|
  fc (ok_ild (by decide +kernel)) <|
  fc (ok_iald (by decide +kernel)) <|
  fc (ok_iast (by decide +kernel)) <|
  fc (ok_aldn (q := 0) (by decide +kernel) rfl) <|
  fc (ok_ild (by decide +kernel)) <|
  fc (ok_ildn (q := 1) (by decide +kernel) rfl) <|
  fc (ok_ildn (q := 2) (by decide +kernel) rfl) <|
  fc (ok_ildn (q := 3) (by decide +kernel) rfl) <|
  fc (ok_cv mk_X10_takesTurn mk_X10_saysOwn ⟨uw872, uw873, uw874, uw36, by decide +kernel⟩ (T := TX10) (N := 14) rfl (by decide +kernel)) <|
  fc (ok_iinc (n := 1) (by decide +kernel) (by decide +kernel) (by decide)) <|
  fc (ok_goto (off := -43) (by decide +kernel) (by decide)) <|
  fc (ok_vret rfl (by decide +kernel)) <| fn
def T_X10_saysOwn : List (Nat × Op) := [(0, op_ald 0 1), (1, op_gf 10 5 4), (4, op_ild 1 1), (5, op_iald), (6, op_ist 5 2), (8, op_ald 0 1), (9, op_gr 10 12), (12, op_ald 0 1), (13, op_gr 10 13), (16, op_ild 5 2), (18, op_ild 5 2), (20, op_cv M_X2_can 2 3), (23, op_ifne 41), (26, op_ald 0 1), (27, op_ild 2 1), (28, op_ic 1 1), (29, op_iadd), (30, op_ild 3 1), (31, op_ic 1 1), (32, op_ild 1 1), (33, op_ishl), (34, op_ior), (35, op_ild 4 2), (37, op_cv M_X10_takesTurn 10 3), (40, op_vret), (41, op_ald 0 1), (42, op_gr 10 12), (45, op_gf 2 3 4), (48, op_ild 5 2), (50, op_iald), (51, op_ist 6 2), (53, op_ald 0 1), (54, op_gr 10 12), (57, op_gf 2 4 5), (60, op_ild 5 2), (62, op_iald), (63, op_ist 7 2), (65, op_ald 0 1), (66, op_gr 10 12), (69, op_gf 2 3 4), (72, op_ild 5 2), (74, op_ild 5 2), (76, op_iast), (77, op_ald 0 1), (78, op_gr 10 12), (81, op_gf 2 4 5), (84, op_ild 5 2), (86, op_ic 0 1), (87, op_iast), (88, op_ald 0 1), (89, op_ild 2 1), (90, op_ic 1 1), (91, op_iadd), (92, op_ild 3 1), (93, op_ic 1 1), (94, op_ild 1 1), (95, op_ishl), (96, op_ior), (97, op_ild 4 2), (99, op_ic 1 1), (100, op_ild 1 1), (101, op_ishl), (102, op_ior), (103, op_cv M_X10_takesTurn 10 3), (106, op_ald 0 1), (107, op_gr 10 12), (110, op_gf 2 3 4), (113, op_ild 5 2), (115, op_ild 6 2), (117, op_iast), (118, op_ald 0 1), (119, op_gr 10 12), (122, op_gf 2 4 5), (125, op_ild 5 2), (127, op_ild 7 2), (129, op_iast), (130, op_vret)]
set_option maxRecDepth 20000 in
theorem K_X10_saysOwn : ∀ r ∈ T_X10_saysOwn, OpOK M_X10_saysOwn r.1 r.2 :=
  fc (ok_aldn (q := 0) (by decide +kernel) rfl) <|
  fc (ok_gf mk_X10_saysOwn (fo_RX10_21 rfl) rfl (by decide +kernel)) <|
  fc (ok_ildn (q := 1) (by decide +kernel) rfl) <|
  fc (ok_iald (by decide +kernel)) <|
  fc (ok_ist (by decide +kernel) (by decide)) <|
  fc (ok_aldn (q := 0) (by decide +kernel) rfl) <|
  fc (ok_gr mk_X10_saysOwn (fo_RX10_61 rfl) rfl (by decide +kernel)) <|
  fc (ok_aldn (q := 0) (by decide +kernel) rfl) <|
  fc (ok_gr mk_X10_saysOwn (fo_RX10_65 rfl) rfl (by decide +kernel)) <|
  fc (ok_ild (by decide +kernel)) <|
  fc (ok_ild (by decide +kernel)) <|
  fc (ok_cv mk_X10_saysOwn mk_X2_can ⟨uw876, uw409, uw410, uw23, by decide +kernel⟩ (T := TX2) (N := 8) rfl (by decide +kernel)) <|
  fc (ok_ifne (off := 18) (by decide +kernel) (by decide)) <|
  fc (ok_aldn (q := 0) (by decide +kernel) rfl) <|
  fc (ok_ildn (q := 2) (by decide +kernel) rfl) <|
  fc (ok_iconst (n := 1) (by decide +kernel) (by decide +kernel)) <|
  fc (ok_iadd (by decide +kernel)) <|
  fc (ok_ildn (q := 3) (by decide +kernel) rfl) <|
  fc (ok_iconst (n := 1) (by decide +kernel) (by decide +kernel)) <|
  fc (ok_ildn (q := 1) (by decide +kernel) rfl) <|
  fc (ok_ishl (by decide +kernel)) <|
  fc (ok_ior (by decide +kernel)) <|
  fc (ok_ild (by decide +kernel)) <|
  fc (ok_cv mk_X10_saysOwn mk_X10_takesTurn ⟨uw867, uw868, uw869, uw36, by decide +kernel⟩ (T := TX10) (N := 14) rfl (by decide +kernel)) <|
  fc (ok_vret rfl (by decide +kernel)) <|
  fc (ok_aldn (q := 0) (by decide +kernel) rfl) <|
  fc (ok_gr mk_X10_saysOwn (fo_RX10_61 rfl) rfl (by decide +kernel)) <|
  fc (ok_gf mk_X10_saysOwn (fo_RX10_34 rfl) rfl (by decide +kernel)) <|
  fc (ok_ild (by decide +kernel)) <|
  fc (ok_iald (by decide +kernel)) <|
  fc (ok_ist (by decide +kernel) (by decide)) <|
  fc (ok_aldn (q := 0) (by decide +kernel) rfl) <|
  fc (ok_gr mk_X10_saysOwn (fo_RX10_61 rfl) rfl (by decide +kernel)) <|
  fc (ok_gf mk_X10_saysOwn (fo_RX10_54 rfl) rfl (by decide +kernel)) <|
  fc (ok_ild (by decide +kernel)) <|
  fc (ok_iald (by decide +kernel)) <|
  fc (ok_ist (by decide +kernel) (by decide)) <|
  fc (ok_aldn (q := 0) (by decide +kernel) rfl) <|
  fc (ok_gr mk_X10_saysOwn (fo_RX10_61 rfl) rfl (by decide +kernel)) <|
  fc (ok_gf mk_X10_saysOwn (fo_RX10_34 rfl) rfl (by decide +kernel)) <|
  fc (ok_ild (by decide +kernel)) <|
  fc (ok_ild (by decide +kernel)) <|
  fc (ok_iast (by decide +kernel)) <|
  fc (ok_aldn (q := 0) (by decide +kernel) rfl) <|
  fc (ok_gr mk_X10_saysOwn (fo_RX10_61 rfl) rfl (by decide +kernel)) <|
  fc (ok_gf mk_X10_saysOwn (fo_RX10_54 rfl) rfl (by decide +kernel)) <|
  fc (ok_ild (by decide +kernel)) <|
  fc (ok_iconst (n := 0) (by decide +kernel) (by decide +kernel)) <|
  fc (ok_iast (by decide +kernel)) <|
  fc (ok_aldn (q := 0) (by decide +kernel) rfl) <|
  fc (ok_ildn (q := 2) (by decide +kernel) rfl) <|
  fc (ok_iconst (n := 1) (by decide +kernel) (by decide +kernel)) <|
  fc (ok_iadd (by decide +kernel)) <|
  fc (ok_ildn (q := 3) (by decide +kernel) rfl) <|
  fc (ok_iconst (n := 1) (by decide +kernel) (by decide +kernel)) <|
  fc (ok_ildn (q := 1) (by decide +kernel) rfl) <|
  fc (ok_ishl (by decide +kernel)) <|
  fc (ok_ior (by decide +kernel)) <|
  fc (ok_ild (by decide +kernel)) <|
  fc (ok_iconst (n := 1) (by decide +kernel) (by decide +kernel)) <|
  fc (ok_ildn (q := 1) (by decide +kernel) rfl) <|
  fc (ok_ishl (by decide +kernel)) <|
  fc (ok_ior (by decide +kernel)) <|
  fc (ok_cv mk_X10_saysOwn mk_X10_takesTurn ⟨uw867, uw868, uw869, uw36, by decide +kernel⟩ (T := TX10) (N := 14) rfl (by decide +kernel)) <|
  fc (ok_aldn (q := 0) (by decide +kernel) rfl) <|
  fc (ok_gr mk_X10_saysOwn (fo_RX10_61 rfl) rfl (by decide +kernel)) <|
  fc (ok_gf mk_X10_saysOwn (fo_RX10_34 rfl) rfl (by decide +kernel)) <|
  fc (ok_ild (by decide +kernel)) <|
  fc (ok_ild (by decide +kernel)) <|
  fc (ok_iast (by decide +kernel)) <|
  fc (ok_aldn (q := 0) (by decide +kernel) rfl) <|
  fc (ok_gr mk_X10_saysOwn (fo_RX10_61 rfl) rfl (by decide +kernel)) <|
  fc (ok_gf mk_X10_saysOwn (fo_RX10_54 rfl) rfl (by decide +kernel)) <|
  fc (ok_ild (by decide +kernel)) <|
  fc (ok_ild (by decide +kernel)) <|
  fc (ok_iast (by decide +kernel)) <|
  fc (ok_vret rfl (by decide +kernel)) <| fn
def T_X0_sharesMouths : List (Nat × Op) := [(0, op_ic 1 1), (1, op_ald 1 1), (2, op_gi 2 5), (5, op_ishl), (6, op_ic 1 1), (7, op_isub), (8, op_ist 2 1), (9, op_ald 0 1), (10, op_gf 0 1 2), (13, op_ild 2 1), (14, op_ic 0 1), (15, op_iast), (16, op_ild 2 1), (17, op_ic 1 1), (18, op_isub), (19, op_ist 3 1), (20, op_ild 3 1), (21, op_iflt 88), (24, op_ald 0 1), (25, op_gf 0 1 2), (28, op_ild 3 1), (29, op_ic 1000 3), (32, op_iast), (33, op_ild 3 1), (34, op_cs M_J6_bitCount_0f7a4 1), (37, op_ist 4 2), (39, op_ic 0 1), (40, op_ist 5 2), (42, op_ild 5 2), (44, op_ald 1 1), (45, op_gi 2 5), (48, op_icge 82), (51, op_ald 0 1), (52, op_gf 0 1 2), (55, op_ild 3 1), (56, op_ald 0 1), (57, op_gf 0 1 2), (60, op_ild 3 1), (61, op_iald), (62, op_ald 0 1), (63, op_ald 1 1), (64, op_ild 4 2), (66, op_ild 5 2), (68, op_ild 3 1), (69, op_cv M_X0_costs 0 4), (72, op_min), (75, op_iast), (76, op_iinc 5 1), (79, op_goto 42), (82, op_iinc 3 (-1)), (85, op_goto 20), (88, op_ic 0 1), (89, op_ist 3 1), (90, op_ic 0 1), (91, op_ist 4 2), (93, op_ild 4 2), (95, op_ald 1 1), (96, op_gi 2 5), (99, op_icge 135), (102, op_ald 0 1), (103, op_gf 0 0 1), (106, op_ild 4 2), (108, op_ald 0 1), (109, op_ald 1 1), (110, op_ild 4 2), (112, op_ild 3 1), (113, op_cv M_X0_cheapest 0 3), (116, op_iast), (117, op_ild 3 1), (118, op_ic 1 1), (119, op_ald 0 1), (120, op_gf 0 0 1), (123, op_ild 4 2), (125, op_iald), (126, op_ishl), (127, op_ior), (128, op_ist 3 1), (129, op_iinc 4 1), (132, op_goto 93), (135, op_ald 0 1), (136, op_gf 0 1 2), (139, op_ic 0 1), (140, op_iald), (141, op_iret)]
set_option maxRecDepth 20000 in
theorem K_X0_sharesMouths : ∀ r ∈ T_X0_sharesMouths, OpOK M_X0_sharesMouths r.1 r.2 :=
  fc (ok_iconst (n := 1) (by decide +kernel) (by decide +kernel)) <|
  fc (ok_aldn (q := 1) (by decide +kernel) rfl) <|
  fc (ok_gi mk_X0_sharesMouths (fo_RX0_21 rfl) rfl (by decide +kernel)) <|
  fc (ok_ishl (by decide +kernel)) <|
  fc (ok_iconst (n := 1) (by decide +kernel) (by decide +kernel)) <|
  fc (ok_isub (by decide +kernel)) <|
  fc (ok_istn (q := 2) (by decide +kernel) rfl (by decide)) <|
  fc (ok_aldn (q := 0) (by decide +kernel) rfl) <|
  fc (ok_gf mk_X0_sharesMouths (fo_RX0_15 rfl) rfl (by decide +kernel)) <|
  fc (ok_ildn (q := 2) (by decide +kernel) rfl) <|
  fc (ok_iconst (n := 0) (by decide +kernel) (by decide +kernel)) <|
  fc (ok_iast (by decide +kernel)) <|
  fc (ok_ildn (q := 2) (by decide +kernel) rfl) <|
  fc (ok_iconst (n := 1) (by decide +kernel) (by decide +kernel)) <|
  fc (ok_isub (by decide +kernel)) <|
  fc (ok_istn (q := 3) (by decide +kernel) rfl (by decide)) <|
  fc (ok_ildn (q := 3) (by decide +kernel) rfl) <|
  fc (ok_iflt (off := 67) (by decide +kernel) (by decide)) <|
  fc (ok_aldn (q := 0) (by decide +kernel) rfl) <|
  fc (ok_gf mk_X0_sharesMouths (fo_RX0_15 rfl) rfl (by decide +kernel)) <|
  fc (ok_ildn (q := 3) (by decide +kernel) rfl) <|
  fc (ok_sipush (n := 1000) (by decide +kernel) (by decide +kernel)) <|
  fc (ok_iast (by decide +kernel)) <|
  fc (ok_ildn (q := 3) (by decide +kernel) rfl) <|
  fc (ok_cs mk_X0_sharesMouths mk_J6_bitCount_0f7a4 ⟨uw950, uw429, uw430, by decide +kernel⟩ (by decide +kernel)) <|
  fc (ok_ist (by decide +kernel) (by decide)) <|
  fc (ok_iconst (n := 0) (by decide +kernel) (by decide +kernel)) <|
  fc (ok_ist (by decide +kernel) (by decide)) <|
  fc (ok_ild (by decide +kernel)) <|
  fc (ok_aldn (q := 1) (by decide +kernel) rfl) <|
  fc (ok_gi mk_X0_sharesMouths (fo_RX0_21 rfl) rfl (by decide +kernel)) <|
  fc (ok_icge (off := 34) (by decide +kernel) (by decide)) <|
  fc (ok_aldn (q := 0) (by decide +kernel) rfl) <|
  fc (ok_gf mk_X0_sharesMouths (fo_RX0_15 rfl) rfl (by decide +kernel)) <|
  fc (ok_ildn (q := 3) (by decide +kernel) rfl) <|
  fc (ok_aldn (q := 0) (by decide +kernel) rfl) <|
  fc (ok_gf mk_X0_sharesMouths (fo_RX0_15 rfl) rfl (by decide +kernel)) <|
  fc (ok_ildn (q := 3) (by decide +kernel) rfl) <|
  fc (ok_iald (by decide +kernel)) <|
  fc (ok_aldn (q := 0) (by decide +kernel) rfl) <|
  fc (ok_aldn (q := 1) (by decide +kernel) rfl) <|
  fc (ok_ild (by decide +kernel)) <|
  fc (ok_ild (by decide +kernel)) <|
  fc (ok_ildn (q := 3) (by decide +kernel) rfl) <|
  fc (ok_cv mk_X0_sharesMouths mk_X0_costs ⟨uw951, uw952, uw953, uw40, by decide +kernel⟩ (T := TX0) (N := 3) rfl (by decide +kernel)) <|
  fc (ok_min mk_X0_sharesMouths uw949 uw211 uw212 uw213 (by decide +kernel)) <|
  fc (ok_iast (by decide +kernel)) <|
  fc (ok_iinc (n := 1) (by decide +kernel) (by decide +kernel) (by decide)) <|
  fc (ok_goto (off := -37) (by decide +kernel) (by decide)) <|
  fc (ok_iinc (n := -1) (by decide +kernel) (by decide +kernel) (by decide)) <|
  fc (ok_goto (off := -65) (by decide +kernel) (by decide)) <|
  fc (ok_iconst (n := 0) (by decide +kernel) (by decide +kernel)) <|
  fc (ok_istn (q := 3) (by decide +kernel) rfl (by decide)) <|
  fc (ok_iconst (n := 0) (by decide +kernel) (by decide +kernel)) <|
  fc (ok_ist (by decide +kernel) (by decide)) <|
  fc (ok_ild (by decide +kernel)) <|
  fc (ok_aldn (q := 1) (by decide +kernel) rfl) <|
  fc (ok_gi mk_X0_sharesMouths (fo_RX0_21 rfl) rfl (by decide +kernel)) <|
  fc (ok_icge (off := 36) (by decide +kernel) (by decide)) <|
  fc (ok_aldn (q := 0) (by decide +kernel) rfl) <|
  fc (ok_gf mk_X0_sharesMouths (fo_RX0_9 rfl) rfl (by decide +kernel)) <|
  fc (ok_ild (by decide +kernel)) <|
  fc (ok_aldn (q := 0) (by decide +kernel) rfl) <|
  fc (ok_aldn (q := 1) (by decide +kernel) rfl) <|
  fc (ok_ild (by decide +kernel)) <|
  fc (ok_ildn (q := 3) (by decide +kernel) rfl) <|
  fc (ok_cv mk_X0_sharesMouths mk_X0_cheapest ⟨uw956, uw957, uw958, uw40, by decide +kernel⟩ (T := TX0) (N := 3) rfl (by decide +kernel)) <|
  fc (ok_iast (by decide +kernel)) <|
  fc (ok_ildn (q := 3) (by decide +kernel) rfl) <|
  fc (ok_iconst (n := 1) (by decide +kernel) (by decide +kernel)) <|
  fc (ok_aldn (q := 0) (by decide +kernel) rfl) <|
  fc (ok_gf mk_X0_sharesMouths (fo_RX0_9 rfl) rfl (by decide +kernel)) <|
  fc (ok_ild (by decide +kernel)) <|
  fc (ok_iald (by decide +kernel)) <|
  fc (ok_ishl (by decide +kernel)) <|
  fc (ok_ior (by decide +kernel)) <|
  fc (ok_istn (q := 3) (by decide +kernel) rfl (by decide)) <|
  fc (ok_iinc (n := 1) (by decide +kernel) (by decide +kernel) (by decide)) <|
  fc (ok_goto (off := -39) (by decide +kernel) (by decide)) <|
  fc (ok_aldn (q := 0) (by decide +kernel) rfl) <|
  fc (ok_gf mk_X0_sharesMouths (fo_RX0_15 rfl) rfl (by decide +kernel)) <|
  fc (ok_iconst (n := 0) (by decide +kernel) (by decide +kernel)) <|
  fc (ok_iald (by decide +kernel)) <|
  fc (ok_iret rfl (by decide +kernel)) <| fn
def T_X0_costs : List (Nat × Op) := [(0, op_ild 3 1), (1, op_ild 2 1), (2, op_iceq 18), (5, op_ild 4 2), (7, op_ild 3 1), (8, op_ishr), (9, op_ic 1 1), (10, op_iand), (11, op_ifne 18), (14, op_ic 1 1), (15, op_goto 19), (18, op_ic 0 1), (19, op_ist 5 2), (21, op_ild 5 2), (23, op_ifeq 47), (26, op_ald 1 1), (27, op_ild 3 1), (28, op_ild 2 1), (29, op_cv M_X2_far 2 2), (32, op_ald 0 1), (33, op_gf 0 1 2), (36, op_ild 4 2), (38, op_ic 1 1), (39, op_ild 3 1), (40, op_ishl), (41, op_ior), (42, op_iald), (43, op_iadd), (44, op_goto 50), (47, op_ic 1000 3), (50, op_iret)]
set_option maxRecDepth 20000 in
theorem K_X0_costs : ∀ r ∈ T_X0_costs, OpOK M_X0_costs r.1 r.2 :=
  fc (ok_ildn (q := 3) (by decide +kernel) rfl) <|
  fc (ok_ildn (q := 2) (by decide +kernel) rfl) <|
  fc (ok_iceq (off := 16) (by decide +kernel) (by decide)) <|
  fc (ok_ild (by decide +kernel)) <|
  fc (ok_ildn (q := 3) (by decide +kernel) rfl) <|
  fc (ok_ishr (by decide +kernel)) <|
  fc (ok_iconst (n := 1) (by decide +kernel) (by decide +kernel)) <|
  fc (ok_iand (by decide +kernel)) <|
  fc (ok_ifne (off := 7) (by decide +kernel) (by decide)) <|
  fc (ok_iconst (n := 1) (by decide +kernel) (by decide +kernel)) <|
  fc (ok_goto (off := 4) (by decide +kernel) (by decide)) <|
  fc (ok_iconst (n := 0) (by decide +kernel) (by decide +kernel)) <|
  fc (ok_ist (by decide +kernel) (by decide)) <|
  fc (ok_ild (by decide +kernel)) <|
  fc (ok_ifeq (off := 24) (by decide +kernel) (by decide)) <|
  fc (ok_aldn (q := 1) (by decide +kernel) rfl) <|
  fc (ok_ildn (q := 3) (by decide +kernel) rfl) <|
  fc (ok_ildn (q := 2) (by decide +kernel) rfl) <|
  fc (ok_cv mk_X0_costs mk_X2_far ⟨uw955, uw485, uw486, uw23, by decide +kernel⟩ (T := TX2) (N := 8) rfl (by decide +kernel)) <|
  fc (ok_aldn (q := 0) (by decide +kernel) rfl) <|
  fc (ok_gf mk_X0_costs (fo_RX0_15 rfl) rfl (by decide +kernel)) <|
  fc (ok_ild (by decide +kernel)) <|
  fc (ok_iconst (n := 1) (by decide +kernel) (by decide +kernel)) <|
  fc (ok_ildn (q := 3) (by decide +kernel) rfl) <|
  fc (ok_ishl (by decide +kernel)) <|
  fc (ok_ior (by decide +kernel)) <|
  fc (ok_iald (by decide +kernel)) <|
  fc (ok_iadd (by decide +kernel)) <|
  fc (ok_goto (off := 6) (by decide +kernel) (by decide)) <|
  fc (ok_sipush (n := 1000) (by decide +kernel) (by decide +kernel)) <|
  fc (ok_iret rfl (by decide +kernel)) <| fn
def T_X0_cheapest : List (Nat × Op) := [(0, op_ic 0 1), (1, op_ist 4 2), (3, op_ild 4 2), (5, op_ald 1 1), (6, op_gi 2 5), (9, op_icge 39), (12, op_ald 0 1), (13, op_ald 1 1), (14, op_ild 2 1), (15, op_ild 4 2), (17, op_ild 3 1), (18, op_cv M_X0_costs 0 4), (21, op_ald 0 1), (22, op_gf 0 1 2), (25, op_ild 3 1), (26, op_iald), (27, op_icne 33), (30, op_ild 4 2), (32, op_iret), (33, op_iinc 4 1), (36, op_goto 3), (39, op_ic 0 1), (40, op_iret)]
set_option maxRecDepth 20000 in
theorem K_X0_cheapest : ∀ r ∈ T_X0_cheapest, OpOK M_X0_cheapest r.1 r.2 :=
  fc (ok_iconst (n := 0) (by decide +kernel) (by decide +kernel)) <|
  fc (ok_ist (by decide +kernel) (by decide)) <|
  fc (ok_ild (by decide +kernel)) <|
  fc (ok_aldn (q := 1) (by decide +kernel) rfl) <|
  fc (ok_gi mk_X0_cheapest (fo_RX0_21 rfl) rfl (by decide +kernel)) <|
  fc (ok_icge (off := 30) (by decide +kernel) (by decide)) <|
  fc (ok_aldn (q := 0) (by decide +kernel) rfl) <|
  fc (ok_aldn (q := 1) (by decide +kernel) rfl) <|
  fc (ok_ildn (q := 2) (by decide +kernel) rfl) <|
  fc (ok_ild (by decide +kernel)) <|
  fc (ok_ildn (q := 3) (by decide +kernel) rfl) <|
  fc (ok_cv mk_X0_cheapest mk_X0_costs ⟨uw951, uw952, uw953, uw40, by decide +kernel⟩ (T := TX0) (N := 3) rfl (by decide +kernel)) <|
  fc (ok_aldn (q := 0) (by decide +kernel) rfl) <|
  fc (ok_gf mk_X0_cheapest (fo_RX0_15 rfl) rfl (by decide +kernel)) <|
  fc (ok_ildn (q := 3) (by decide +kernel) rfl) <|
  fc (ok_iald (by decide +kernel)) <|
  fc (ok_icne (off := 6) (by decide +kernel) (by decide)) <|
  fc (ok_ild (by decide +kernel)) <|
  fc (ok_iret rfl (by decide +kernel)) <|
  fc (ok_iinc (n := 1) (by decide +kernel) (by decide +kernel) (by decide)) <|
  fc (ok_goto (off := -33) (by decide +kernel) (by decide)) <|
  fc (ok_iconst (n := 0) (by decide +kernel) (by decide +kernel)) <|
  fc (ok_iret rfl (by decide +kernel)) <| fn
def T_X0_fewestCriers : List (Nat × Op) := [(0, op_ic 1 1), (1, op_ald 1 1), (2, op_gi 2 5), (5, op_ishl), (6, op_ic 1 1), (7, op_isub), (8, op_ist 3 1), (9, op_ic 0 1), (10, op_ist 4 2), (12, op_ild 4 2), (14, op_ald 1 1), (15, op_gi 2 5), (18, op_icge 41), (21, op_ald 0 1), (22, op_gf 0 0 1), (25, op_ild 4 2), (27, op_ald 1 1), (28, op_ild 4 2), (30, op_ild 2 1), (31, op_cs M_X0_hearers 3), (34, op_iast), (35, op_iinc 4 1), (38, op_goto 12), (41, op_ild 3 1), (42, op_ist 4 2), (44, op_ic 0 1), (45, op_ist 5 2), (47, op_ild 5 2), (49, op_ild 3 1), (50, op_icge 90), (53, op_ild 5 2), (55, op_cs M_J6_bitCount_0f7a4 1), (58, op_ild 4 2), (60, op_cs M_J6_bitCount_0f7a4 1), (63, op_icge 84), (66, op_ald 0 1), (67, op_ald 1 1), (68, op_gi 2 5), (71, op_ild 5 2), (73, op_cv M_X0_heardBy 0 2), (76, op_ild 3 1), (77, op_icne 84), (80, op_ild 5 2), (82, op_ist 4 2), (84, op_iinc 5 1), (87, op_goto 47), (90, op_ild 4 2), (92, op_iret)]
set_option maxRecDepth 20000 in
theorem K_X0_fewestCriers : ∀ r ∈ T_X0_fewestCriers, OpOK M_X0_fewestCriers r.1 r.2 :=
  fc (ok_iconst (n := 1) (by decide +kernel) (by decide +kernel)) <|
  fc (ok_aldn (q := 1) (by decide +kernel) rfl) <|
  fc (ok_gi mk_X0_fewestCriers (fo_RX0_21 rfl) rfl (by decide +kernel)) <|
  fc (ok_ishl (by decide +kernel)) <|
  fc (ok_iconst (n := 1) (by decide +kernel) (by decide +kernel)) <|
  fc (ok_isub (by decide +kernel)) <|
  fc (ok_istn (q := 3) (by decide +kernel) rfl (by decide)) <|
  fc (ok_iconst (n := 0) (by decide +kernel) (by decide +kernel)) <|
  fc (ok_ist (by decide +kernel) (by decide)) <|
  fc (ok_ild (by decide +kernel)) <|
  fc (ok_aldn (q := 1) (by decide +kernel) rfl) <|
  fc (ok_gi mk_X0_fewestCriers (fo_RX0_21 rfl) rfl (by decide +kernel)) <|
  fc (ok_icge (off := 23) (by decide +kernel) (by decide)) <|
  fc (ok_aldn (q := 0) (by decide +kernel) rfl) <|
  fc (ok_gf mk_X0_fewestCriers (fo_RX0_9 rfl) rfl (by decide +kernel)) <|
  fc (ok_ild (by decide +kernel)) <|
  fc (ok_aldn (q := 1) (by decide +kernel) rfl) <|
  fc (ok_ild (by decide +kernel)) <|
  fc (ok_ildn (q := 2) (by decide +kernel) rfl) <|
  fc (ok_cs mk_X0_fewestCriers mk_X0_hearers ⟨uw977, uw978, uw40, by decide +kernel⟩ (by decide +kernel)) <|
  fc (ok_iast (by decide +kernel)) <|
  fc (ok_iinc (n := 1) (by decide +kernel) (by decide +kernel) (by decide)) <|
  fc (ok_goto (off := -26) (by decide +kernel) (by decide)) <|
  fc (ok_ildn (q := 3) (by decide +kernel) rfl) <|
  fc (ok_ist (by decide +kernel) (by decide)) <|
  fc (ok_iconst (n := 0) (by decide +kernel) (by decide +kernel)) <|
  fc (ok_ist (by decide +kernel) (by decide)) <|
  fc (ok_ild (by decide +kernel)) <|
  fc (ok_ildn (q := 3) (by decide +kernel) rfl) <|
  fc (ok_icge (off := 40) (by decide +kernel) (by decide)) <|
  fc (ok_ild (by decide +kernel)) <|
  fc (ok_cs mk_X0_fewestCriers mk_J6_bitCount_0f7a4 ⟨uw950, uw429, uw430, by decide +kernel⟩ (by decide +kernel)) <|
  fc (ok_ild (by decide +kernel)) <|
  fc (ok_cs mk_X0_fewestCriers mk_J6_bitCount_0f7a4 ⟨uw950, uw429, uw430, by decide +kernel⟩ (by decide +kernel)) <|
  fc (ok_icge (off := 21) (by decide +kernel) (by decide)) <|
  fc (ok_aldn (q := 0) (by decide +kernel) rfl) <|
  fc (ok_aldn (q := 1) (by decide +kernel) rfl) <|
  fc (ok_gi mk_X0_fewestCriers (fo_RX0_21 rfl) rfl (by decide +kernel)) <|
  fc (ok_ild (by decide +kernel)) <|
  fc (ok_cv mk_X0_fewestCriers mk_X0_heardBy ⟨uw980, uw981, uw982, uw40, by decide +kernel⟩ (T := TX0) (N := 3) rfl (by decide +kernel)) <|
  fc (ok_ildn (q := 3) (by decide +kernel) rfl) <|
  fc (ok_icne (off := 7) (by decide +kernel) (by decide)) <|
  fc (ok_ild (by decide +kernel)) <|
  fc (ok_ist (by decide +kernel) (by decide)) <|
  fc (ok_iinc (n := 1) (by decide +kernel) (by decide +kernel) (by decide)) <|
  fc (ok_goto (off := -40) (by decide +kernel) (by decide)) <|
  fc (ok_ild (by decide +kernel)) <|
  fc (ok_iret rfl (by decide +kernel)) <| fn
def T_X0_hearers : List (Nat × Op) := [(0, op_ic 0 1), (1, op_ist 3 1), (2, op_ic 0 1), (3, op_ist 4 2), (5, op_ild 4 2), (7, op_ald 0 1), (8, op_gi 2 5), (11, op_icge 38), (14, op_ald 0 1), (15, op_ild 4 2), (17, op_ild 1 1), (18, op_cv M_X2_far 2 2), (21, op_ild 2 1), (22, op_icgt 32), (25, op_ild 3 1), (26, op_ic 1 1), (27, op_ild 4 2), (29, op_ishl), (30, op_ior), (31, op_ist 3 1), (32, op_iinc 4 1), (35, op_goto 5), (38, op_ild 3 1), (39, op_iret)]
set_option maxRecDepth 20000 in
theorem K_X0_hearers : ∀ r ∈ T_X0_hearers, OpOK M_X0_hearers r.1 r.2 :=
  fc (ok_iconst (n := 0) (by decide +kernel) (by decide +kernel)) <|
  fc (ok_istn (q := 3) (by decide +kernel) rfl (by decide)) <|
  fc (ok_iconst (n := 0) (by decide +kernel) (by decide +kernel)) <|
  fc (ok_ist (by decide +kernel) (by decide)) <|
  fc (ok_ild (by decide +kernel)) <|
  fc (ok_aldn (q := 0) (by decide +kernel) rfl) <|
  fc (ok_gi mk_X0_hearers (fo_RX0_21 rfl) rfl (by decide +kernel)) <|
  fc (ok_icge (off := 27) (by decide +kernel) (by decide)) <|
  fc (ok_aldn (q := 0) (by decide +kernel) rfl) <|
  fc (ok_ild (by decide +kernel)) <|
  fc (ok_ildn (q := 1) (by decide +kernel) rfl) <|
  fc (ok_cv mk_X0_hearers mk_X2_far ⟨uw955, uw485, uw486, uw23, by decide +kernel⟩ (T := TX2) (N := 8) rfl (by decide +kernel)) <|
  fc (ok_ildn (q := 2) (by decide +kernel) rfl) <|
  fc (ok_icgt (off := 10) (by decide +kernel) (by decide)) <|
  fc (ok_ildn (q := 3) (by decide +kernel) rfl) <|
  fc (ok_iconst (n := 1) (by decide +kernel) (by decide +kernel)) <|
  fc (ok_ild (by decide +kernel)) <|
  fc (ok_ishl (by decide +kernel)) <|
  fc (ok_ior (by decide +kernel)) <|
  fc (ok_istn (q := 3) (by decide +kernel) rfl (by decide)) <|
  fc (ok_iinc (n := 1) (by decide +kernel) (by decide +kernel) (by decide)) <|
  fc (ok_goto (off := -30) (by decide +kernel) (by decide)) <|
  fc (ok_ildn (q := 3) (by decide +kernel) rfl) <|
  fc (ok_iret rfl (by decide +kernel)) <| fn
def T_X0_heardBy : List (Nat × Op) := [(0, op_ic 0 1), (1, op_ist 3 1), (2, op_ic 0 1), (3, op_ist 4 2), (5, op_ild 4 2), (7, op_ild 1 1), (8, op_icge 37), (11, op_ild 2 1), (12, op_ild 4 2), (14, op_ishr), (15, op_ic 1 1), (16, op_iand), (17, op_ic 1 1), (18, op_icne 31), (21, op_ild 3 1), (22, op_ald 0 1), (23, op_gf 0 0 1), (26, op_ild 4 2), (28, op_iald), (29, op_ior), (30, op_ist 3 1), (31, op_iinc 4 1), (34, op_goto 5), (37, op_ild 3 1), (38, op_iret)]
set_option maxRecDepth 20000 in
theorem K_X0_heardBy : ∀ r ∈ T_X0_heardBy, OpOK M_X0_heardBy r.1 r.2 :=
  fc (ok_iconst (n := 0) (by decide +kernel) (by decide +kernel)) <|
  fc (ok_istn (q := 3) (by decide +kernel) rfl (by decide)) <|
  fc (ok_iconst (n := 0) (by decide +kernel) (by decide +kernel)) <|
  fc (ok_ist (by decide +kernel) (by decide)) <|
  fc (ok_ild (by decide +kernel)) <|
  fc (ok_ildn (q := 1) (by decide +kernel) rfl) <|
  fc (ok_icge (off := 29) (by decide +kernel) (by decide)) <|
  fc (ok_ildn (q := 2) (by decide +kernel) rfl) <|
  fc (ok_ild (by decide +kernel)) <|
  fc (ok_ishr (by decide +kernel)) <|
  fc (ok_iconst (n := 1) (by decide +kernel) (by decide +kernel)) <|
  fc (ok_iand (by decide +kernel)) <|
  fc (ok_iconst (n := 1) (by decide +kernel) (by decide +kernel)) <|
  fc (ok_icne (off := 13) (by decide +kernel) (by decide)) <|
  fc (ok_ildn (q := 3) (by decide +kernel) rfl) <|
  fc (ok_aldn (q := 0) (by decide +kernel) rfl) <|
  fc (ok_gf mk_X0_heardBy (fo_RX0_9 rfl) rfl (by decide +kernel)) <|
  fc (ok_ild (by decide +kernel)) <|
  fc (ok_iald (by decide +kernel)) <|
  fc (ok_ior (by decide +kernel)) <|
  fc (ok_istn (q := 3) (by decide +kernel) rfl (by decide)) <|
  fc (ok_iinc (n := 1) (by decide +kernel) (by decide +kernel) (by decide)) <|
  fc (ok_goto (off := -29) (by decide +kernel) (by decide)) <|
  fc (ok_ildn (q := 3) (by decide +kernel) rfl) <|
  fc (ok_iret rfl (by decide +kernel)) <| fn
def T_X0_linesUp : List (Nat × Op) := [(0, op_ic 0 1), (1, op_ist 2 1), (2, op_ic 0 1), (3, op_ist 3 1), (4, op_ild 3 1), (5, op_ic 10 2), (7, op_icge 62), (10, op_ic 0 1), (11, op_ist 4 2), (13, op_ild 4 2), (15, op_ald 1 1), (16, op_gi 2 5), (19, op_icge 56), (22, op_ald 1 1), (23, op_gf 2 0 1), (26, op_ild 4 2), (28, op_iald), (29, op_ild 3 1), (30, op_icne 50), (33, op_ild 2 1), (34, op_ic 7 2), (36, op_icge 50), (39, op_ald 0 1), (40, op_gf 0 0 1), (43, op_ild 2 1), (44, op_ild 4 2), (46, op_iast), (47, op_iinc 2 1), (50, op_iinc 4 1), (53, op_goto 13), (56, op_iinc 3 1), (59, op_goto 4), (62, op_vret)]
set_option maxRecDepth 20000 in
theorem K_X0_linesUp : ∀ r ∈ T_X0_linesUp, OpOK M_X0_linesUp r.1 r.2 :=
  fc (ok_iconst (n := 0) (by decide +kernel) (by decide +kernel)) <|
  fc (ok_istn (q := 2) (by decide +kernel) rfl (by decide)) <|
  fc (ok_iconst (n := 0) (by decide +kernel) (by decide +kernel)) <|
  fc (ok_istn (q := 3) (by decide +kernel) rfl (by decide)) <|
  fc (ok_ildn (q := 3) (by decide +kernel) rfl) <|
  fc (ok_bipush (n := 10) (by decide +kernel) (by decide +kernel)) <|
  fc (ok_icge (off := 55) (by decide +kernel) (by decide)) <|
  fc (ok_iconst (n := 0) (by decide +kernel) (by decide +kernel)) <|
  fc (ok_ist (by decide +kernel) (by decide)) <|
  fc (ok_ild (by decide +kernel)) <|
  fc (ok_aldn (q := 1) (by decide +kernel) rfl) <|
  fc (ok_gi mk_X0_linesUp (fo_RX0_21 rfl) rfl (by decide +kernel)) <|
  fc (ok_icge (off := 37) (by decide +kernel) (by decide)) <|
  fc (ok_aldn (q := 1) (by decide +kernel) rfl) <|
  fc (ok_gf mk_X0_linesUp (fo_RX0_56 rfl) rfl (by decide +kernel)) <|
  fc (ok_ild (by decide +kernel)) <|
  fc (ok_iald (by decide +kernel)) <|
  fc (ok_ildn (q := 3) (by decide +kernel) rfl) <|
  fc (ok_icne (off := 20) (by decide +kernel) (by decide)) <|
  fc (ok_ildn (q := 2) (by decide +kernel) rfl) <|
  fc (ok_bipush (n := 7) (by decide +kernel) (by decide +kernel)) <|
  fc (ok_icge (off := 14) (by decide +kernel) (by decide)) <|
  fc (ok_aldn (q := 0) (by decide +kernel) rfl) <|
  fc (ok_gf mk_X0_linesUp (fo_RX0_9 rfl) rfl (by decide +kernel)) <|
  fc (ok_ildn (q := 2) (by decide +kernel) rfl) <|
  fc (ok_ild (by decide +kernel)) <|
  fc (ok_iast (by decide +kernel)) <|
  fc (ok_iinc (n := 1) (by decide +kernel) (by decide +kernel) (by decide)) <|
  fc (ok_iinc (n := 1) (by decide +kernel) (by decide +kernel) (by decide)) <|
  fc (ok_goto (off := -40) (by decide +kernel) (by decide)) <|
  fc (ok_iinc (n := 1) (by decide +kernel) (by decide +kernel) (by decide)) <|
  fc (ok_goto (off := -55) (by decide +kernel) (by decide)) <|
  fc (ok_vret rfl (by decide +kernel)) <| fn
def T_X0_longestFrom : List (Nat × Op) := [(0, op_ic 0 1), (1, op_ist 2 1), (2, op_ald 1 1), (3, op_gi 2 5), (6, op_ic 1 1), (7, op_isub), (8, op_ist 3 1), (9, op_ild 3 1), (10, op_iflt 107), (13, op_ald 0 1), (14, op_gf 0 2 3), (17, op_ild 3 1), (18, op_ic 1 1), (19, op_iast), (20, op_ild 3 1), (21, op_ic 1 1), (22, op_iadd), (23, op_ist 4 2), (25, op_ild 4 2), (27, op_ald 1 1), (28, op_gi 2 5), (31, op_icge 90), (34, op_ald 1 1), (35, op_gf 2 2 3), (38, op_ald 0 1), (39, op_gf 0 0 1), (42, op_ild 4 2), (44, op_iald), (45, op_iald), (46, op_ald 1 1), (47, op_gf 2 2 3), (50, op_ald 0 1), (51, op_gf 0 0 1), (54, op_ild 3 1), (55, op_iald), (56, op_iald), (57, op_icle 84), (60, op_ald 0 1), (61, op_gf 0 2 3), (64, op_ild 3 1), (65, op_ald 0 1), (66, op_gf 0 2 3), (69, op_ild 3 1), (70, op_iald), (71, op_ald 0 1), (72, op_gf 0 2 3), (75, op_ild 4 2), (77, op_iald), (78, op_ic 1 1), (79, op_iadd), (80, op_max), (83, op_iast), (84, op_iinc 4 1), (87, op_goto 25), (90, op_ild 2 1), (91, op_ald 0 1), (92, op_gf 0 2 3), (95, op_ild 3 1), (96, op_iald), (97, op_max), (100, op_ist 2 1), (101, op_iinc 3 (-1)), (104, op_goto 9), (107, op_ild 2 1), (108, op_iret)]
set_option maxRecDepth 20000 in
theorem K_X0_longestFrom : ∀ r ∈ T_X0_longestFrom, OpOK M_X0_longestFrom r.1 r.2 :=
  fc (ok_iconst (n := 0) (by decide +kernel) (by decide +kernel)) <|
  fc (ok_istn (q := 2) (by decide +kernel) rfl (by decide)) <|
  fc (ok_aldn (q := 1) (by decide +kernel) rfl) <|
  fc (ok_gi mk_X0_longestFrom (fo_RX0_21 rfl) rfl (by decide +kernel)) <|
  fc (ok_iconst (n := 1) (by decide +kernel) (by decide +kernel)) <|
  fc (ok_isub (by decide +kernel)) <|
  fc (ok_istn (q := 3) (by decide +kernel) rfl (by decide)) <|
  fc (ok_ildn (q := 3) (by decide +kernel) rfl) <|
  fc (ok_iflt (off := 97) (by decide +kernel) (by decide)) <|
  fc (ok_aldn (q := 0) (by decide +kernel) rfl) <|
  fc (ok_gf mk_X0_longestFrom (fo_RX0_18 rfl) rfl (by decide +kernel)) <|
  fc (ok_ildn (q := 3) (by decide +kernel) rfl) <|
  fc (ok_iconst (n := 1) (by decide +kernel) (by decide +kernel)) <|
  fc (ok_iast (by decide +kernel)) <|
  fc (ok_ildn (q := 3) (by decide +kernel) rfl) <|
  fc (ok_iconst (n := 1) (by decide +kernel) (by decide +kernel)) <|
  fc (ok_iadd (by decide +kernel)) <|
  fc (ok_ist (by decide +kernel) (by decide)) <|
  fc (ok_ild (by decide +kernel)) <|
  fc (ok_aldn (q := 1) (by decide +kernel) rfl) <|
  fc (ok_gi mk_X0_longestFrom (fo_RX0_21 rfl) rfl (by decide +kernel)) <|
  fc (ok_icge (off := 59) (by decide +kernel) (by decide)) <|
  fc (ok_aldn (q := 1) (by decide +kernel) rfl) <|
  fc (ok_gf mk_X0_longestFrom (fo_RX0_59 rfl) rfl (by decide +kernel)) <|
  fc (ok_aldn (q := 0) (by decide +kernel) rfl) <|
  fc (ok_gf mk_X0_longestFrom (fo_RX0_9 rfl) rfl (by decide +kernel)) <|
  fc (ok_ild (by decide +kernel)) <|
  fc (ok_iald (by decide +kernel)) <|
  fc (ok_iald (by decide +kernel)) <|
  fc (ok_aldn (q := 1) (by decide +kernel) rfl) <|
  fc (ok_gf mk_X0_longestFrom (fo_RX0_59 rfl) rfl (by decide +kernel)) <|
  fc (ok_aldn (q := 0) (by decide +kernel) rfl) <|
  fc (ok_gf mk_X0_longestFrom (fo_RX0_9 rfl) rfl (by decide +kernel)) <|
  fc (ok_ildn (q := 3) (by decide +kernel) rfl) <|
  fc (ok_iald (by decide +kernel)) <|
  fc (ok_iald (by decide +kernel)) <|
  fc (ok_icle (off := 27) (by decide +kernel) (by decide)) <|
  fc (ok_aldn (q := 0) (by decide +kernel) rfl) <|
  fc (ok_gf mk_X0_longestFrom (fo_RX0_18 rfl) rfl (by decide +kernel)) <|
  fc (ok_ildn (q := 3) (by decide +kernel) rfl) <|
  fc (ok_aldn (q := 0) (by decide +kernel) rfl) <|
  fc (ok_gf mk_X0_longestFrom (fo_RX0_18 rfl) rfl (by decide +kernel)) <|
  fc (ok_ildn (q := 3) (by decide +kernel) rfl) <|
  fc (ok_iald (by decide +kernel)) <|
  fc (ok_aldn (q := 0) (by decide +kernel) rfl) <|
  fc (ok_gf mk_X0_longestFrom (fo_RX0_18 rfl) rfl (by decide +kernel)) <|
  fc (ok_ild (by decide +kernel)) <|
  fc (ok_iald (by decide +kernel)) <|
  fc (ok_iconst (n := 1) (by decide +kernel) (by decide +kernel)) <|
  fc (ok_iadd (by decide +kernel)) <|
  fc (ok_max mk_X0_longestFrom uw1015 uw506 uw212 uw507 (by decide +kernel)) <|
  fc (ok_iast (by decide +kernel)) <|
  fc (ok_iinc (n := 1) (by decide +kernel) (by decide +kernel) (by decide)) <|
  fc (ok_goto (off := -62) (by decide +kernel) (by decide)) <|
  fc (ok_ildn (q := 2) (by decide +kernel) rfl) <|
  fc (ok_aldn (q := 0) (by decide +kernel) rfl) <|
  fc (ok_gf mk_X0_longestFrom (fo_RX0_18 rfl) rfl (by decide +kernel)) <|
  fc (ok_ildn (q := 3) (by decide +kernel) rfl) <|
  fc (ok_iald (by decide +kernel)) <|
  fc (ok_max mk_X0_longestFrom uw1015 uw506 uw212 uw507 (by decide +kernel)) <|
  fc (ok_istn (q := 2) (by decide +kernel) rfl (by decide)) <|
  fc (ok_iinc (n := -1) (by decide +kernel) (by decide +kernel) (by decide)) <|
  fc (ok_goto (off := -95) (by decide +kernel) (by decide)) <|
  fc (ok_ildn (q := 2) (by decide +kernel) rfl) <|
  fc (ok_iret rfl (by decide +kernel)) <| fn
def T_X1_hears : List (Nat × Op) := [(0, op_ild 2 1), (1, op_iflt 28), (4, op_ild 2 1), (5, op_ild 1 1), (6, op_cs M_X1_values 1), (9, op_icge 28), (12, op_ald 0 1), (13, op_gi 1 2), (16, op_iflt 28), (19, op_ald 0 1), (20, op_gi 1 2), (23, op_ic 12 2), (25, op_iclt 30), (28, op_ic 0 1), (29, op_zret), (30, op_ald 0 1), (31, op_gf 1 0 1), (34, op_ald 0 1), (35, op_gi 1 2), (38, op_ild 1 1), (39, op_iast), (40, op_ald 0 1), (41, op_gf 1 1 2), (44, op_ald 0 1), (45, op_gi 1 2), (48, op_ild 2 1), (49, op_iast), (50, op_ald 0 1), (51, op_dup), (52, op_gi 1 2), (55, op_ic 1 1), (56, op_iadd), (57, op_pi 1 2), (60, op_ic 1 1), (61, op_zret)]
set_option maxRecDepth 20000 in
theorem K_X1_hears : ∀ r ∈ T_X1_hears, OpOK M_X1_hears r.1 r.2 :=
  fc (ok_ildn (q := 2) (by decide +kernel) rfl) <|
  fc (ok_iflt (off := 27) (by decide +kernel) (by decide)) <|
  fc (ok_ildn (q := 2) (by decide +kernel) rfl) <|
  fc (ok_ildn (q := 1) (by decide +kernel) rfl) <|
  fc (ok_cs mk_X1_hears mk_X1_values ⟨uw1030, uw1031, uw44, by decide +kernel⟩ (by decide +kernel)) <|
  fc (ok_icge (off := 19) (by decide +kernel) (by decide)) <|
  fc (ok_aldn (q := 0) (by decide +kernel) rfl) <|
  fc (ok_gi mk_X1_hears (fo_RX1_22 rfl) rfl (by decide +kernel)) <|
  fc (ok_iflt (off := 12) (by decide +kernel) (by decide)) <|
  fc (ok_aldn (q := 0) (by decide +kernel) rfl) <|
  fc (ok_gi mk_X1_hears (fo_RX1_22 rfl) rfl (by decide +kernel)) <|
  fc (ok_bipush (n := 12) (by decide +kernel) (by decide +kernel)) <|
  fc (ok_iclt (off := 5) (by decide +kernel) (by decide)) <|
  fc (ok_iconst (n := 0) (by decide +kernel) (by decide +kernel)) <|
  fc (ok_zret rfl (by decide +kernel)) <|
  fc (ok_aldn (q := 0) (by decide +kernel) rfl) <|
  fc (ok_gf mk_X1_hears (fo_RX1_11 rfl) rfl (by decide +kernel)) <|
  fc (ok_aldn (q := 0) (by decide +kernel) rfl) <|
  fc (ok_gi mk_X1_hears (fo_RX1_22 rfl) rfl (by decide +kernel)) <|
  fc (ok_ildn (q := 1) (by decide +kernel) rfl) <|
  fc (ok_iast (by decide +kernel)) <|
  fc (ok_aldn (q := 0) (by decide +kernel) rfl) <|
  fc (ok_gf mk_X1_hears (fo_RX1_15 rfl) rfl (by decide +kernel)) <|
  fc (ok_aldn (q := 0) (by decide +kernel) rfl) <|
  fc (ok_gi mk_X1_hears (fo_RX1_22 rfl) rfl (by decide +kernel)) <|
  fc (ok_ildn (q := 2) (by decide +kernel) rfl) <|
  fc (ok_iast (by decide +kernel)) <|
  fc (ok_aldn (q := 0) (by decide +kernel) rfl) <|
  fc (ok_dup (by decide +kernel)) <|
  fc (ok_gi mk_X1_hears (fo_RX1_22 rfl) rfl (by decide +kernel)) <|
  fc (ok_iconst (n := 1) (by decide +kernel) (by decide +kernel)) <|
  fc (ok_iadd (by decide +kernel)) <|
  fc (ok_pi mk_X1_hears (fo_RX1_22 rfl) to_1_2 rfl (by decide +kernel)) <|
  fc (ok_iconst (n := 1) (by decide +kernel) (by decide +kernel)) <|
  fc (ok_zret rfl (by decide +kernel)) <| fn
def T_X1_values : List (Nat × Op) := [(0, op_ild 0 1), (1, op_sw 51 [(0, 36), (1, 39), (2, 42), (3, 45), (4, 48)]), (36, op_ic 7 2), (38, op_iret), (39, op_ic 100 2), (41, op_iret), (42, op_ic 100 2), (44, op_iret), (45, op_ic 10 2), (47, op_iret), (48, op_ic 7 2), (50, op_iret), (51, op_ic 0 1), (52, op_iret)]
set_option maxRecDepth 20000 in
theorem K_X1_values : ∀ r ∈ T_X1_values, OpOK M_X1_values r.1 r.2 :=
  fc (ok_ildn (q := 0) (by decide +kernel) rfl) <|
  fc (ok_tsw (dflt := 50) (lo := 0) (hi := 4) (offs := #[35, 38, 41, 44, 47]) (len := 35) (by decide +kernel) (by decide +kernel) (by decide +kernel) (by decide) (by decide)) <|
  fc (ok_bipush (n := 7) (by decide +kernel) (by decide +kernel)) <|
  fc (ok_iret rfl (by decide +kernel)) <|
  fc (ok_bipush (n := 100) (by decide +kernel) (by decide +kernel)) <|
  fc (ok_iret rfl (by decide +kernel)) <|
  fc (ok_bipush (n := 100) (by decide +kernel) (by decide +kernel)) <|
  fc (ok_iret rfl (by decide +kernel)) <|
  fc (ok_bipush (n := 10) (by decide +kernel) (by decide +kernel)) <|
  fc (ok_iret rfl (by decide +kernel)) <|
  fc (ok_bipush (n := 7) (by decide +kernel) (by decide +kernel)) <|
  fc (ok_iret rfl (by decide +kernel)) <|
  fc (ok_iconst (n := 0) (by decide +kernel) (by decide +kernel)) <|
  fc (ok_iret rfl (by decide +kernel)) <| fn
def T_X1_fitting : List (Nat × Op) := [(0, op_ic 0 1), (1, op_ist 3 1), (2, op_ic 0 1), (3, op_ist 4 2), (5, op_ild 4 2), (7, op_ald 1 1), (8, op_gi 2 5), (11, op_icge 88), (14, op_ic 1 1), (15, op_ist 5 2), (17, op_ic 0 1), (18, op_ist 6 2), (20, op_ild 6 2), (22, op_ald 0 1), (23, op_gi 1 2), (26, op_icge 70), (29, op_ild 6 2), (31, op_ic 12 2), (33, op_icge 70), (36, op_ild 5 2), (38, op_ifeq 70), (41, op_ald 1 1), (42, op_ald 2 1), (43, op_ild 4 2), (45, op_ald 0 1), (46, op_gf 1 0 1), (49, op_ild 6 2), (51, op_iald), (52, op_ald 0 1), (53, op_gf 1 1 2), (56, op_ild 6 2), (58, op_iald), (59, op_cs M_X1_isSo 5), (62, op_ist 5 2), (64, op_iinc 6 1), (67, op_goto 20), (70, op_ild 5 2), (72, op_ifeq 82), (75, op_ild 3 1), (76, op_ic 1 1), (77, op_ild 4 2), (79, op_ishl), (80, op_ior), (81, op_ist 3 1), (82, op_iinc 4 1), (85, op_goto 5), (88, op_ild 3 1), (89, op_iret)]
set_option maxRecDepth 20000 in
theorem K_X1_fitting : ∀ r ∈ T_X1_fitting, OpOK M_X1_fitting r.1 r.2 :=
  fc (ok_iconst (n := 0) (by decide +kernel) (by decide +kernel)) <|
  fc (ok_istn (q := 3) (by decide +kernel) rfl (by decide)) <|
  fc (ok_iconst (n := 0) (by decide +kernel) (by decide +kernel)) <|
  fc (ok_ist (by decide +kernel) (by decide)) <|
  fc (ok_ild (by decide +kernel)) <|
  fc (ok_aldn (q := 1) (by decide +kernel) rfl) <|
  fc (ok_gi mk_X1_fitting (fo_RX1_48 rfl) rfl (by decide +kernel)) <|
  fc (ok_icge (off := 77) (by decide +kernel) (by decide)) <|
  fc (ok_iconst (n := 1) (by decide +kernel) (by decide +kernel)) <|
  fc (ok_ist (by decide +kernel) (by decide)) <|
  fc (ok_iconst (n := 0) (by decide +kernel) (by decide +kernel)) <|
  fc (ok_ist (by decide +kernel) (by decide)) <|
  fc (ok_ild (by decide +kernel)) <|
  fc (ok_aldn (q := 0) (by decide +kernel) rfl) <|
  fc (ok_gi mk_X1_fitting (fo_RX1_22 rfl) rfl (by decide +kernel)) <|
  fc (ok_icge (off := 44) (by decide +kernel) (by decide)) <|
  fc (ok_ild (by decide +kernel)) <|
  fc (ok_bipush (n := 12) (by decide +kernel) (by decide +kernel)) <|
  fc (ok_icge (off := 37) (by decide +kernel) (by decide)) <|
  fc (ok_ild (by decide +kernel)) <|
  fc (ok_ifeq (off := 32) (by decide +kernel) (by decide)) <|
  fc (ok_aldn (q := 1) (by decide +kernel) rfl) <|
  fc (ok_aldn (q := 2) (by decide +kernel) rfl) <|
  fc (ok_ild (by decide +kernel)) <|
  fc (ok_aldn (q := 0) (by decide +kernel) rfl) <|
  fc (ok_gf mk_X1_fitting (fo_RX1_11 rfl) rfl (by decide +kernel)) <|
  fc (ok_ild (by decide +kernel)) <|
  fc (ok_iald (by decide +kernel)) <|
  fc (ok_aldn (q := 0) (by decide +kernel) rfl) <|
  fc (ok_gf mk_X1_fitting (fo_RX1_15 rfl) rfl (by decide +kernel)) <|
  fc (ok_ild (by decide +kernel)) <|
  fc (ok_iald (by decide +kernel)) <|
  fc (ok_cs mk_X1_fitting mk_X1_isSo ⟨uw1055, uw1056, uw44, by decide +kernel⟩ (by decide +kernel)) <|
  fc (ok_ist (by decide +kernel) (by decide)) <|
  fc (ok_iinc (n := 1) (by decide +kernel) (by decide +kernel) (by decide)) <|
  fc (ok_goto (off := -47) (by decide +kernel) (by decide)) <|
  fc (ok_ild (by decide +kernel)) <|
  fc (ok_ifeq (off := 10) (by decide +kernel) (by decide)) <|
  fc (ok_ildn (q := 3) (by decide +kernel) rfl) <|
  fc (ok_iconst (n := 1) (by decide +kernel) (by decide +kernel)) <|
  fc (ok_ild (by decide +kernel)) <|
  fc (ok_ishl (by decide +kernel)) <|
  fc (ok_ior (by decide +kernel)) <|
  fc (ok_istn (q := 3) (by decide +kernel) rfl (by decide)) <|
  fc (ok_iinc (n := 1) (by decide +kernel) (by decide +kernel) (by decide)) <|
  fc (ok_goto (off := -80) (by decide +kernel) (by decide)) <|
  fc (ok_ildn (q := 3) (by decide +kernel) rfl) <|
  fc (ok_iret rfl (by decide +kernel)) <| fn
def T_X1_isSo : List (Nat × Op) := [(0, op_ild 3 1), (1, op_sw 135 [(0, 36), (1, 53), (2, 70), (3, 87), (4, 109)]), (36, op_ald 0 1), (37, op_gf 2 3 4), (40, op_ild 2 1), (41, op_iald), (42, op_ild 4 2), (44, op_icne 51), (47, op_ic 1 1), (48, op_goto 52), (51, op_ic 0 1), (52, op_zret), (53, op_ald 0 1), (54, op_gf 2 4 5), (57, op_ild 2 1), (58, op_iald), (59, op_ild 4 2), (61, op_iclt 68), (64, op_ic 1 1), (65, op_goto 69), (68, op_ic 0 1), (69, op_zret), (70, op_ald 0 1), (71, op_gf 2 2 3), (74, op_ild 2 1), (75, op_iald), (76, op_ild 4 2), (78, op_iclt 85), (81, op_ic 1 1), (82, op_goto 86), (85, op_ic 0 1), (86, op_zret), (87, op_ald 0 1), (88, op_gf 2 0 1), (91, op_ald 0 1), (92, op_gf 2 3 4), (95, op_ild 2 1), (96, op_iald), (97, op_iald), (98, op_ild 4 2), (100, op_icne 107), (103, op_ic 1 1), (104, op_goto 108), (107, op_ic 0 1), (108, op_zret), (109, op_ald 0 1), (110, op_ild 4 2), (112, op_cv M_X2_has 2 1), (115, op_ifeq 133), (118, op_ald 0 1), (119, op_ald 1 1), (120, op_ild 4 2), (122, op_ild 2 1), (123, op_cv M_X2_can 2 3), (126, op_ifeq 133), (129, op_ic 1 1), (130, op_goto 134), (133, op_ic 0 1), (134, op_zret), (135, op_ic 0 1), (136, op_zret)]
set_option maxRecDepth 20000 in
theorem K_X1_isSo : ∀ r ∈ T_X1_isSo, OpOK M_X1_isSo r.1 r.2 :=
  fc (ok_ildn (q := 3) (by decide +kernel) rfl) <|
  fc (ok_tsw (dflt := 134) (lo := 0) (hi := 4) (offs := #[35, 52, 69, 86, 108]) (len := 35) (by decide +kernel) (by decide +kernel) (by decide +kernel) (by decide) (by decide)) <|
  fc (ok_aldn (q := 0) (by decide +kernel) rfl) <|
  fc (ok_gf mk_X1_isSo (fo_RX1_26 rfl) rfl (by decide +kernel)) <|
  fc (ok_ildn (q := 2) (by decide +kernel) rfl) <|
  fc (ok_iald (by decide +kernel)) <|
  fc (ok_ild (by decide +kernel)) <|
  fc (ok_icne (off := 7) (by decide +kernel) (by decide)) <|
  fc (ok_iconst (n := 1) (by decide +kernel) (by decide +kernel)) <|
  fc (ok_goto (off := 4) (by decide +kernel) (by decide)) <|
  fc (ok_iconst (n := 0) (by decide +kernel) (by decide +kernel)) <|
  fc (ok_zret rfl (by decide +kernel)) <|
  fc (ok_aldn (q := 0) (by decide +kernel) rfl) <|
  fc (ok_gf mk_X1_isSo (fo_RX1_31 rfl) rfl (by decide +kernel)) <|
  fc (ok_ildn (q := 2) (by decide +kernel) rfl) <|
  fc (ok_iald (by decide +kernel)) <|
  fc (ok_ild (by decide +kernel)) <|
  fc (ok_iclt (off := 7) (by decide +kernel) (by decide)) <|
  fc (ok_iconst (n := 1) (by decide +kernel) (by decide +kernel)) <|
  fc (ok_goto (off := 4) (by decide +kernel) (by decide)) <|
  fc (ok_iconst (n := 0) (by decide +kernel) (by decide +kernel)) <|
  fc (ok_zret rfl (by decide +kernel)) <|
  fc (ok_aldn (q := 0) (by decide +kernel) rfl) <|
  fc (ok_gf mk_X1_isSo (fo_RX1_34 rfl) rfl (by decide +kernel)) <|
  fc (ok_ildn (q := 2) (by decide +kernel) rfl) <|
  fc (ok_iald (by decide +kernel)) <|
  fc (ok_ild (by decide +kernel)) <|
  fc (ok_iclt (off := 7) (by decide +kernel) (by decide)) <|
  fc (ok_iconst (n := 1) (by decide +kernel) (by decide +kernel)) <|
  fc (ok_goto (off := 4) (by decide +kernel) (by decide)) <|
  fc (ok_iconst (n := 0) (by decide +kernel) (by decide +kernel)) <|
  fc (ok_zret rfl (by decide +kernel)) <|
  fc (ok_aldn (q := 0) (by decide +kernel) rfl) <|
  fc (ok_gf mk_X1_isSo (fo_RX1_37 rfl) rfl (by decide +kernel)) <|
  fc (ok_aldn (q := 0) (by decide +kernel) rfl) <|
  fc (ok_gf mk_X1_isSo (fo_RX1_26 rfl) rfl (by decide +kernel)) <|
  fc (ok_ildn (q := 2) (by decide +kernel) rfl) <|
  fc (ok_iald (by decide +kernel)) <|
  fc (ok_iald (by decide +kernel)) <|
  fc (ok_ild (by decide +kernel)) <|
  fc (ok_icne (off := 7) (by decide +kernel) (by decide)) <|
  fc (ok_iconst (n := 1) (by decide +kernel) (by decide +kernel)) <|
  fc (ok_goto (off := 4) (by decide +kernel) (by decide)) <|
  fc (ok_iconst (n := 0) (by decide +kernel) (by decide +kernel)) <|
  fc (ok_zret rfl (by decide +kernel)) <|
  fc (ok_aldn (q := 0) (by decide +kernel) rfl) <|
  fc (ok_ild (by decide +kernel)) <|
  fc (ok_cv mk_X1_isSo mk_X2_has ⟨uw1062, uw397, uw398, uw23, by decide +kernel⟩ (T := TX2) (N := 8) rfl (by decide +kernel)) <|
  fc (ok_ifeq (off := 18) (by decide +kernel) (by decide)) <|
  fc (ok_aldn (q := 0) (by decide +kernel) rfl) <|
  fc (ok_aldn (q := 1) (by decide +kernel) rfl) <|
  fc (ok_ild (by decide +kernel)) <|
  fc (ok_ildn (q := 2) (by decide +kernel) rfl) <|
  fc (ok_cv mk_X1_isSo mk_X2_can ⟨uw1063, uw409, uw410, uw23, by decide +kernel⟩ (T := TX2) (N := 8) rfl (by decide +kernel)) <|
  fc (ok_ifeq (off := 7) (by decide +kernel) (by decide)) <|
  fc (ok_iconst (n := 1) (by decide +kernel) (by decide +kernel)) <|
  fc (ok_goto (off := 4) (by decide +kernel) (by decide)) <|
  fc (ok_iconst (n := 0) (by decide +kernel) (by decide +kernel)) <|
  fc (ok_zret rfl (by decide +kernel)) <|
  fc (ok_iconst (n := 0) (by decide +kernel) (by decide +kernel)) <|
  fc (ok_zret rfl (by decide +kernel)) <| fn
def T_X1_mostLeft : List (Nat × Op) := [(0, op_ic 0 1), (1, op_ist 6 2), (3, op_ic 0 1), (4, op_ist 7 2), (6, op_ild 7 2), (8, op_ald 1 1), (9, op_gi 2 5), (12, op_icge 48), (15, op_ild 3 1), (16, op_ild 7 2), (18, op_ishr), (19, op_ic 1 1), (20, op_iand), (21, op_ic 1 1), (22, op_icne 42), (25, op_ald 1 1), (26, op_ald 2 1), (27, op_ild 7 2), (29, op_ild 4 2), (31, op_ild 5 2), (33, op_cs M_X1_isSo 5), (36, op_ifeq 42), (39, op_iinc 6 1), (42, op_iinc 7 1), (45, op_goto 6), (48, op_ild 6 2), (50, op_ild 3 1), (51, op_cs M_J6_bitCount_0f7a4 1), (54, op_ild 6 2), (56, op_isub), (57, op_max), (60, op_iret)]
set_option maxRecDepth 20000 in
theorem K_X1_mostLeft : ∀ r ∈ T_X1_mostLeft, OpOK M_X1_mostLeft r.1 r.2 :=
  fc (ok_iconst (n := 0) (by decide +kernel) (by decide +kernel)) <|
  fc (ok_ist (by decide +kernel) (by decide)) <|
  fc (ok_iconst (n := 0) (by decide +kernel) (by decide +kernel)) <|
  fc (ok_ist (by decide +kernel) (by decide)) <|
  fc (ok_ild (by decide +kernel)) <|
  fc (ok_aldn (q := 1) (by decide +kernel) rfl) <|
  fc (ok_gi mk_X1_mostLeft (fo_RX1_48 rfl) rfl (by decide +kernel)) <|
  fc (ok_icge (off := 36) (by decide +kernel) (by decide)) <|
  fc (ok_ildn (q := 3) (by decide +kernel) rfl) <|
  fc (ok_ild (by decide +kernel)) <|
  fc (ok_ishr (by decide +kernel)) <|
  fc (ok_iconst (n := 1) (by decide +kernel) (by decide +kernel)) <|
  fc (ok_iand (by decide +kernel)) <|
  fc (ok_iconst (n := 1) (by decide +kernel) (by decide +kernel)) <|
  fc (ok_icne (off := 20) (by decide +kernel) (by decide)) <|
  fc (ok_aldn (q := 1) (by decide +kernel) rfl) <|
  fc (ok_aldn (q := 2) (by decide +kernel) rfl) <|
  fc (ok_ild (by decide +kernel)) <|
  fc (ok_ild (by decide +kernel)) <|
  fc (ok_ild (by decide +kernel)) <|
  fc (ok_cs mk_X1_mostLeft mk_X1_isSo ⟨uw1055, uw1056, uw44, by decide +kernel⟩ (by decide +kernel)) <|
  fc (ok_ifeq (off := 6) (by decide +kernel) (by decide)) <|
  fc (ok_iinc (n := 1) (by decide +kernel) (by decide +kernel) (by decide)) <|
  fc (ok_iinc (n := 1) (by decide +kernel) (by decide +kernel) (by decide)) <|
  fc (ok_goto (off := -39) (by decide +kernel) (by decide)) <|
  fc (ok_ild (by decide +kernel)) <|
  fc (ok_ildn (q := 3) (by decide +kernel) rfl) <|
  fc (ok_cs mk_X1_mostLeft mk_J6_bitCount_0f7a4 ⟨uw1087, uw429, uw430, by decide +kernel⟩ (by decide +kernel)) <|
  fc (ok_ild (by decide +kernel)) <|
  fc (ok_isub (by decide +kernel)) <|
  fc (ok_max mk_X1_mostLeft uw1086 uw506 uw212 uw507 (by decide +kernel)) <|
  fc (ok_iret rfl (by decide +kernel)) <| fn
def T_X7_sees : List (Nat × Op) := [(0, op_ild 1 1), (1, op_iflt 45), (4, op_ild 1 1), (5, op_ic 9 2), (7, op_icgt 45), (10, op_ild 2 1), (11, op_iflt 45), (14, op_ild 2 1), (15, op_ic 9 2), (17, op_icgt 45), (20, op_ild 3 1), (21, op_iflt 45), (24, op_ild 3 1), (25, op_ic 1 1), (26, op_icgt 45), (29, op_ald 0 1), (30, op_gi 7 5), (33, op_iflt 45), (36, op_ald 0 1), (37, op_gi 7 5), (40, op_ic 10 2), (42, op_iclt 47), (45, op_ic 0 1), (46, op_zret), (47, op_ald 0 1), (48, op_gf 7 0 1), (51, op_ald 0 1), (52, op_gi 7 5), (55, op_ild 1 1), (56, op_iast), (57, op_ald 0 1), (58, op_gf 7 1 2), (61, op_ald 0 1), (62, op_gi 7 5), (65, op_ild 2 1), (66, op_iast), (67, op_ald 0 1), (68, op_gf 7 2 3), (71, op_ald 0 1), (72, op_gi 7 5), (75, op_ild 3 1), (76, op_iast), (77, op_ald 0 1), (78, op_dup), (79, op_gi 7 5), (82, op_ic 1 1), (83, op_iadd), (84, op_pi 7 5), (87, op_ic 1 1), (88, op_zret)]
set_option maxRecDepth 20000 in
theorem K_X7_sees : ∀ r ∈ T_X7_sees, OpOK M_X7_sees r.1 r.2 :=
  fc (ok_ildn (q := 1) (by decide +kernel) rfl) <|
  fc (ok_iflt (off := 44) (by decide +kernel) (by decide)) <|
  fc (ok_ildn (q := 1) (by decide +kernel) rfl) <|
  fc (ok_bipush (n := 9) (by decide +kernel) (by decide +kernel)) <|
  fc (ok_icgt (off := 38) (by decide +kernel) (by decide)) <|
  fc (ok_ildn (q := 2) (by decide +kernel) rfl) <|
  fc (ok_iflt (off := 34) (by decide +kernel) (by decide)) <|
  fc (ok_ildn (q := 2) (by decide +kernel) rfl) <|
  fc (ok_bipush (n := 9) (by decide +kernel) (by decide +kernel)) <|
  fc (ok_icgt (off := 28) (by decide +kernel) (by decide)) <|
  fc (ok_ildn (q := 3) (by decide +kernel) rfl) <|
  fc (ok_iflt (off := 24) (by decide +kernel) (by decide)) <|
  fc (ok_ildn (q := 3) (by decide +kernel) rfl) <|
  fc (ok_iconst (n := 1) (by decide +kernel) (by decide +kernel)) <|
  fc (ok_icgt (off := 19) (by decide +kernel) (by decide)) <|
  fc (ok_aldn (q := 0) (by decide +kernel) rfl) <|
  fc (ok_gi mk_X7_sees (fo_RX7_25 rfl) rfl (by decide +kernel)) <|
  fc (ok_iflt (off := 12) (by decide +kernel) (by decide)) <|
  fc (ok_aldn (q := 0) (by decide +kernel) rfl) <|
  fc (ok_gi mk_X7_sees (fo_RX7_25 rfl) rfl (by decide +kernel)) <|
  fc (ok_bipush (n := 10) (by decide +kernel) (by decide +kernel)) <|
  fc (ok_iclt (off := 5) (by decide +kernel) (by decide)) <|
  fc (ok_iconst (n := 0) (by decide +kernel) (by decide +kernel)) <|
  fc (ok_zret rfl (by decide +kernel)) <|
  fc (ok_aldn (q := 0) (by decide +kernel) rfl) <|
  fc (ok_gf mk_X7_sees (fo_RX7_9 rfl) rfl (by decide +kernel)) <|
  fc (ok_aldn (q := 0) (by decide +kernel) rfl) <|
  fc (ok_gi mk_X7_sees (fo_RX7_25 rfl) rfl (by decide +kernel)) <|
  fc (ok_ildn (q := 1) (by decide +kernel) rfl) <|
  fc (ok_iast (by decide +kernel)) <|
  fc (ok_aldn (q := 0) (by decide +kernel) rfl) <|
  fc (ok_gf mk_X7_sees (fo_RX7_13 rfl) rfl (by decide +kernel)) <|
  fc (ok_aldn (q := 0) (by decide +kernel) rfl) <|
  fc (ok_gi mk_X7_sees (fo_RX7_25 rfl) rfl (by decide +kernel)) <|
  fc (ok_ildn (q := 2) (by decide +kernel) rfl) <|
  fc (ok_iast (by decide +kernel)) <|
  fc (ok_aldn (q := 0) (by decide +kernel) rfl) <|
  fc (ok_gf mk_X7_sees (fo_RX7_16 rfl) rfl (by decide +kernel)) <|
  fc (ok_aldn (q := 0) (by decide +kernel) rfl) <|
  fc (ok_gi mk_X7_sees (fo_RX7_25 rfl) rfl (by decide +kernel)) <|
  fc (ok_ildn (q := 3) (by decide +kernel) rfl) <|
  fc (ok_iast (by decide +kernel)) <|
  fc (ok_aldn (q := 0) (by decide +kernel) rfl) <|
  fc (ok_dup (by decide +kernel)) <|
  fc (ok_gi mk_X7_sees (fo_RX7_25 rfl) rfl (by decide +kernel)) <|
  fc (ok_iconst (n := 1) (by decide +kernel) (by decide +kernel)) <|
  fc (ok_iadd (by decide +kernel)) <|
  fc (ok_pi mk_X7_sees (fo_RX7_25 rfl) to_7_5 rfl (by decide +kernel)) <|
  fc (ok_iconst (n := 1) (by decide +kernel) (by decide +kernel)) <|
  fc (ok_zret rfl (by decide +kernel)) <| fn
def T_X7_fitLaws : List (Nat × Op) := [(0, op_ic 0 1), (1, op_ist 1 1), (2, op_ic 0 1), (3, op_ist 2 1), (4, op_ild 2 1), (5, op_ic 16 2), (7, op_icge 142), (10, op_ald 0 1), (11, op_gf 7 3 4), (14, op_ild 2 1), (15, op_ic 0 1), (16, op_iast), (17, op_ald 0 1), (18, op_gf 7 4 5), (21, op_ild 2 1), (22, op_ic 9 2), (24, op_iast), (25, op_ic 0 1), (26, op_ist 3 1), (27, op_ild 3 1), (28, op_ald 0 1), (29, op_gi 7 5), (32, op_icge 114), (35, op_ild 3 1), (36, op_ic 10 2), (38, op_icge 114), (41, op_ild 2 1), (42, op_ald 0 1), (43, op_gf 7 0 1), (46, op_ild 3 1), (47, op_iald), (48, op_ald 0 1), (49, op_gf 7 1 2), (52, op_ild 3 1), (53, op_iald), (54, op_cs M_X7_reach 3), (57, op_ist 4 2), (59, op_ald 0 1), (60, op_gf 7 2 3), (63, op_ild 3 1), (64, op_iald), (65, op_ic 1 1), (66, op_icne 89), (69, op_ald 0 1), (70, op_gf 7 4 5), (73, op_ild 2 1), (74, op_ald 0 1), (75, op_gf 7 4 5), (78, op_ild 2 1), (79, op_iald), (80, op_ild 4 2), (82, op_min), (85, op_iast), (86, op_goto 108), (89, op_ald 0 1), (90, op_gf 7 3 4), (93, op_ild 2 1), (94, op_ald 0 1), (95, op_gf 7 3 4), (98, op_ild 2 1), (99, op_iald), (100, op_ild 4 2), (102, op_ic 1 1), (103, op_iadd), (104, op_max), (107, op_iast), (108, op_iinc 3 1), (111, op_goto 27), (114, op_ild 1 1), (115, op_ic 0 1), (116, op_ald 0 1), (117, op_gf 7 4 5), (120, op_ild 2 1), (121, op_iald), (122, op_ald 0 1), (123, op_gf 7 3 4), (126, op_ild 2 1), (127, op_iald), (128, op_isub), (129, op_ic 1 1), (130, op_iadd), (131, op_max), (134, op_iadd), (135, op_ist 1 1), (136, op_iinc 2 1), (139, op_goto 4), (142, op_ild 1 1), (143, op_iret)]
set_option maxRecDepth 20000 in
theorem K_X7_fitLaws : ∀ r ∈ T_X7_fitLaws, OpOK M_X7_fitLaws r.1 r.2 :=
  fc (ok_iconst (n := 0) (by decide +kernel) (by decide +kernel)) <|
  fc (ok_istn (q := 1) (by decide +kernel) rfl (by decide)) <|
  fc (ok_iconst (n := 0) (by decide +kernel) (by decide +kernel)) <|
  fc (ok_istn (q := 2) (by decide +kernel) rfl (by decide)) <|
  fc (ok_ildn (q := 2) (by decide +kernel) rfl) <|
  fc (ok_bipush (n := 16) (by decide +kernel) (by decide +kernel)) <|
  fc (ok_icge (off := 135) (by decide +kernel) (by decide)) <|
  fc (ok_aldn (q := 0) (by decide +kernel) rfl) <|
  fc (ok_gf mk_X7_fitLaws (fo_RX7_19 rfl) rfl (by decide +kernel)) <|
  fc (ok_ildn (q := 2) (by decide +kernel) rfl) <|
  fc (ok_iconst (n := 0) (by decide +kernel) (by decide +kernel)) <|
  fc (ok_iast (by decide +kernel)) <|
  fc (ok_aldn (q := 0) (by decide +kernel) rfl) <|
  fc (ok_gf mk_X7_fitLaws (fo_RX7_22 rfl) rfl (by decide +kernel)) <|
  fc (ok_ildn (q := 2) (by decide +kernel) rfl) <|
  fc (ok_bipush (n := 9) (by decide +kernel) (by decide +kernel)) <|
  fc (ok_iast (by decide +kernel)) <|
  fc (ok_iconst (n := 0) (by decide +kernel) (by decide +kernel)) <|
  fc (ok_istn (q := 3) (by decide +kernel) rfl (by decide)) <|
  fc (ok_ildn (q := 3) (by decide +kernel) rfl) <|
  fc (ok_aldn (q := 0) (by decide +kernel) rfl) <|
  fc (ok_gi mk_X7_fitLaws (fo_RX7_25 rfl) rfl (by decide +kernel)) <|
  fc (ok_icge (off := 82) (by decide +kernel) (by decide)) <|
  fc (ok_ildn (q := 3) (by decide +kernel) rfl) <|
  fc (ok_bipush (n := 10) (by decide +kernel) (by decide +kernel)) <|
  fc (ok_icge (off := 76) (by decide +kernel) (by decide)) <|
  fc (ok_ildn (q := 2) (by decide +kernel) rfl) <|
  fc (ok_aldn (q := 0) (by decide +kernel) rfl) <|
  fc (ok_gf mk_X7_fitLaws (fo_RX7_9 rfl) rfl (by decide +kernel)) <|
  fc (ok_ildn (q := 3) (by decide +kernel) rfl) <|
  fc (ok_iald (by decide +kernel)) <|
  fc (ok_aldn (q := 0) (by decide +kernel) rfl) <|
  fc (ok_gf mk_X7_fitLaws (fo_RX7_13 rfl) rfl (by decide +kernel)) <|
  fc (ok_ildn (q := 3) (by decide +kernel) rfl) <|
  fc (ok_iald (by decide +kernel)) <|
  fc (ok_cs mk_X7_fitLaws mk_X7_reach ⟨uw1126, uw1127, uw48, by decide +kernel⟩ (by decide +kernel)) <|
  fc (ok_ist (by decide +kernel) (by decide)) <|
  fc (ok_aldn (q := 0) (by decide +kernel) rfl) <|
  fc (ok_gf mk_X7_fitLaws (fo_RX7_16 rfl) rfl (by decide +kernel)) <|
  fc (ok_ildn (q := 3) (by decide +kernel) rfl) <|
  fc (ok_iald (by decide +kernel)) <|
  fc (ok_iconst (n := 1) (by decide +kernel) (by decide +kernel)) <|
  fc (ok_icne (off := 23) (by decide +kernel) (by decide)) <|
  fc (ok_aldn (q := 0) (by decide +kernel) rfl) <|
  fc (ok_gf mk_X7_fitLaws (fo_RX7_22 rfl) rfl (by decide +kernel)) <|
  fc (ok_ildn (q := 2) (by decide +kernel) rfl) <|
  fc (ok_aldn (q := 0) (by decide +kernel) rfl) <|
  fc (ok_gf mk_X7_fitLaws (fo_RX7_22 rfl) rfl (by decide +kernel)) <|
  fc (ok_ildn (q := 2) (by decide +kernel) rfl) <|
  fc (ok_iald (by decide +kernel)) <|
  fc (ok_ild (by decide +kernel)) <|
  fc (ok_min mk_X7_fitLaws uw1124 uw211 uw212 uw213 (by decide +kernel)) <|
  fc (ok_iast (by decide +kernel)) <|
  fc (ok_goto (off := 22) (by decide +kernel) (by decide)) <|
  fc (ok_aldn (q := 0) (by decide +kernel) rfl) <|
  fc (ok_gf mk_X7_fitLaws (fo_RX7_19 rfl) rfl (by decide +kernel)) <|
  fc (ok_ildn (q := 2) (by decide +kernel) rfl) <|
  fc (ok_aldn (q := 0) (by decide +kernel) rfl) <|
  fc (ok_gf mk_X7_fitLaws (fo_RX7_19 rfl) rfl (by decide +kernel)) <|
  fc (ok_ildn (q := 2) (by decide +kernel) rfl) <|
  fc (ok_iald (by decide +kernel)) <|
  fc (ok_ild (by decide +kernel)) <|
  fc (ok_iconst (n := 1) (by decide +kernel) (by decide +kernel)) <|
  fc (ok_iadd (by decide +kernel)) <|
  fc (ok_max mk_X7_fitLaws uw1125 uw506 uw212 uw507 (by decide +kernel)) <|
  fc (ok_iast (by decide +kernel)) <|
  fc (ok_iinc (n := 1) (by decide +kernel) (by decide +kernel) (by decide)) <|
  fc (ok_goto (off := -84) (by decide +kernel) (by decide)) <|
  fc (ok_ildn (q := 1) (by decide +kernel) rfl) <|
  fc (ok_iconst (n := 0) (by decide +kernel) (by decide +kernel)) <|
  fc (ok_aldn (q := 0) (by decide +kernel) rfl) <|
  fc (ok_gf mk_X7_fitLaws (fo_RX7_22 rfl) rfl (by decide +kernel)) <|
  fc (ok_ildn (q := 2) (by decide +kernel) rfl) <|
  fc (ok_iald (by decide +kernel)) <|
  fc (ok_aldn (q := 0) (by decide +kernel) rfl) <|
  fc (ok_gf mk_X7_fitLaws (fo_RX7_19 rfl) rfl (by decide +kernel)) <|
  fc (ok_ildn (q := 2) (by decide +kernel) rfl) <|
  fc (ok_iald (by decide +kernel)) <|
  fc (ok_isub (by decide +kernel)) <|
  fc (ok_iconst (n := 1) (by decide +kernel) (by decide +kernel)) <|
  fc (ok_iadd (by decide +kernel)) <|
  fc (ok_max mk_X7_fitLaws uw1125 uw506 uw212 uw507 (by decide +kernel)) <|
  fc (ok_iadd (by decide +kernel)) <|
  fc (ok_istn (q := 1) (by decide +kernel) rfl (by decide)) <|
  fc (ok_iinc (n := 1) (by decide +kernel) (by decide +kernel) (by decide)) <|
  fc (ok_goto (off := -135) (by decide +kernel) (by decide)) <|
  fc (ok_ildn (q := 1) (by decide +kernel) rfl) <|
  fc (ok_iret rfl (by decide +kernel)) <| fn
def T_X7_reach : List (Nat × Op) := [(0, op_ild 0 1), (1, op_ic 4 1), (2, op_idiv), (3, op_ild 1 1), (4, op_imul), (5, op_ild 0 1), (6, op_ic 4 1), (7, op_irem), (8, op_ild 2 1), (9, op_imul), (10, op_isub), (11, op_iret)]
set_option maxRecDepth 20000 in
theorem K_X7_reach : ∀ r ∈ T_X7_reach, OpOK M_X7_reach r.1 r.2 :=
  fc (ok_ildn (q := 0) (by decide +kernel) rfl) <|
  fc (ok_iconst (n := 4) (by decide +kernel) (by decide +kernel)) <|
  fc (ok_idiv (by decide +kernel)) <|
  fc (ok_ildn (q := 1) (by decide +kernel) rfl) <|
  fc (ok_imul (by decide +kernel)) <|
  fc (ok_ildn (q := 0) (by decide +kernel) rfl) <|
  fc (ok_iconst (n := 4) (by decide +kernel) (by decide +kernel)) <|
  fc (ok_irem (by decide +kernel)) <|
  fc (ok_ildn (q := 2) (by decide +kernel) rfl) <|
  fc (ok_imul (by decide +kernel)) <|
  fc (ok_isub (by decide +kernel)) <|
  fc (ok_iret rfl (by decide +kernel)) <| fn
def T_X7_leastPair : List (Nat × Op) := [(0, op_ic 0 1), (1, op_ist 1 1), (2, op_ild 1 1), (3, op_ic 16 2), (5, op_icge 31), (8, op_ald 0 1), (9, op_gf 7 3 4), (12, op_ild 1 1), (13, op_iald), (14, op_ald 0 1), (15, op_gf 7 4 5), (18, op_ild 1 1), (19, op_iald), (20, op_icgt 25), (23, op_ild 1 1), (24, op_iret), (25, op_iinc 1 1), (28, op_goto 2), (31, op_ic (-1) 1), (32, op_iret)]
set_option maxRecDepth 20000 in
theorem K_X7_leastPair : ∀ r ∈ T_X7_leastPair, OpOK M_X7_leastPair r.1 r.2 :=
  fc (ok_iconst (n := 0) (by decide +kernel) (by decide +kernel)) <|
  fc (ok_istn (q := 1) (by decide +kernel) rfl (by decide)) <|
  fc (ok_ildn (q := 1) (by decide +kernel) rfl) <|
  fc (ok_bipush (n := 16) (by decide +kernel) (by decide +kernel)) <|
  fc (ok_icge (off := 26) (by decide +kernel) (by decide)) <|
  fc (ok_aldn (q := 0) (by decide +kernel) rfl) <|
  fc (ok_gf mk_X7_leastPair (fo_RX7_19 rfl) rfl (by decide +kernel)) <|
  fc (ok_ildn (q := 1) (by decide +kernel) rfl) <|
  fc (ok_iald (by decide +kernel)) <|
  fc (ok_aldn (q := 0) (by decide +kernel) rfl) <|
  fc (ok_gf mk_X7_leastPair (fo_RX7_22 rfl) rfl (by decide +kernel)) <|
  fc (ok_ildn (q := 1) (by decide +kernel) rfl) <|
  fc (ok_iald (by decide +kernel)) <|
  fc (ok_icgt (off := 5) (by decide +kernel) (by decide)) <|
  fc (ok_ildn (q := 1) (by decide +kernel) rfl) <|
  fc (ok_iret rfl (by decide +kernel)) <|
  fc (ok_iinc (n := 1) (by decide +kernel) (by decide +kernel) (by decide)) <|
  fc (ok_goto (off := -26) (by decide +kernel) (by decide)) <|
  fc (ok_iconst (n := -1) (by decide +kernel) (by decide +kernel)) <|
  fc (ok_iret rfl (by decide +kernel)) <| fn
def T_X7_lawsThatHear : List (Nat × Op) := [(0, op_ic 0 1), (1, op_ist 3 1), (2, op_ic 0 1), (3, op_ist 4 2), (5, op_ild 4 2), (7, op_ic 16 2), (9, op_icge 56), (12, op_ald 0 1), (13, op_gf 7 4 5), (16, op_ild 4 2), (18, op_iald), (19, op_ild 4 2), (21, op_ild 1 1), (22, op_ild 2 1), (23, op_cs M_X7_reach 3), (26, op_min), (29, op_ist 5 2), (31, op_ild 3 1), (32, op_ic 0 1), (33, op_ild 5 2), (35, op_ald 0 1), (36, op_gf 7 3 4), (39, op_ild 4 2), (41, op_iald), (42, op_isub), (43, op_ic 1 1), (44, op_iadd), (45, op_max), (48, op_iadd), (49, op_ist 3 1), (50, op_iinc 4 1), (53, op_goto 5), (56, op_ild 3 1), (57, op_iret)]
set_option maxRecDepth 20000 in
theorem K_X7_lawsThatHear : ∀ r ∈ T_X7_lawsThatHear, OpOK M_X7_lawsThatHear r.1 r.2 :=
  fc (ok_iconst (n := 0) (by decide +kernel) (by decide +kernel)) <|
  fc (ok_istn (q := 3) (by decide +kernel) rfl (by decide)) <|
  fc (ok_iconst (n := 0) (by decide +kernel) (by decide +kernel)) <|
  fc (ok_ist (by decide +kernel) (by decide)) <|
  fc (ok_ild (by decide +kernel)) <|
  fc (ok_bipush (n := 16) (by decide +kernel) (by decide +kernel)) <|
  fc (ok_icge (off := 47) (by decide +kernel) (by decide)) <|
  fc (ok_aldn (q := 0) (by decide +kernel) rfl) <|
  fc (ok_gf mk_X7_lawsThatHear (fo_RX7_22 rfl) rfl (by decide +kernel)) <|
  fc (ok_ild (by decide +kernel)) <|
  fc (ok_iald (by decide +kernel)) <|
  fc (ok_ild (by decide +kernel)) <|
  fc (ok_ildn (q := 1) (by decide +kernel) rfl) <|
  fc (ok_ildn (q := 2) (by decide +kernel) rfl) <|
  fc (ok_cs mk_X7_lawsThatHear mk_X7_reach ⟨uw1126, uw1127, uw48, by decide +kernel⟩ (by decide +kernel)) <|
  fc (ok_min mk_X7_lawsThatHear uw1124 uw211 uw212 uw213 (by decide +kernel)) <|
  fc (ok_ist (by decide +kernel) (by decide)) <|
  fc (ok_ildn (q := 3) (by decide +kernel) rfl) <|
  fc (ok_iconst (n := 0) (by decide +kernel) (by decide +kernel)) <|
  fc (ok_ild (by decide +kernel)) <|
  fc (ok_aldn (q := 0) (by decide +kernel) rfl) <|
  fc (ok_gf mk_X7_lawsThatHear (fo_RX7_19 rfl) rfl (by decide +kernel)) <|
  fc (ok_ild (by decide +kernel)) <|
  fc (ok_iald (by decide +kernel)) <|
  fc (ok_isub (by decide +kernel)) <|
  fc (ok_iconst (n := 1) (by decide +kernel) (by decide +kernel)) <|
  fc (ok_iadd (by decide +kernel)) <|
  fc (ok_max mk_X7_lawsThatHear uw1125 uw506 uw212 uw507 (by decide +kernel)) <|
  fc (ok_iadd (by decide +kernel)) <|
  fc (ok_istn (q := 3) (by decide +kernel) rfl (by decide)) <|
  fc (ok_iinc (n := 1) (by decide +kernel) (by decide +kernel) (by decide)) <|
  fc (ok_goto (off := -48) (by decide +kernel) (by decide)) <|
  fc (ok_ildn (q := 3) (by decide +kernel) rfl) <|
  fc (ok_iret rfl (by decide +kernel)) <| fn
def T_X4_walked : List (Nat × Op) := [(0, op_ic 0 1), (1, op_ist 5 2), (3, op_ild 5 2), (5, op_ic 10 2), (7, op_icge 34), (10, op_ald 0 1), (11, op_gf 4 0 1), (14, op_ild 5 2), (16, op_ild 5 2), (18, op_ild 1 1), (19, op_icne 26), (22, op_lc 1 1), (23, op_goto 27), (26, op_lc 0 1), (27, op_last), (28, op_iinc 5 1), (31, op_goto 3), (34, op_ic 0 1), (35, op_ist 5 2), (37, op_ild 5 2), (39, op_ild 2 1), (40, op_icge 160), (43, op_ic 0 1), (44, op_ist 6 2), (46, op_ild 6 2), (48, op_ic 10 2), (50, op_icge 67), (53, op_ald 0 1), (54, op_gf 4 1 2), (57, op_ild 6 2), (59, op_lc 0 1), (60, op_last), (61, op_iinc 6 1), (64, op_goto 46), (67, op_ic 0 1), (68, op_ist 6 2), (70, op_ild 6 2), (72, op_ic 10 2), (74, op_icge 139), (77, op_ald 0 1), (78, op_gf 4 1 2), (81, op_ic 9 2), (83, op_ild 6 2), (85, op_ic 1 1), (86, op_iadd), (87, op_min), (90, op_dup2), (91, op_lald), (92, op_ald 0 1), (93, op_gf 4 0 1), (96, op_ild 6 2), (98, op_lald), (99, op_ild 3 1), (100, op_i2l), (101, op_lmul), (102, op_ladd), (103, op_last), (104, op_ald 0 1), (105, op_gf 4 1 2), (108, op_ic 0 1), (109, op_ild 6 2), (111, op_ic 1 1), (112, op_isub), (113, op_max), (116, op_dup2), (117, op_lald), (118, op_ald 0 1), (119, op_gf 4 0 1), (122, op_ild 6 2), (124, op_lald), (125, op_ic 10 2), (127, op_ild 3 1), (128, op_isub), (129, op_i2l), (130, op_lmul), (131, op_ladd), (132, op_last), (133, op_iinc 6 1), (136, op_goto 70), (139, op_ald 0 1), (140, op_gf 4 1 2), (143, op_ic 0 1), (144, op_ald 0 1), (145, op_gf 4 0 1), (148, op_ic 0 1), (149, op_ic 10 2), (151, op_cpl), (154, op_iinc 5 1), (157, op_goto 37), (160, op_ild 4 2), (162, op_iflt 182), (165, op_ild 4 2), (167, op_ic 10 2), (169, op_icge 182), (172, op_ald 0 1), (173, op_gf 4 0 1), (176, op_ild 4 2), (178, op_lald), (179, op_goto 183), (182, op_lc 0 1), (183, op_lret)]
set_option maxRecDepth 20000 in
theorem K_X4_walked : ∀ r ∈ T_X4_walked, OpOK M_X4_walked r.1 r.2 :=
  fc (ok_iconst (n := 0) (by decide +kernel) (by decide +kernel)) <|
  fc (ok_ist (by decide +kernel) (by decide)) <|
  fc (ok_ild (by decide +kernel)) <|
  fc (ok_bipush (n := 10) (by decide +kernel) (by decide +kernel)) <|
  fc (ok_icge (off := 27) (by decide +kernel) (by decide)) <|
  fc (ok_aldn (q := 0) (by decide +kernel) rfl) <|
  fc (ok_gf mk_X4_walked (fo_RX4_9 rfl) rfl (by decide +kernel)) <|
  fc (ok_ild (by decide +kernel)) <|
  fc (ok_ild (by decide +kernel)) <|
  fc (ok_ildn (q := 1) (by decide +kernel) rfl) <|
  fc (ok_icne (off := 7) (by decide +kernel) (by decide)) <|
  fc (ok_lconst (n := 1) (by decide +kernel) rfl) <|
  fc (ok_goto (off := 4) (by decide +kernel) (by decide)) <|
  fc (ok_lconst (n := 0) (by decide +kernel) rfl) <|
  fc (ok_last (by decide +kernel)) <|
  fc (ok_iinc (n := 1) (by decide +kernel) (by decide +kernel) (by decide)) <|
  fc (ok_goto (off := -28) (by decide +kernel) (by decide)) <|
  fc (ok_iconst (n := 0) (by decide +kernel) (by decide +kernel)) <|
  fc (ok_ist (by decide +kernel) (by decide)) <|
  fc (ok_ild (by decide +kernel)) <|
  fc (ok_ildn (q := 2) (by decide +kernel) rfl) <|
  fc (ok_icge (off := 120) (by decide +kernel) (by decide)) <|
  fc (ok_iconst (n := 0) (by decide +kernel) (by decide +kernel)) <|
  fc (ok_ist (by decide +kernel) (by decide)) <|
  fc (ok_ild (by decide +kernel)) <|
  fc (ok_bipush (n := 10) (by decide +kernel) (by decide +kernel)) <|
  fc (ok_icge (off := 17) (by decide +kernel) (by decide)) <|
  fc (ok_aldn (q := 0) (by decide +kernel) rfl) <|
  fc (ok_gf mk_X4_walked (fo_RX4_15 rfl) rfl (by decide +kernel)) <|
  fc (ok_ild (by decide +kernel)) <|
  fc (ok_lconst (n := 0) (by decide +kernel) rfl) <|
  fc (ok_last (by decide +kernel)) <|
  fc (ok_iinc (n := 1) (by decide +kernel) (by decide +kernel) (by decide)) <|
  fc (ok_goto (off := -18) (by decide +kernel) (by decide)) <|
  fc (ok_iconst (n := 0) (by decide +kernel) (by decide +kernel)) <|
  fc (ok_ist (by decide +kernel) (by decide)) <|
  fc (ok_ild (by decide +kernel)) <|
  fc (ok_bipush (n := 10) (by decide +kernel) (by decide +kernel)) <|
  fc (ok_icge (off := 65) (by decide +kernel) (by decide)) <|
  fc (ok_aldn (q := 0) (by decide +kernel) rfl) <|
  fc (ok_gf mk_X4_walked (fo_RX4_15 rfl) rfl (by decide +kernel)) <|
  fc (ok_bipush (n := 9) (by decide +kernel) (by decide +kernel)) <|
  fc (ok_ild (by decide +kernel)) <|
  fc (ok_iconst (n := 1) (by decide +kernel) (by decide +kernel)) <|
  fc (ok_iadd (by decide +kernel)) <|
  fc (ok_min mk_X4_walked uw1165 uw211 uw212 uw213 (by decide +kernel)) <|
  fc (ok_dup2 (by decide +kernel)) <|
  fc (ok_lald (by decide +kernel)) <|
  fc (ok_aldn (q := 0) (by decide +kernel) rfl) <|
  fc (ok_gf mk_X4_walked (fo_RX4_9 rfl) rfl (by decide +kernel)) <|
  fc (ok_ild (by decide +kernel)) <|
  fc (ok_lald (by decide +kernel)) <|
  fc (ok_ildn (q := 3) (by decide +kernel) rfl) <|
  fc (ok_i2l (by decide +kernel)) <|
  fc (ok_lmul (by decide +kernel)) <|
  fc (ok_ladd (by decide +kernel)) <|
  fc (ok_last (by decide +kernel)) <|
  fc (ok_aldn (q := 0) (by decide +kernel) rfl) <|
  fc (ok_gf mk_X4_walked (fo_RX4_15 rfl) rfl (by decide +kernel)) <|
  fc (ok_iconst (n := 0) (by decide +kernel) (by decide +kernel)) <|
  fc (ok_ild (by decide +kernel)) <|
  fc (ok_iconst (n := 1) (by decide +kernel) (by decide +kernel)) <|
  fc (ok_isub (by decide +kernel)) <|
  fc (ok_max mk_X4_walked uw1166 uw506 uw212 uw507 (by decide +kernel)) <|
  fc (ok_dup2 (by decide +kernel)) <|
  fc (ok_lald (by decide +kernel)) <|
  fc (ok_aldn (q := 0) (by decide +kernel) rfl) <|
  fc (ok_gf mk_X4_walked (fo_RX4_9 rfl) rfl (by decide +kernel)) <|
  fc (ok_ild (by decide +kernel)) <|
  fc (ok_lald (by decide +kernel)) <|
  fc (ok_bipush (n := 10) (by decide +kernel) (by decide +kernel)) <|
  fc (ok_ildn (q := 3) (by decide +kernel) rfl) <|
  fc (ok_isub (by decide +kernel)) <|
  fc (ok_i2l (by decide +kernel)) <|
  fc (ok_lmul (by decide +kernel)) <|
  fc (ok_ladd (by decide +kernel)) <|
  fc (ok_last (by decide +kernel)) <|
  fc (ok_iinc (n := 1) (by decide +kernel) (by decide +kernel) (by decide)) <|
  fc (ok_goto (off := -66) (by decide +kernel) (by decide)) <|
  fc (ok_aldn (q := 0) (by decide +kernel) rfl) <|
  fc (ok_gf mk_X4_walked (fo_RX4_15 rfl) rfl (by decide +kernel)) <|
  fc (ok_iconst (n := 0) (by decide +kernel) (by decide +kernel)) <|
  fc (ok_aldn (q := 0) (by decide +kernel) rfl) <|
  fc (ok_gf mk_X4_walked (fo_RX4_9 rfl) rfl (by decide +kernel)) <|
  fc (ok_iconst (n := 0) (by decide +kernel) (by decide +kernel)) <|
  fc (ok_bipush (n := 10) (by decide +kernel) (by decide +kernel)) <|
  fc (ok_cpl mk_X4_walked uw1167 uw540 uw541 uw542 (by decide +kernel)) <|
  fc (ok_iinc (n := 1) (by decide +kernel) (by decide +kernel) (by decide)) <|
  fc (ok_goto (off := -120) (by decide +kernel) (by decide)) <|
  fc (ok_ild (by decide +kernel)) <|
  fc (ok_iflt (off := 20) (by decide +kernel) (by decide)) <|
  fc (ok_ild (by decide +kernel)) <|
  fc (ok_bipush (n := 10) (by decide +kernel) (by decide +kernel)) <|
  fc (ok_icge (off := 13) (by decide +kernel) (by decide)) <|
  fc (ok_aldn (q := 0) (by decide +kernel) rfl) <|
  fc (ok_gf mk_X4_walked (fo_RX4_9 rfl) rfl (by decide +kernel)) <|
  fc (ok_ild (by decide +kernel)) <|
  fc (ok_lald (by decide +kernel)) <|
  fc (ok_goto (off := 4) (by decide +kernel) (by decide)) <|
  fc (ok_lconst (n := 0) (by decide +kernel) rfl) <|
  fc (ok_lret rfl (by decide +kernel)) <| fn
def T_X4_readiesHush : List (Nat × Op) := [(0, op_ald 0 1), (1, op_gi 4 3), (4, op_ifeq 8), (7, op_vret), (8, op_ic 0 1), (9, op_ist 1 1), (10, op_ild 1 1), (11, op_ic 20 2), (13, op_icgt 96), (16, op_ic 0 1), (17, op_ist 2 1), (18, op_ild 2 1), (19, op_ic 20 2), (21, op_icgt 90), (24, op_ild 1 1), (25, op_ifeq 32), (28, op_ild 2 1), (29, op_ifne 36), (32, op_ic 1 1), (33, op_goto 37), (36, op_ic 0 1), (37, op_ist 3 1), (38, op_ild 3 1), (39, op_ifne 60), (42, op_ald 0 1), (43, op_ild 1 1), (44, op_ild 2 1), (45, op_cv M_X4_winningTake 4 2), (48, op_ifgt 60), (51, op_ald 0 1), (52, op_ild 2 1), (53, op_ild 1 1), (54, op_cv M_X4_winningTake 4 2), (57, op_ifle 84), (60, op_ald 0 1), (61, op_gf 4 2 3), (64, op_ild 1 1), (65, op_dup2), (66, op_iald), (67, op_ic 1 1), (68, op_ild 2 1), (69, op_ishl), (70, op_ior), (71, op_iast), (72, op_ald 0 1), (73, op_gf 4 2 3), (76, op_ild 2 1), (77, op_dup2), (78, op_iald), (79, op_ic 1 1), (80, op_ild 1 1), (81, op_ishl), (82, op_ior), (83, op_iast), (84, op_iinc 2 1), (87, op_goto 18), (90, op_iinc 1 1), (93, op_goto 10), (96, op_ald 0 1), (97, op_ic 1 1), (98, op_pz 4 3), (101, op_vret)]
set_option maxRecDepth 20000 in
theorem K_X4_readiesHush : ∀ r ∈ T_X4_readiesHush, OpOK M_X4_readiesHush r.1 r.2 :=
  fc (ok_aldn (q := 0) (by decide +kernel) rfl) <|
  fc (ok_gi mk_X4_readiesHush (fo_RX4_40 rfl) rfl (by decide +kernel)) <|
  fc (ok_ifeq (off := 4) (by decide +kernel) (by decide)) <|
  fc (ok_vret rfl (by decide +kernel)) <|
  fc (ok_iconst (n := 0) (by decide +kernel) (by decide +kernel)) <|
  fc (ok_istn (q := 1) (by decide +kernel) rfl (by decide)) <|
  fc (ok_ildn (q := 1) (by decide +kernel) rfl) <|
  fc (ok_bipush (n := 20) (by decide +kernel) (by decide +kernel)) <|
  fc (ok_icgt (off := 83) (by decide +kernel) (by decide)) <|
  fc (ok_iconst (n := 0) (by decide +kernel) (by decide +kernel)) <|
  fc (ok_istn (q := 2) (by decide +kernel) rfl (by decide)) <|
  fc (ok_ildn (q := 2) (by decide +kernel) rfl) <|
  fc (ok_bipush (n := 20) (by decide +kernel) (by decide +kernel)) <|
  fc (ok_icgt (off := 69) (by decide +kernel) (by decide)) <|
  fc (ok_ildn (q := 1) (by decide +kernel) rfl) <|
  fc (ok_ifeq (off := 7) (by decide +kernel) (by decide)) <|
  fc (ok_ildn (q := 2) (by decide +kernel) rfl) <|
  fc (ok_ifne (off := 7) (by decide +kernel) (by decide)) <|
  fc (ok_iconst (n := 1) (by decide +kernel) (by decide +kernel)) <|
  fc (ok_goto (off := 4) (by decide +kernel) (by decide)) <|
  fc (ok_iconst (n := 0) (by decide +kernel) (by decide +kernel)) <|
  fc (ok_istn (q := 3) (by decide +kernel) rfl (by decide)) <|
  fc (ok_ildn (q := 3) (by decide +kernel) rfl) <|
  fc (ok_ifne (off := 21) (by decide +kernel) (by decide)) <|
  fc (ok_aldn (q := 0) (by decide +kernel) rfl) <|
  fc (ok_ildn (q := 1) (by decide +kernel) rfl) <|
  fc (ok_ildn (q := 2) (by decide +kernel) rfl) <|
  fc (ok_cv mk_X4_readiesHush mk_X4_winningTake ⟨uw1188, uw1189, uw1190, uw52, by decide +kernel⟩ (T := TX4) (N := 6) rfl (by decide +kernel)) <|
  fc (ok_ifgt (off := 12) (by decide +kernel) (by decide)) <|
  fc (ok_aldn (q := 0) (by decide +kernel) rfl) <|
  fc (ok_ildn (q := 2) (by decide +kernel) rfl) <|
  fc (ok_ildn (q := 1) (by decide +kernel) rfl) <|
  fc (ok_cv mk_X4_readiesHush mk_X4_winningTake ⟨uw1188, uw1189, uw1190, uw52, by decide +kernel⟩ (T := TX4) (N := 6) rfl (by decide +kernel)) <|
  fc (ok_ifle (off := 27) (by decide +kernel) (by decide)) <|
  fc (ok_aldn (q := 0) (by decide +kernel) rfl) <|
  fc (ok_gf mk_X4_readiesHush (fo_RX4_18 rfl) rfl (by decide +kernel)) <|
  fc (ok_ildn (q := 1) (by decide +kernel) rfl) <|
  fc (ok_dup2 (by decide +kernel)) <|
  fc (ok_iald (by decide +kernel)) <|
  fc (ok_iconst (n := 1) (by decide +kernel) (by decide +kernel)) <|
  fc (ok_ildn (q := 2) (by decide +kernel) rfl) <|
  fc (ok_ishl (by decide +kernel)) <|
  fc (ok_ior (by decide +kernel)) <|
  fc (ok_iast (by decide +kernel)) <|
  fc (ok_aldn (q := 0) (by decide +kernel) rfl) <|
  fc (ok_gf mk_X4_readiesHush (fo_RX4_18 rfl) rfl (by decide +kernel)) <|
  fc (ok_ildn (q := 2) (by decide +kernel) rfl) <|
  fc (ok_dup2 (by decide +kernel)) <|
  fc (ok_iald (by decide +kernel)) <|
  fc (ok_iconst (n := 1) (by decide +kernel) (by decide +kernel)) <|
  fc (ok_ildn (q := 1) (by decide +kernel) rfl) <|
  fc (ok_ishl (by decide +kernel)) <|
  fc (ok_ior (by decide +kernel)) <|
  fc (ok_iast (by decide +kernel)) <|
  fc (ok_iinc (n := 1) (by decide +kernel) (by decide +kernel) (by decide)) <|
  fc (ok_goto (off := -69) (by decide +kernel) (by decide)) <|
  fc (ok_iinc (n := 1) (by decide +kernel) (by decide +kernel) (by decide)) <|
  fc (ok_goto (off := -83) (by decide +kernel) (by decide)) <|
  fc (ok_aldn (q := 0) (by decide +kernel) rfl) <|
  fc (ok_iconst (n := 1) (by decide +kernel) (by decide +kernel)) <|
  fc (ok_pz mk_X4_readiesHush (fo_RX4_40 rfl) to_4_3 rfl (by decide +kernel)) <|
  fc (ok_vret rfl (by decide +kernel)) <| fn
def T_X4_winningTake : List (Nat × Op) := [(0, op_ild 1 1), (1, op_ild 2 1), (2, op_min), (5, op_ist 3 1), (6, op_ic 1 1), (7, op_ist 4 2), (9, op_ild 4 2), (11, op_ild 3 1), (12, op_icgt 36), (15, op_ald 0 1), (16, op_ild 1 1), (17, op_ild 2 1), (18, op_ild 4 2), (20, op_isub), (21, op_cv M_X4_wins 4 2), (24, op_ifne 30), (27, op_ild 4 2), (29, op_iret), (30, op_iinc 4 1), (33, op_goto 9), (36, op_ic 0 1), (37, op_iret)]
set_option maxRecDepth 20000 in
theorem K_X4_winningTake : ∀ r ∈ T_X4_winningTake, OpOK M_X4_winningTake r.1 r.2 :=
  fc (ok_ildn (q := 1) (by decide +kernel) rfl) <|
  fc (ok_ildn (q := 2) (by decide +kernel) rfl) <|
  fc (ok_min mk_X4_winningTake uw1165 uw211 uw212 uw213 (by decide +kernel)) <|
  fc (ok_istn (q := 3) (by decide +kernel) rfl (by decide)) <|
  fc (ok_iconst (n := 1) (by decide +kernel) (by decide +kernel)) <|
  fc (ok_ist (by decide +kernel) (by decide)) <|
  fc (ok_ild (by decide +kernel)) <|
  fc (ok_ildn (q := 3) (by decide +kernel) rfl) <|
  fc (ok_icgt (off := 24) (by decide +kernel) (by decide)) <|
  fc (ok_aldn (q := 0) (by decide +kernel) rfl) <|
  fc (ok_ildn (q := 1) (by decide +kernel) rfl) <|
  fc (ok_ildn (q := 2) (by decide +kernel) rfl) <|
  fc (ok_ild (by decide +kernel)) <|
  fc (ok_isub (by decide +kernel)) <|
  fc (ok_cv mk_X4_winningTake mk_X4_wins ⟨uw1192, uw1193, uw1194, uw52, by decide +kernel⟩ (T := TX4) (N := 6) rfl (by decide +kernel)) <|
  fc (ok_ifne (off := 6) (by decide +kernel) (by decide)) <|
  fc (ok_ild (by decide +kernel)) <|
  fc (ok_iret rfl (by decide +kernel)) <|
  fc (ok_iinc (n := 1) (by decide +kernel) (by decide +kernel) (by decide)) <|
  fc (ok_goto (off := -24) (by decide +kernel) (by decide)) <|
  fc (ok_iconst (n := 0) (by decide +kernel) (by decide +kernel)) <|
  fc (ok_iret rfl (by decide +kernel)) <| fn
def T_X4_wins : List (Nat × Op) := [(0, op_ald 0 1), (1, op_gf 4 2 3), (4, op_ild 1 1), (5, op_iald), (6, op_ild 2 1), (7, op_ishr), (8, op_ic 1 1), (9, op_iand), (10, op_ic 1 1), (11, op_icne 18), (14, op_ic 1 1), (15, op_goto 19), (18, op_ic 0 1), (19, op_zret)]
set_option maxRecDepth 20000 in
theorem K_X4_wins : ∀ r ∈ T_X4_wins, OpOK M_X4_wins r.1 r.2 :=
  fc (ok_aldn (q := 0) (by decide +kernel) rfl) <|
  fc (ok_gf mk_X4_wins (fo_RX4_18 rfl) rfl (by decide +kernel)) <|
  fc (ok_ildn (q := 1) (by decide +kernel) rfl) <|
  fc (ok_iald (by decide +kernel)) <|
  fc (ok_ildn (q := 2) (by decide +kernel) rfl) <|
  fc (ok_ishr (by decide +kernel)) <|
  fc (ok_iconst (n := 1) (by decide +kernel) (by decide +kernel)) <|
  fc (ok_iand (by decide +kernel)) <|
  fc (ok_iconst (n := 1) (by decide +kernel) (by decide +kernel)) <|
  fc (ok_icne (off := 7) (by decide +kernel) (by decide)) <|
  fc (ok_iconst (n := 1) (by decide +kernel) (by decide +kernel)) <|
  fc (ok_goto (off := 4) (by decide +kernel) (by decide)) <|
  fc (ok_iconst (n := 0) (by decide +kernel) (by decide +kernel)) <|
  fc (ok_zret rfl (by decide +kernel)) <| fn
def T_X4_readiesRests : List (Nat × Op) := [(0, op_ic 0 1), (1, op_ist 2 1), (2, op_ild 2 1), (3, op_ic 10 2), (5, op_icge 61), (8, op_ald 0 1), (9, op_gf 4 4 4), (12, op_ild 2 1), (13, op_ic 0 1), (14, op_ild 2 1), (15, op_ild 1 1), (16, op_cs M_X4_gain 3), (19, op_iast), (20, op_ic 1 1), (21, op_ist 3 1), (22, op_ild 3 1), (23, op_ic 10 2), (25, op_icge 55), (28, op_ald 0 1), (29, op_gf 4 4 4), (32, op_ild 2 1), (33, op_ald 0 1), (34, op_gf 4 4 4), (37, op_ild 2 1), (38, op_iald), (39, op_ild 3 1), (40, op_ild 2 1), (41, op_ild 1 1), (42, op_cs M_X4_gain 3), (45, op_max), (48, op_iast), (49, op_iinc 3 1), (52, op_goto 22), (55, op_iinc 2 1), (58, op_goto 2), (61, op_vret)]
set_option maxRecDepth 20000 in
theorem K_X4_readiesRests : ∀ r ∈ T_X4_readiesRests, OpOK M_X4_readiesRests r.1 r.2 :=
  fc (ok_iconst (n := 0) (by decide +kernel) (by decide +kernel)) <|
  fc (ok_istn (q := 2) (by decide +kernel) rfl (by decide)) <|
  fc (ok_ildn (q := 2) (by decide +kernel) rfl) <|
  fc (ok_bipush (n := 10) (by decide +kernel) (by decide +kernel)) <|
  fc (ok_icge (off := 56) (by decide +kernel) (by decide)) <|
  fc (ok_aldn (q := 0) (by decide +kernel) rfl) <|
  fc (ok_gf mk_X4_readiesRests (fo_RX4_22 rfl) rfl (by decide +kernel)) <|
  fc (ok_ildn (q := 2) (by decide +kernel) rfl) <|
  fc (ok_iconst (n := 0) (by decide +kernel) (by decide +kernel)) <|
  fc (ok_ildn (q := 2) (by decide +kernel) rfl) <|
  fc (ok_ildn (q := 1) (by decide +kernel) rfl) <|
  fc (ok_cs mk_X4_readiesRests mk_X4_gain ⟨uw1214, uw1215, uw52, by decide +kernel⟩ (by decide +kernel)) <|
  fc (ok_iast (by decide +kernel)) <|
  fc (ok_iconst (n := 1) (by decide +kernel) (by decide +kernel)) <|
  fc (ok_istn (q := 3) (by decide +kernel) rfl (by decide)) <|
  fc (ok_ildn (q := 3) (by decide +kernel) rfl) <|
  fc (ok_bipush (n := 10) (by decide +kernel) (by decide +kernel)) <|
  fc (ok_icge (off := 30) (by decide +kernel) (by decide)) <|
  fc (ok_aldn (q := 0) (by decide +kernel) rfl) <|
  fc (ok_gf mk_X4_readiesRests (fo_RX4_22 rfl) rfl (by decide +kernel)) <|
  fc (ok_ildn (q := 2) (by decide +kernel) rfl) <|
  fc (ok_aldn (q := 0) (by decide +kernel) rfl) <|
  fc (ok_gf mk_X4_readiesRests (fo_RX4_22 rfl) rfl (by decide +kernel)) <|
  fc (ok_ildn (q := 2) (by decide +kernel) rfl) <|
  fc (ok_iald (by decide +kernel)) <|
  fc (ok_ildn (q := 3) (by decide +kernel) rfl) <|
  fc (ok_ildn (q := 2) (by decide +kernel) rfl) <|
  fc (ok_ildn (q := 1) (by decide +kernel) rfl) <|
  fc (ok_cs mk_X4_readiesRests mk_X4_gain ⟨uw1214, uw1215, uw52, by decide +kernel⟩ (by decide +kernel)) <|
  fc (ok_max mk_X4_readiesRests uw1166 uw506 uw212 uw507 (by decide +kernel)) <|
  fc (ok_iast (by decide +kernel)) <|
  fc (ok_iinc (n := 1) (by decide +kernel) (by decide +kernel) (by decide)) <|
  fc (ok_goto (off := -30) (by decide +kernel) (by decide)) <|
  fc (ok_iinc (n := 1) (by decide +kernel) (by decide +kernel) (by decide)) <|
  fc (ok_goto (off := -56) (by decide +kernel) (by decide)) <|
  fc (ok_vret rfl (by decide +kernel)) <| fn
def T_X4_gain : List (Nat × Op) := [(0, op_ic 0 1), (1, op_ild 0 1), (2, op_ild 1 1), (3, op_iadd), (4, op_ic 6 2), (6, op_isub), (7, op_max), (10, op_ist 3 1), (11, op_ild 0 1), (12, op_ild 1 1), (13, op_icle 20), (16, op_ild 2 1), (17, op_goto 21), (20, op_ic 0 1), (21, op_ic 2 1), (22, op_ild 3 1), (23, op_imul), (24, op_isub), (25, op_ild 0 1), (26, op_isub), (27, op_iret)]
set_option maxRecDepth 20000 in
theorem K_X4_gain : ∀ r ∈ T_X4_gain, OpOK M_X4_gain r.1 r.2 :=
  fc (ok_iconst (n := 0) (by decide +kernel) (by decide +kernel)) <|
  fc (ok_ildn (q := 0) (by decide +kernel) rfl) <|
  fc (ok_ildn (q := 1) (by decide +kernel) rfl) <|
  fc (ok_iadd (by decide +kernel)) <|
  fc (ok_bipush (n := 6) (by decide +kernel) (by decide +kernel)) <|
  fc (ok_isub (by decide +kernel)) <|
  fc (ok_max mk_X4_gain uw1166 uw506 uw212 uw507 (by decide +kernel)) <|
  fc (ok_istn (q := 3) (by decide +kernel) rfl (by decide)) <|
  fc (ok_ildn (q := 0) (by decide +kernel) rfl) <|
  fc (ok_ildn (q := 1) (by decide +kernel) rfl) <|
  fc (ok_icle (off := 7) (by decide +kernel) (by decide)) <|
  fc (ok_ildn (q := 2) (by decide +kernel) rfl) <|
  fc (ok_goto (off := 4) (by decide +kernel) (by decide)) <|
  fc (ok_iconst (n := 0) (by decide +kernel) (by decide +kernel)) <|
  fc (ok_iconst (n := 2) (by decide +kernel) (by decide +kernel)) <|
  fc (ok_ildn (q := 3) (by decide +kernel) rfl) <|
  fc (ok_imul (by decide +kernel)) <|
  fc (ok_isub (by decide +kernel)) <|
  fc (ok_ildn (q := 0) (by decide +kernel) rfl) <|
  fc (ok_isub (by decide +kernel)) <|
  fc (ok_iret rfl (by decide +kernel)) <| fn
def T_X4_isRest : List (Nat × Op) := [(0, op_ild 1 1), (1, op_ild 2 1), (2, op_ild 3 1), (3, op_cs M_X4_gain 3), (6, op_ald 0 1), (7, op_gf 4 4 4), (10, op_ild 2 1), (11, op_iald), (12, op_icne 34), (15, op_ild 2 1), (16, op_ild 1 1), (17, op_ild 3 1), (18, op_cs M_X4_gain 3), (21, op_ald 0 1), (22, op_gf 4 4 4), (25, op_ild 1 1), (26, op_iald), (27, op_icne 34), (30, op_ic 1 1), (31, op_goto 35), (34, op_ic 0 1), (35, op_zret)]
set_option maxRecDepth 20000 in
theorem K_X4_isRest : ∀ r ∈ T_X4_isRest, OpOK M_X4_isRest r.1 r.2 :=
  fc (ok_ildn (q := 1) (by decide +kernel) rfl) <|
  fc (ok_ildn (q := 2) (by decide +kernel) rfl) <|
  fc (ok_ildn (q := 3) (by decide +kernel) rfl) <|
  fc (ok_cs mk_X4_isRest mk_X4_gain ⟨uw1214, uw1215, uw52, by decide +kernel⟩ (by decide +kernel)) <|
  fc (ok_aldn (q := 0) (by decide +kernel) rfl) <|
  fc (ok_gf mk_X4_isRest (fo_RX4_22 rfl) rfl (by decide +kernel)) <|
  fc (ok_ildn (q := 2) (by decide +kernel) rfl) <|
  fc (ok_iald (by decide +kernel)) <|
  fc (ok_icne (off := 22) (by decide +kernel) (by decide)) <|
  fc (ok_ildn (q := 2) (by decide +kernel) rfl) <|
  fc (ok_ildn (q := 1) (by decide +kernel) rfl) <|
  fc (ok_ildn (q := 3) (by decide +kernel) rfl) <|
  fc (ok_cs mk_X4_isRest mk_X4_gain ⟨uw1214, uw1215, uw52, by decide +kernel⟩ (by decide +kernel)) <|
  fc (ok_aldn (q := 0) (by decide +kernel) rfl) <|
  fc (ok_gf mk_X4_isRest (fo_RX4_22 rfl) rfl (by decide +kernel)) <|
  fc (ok_ildn (q := 1) (by decide +kernel) rfl) <|
  fc (ok_iald (by decide +kernel)) <|
  fc (ok_icne (off := 7) (by decide +kernel) (by decide)) <|
  fc (ok_iconst (n := 1) (by decide +kernel) (by decide +kernel)) <|
  fc (ok_goto (off := 4) (by decide +kernel) (by decide)) <|
  fc (ok_iconst (n := 0) (by decide +kernel) (by decide +kernel)) <|
  fc (ok_zret rfl (by decide +kernel)) <| fn
def T_X4_draw : List (Nat × Op) := [(0, op_ald 0 1), (1, op_ald 0 1), (2, op_gi 4 5), (5, op_ic (1103515245) 2), (7, op_imul), (8, op_ic 12345 3), (11, op_iadd), (12, op_pi 4 5), (15, op_ild 1 1), (16, op_ifle 31), (19, op_ald 0 1), (20, op_gi 4 5), (23, op_ic 16 2), (25, op_iushr), (26, op_ild 1 1), (27, op_irem), (28, op_goto 32), (31, op_ic 0 1), (32, op_iret)]
set_option maxRecDepth 20000 in
theorem K_X4_draw : ∀ r ∈ T_X4_draw, OpOK M_X4_draw r.1 r.2 :=
  fc (ok_aldn (q := 0) (by decide +kernel) rfl) <|
  fc (ok_aldn (q := 0) (by decide +kernel) rfl) <|
  fc (ok_gi mk_X4_draw (fo_RX4_55 rfl) rfl (by decide +kernel)) <|
  fc (ok_ldc mk_X4_draw uw1259 (by decide +kernel)) <|
  fc (ok_imul (by decide +kernel)) <|
  fc (ok_sipush (n := 12345) (by decide +kernel) (by decide +kernel)) <|
  fc (ok_iadd (by decide +kernel)) <|
  fc (ok_pi mk_X4_draw (fo_RX4_55 rfl) to_4_5 rfl (by decide +kernel)) <|
  fc (ok_ildn (q := 1) (by decide +kernel) rfl) <|
  fc (ok_ifle (off := 15) (by decide +kernel) (by decide)) <|
  fc (ok_aldn (q := 0) (by decide +kernel) rfl) <|
  fc (ok_gi mk_X4_draw (fo_RX4_55 rfl) rfl (by decide +kernel)) <|
  fc (ok_bipush (n := 16) (by decide +kernel) (by decide +kernel)) <|
  fc (ok_iushr (by decide +kernel)) <|
  fc (ok_ildn (q := 1) (by decide +kernel) rfl) <|
  fc (ok_irem (by decide +kernel)) <|
  fc (ok_goto (off := 4) (by decide +kernel) (by decide)) <|
  fc (ok_iconst (n := 0) (by decide +kernel) (by decide +kernel)) <|
  fc (ok_iret rfl (by decide +kernel)) <| fn
