def T_X12_says_ : List (Nat × Op) := [(0, op_ild 0 1), (1, op_ic 40 2), (3, op_idiv), (4, op_ild 1 1), (5, op_ic 10 2), (7, op_idiv), (8, op_imul), (9, op_ild 0 1), (10, op_ic 10 2), (12, op_idiv), (13, op_ic 4 1), (14, op_irem), (15, op_ild 1 1), (16, op_ic 10 2), (18, op_irem), (19, op_imul), (20, op_isub), (21, op_ild 0 1), (22, op_ic 10 2), (24, op_irem), (25, op_iclt 32), (28, op_ic 1 1), (29, op_goto 33), (32, op_ic 0 1), (33, op_ist 3 1), (34, op_ild 3 1), (35, op_ild 2 1), (36, op_icne 43), (39, op_ic 1 1), (40, op_goto 44), (43, op_ic 0 1), (44, op_iret)]
set_option maxRecDepth 20000 in
theorem K_X12_says_ : ∀ r ∈ T_X12_says_, OpOK M_X12_says_ r.1 r.2 :=
  fc (ok_ildn (q := 0) (by decide +kernel) rfl) <|
  fc (ok_bipush (n := 40) (by decide +kernel) (by decide +kernel)) <|
  fc (ok_idiv (by decide +kernel)) <|
  fc (ok_ildn (q := 1) (by decide +kernel) rfl) <|
  fc (ok_bipush (n := 10) (by decide +kernel) (by decide +kernel)) <|
  fc (ok_idiv (by decide +kernel)) <|
  fc (ok_imul (by decide +kernel)) <|
  fc (ok_ildn (q := 0) (by decide +kernel) rfl) <|
  fc (ok_bipush (n := 10) (by decide +kernel) (by decide +kernel)) <|
  fc (ok_idiv (by decide +kernel)) <|
  fc (ok_iconst (n := 4) (by decide +kernel) (by decide +kernel)) <|
  fc (ok_irem (by decide +kernel)) <|
  fc (ok_ildn (q := 1) (by decide +kernel) rfl) <|
  fc (ok_bipush (n := 10) (by decide +kernel) (by decide +kernel)) <|
  fc (ok_irem (by decide +kernel)) <|
  fc (ok_imul (by decide +kernel)) <|
  fc (ok_isub (by decide +kernel)) <|
  fc (ok_ildn (q := 0) (by decide +kernel) rfl) <|
  fc (ok_bipush (n := 10) (by decide +kernel) (by decide +kernel)) <|
  fc (ok_irem (by decide +kernel)) <|
  fc (ok_iclt (off := 7) (by decide +kernel) (by decide)) <|
  fc (ok_iconst (n := 1) (by decide +kernel) (by decide +kernel)) <|
  fc (ok_goto (off := 4) (by decide +kernel) (by decide)) <|
  fc (ok_iconst (n := 0) (by decide +kernel) (by decide +kernel)) <|
  fc (ok_istn (q := 3) (by decide +kernel) rfl (by decide)) <|
  fc (ok_ildn (q := 3) (by decide +kernel) rfl) <|
  fc (ok_ildn (q := 2) (by decide +kernel) rfl) <|
  fc (ok_icne (off := 7) (by decide +kernel) (by decide)) <|
  fc (ok_iconst (n := 1) (by decide +kernel) (by decide +kernel)) <|
  fc (ok_goto (off := 4) (by decide +kernel) (by decide)) <|
  fc (ok_iconst (n := 0) (by decide +kernel) (by decide +kernel)) <|
  fc (ok_iret rfl (by decide +kernel)) <| fn
def T_X12_tries : List (Nat × Op) := [(0, op_ald 0 1), (1, op_ic 0 1), (2, op_pi 12 7), (5, op_ic (-1) 1), (6, op_ist 1 1), (7, op_ic (1000000) 3), (10, op_ist 2 1), (11, op_ic 0 1), (12, op_ist 3 1), (13, op_ild 3 1), (14, op_ic 100 2), (16, op_icge 108), (19, op_ic 0 1), (20, op_ist 4 2), (22, op_ic 0 1), (23, op_ist 5 2), (25, op_ic 0 1), (26, op_ist 6 2), (28, op_ild 6 2), (30, op_ic 160 3), (33, op_icge 78), (36, op_ald 0 1), (37, op_ild 6 2), (39, op_cv M_X12_isLaw 12 1), (42, op_ifne 48), (45, op_goto 72), (48, op_ild 4 2), (50, op_ild 6 2), (52, op_ild 3 1), (53, op_ic 1 1), (54, op_cs M_X12_says_ 3), (57, op_iadd), (58, op_ist 4 2), (60, op_ild 5 2), (62, op_ild 6 2), (64, op_ild 3 1), (65, op_ic 0 1), (66, op_cs M_X12_says_ 3), (69, op_iadd), (70, op_ist 5 2), (72, op_iinc 6 1), (75, op_goto 28), (78, op_ild 4 2), (80, op_ild 5 2), (82, op_max), (85, op_ild 2 1), (86, op_iclt 92), (89, op_goto 102), (92, op_ild 3 1), (93, op_ist 1 1), (94, op_ild 4 2), (96, op_ild 5 2), (98, op_max), (101, op_ist 2 1), (102, op_iinc 3 1), (105, op_goto 13), (108, op_ild 2 1), (109, op_ifne 115), (112, op_ic (-2) 2), (114, op_iret), (115, op_ald 0 1), (116, op_ic 0 1), (117, op_pi 12 6), (120, op_ald 0 1), (121, op_ild 2 1), (122, op_i2l), (123, op_cv M_X12_tell 12 1), (126, op_ild 1 1), (127, op_iret)]
set_option maxRecDepth 20000 in
theorem K_X12_tries : ∀ r ∈ T_X12_tries, OpOK M_X12_tries r.1 r.2 :=
  fc (ok_aldn (q := 0) (by decide +kernel) rfl) <|
  fc (ok_iconst (n := 0) (by decide +kernel) (by decide +kernel)) <|
  fc (ok_pi mk_X12_tries (fo_RX12_103 rfl) to_12_7 rfl (by decide +kernel)) <|
  fc (ok_iconst (n := -1) (by decide +kernel) (by decide +kernel)) <|
  fc (ok_istn (q := 1) (by decide +kernel) rfl (by decide)) <|
  fc (ok_ldcw mk_X12_tries uw964 (by decide +kernel)) <|
  fc (ok_istn (q := 2) (by decide +kernel) rfl (by decide)) <|
  fc (ok_iconst (n := 0) (by decide +kernel) (by decide +kernel)) <|
  fc (ok_istn (q := 3) (by decide +kernel) rfl (by decide)) <|
  fc (ok_ildn (q := 3) (by decide +kernel) rfl) <|
  fc (ok_bipush (n := 100) (by decide +kernel) (by decide +kernel)) <|
  fc (ok_icge (off := 92) (by decide +kernel) (by decide)) <|
  fc (ok_iconst (n := 0) (by decide +kernel) (by decide +kernel)) <|
  fc (ok_ist (by decide +kernel) (by decide)) <|
  fc (ok_iconst (n := 0) (by decide +kernel) (by decide +kernel)) <|
  fc (ok_ist (by decide +kernel) (by decide)) <|
  fc (ok_iconst (n := 0) (by decide +kernel) (by decide +kernel)) <|
  fc (ok_ist (by decide +kernel) (by decide)) <|
  fc (ok_ild (by decide +kernel)) <|
  fc (ok_sipush (n := 160) (by decide +kernel) (by decide +kernel)) <|
  fc (ok_icge (off := 45) (by decide +kernel) (by decide)) <|
  fc (ok_aldn (q := 0) (by decide +kernel) rfl) <|
  fc (ok_ild (by decide +kernel)) <|
  fc (ok_cv mk_X12_tries mk_X12_isLaw ⟨uw1137, uw1138, uw1139, uw5, by decide +kernel⟩ (T := TX12) (N := 47) rfl (by decide +kernel)) <|
  fc (ok_ifne (off := 6) (by decide +kernel) (by decide)) <|
  fc (ok_goto (off := 27) (by decide +kernel) (by decide)) <|
  fc (ok_ild (by decide +kernel)) <|
  fc (ok_ild (by decide +kernel)) <|
  fc (ok_ildn (q := 3) (by decide +kernel) rfl) <|
  fc (ok_iconst (n := 1) (by decide +kernel) (by decide +kernel)) <|
  fc (ok_cs mk_X12_tries mk_X12_says_ ⟨uw1141, uw1142, uw5, by decide +kernel⟩ (by decide +kernel)) <|
  fc (ok_iadd (by decide +kernel)) <|
  fc (ok_ist (by decide +kernel) (by decide)) <|
  fc (ok_ild (by decide +kernel)) <|
  fc (ok_ild (by decide +kernel)) <|
  fc (ok_ildn (q := 3) (by decide +kernel) rfl) <|
  fc (ok_iconst (n := 0) (by decide +kernel) (by decide +kernel)) <|
  fc (ok_cs mk_X12_tries mk_X12_says_ ⟨uw1141, uw1142, uw5, by decide +kernel⟩ (by decide +kernel)) <|
  fc (ok_iadd (by decide +kernel)) <|
  fc (ok_ist (by decide +kernel) (by decide)) <|
  fc (ok_iinc (n := 1) (by decide +kernel) (by decide +kernel) (by decide)) <|
  fc (ok_goto (off := -47) (by decide +kernel) (by decide)) <|
  fc (ok_ild (by decide +kernel)) <|
  fc (ok_ild (by decide +kernel)) <|
  fc (ok_max mk_X12_tries uw521 uw506 uw212 uw507 (by decide +kernel)) <|
  fc (ok_ildn (q := 2) (by decide +kernel) rfl) <|
  fc (ok_iclt (off := 6) (by decide +kernel) (by decide)) <|
  fc (ok_goto (off := 13) (by decide +kernel) (by decide)) <|
  fc (ok_ildn (q := 3) (by decide +kernel) rfl) <|
  fc (ok_istn (q := 1) (by decide +kernel) rfl (by decide)) <|
  fc (ok_ild (by decide +kernel)) <|
  fc (ok_ild (by decide +kernel)) <|
  fc (ok_max mk_X12_tries uw521 uw506 uw212 uw507 (by decide +kernel)) <|
  fc (ok_istn (q := 2) (by decide +kernel) rfl (by decide)) <|
  fc (ok_iinc (n := 1) (by decide +kernel) (by decide +kernel) (by decide)) <|
  fc (ok_goto (off := -92) (by decide +kernel) (by decide)) <|
  fc (ok_ildn (q := 2) (by decide +kernel) rfl) <|
  fc (ok_ifne (off := 6) (by decide +kernel) (by decide)) <|
  fc (ok_bipush (n := -2) (by decide +kernel) (by decide +kernel)) <|
  fc (ok_iret rfl (by decide +kernel)) <|
  fc (ok_aldn (q := 0) (by decide +kernel) rfl) <|
  fc (ok_iconst (n := 0) (by decide +kernel) (by decide +kernel)) <|
  fc (ok_pi mk_X12_tries (fo_RX12_107 rfl) to_12_6 rfl (by decide +kernel)) <|
  fc (ok_aldn (q := 0) (by decide +kernel) rfl) <|
  fc (ok_ildn (q := 2) (by decide +kernel) rfl) <|
  fc (ok_i2l (by decide +kernel)) <|
  fc (ok_cv mk_X12_tries mk_X12_tell ⟨uw677, uw678, uw679, uw5, by decide +kernel⟩ (T := TX12) (N := 47) rfl (by decide +kernel)) <|
  fc (ok_ildn (q := 1) (by decide +kernel) rfl) <|
  fc (ok_iret rfl (by decide +kernel)) <| fn
def T_X12_walks : List (Nat × Op) := [(0, op_ald 0 1), (1, op_ic 0 1), (2, op_pi 12 7), (5, op_ild 1 1), (6, op_ic 0 1), (7, op_ic 9 2), (9, op_cs M_X12_in 3), (12, op_ifeq 46), (15, op_ild 2 1), (16, op_ic 0 1), (17, op_ic 12 2), (19, op_cs M_X12_in 3), (22, op_ifeq 46), (25, op_ild 3 1), (26, op_ic 0 1), (27, op_ic 10 2), (29, op_cs M_X12_in 3), (32, op_ifeq 46), (35, op_ild 4 2), (37, op_ic 0 1), (38, op_ic 9 2), (40, op_cs M_X12_in 3), (43, op_ifne 48), (46, op_ic (-1) 1), (47, op_iret), (48, op_ic 0 1), (49, op_ist 5 2), (51, op_ild 5 2), (53, op_ic 10 2), (55, op_icge 82), (58, op_ald 0 1), (59, op_gf 12 39 25), (62, op_ild 5 2), (64, op_ild 5 2), (66, op_ild 1 1), (67, op_icne 74), (70, op_lc 1 1), (71, op_goto 75), (74, op_lc 0 1), (75, op_last), (76, op_iinc 5 1), (79, op_goto 51), (82, op_lc 1 1), (83, op_lst 5 2), (85, op_ic 0 1), (86, op_ist 7 2), (88, op_ild 7 2), (90, op_ild 2 1), (91, op_icge 234), (94, op_ic 0 1), (95, op_ist 8 2), (97, op_ild 8 2), (99, op_ic 10 2), (101, op_icge 118), (104, op_ald 0 1), (105, op_gf 12 40 26), (108, op_ild 8 2), (110, op_lc 0 1), (111, op_last), (112, op_iinc 8 1), (115, op_goto 97), (118, op_ic 0 1), (119, op_ist 8 2), (121, op_ild 8 2), (123, op_ic 10 2), (125, op_icge 190), (128, op_ald 0 1), (129, op_gf 12 40 26), (132, op_ic 9 2), (134, op_ild 8 2), (136, op_ic 1 1), (137, op_iadd), (138, op_min), (141, op_dup2), (142, op_lald), (143, op_ald 0 1), (144, op_gf 12 39 25), (147, op_ild 8 2), (149, op_lald), (150, op_ild 3 1), (151, op_i2l), (152, op_lmul), (153, op_ladd), (154, op_last), (155, op_ald 0 1), (156, op_gf 12 40 26), (159, op_ic 0 1), (160, op_ild 8 2), (162, op_ic 1 1), (163, op_isub), (164, op_max), (167, op_dup2), (168, op_lald), (169, op_ald 0 1), (170, op_gf 12 39 25), (173, op_ild 8 2), (175, op_lald), (176, op_ic 10 2), (178, op_ild 3 1), (179, op_isub), (180, op_i2l), (181, op_lmul), (182, op_ladd), (183, op_last), (184, op_iinc 8 1), (187, op_goto 121), (190, op_ic 0 1), (191, op_ist 8 2), (193, op_ild 8 2), (195, op_ic 10 2), (197, op_icge 220), (200, op_ald 0 1), (201, op_gf 12 39 25), (204, op_ild 8 2), (206, op_ald 0 1), (207, op_gf 12 40 26), (210, op_ild 8 2), (212, op_lald), (213, op_last), (214, op_iinc 8 1), (217, op_goto 193), (220, op_lld 5 2), (222, op_lc (10) 3), (225, op_lmul), (226, op_lst 5 2), (228, op_iinc 7 1), (231, op_goto 88), (234, op_ald 0 1), (235, op_gf 12 39 25), (238, op_ild 4 2), (240, op_lald), (241, op_lld 5 2), (243, op_cs M_X12_common 2), (246, op_lst 7 2), (248, op_ald 0 1), (249, op_ic 0 1), (250, op_pi 12 6), (253, op_ald 0 1), (254, op_ald 0 1), (255, op_gf 12 39 25), (258, op_ild 4 2), (260, op_lald), (261, op_lld 7 2), (263, op_ldiv), (264, op_cv M_X12_tell 12 1), (267, op_ald 0 1), (268, op_lld 5 2), (270, op_lld 7 2), (272, op_ldiv), (273, op_cv M_X12_tell 12 1), (276, op_ic 0 1), (277, op_iret)]
set_option maxRecDepth 20000 in
theorem K_X12_walks : ∀ r ∈ T_X12_walks, OpOK M_X12_walks r.1 r.2 :=
  fc (ok_aldn (q := 0) (by decide +kernel) rfl) <|
  fc (ok_iconst (n := 0) (by decide +kernel) (by decide +kernel)) <|
  fc (ok_pi mk_X12_walks (fo_RX12_103 rfl) to_12_7 rfl (by decide +kernel)) <|
  fc (ok_ildn (q := 1) (by decide +kernel) rfl) <|
  fc (ok_iconst (n := 0) (by decide +kernel) (by decide +kernel)) <|
  fc (ok_bipush (n := 9) (by decide +kernel) (by decide +kernel)) <|
  fc (ok_cs mk_X12_walks mk_X12_in ⟨uw199, uw200, uw5, by decide +kernel⟩ (by decide +kernel)) <|
  fc (ok_ifeq (off := 34) (by decide +kernel) (by decide)) <|
  fc (ok_ildn (q := 2) (by decide +kernel) rfl) <|
  fc (ok_iconst (n := 0) (by decide +kernel) (by decide +kernel)) <|
  fc (ok_bipush (n := 12) (by decide +kernel) (by decide +kernel)) <|
  fc (ok_cs mk_X12_walks mk_X12_in ⟨uw199, uw200, uw5, by decide +kernel⟩ (by decide +kernel)) <|
  fc (ok_ifeq (off := 24) (by decide +kernel) (by decide)) <|
  fc (ok_ildn (q := 3) (by decide +kernel) rfl) <|
  fc (ok_iconst (n := 0) (by decide +kernel) (by decide +kernel)) <|
  fc (ok_bipush (n := 10) (by decide +kernel) (by decide +kernel)) <|
  fc (ok_cs mk_X12_walks mk_X12_in ⟨uw199, uw200, uw5, by decide +kernel⟩ (by decide +kernel)) <|
  fc (ok_ifeq (off := 14) (by decide +kernel) (by decide)) <|
  fc (ok_ild (by decide +kernel)) <|
  fc (ok_iconst (n := 0) (by decide +kernel) (by decide +kernel)) <|
  fc (ok_bipush (n := 9) (by decide +kernel) (by decide +kernel)) <|
  fc (ok_cs mk_X12_walks mk_X12_in ⟨uw199, uw200, uw5, by decide +kernel⟩ (by decide +kernel)) <|
  fc (ok_ifne (off := 5) (by decide +kernel) (by decide)) <|
  fc (ok_iconst (n := -1) (by decide +kernel) (by decide +kernel)) <|
  fc (ok_iret rfl (by decide +kernel)) <|
  fc (ok_iconst (n := 0) (by decide +kernel) (by decide +kernel)) <|
  fc (ok_ist (by decide +kernel) (by decide)) <|
  fc (ok_ild (by decide +kernel)) <|
  fc (ok_bipush (n := 10) (by decide +kernel) (by decide +kernel)) <|
  fc (ok_icge (off := 27) (by decide +kernel) (by decide)) <|
  fc (ok_aldn (q := 0) (by decide +kernel) rfl) <|
  fc (ok_gf mk_X12_walks (fo_RX12_84 rfl) rfl (by decide +kernel)) <|
  fc (ok_ild (by decide +kernel)) <|
  fc (ok_ild (by decide +kernel)) <|
  fc (ok_ildn (q := 1) (by decide +kernel) rfl) <|
  fc (ok_icne (off := 7) (by decide +kernel) (by decide)) <|
  fc (ok_lconst (n := 1) (by decide +kernel) rfl) <|
  fc (ok_goto (off := 4) (by decide +kernel) (by decide)) <|
  fc (ok_lconst (n := 0) (by decide +kernel) rfl) <|
  fc (ok_last (by decide +kernel)) <|
  fc (ok_iinc (n := 1) (by decide +kernel) (by decide +kernel) (by decide)) <|
  fc (ok_goto (off := -28) (by decide +kernel) (by decide)) <|
  fc (ok_lconst (n := 1) (by decide +kernel) rfl) <|
  fc (ok_lst (by decide +kernel) (by decide)) <|
  fc (ok_iconst (n := 0) (by decide +kernel) (by decide +kernel)) <|
  fc (ok_ist (by decide +kernel) (by decide)) <|
  fc (ok_ild (by decide +kernel)) <|
  fc (ok_ildn (q := 2) (by decide +kernel) rfl) <|
  fc (ok_icge (off := 143) (by decide +kernel) (by decide)) <|
  fc (ok_iconst (n := 0) (by decide +kernel) (by decide +kernel)) <|
  fc (ok_ist (by decide +kernel) (by decide)) <|
  fc (ok_ild (by decide +kernel)) <|
  fc (ok_bipush (n := 10) (by decide +kernel) (by decide +kernel)) <|
  fc (ok_icge (off := 17) (by decide +kernel) (by decide)) <|
  fc (ok_aldn (q := 0) (by decide +kernel) rfl) <|
  fc (ok_gf mk_X12_walks (fo_RX12_87 rfl) rfl (by decide +kernel)) <|
  fc (ok_ild (by decide +kernel)) <|
  fc (ok_lconst (n := 0) (by decide +kernel) rfl) <|
  fc (ok_last (by decide +kernel)) <|
  fc (ok_iinc (n := 1) (by decide +kernel) (by decide +kernel) (by decide)) <|
  fc (ok_goto (off := -18) (by decide +kernel) (by decide)) <|
  fc (ok_iconst (n := 0) (by decide +kernel) (by decide +kernel)) <|
  fc (ok_ist (by decide +kernel) (by decide)) <|
  fc (ok_ild (by decide +kernel)) <|
  fc (ok_bipush (n := 10) (by decide +kernel) (by decide +kernel)) <|
  fc (ok_icge (off := 65) (by decide +kernel) (by decide)) <|
  fc (ok_aldn (q := 0) (by decide +kernel) rfl) <|
  fc (ok_gf mk_X12_walks (fo_RX12_87 rfl) rfl (by decide +kernel)) <|
  fc (ok_bipush (n := 9) (by decide +kernel) (by decide +kernel)) <|
  fc (ok_ild (by decide +kernel)) <|
  fc (ok_iconst (n := 1) (by decide +kernel) (by decide +kernel)) <|
  fc (ok_iadd (by decide +kernel)) <|
  fc (ok_min mk_X12_walks uw520 uw211 uw212 uw213 (by decide +kernel)) <|
  fc (ok_dup2 (by decide +kernel)) <|
  fc (ok_lald (by decide +kernel)) <|
  fc (ok_aldn (q := 0) (by decide +kernel) rfl) <|
  fc (ok_gf mk_X12_walks (fo_RX12_84 rfl) rfl (by decide +kernel)) <|
  fc (ok_ild (by decide +kernel)) <|
  fc (ok_lald (by decide +kernel)) <|
  fc (ok_ildn (q := 3) (by decide +kernel) rfl) <|
  fc (ok_i2l (by decide +kernel)) <|
  fc (ok_lmul (by decide +kernel)) <|
  fc (ok_ladd (by decide +kernel)) <|
  fc (ok_last (by decide +kernel)) <|
  fc (ok_aldn (q := 0) (by decide +kernel) rfl) <|
  fc (ok_gf mk_X12_walks (fo_RX12_87 rfl) rfl (by decide +kernel)) <|
  fc (ok_iconst (n := 0) (by decide +kernel) (by decide +kernel)) <|
  fc (ok_ild (by decide +kernel)) <|
  fc (ok_iconst (n := 1) (by decide +kernel) (by decide +kernel)) <|
  fc (ok_isub (by decide +kernel)) <|
  fc (ok_max mk_X12_walks uw521 uw506 uw212 uw507 (by decide +kernel)) <|
  fc (ok_dup2 (by decide +kernel)) <|
  fc (ok_lald (by decide +kernel)) <|
  fc (ok_aldn (q := 0) (by decide +kernel) rfl) <|
  fc (ok_gf mk_X12_walks (fo_RX12_84 rfl) rfl (by decide +kernel)) <|
  fc (ok_ild (by decide +kernel)) <|
  fc (ok_lald (by decide +kernel)) <|
  fc (ok_bipush (n := 10) (by decide +kernel) (by decide +kernel)) <|
  fc (ok_ildn (q := 3) (by decide +kernel) rfl) <|
  fc (ok_isub (by decide +kernel)) <|
  fc (ok_i2l (by decide +kernel)) <|
  fc (ok_lmul (by decide +kernel)) <|
  fc (ok_ladd (by decide +kernel)) <|
  fc (ok_last (by decide +kernel)) <|
  fc (ok_iinc (n := 1) (by decide +kernel) (by decide +kernel) (by decide)) <|
  fc (ok_goto (off := -66) (by decide +kernel) (by decide)) <|
  fc (ok_iconst (n := 0) (by decide +kernel) (by decide +kernel)) <|
  fc (ok_ist (by decide +kernel) (by decide)) <|
  fc (ok_ild (by decide +kernel)) <|
  fc (ok_bipush (n := 10) (by decide +kernel) (by decide +kernel)) <|
  fc (ok_icge (off := 23) (by decide +kernel) (by decide)) <|
  fc (ok_aldn (q := 0) (by decide +kernel) rfl) <|
  fc (ok_gf mk_X12_walks (fo_RX12_84 rfl) rfl (by decide +kernel)) <|
  fc (ok_ild (by decide +kernel)) <|
  fc (ok_aldn (q := 0) (by decide +kernel) rfl) <|
  fc (ok_gf mk_X12_walks (fo_RX12_87 rfl) rfl (by decide +kernel)) <|
  fc (ok_ild (by decide +kernel)) <|
  fc (ok_lald (by decide +kernel)) <|
  fc (ok_last (by decide +kernel)) <|
  fc (ok_iinc (n := 1) (by decide +kernel) (by decide +kernel) (by decide)) <|
  fc (ok_goto (off := -24) (by decide +kernel) (by decide)) <|
  fc (ok_lld (by decide +kernel)) <|
  fc (ok_ldc2 mk_X12_walks uw1175 (by decide +kernel)) <|
  fc (ok_lmul (by decide +kernel)) <|
  fc (ok_lst (by decide +kernel) (by decide)) <|
  fc (ok_iinc (n := 1) (by decide +kernel) (by decide +kernel) (by decide)) <|
  fc (ok_goto (off := -143) (by decide +kernel) (by decide)) <|
  fc (ok_aldn (q := 0) (by decide +kernel) rfl) <|
  fc (ok_gf mk_X12_walks (fo_RX12_84 rfl) rfl (by decide +kernel)) <|
  fc (ok_ild (by decide +kernel)) <|
  fc (ok_lald (by decide +kernel)) <|
  fc (ok_lld (by decide +kernel)) <|
  fc (ok_cs mk_X12_walks mk_X12_common ⟨uw1176, uw1177, uw5, by decide +kernel⟩ (by decide +kernel)) <|
  fc (ok_lst (by decide +kernel) (by decide)) <|
  fc (ok_aldn (q := 0) (by decide +kernel) rfl) <|
  fc (ok_iconst (n := 0) (by decide +kernel) (by decide +kernel)) <|
  fc (ok_pi mk_X12_walks (fo_RX12_107 rfl) to_12_6 rfl (by decide +kernel)) <|
  fc (ok_aldn (q := 0) (by decide +kernel) rfl) <|
  fc (ok_aldn (q := 0) (by decide +kernel) rfl) <|
  fc (ok_gf mk_X12_walks (fo_RX12_84 rfl) rfl (by decide +kernel)) <|
  fc (ok_ild (by decide +kernel)) <|
  fc (ok_lald (by decide +kernel)) <|
  fc (ok_lld (by decide +kernel)) <|
  fc (ok_ldiv (by decide +kernel)) <|
  fc (ok_cv mk_X12_walks mk_X12_tell ⟨uw677, uw678, uw679, uw5, by decide +kernel⟩ (T := TX12) (N := 47) rfl (by decide +kernel)) <|
  fc (ok_aldn (q := 0) (by decide +kernel) rfl) <|
  fc (ok_lld (by decide +kernel)) <|
  fc (ok_lld (by decide +kernel)) <|
  fc (ok_ldiv (by decide +kernel)) <|
  fc (ok_cv mk_X12_walks mk_X12_tell ⟨uw677, uw678, uw679, uw5, by decide +kernel⟩ (T := TX12) (N := 47) rfl (by decide +kernel)) <|
  fc (ok_iconst (n := 0) (by decide +kernel) (by decide +kernel)) <|
  fc (ok_iret rfl (by decide +kernel)) <| fn
def T_X12_common : List (Nat × Op) := [(0, op_lld 2 1), (1, op_lc 0 1), (2, op_lcmp), (3, op_ifne 10), (6, op_lld 0 1), (7, op_goto 17), (10, op_lld 2 1), (11, op_lld 0 1), (12, op_lld 2 1), (13, op_lrem), (14, op_cs M_X12_common 2), (17, op_lret)]
set_option maxRecDepth 20000 in
theorem K_X12_common : ∀ r ∈ T_X12_common, OpOK M_X12_common r.1 r.2 :=
  fc (ok_lldn (q := 2) (by decide +kernel) rfl) <|
  fc (ok_lconst (n := 0) (by decide +kernel) rfl) <|
  fc (ok_lcmp (by decide +kernel)) <|
  fc (ok_ifne (off := 7) (by decide +kernel) (by decide)) <|
  fc (ok_lldn (q := 0) (by decide +kernel) rfl) <|
  fc (ok_goto (off := 10) (by decide +kernel) (by decide)) <|
  fc (ok_lldn (q := 2) (by decide +kernel) rfl) <|
  fc (ok_lldn (q := 0) (by decide +kernel) rfl) <|
  fc (ok_lldn (q := 2) (by decide +kernel) rfl) <|
  fc (ok_lrem (by decide +kernel)) <|
  fc (ok_cs mk_X12_common mk_X12_common ⟨uw1176, uw1177, uw5, by decide +kernel⟩ (by decide +kernel)) <|
  fc (ok_lret rfl (by decide +kernel)) <| fn
def T_X12_hush : List (Nat × Op) := [(0, op_ald 0 1), (1, op_ic 0 1), (2, op_pi 12 7), (5, op_ild 1 1), (6, op_ic 0 1), (7, op_ic 20 2), (9, op_cs M_X12_in 3), (12, op_ifeq 25), (15, op_ild 2 1), (16, op_ic 0 1), (17, op_ic 20 2), (19, op_cs M_X12_in 3), (22, op_ifne 27), (25, op_ic (-1) 1), (26, op_iret), (27, op_ic 0 1), (28, op_ist 3 1), (29, op_ild 3 1), (30, op_ild 1 1), (31, op_icgt 91), (34, op_ic 0 1), (35, op_ist 4 2), (37, op_ild 4 2), (39, op_ild 2 1), (40, op_icgt 85), (43, op_ald 0 1), (44, op_gf 12 41 27), (47, op_ic 21 2), (49, op_ild 3 1), (50, op_imul), (51, op_ild 4 2), (53, op_iadd), (54, op_ild 3 1), (55, op_ifle 77), (58, op_ild 4 2), (60, op_ifle 77), (63, op_ald 0 1), (64, op_ild 3 1), (65, op_ild 4 2), (67, op_cv M_X12_moveOf 12 2), (70, op_ifne 77), (73, op_ic 1 1), (74, op_goto 78), (77, op_ic 0 1), (78, op_zast), (79, op_iinc 4 1), (82, op_goto 37), (85, op_iinc 3 1), (88, op_goto 29), (91, op_ald 0 1), (92, op_ild 1 1), (93, op_ild 2 1), (94, op_cv M_X12_moveOf 12 2), (97, op_ist 3 1), (98, op_ald 0 1), (99, op_ic 0 1), (100, op_pi 12 6), (103, op_ild 3 1), (104, op_ifle 125), (107, op_ald 0 1), (108, op_ild 3 1), (109, op_ic 21 2), (111, op_idiv), (112, op_i2l), (113, op_cv M_X12_tell 12 1), (116, op_ald 0 1), (117, op_ild 3 1), (118, op_ic 21 2), (120, op_irem), (121, op_i2l), (122, op_cv M_X12_tell 12 1), (125, op_ald 0 1), (126, op_gf 12 41 27), (129, op_ic 21 2), (131, op_ild 1 1), (132, op_imul), (133, op_ild 2 1), (134, op_iadd), (135, op_zald), (136, op_ifeq 143), (139, op_ic 0 1), (140, op_goto 144), (143, op_ic 1 1), (144, op_iret)]
set_option maxRecDepth 20000 in
theorem K_X12_hush : ∀ r ∈ T_X12_hush, OpOK M_X12_hush r.1 r.2 :=
  fc (ok_aldn (q := 0) (by decide +kernel) rfl) <|
  fc (ok_iconst (n := 0) (by decide +kernel) (by decide +kernel)) <|
  fc (ok_pi mk_X12_hush (fo_RX12_103 rfl) to_12_7 rfl (by decide +kernel)) <|
  fc (ok_ildn (q := 1) (by decide +kernel) rfl) <|
  fc (ok_iconst (n := 0) (by decide +kernel) (by decide +kernel)) <|
  fc (ok_bipush (n := 20) (by decide +kernel) (by decide +kernel)) <|
  fc (ok_cs mk_X12_hush mk_X12_in ⟨uw199, uw200, uw5, by decide +kernel⟩ (by decide +kernel)) <|
  fc (ok_ifeq (off := 13) (by decide +kernel) (by decide)) <|
  fc (ok_ildn (q := 2) (by decide +kernel) rfl) <|
  fc (ok_iconst (n := 0) (by decide +kernel) (by decide +kernel)) <|
  fc (ok_bipush (n := 20) (by decide +kernel) (by decide +kernel)) <|
  fc (ok_cs mk_X12_hush mk_X12_in ⟨uw199, uw200, uw5, by decide +kernel⟩ (by decide +kernel)) <|
  fc (ok_ifne (off := 5) (by decide +kernel) (by decide)) <|
  fc (ok_iconst (n := -1) (by decide +kernel) (by decide +kernel)) <|
  fc (ok_iret rfl (by decide +kernel)) <|
  fc (ok_iconst (n := 0) (by decide +kernel) (by decide +kernel)) <|
  fc (ok_istn (q := 3) (by decide +kernel) rfl (by decide)) <|
  fc (ok_ildn (q := 3) (by decide +kernel) rfl) <|
  fc (ok_ildn (q := 1) (by decide +kernel) rfl) <|
  fc (ok_icgt (off := 60) (by decide +kernel) (by decide)) <|
  fc (ok_iconst (n := 0) (by decide +kernel) (by decide +kernel)) <|
  fc (ok_ist (by decide +kernel) (by decide)) <|
  fc (ok_ild (by decide +kernel)) <|
  fc (ok_ildn (q := 2) (by decide +kernel) rfl) <|
  fc (ok_icgt (off := 45) (by decide +kernel) (by decide)) <|
  fc (ok_aldn (q := 0) (by decide +kernel) rfl) <|
  fc (ok_gf mk_X12_hush (fo_RX12_90 rfl) rfl (by decide +kernel)) <|
  fc (ok_bipush (n := 21) (by decide +kernel) (by decide +kernel)) <|
  fc (ok_ildn (q := 3) (by decide +kernel) rfl) <|
  fc (ok_imul (by decide +kernel)) <|
  fc (ok_ild (by decide +kernel)) <|
  fc (ok_iadd (by decide +kernel)) <|
  fc (ok_ildn (q := 3) (by decide +kernel) rfl) <|
  fc (ok_ifle (off := 22) (by decide +kernel) (by decide)) <|
  fc (ok_ild (by decide +kernel)) <|
  fc (ok_ifle (off := 17) (by decide +kernel) (by decide)) <|
  fc (ok_aldn (q := 0) (by decide +kernel) rfl) <|
  fc (ok_ildn (q := 3) (by decide +kernel) rfl) <|
  fc (ok_ild (by decide +kernel)) <|
  fc (ok_cv mk_X12_hush mk_X12_moveOf ⟨uw1202, uw1203, uw1204, uw5, by decide +kernel⟩ (T := TX12) (N := 47) rfl (by decide +kernel)) <|
  fc (ok_ifne (off := 7) (by decide +kernel) (by decide)) <|
  fc (ok_iconst (n := 1) (by decide +kernel) (by decide +kernel)) <|
  fc (ok_goto (off := 4) (by decide +kernel) (by decide)) <|
  fc (ok_iconst (n := 0) (by decide +kernel) (by decide +kernel)) <|
  fc (ok_zast (by decide +kernel)) <|
  fc (ok_iinc (n := 1) (by decide +kernel) (by decide +kernel) (by decide)) <|
  fc (ok_goto (off := -45) (by decide +kernel) (by decide)) <|
  fc (ok_iinc (n := 1) (by decide +kernel) (by decide +kernel) (by decide)) <|
  fc (ok_goto (off := -59) (by decide +kernel) (by decide)) <|
  fc (ok_aldn (q := 0) (by decide +kernel) rfl) <|
  fc (ok_ildn (q := 1) (by decide +kernel) rfl) <|
  fc (ok_ildn (q := 2) (by decide +kernel) rfl) <|
  fc (ok_cv mk_X12_hush mk_X12_moveOf ⟨uw1202, uw1203, uw1204, uw5, by decide +kernel⟩ (T := TX12) (N := 47) rfl (by decide +kernel)) <|
  fc (ok_istn (q := 3) (by decide +kernel) rfl (by decide)) <|
  fc (ok_aldn (q := 0) (by decide +kernel) rfl) <|
  fc (ok_iconst (n := 0) (by decide +kernel) (by decide +kernel)) <|
  fc (ok_pi mk_X12_hush (fo_RX12_107 rfl) to_12_6 rfl (by decide +kernel)) <|
  fc (ok_ildn (q := 3) (by decide +kernel) rfl) <|
  fc (ok_ifle (off := 21) (by decide +kernel) (by decide)) <|
  fc (ok_aldn (q := 0) (by decide +kernel) rfl) <|
  fc (ok_ildn (q := 3) (by decide +kernel) rfl) <|
  fc (ok_bipush (n := 21) (by decide +kernel) (by decide +kernel)) <|
  fc (ok_idiv (by decide +kernel)) <|
  fc (ok_i2l (by decide +kernel)) <|
  fc (ok_cv mk_X12_hush mk_X12_tell ⟨uw677, uw678, uw679, uw5, by decide +kernel⟩ (T := TX12) (N := 47) rfl (by decide +kernel)) <|
  fc (ok_aldn (q := 0) (by decide +kernel) rfl) <|
  fc (ok_ildn (q := 3) (by decide +kernel) rfl) <|
  fc (ok_bipush (n := 21) (by decide +kernel) (by decide +kernel)) <|
  fc (ok_irem (by decide +kernel)) <|
  fc (ok_i2l (by decide +kernel)) <|
  fc (ok_cv mk_X12_hush mk_X12_tell ⟨uw677, uw678, uw679, uw5, by decide +kernel⟩ (T := TX12) (N := 47) rfl (by decide +kernel)) <|
  fc (ok_aldn (q := 0) (by decide +kernel) rfl) <|
  fc (ok_gf mk_X12_hush (fo_RX12_90 rfl) rfl (by decide +kernel)) <|
  fc (ok_bipush (n := 21) (by decide +kernel) (by decide +kernel)) <|
  fc (ok_ildn (q := 1) (by decide +kernel) rfl) <|
  fc (ok_imul (by decide +kernel)) <|
  fc (ok_ildn (q := 2) (by decide +kernel) rfl) <|
  fc (ok_iadd (by decide +kernel)) <|
  fc (ok_zald (by decide +kernel)) <|
  fc (ok_ifeq (off := 7) (by decide +kernel) (by decide)) <|
  fc (ok_iconst (n := 0) (by decide +kernel) (by decide +kernel)) <|
  fc (ok_goto (off := 4) (by decide +kernel) (by decide)) <|
  fc (ok_iconst (n := 1) (by decide +kernel) (by decide +kernel)) <|
  fc (ok_iret rfl (by decide +kernel)) <| fn
def T_X12_moveOf : List (Nat × Op) := [(0, op_ild 1 1), (1, op_ild 2 1), (2, op_min), (5, op_ist 3 1), (6, op_ic 1 1), (7, op_ist 4 2), (9, op_ild 4 2), (11, op_ild 3 1), (12, op_icgt 41), (15, op_ald 0 1), (16, op_gf 12 41 27), (19, op_ic 21 2), (21, op_ild 1 1), (22, op_imul), (23, op_ild 2 1), (24, op_iadd), (25, op_ild 4 2), (27, op_isub), (28, op_zald), (29, op_ifeq 35), (32, op_ild 4 2), (34, op_iret), (35, op_iinc 4 1), (38, op_goto 9), (41, op_ic 1 1), (42, op_ist 4 2), (44, op_ild 4 2), (46, op_ild 3 1), (47, op_icgt 79), (50, op_ald 0 1), (51, op_gf 12 41 27), (54, op_ic 21 2), (56, op_ild 1 1), (57, op_ild 4 2), (59, op_isub), (60, op_imul), (61, op_ild 2 1), (62, op_iadd), (63, op_zald), (64, op_ifeq 73), (67, op_ic 21 2), (69, op_ild 4 2), (71, op_imul), (72, op_iret), (73, op_iinc 4 1), (76, op_goto 44), (79, op_ic 0 1), (80, op_iret)]
set_option maxRecDepth 20000 in
theorem K_X12_moveOf : ∀ r ∈ T_X12_moveOf, OpOK M_X12_moveOf r.1 r.2 :=
  fc (ok_ildn (q := 1) (by decide +kernel) rfl) <|
  fc (ok_ildn (q := 2) (by decide +kernel) rfl) <|
  fc (ok_min mk_X12_moveOf uw520 uw211 uw212 uw213 (by decide +kernel)) <|
  fc (ok_istn (q := 3) (by decide +kernel) rfl (by decide)) <|
  fc (ok_iconst (n := 1) (by decide +kernel) (by decide +kernel)) <|
  fc (ok_ist (by decide +kernel) (by decide)) <|
  fc (ok_ild (by decide +kernel)) <|
  fc (ok_ildn (q := 3) (by decide +kernel) rfl) <|
  fc (ok_icgt (off := 29) (by decide +kernel) (by decide)) <|
  fc (ok_aldn (q := 0) (by decide +kernel) rfl) <|
  fc (ok_gf mk_X12_moveOf (fo_RX12_90 rfl) rfl (by decide +kernel)) <|
  fc (ok_bipush (n := 21) (by decide +kernel) (by decide +kernel)) <|
  fc (ok_ildn (q := 1) (by decide +kernel) rfl) <|
  fc (ok_imul (by decide +kernel)) <|
  fc (ok_ildn (q := 2) (by decide +kernel) rfl) <|
  fc (ok_iadd (by decide +kernel)) <|
  fc (ok_ild (by decide +kernel)) <|
  fc (ok_isub (by decide +kernel)) <|
  fc (ok_zald (by decide +kernel)) <|
  fc (ok_ifeq (off := 6) (by decide +kernel) (by decide)) <|
  fc (ok_ild (by decide +kernel)) <|
  fc (ok_iret rfl (by decide +kernel)) <|
  fc (ok_iinc (n := 1) (by decide +kernel) (by decide +kernel) (by decide)) <|
  fc (ok_goto (off := -29) (by decide +kernel) (by decide)) <|
  fc (ok_iconst (n := 1) (by decide +kernel) (by decide +kernel)) <|
  fc (ok_ist (by decide +kernel) (by decide)) <|
  fc (ok_ild (by decide +kernel)) <|
  fc (ok_ildn (q := 3) (by decide +kernel) rfl) <|
  fc (ok_icgt (off := 32) (by decide +kernel) (by decide)) <|
  fc (ok_aldn (q := 0) (by decide +kernel) rfl) <|
  fc (ok_gf mk_X12_moveOf (fo_RX12_90 rfl) rfl (by decide +kernel)) <|
  fc (ok_bipush (n := 21) (by decide +kernel) (by decide +kernel)) <|
  fc (ok_ildn (q := 1) (by decide +kernel) rfl) <|
  fc (ok_ild (by decide +kernel)) <|
  fc (ok_isub (by decide +kernel)) <|
  fc (ok_imul (by decide +kernel)) <|
  fc (ok_ildn (q := 2) (by decide +kernel) rfl) <|
  fc (ok_iadd (by decide +kernel)) <|
  fc (ok_zald (by decide +kernel)) <|
  fc (ok_ifeq (off := 9) (by decide +kernel) (by decide)) <|
  fc (ok_bipush (n := 21) (by decide +kernel) (by decide +kernel)) <|
  fc (ok_ild (by decide +kernel)) <|
  fc (ok_imul (by decide +kernel)) <|
  fc (ok_iret rfl (by decide +kernel)) <|
  fc (ok_iinc (n := 1) (by decide +kernel) (by decide +kernel) (by decide)) <|
  fc (ok_goto (off := -32) (by decide +kernel) (by decide)) <|
  fc (ok_iconst (n := 0) (by decide +kernel) (by decide +kernel)) <|
  fc (ok_iret rfl (by decide +kernel)) <| fn
def T_X12_rests : List (Nat × Op) := [(0, op_ald 0 1), (1, op_ic 0 1), (2, op_pi 12 7), (5, op_ild 1 1), (6, op_ic 0 1), (7, op_ic 20 2), (9, op_cs M_X12_in 3), (12, op_ifne 17), (15, op_ic (-1) 1), (16, op_iret), (17, op_ic 0 1), (18, op_ist 2 1), (19, op_ald 0 1), (20, op_ic 0 1), (21, op_pi 12 6), (24, op_ic 0 1), (25, op_ist 3 1), (26, op_ild 3 1), (27, op_ic 9 2), (29, op_icgt 97), (32, op_ic 0 1), (33, op_ist 4 2), (35, op_ild 4 2), (37, op_ic 9 2), (39, op_icgt 91), (42, op_ild 3 1), (43, op_ild 4 2), (45, op_ild 1 1), (46, op_cs M_X12_isBest 3), (49, op_ifeq 85), (52, op_ild 4 2), (54, op_ild 3 1), (55, op_ild 1 1), (56, op_cs M_X12_isBest 3), (59, op_ifne 65), (62, op_goto 85), (65, op_ild 2 1), (66, op_ifne 82), (69, op_ald 0 1), (70, op_ild 3 1), (71, op_i2l), (72, op_cv M_X12_tell 12 1), (75, op_ald 0 1), (76, op_ild 4 2), (78, op_i2l), (79, op_cv M_X12_tell 12 1), (82, op_iinc 2 1), (85, op_iinc 4 1), (88, op_goto 35), (91, op_iinc 3 1), (94, op_goto 26), (97, op_ild 2 1), (98, op_iret)]
set_option maxRecDepth 20000 in
theorem K_X12_rests : ∀ r ∈ T_X12_rests, OpOK M_X12_rests r.1 r.2 :=
  fc (ok_aldn (q := 0) (by decide +kernel) rfl) <|
  fc (ok_iconst (n := 0) (by decide +kernel) (by decide +kernel)) <|
  fc (ok_pi mk_X12_rests (fo_RX12_103 rfl) to_12_7 rfl (by decide +kernel)) <|
  fc (ok_ildn (q := 1) (by decide +kernel) rfl) <|
  fc (ok_iconst (n := 0) (by decide +kernel) (by decide +kernel)) <|
  fc (ok_bipush (n := 20) (by decide +kernel) (by decide +kernel)) <|
  fc (ok_cs mk_X12_rests mk_X12_in ⟨uw199, uw200, uw5, by decide +kernel⟩ (by decide +kernel)) <|
  fc (ok_ifne (off := 5) (by decide +kernel) (by decide)) <|
  fc (ok_iconst (n := -1) (by decide +kernel) (by decide +kernel)) <|
  fc (ok_iret rfl (by decide +kernel)) <|
  fc (ok_iconst (n := 0) (by decide +kernel) (by decide +kernel)) <|
  fc (ok_istn (q := 2) (by decide +kernel) rfl (by decide)) <|
  fc (ok_aldn (q := 0) (by decide +kernel) rfl) <|
  fc (ok_iconst (n := 0) (by decide +kernel) (by decide +kernel)) <|
  fc (ok_pi mk_X12_rests (fo_RX12_107 rfl) to_12_6 rfl (by decide +kernel)) <|
  fc (ok_iconst (n := 0) (by decide +kernel) (by decide +kernel)) <|
  fc (ok_istn (q := 3) (by decide +kernel) rfl (by decide)) <|
  fc (ok_ildn (q := 3) (by decide +kernel) rfl) <|
  fc (ok_bipush (n := 9) (by decide +kernel) (by decide +kernel)) <|
  fc (ok_icgt (off := 68) (by decide +kernel) (by decide)) <|
  fc (ok_iconst (n := 0) (by decide +kernel) (by decide +kernel)) <|
  fc (ok_ist (by decide +kernel) (by decide)) <|
  fc (ok_ild (by decide +kernel)) <|
  fc (ok_bipush (n := 9) (by decide +kernel) (by decide +kernel)) <|
  fc (ok_icgt (off := 52) (by decide +kernel) (by decide)) <|
  fc (ok_ildn (q := 3) (by decide +kernel) rfl) <|
  fc (ok_ild (by decide +kernel)) <|
  fc (ok_ildn (q := 1) (by decide +kernel) rfl) <|
  fc (ok_cs mk_X12_rests mk_X12_isBest ⟨uw1225, uw1226, uw5, by decide +kernel⟩ (by decide +kernel)) <|
  fc (ok_ifeq (off := 36) (by decide +kernel) (by decide)) <|
  fc (ok_ild (by decide +kernel)) <|
  fc (ok_ildn (q := 3) (by decide +kernel) rfl) <|
  fc (ok_ildn (q := 1) (by decide +kernel) rfl) <|
  fc (ok_cs mk_X12_rests mk_X12_isBest ⟨uw1225, uw1226, uw5, by decide +kernel⟩ (by decide +kernel)) <|
  fc (ok_ifne (off := 6) (by decide +kernel) (by decide)) <|
  fc (ok_goto (off := 23) (by decide +kernel) (by decide)) <|
  fc (ok_ildn (q := 2) (by decide +kernel) rfl) <|
  fc (ok_ifne (off := 16) (by decide +kernel) (by decide)) <|
  fc (ok_aldn (q := 0) (by decide +kernel) rfl) <|
  fc (ok_ildn (q := 3) (by decide +kernel) rfl) <|
  fc (ok_i2l (by decide +kernel)) <|
  fc (ok_cv mk_X12_rests mk_X12_tell ⟨uw677, uw678, uw679, uw5, by decide +kernel⟩ (T := TX12) (N := 47) rfl (by decide +kernel)) <|
  fc (ok_aldn (q := 0) (by decide +kernel) rfl) <|
  fc (ok_ild (by decide +kernel)) <|
  fc (ok_i2l (by decide +kernel)) <|
  fc (ok_cv mk_X12_rests mk_X12_tell ⟨uw677, uw678, uw679, uw5, by decide +kernel⟩ (T := TX12) (N := 47) rfl (by decide +kernel)) <|
  fc (ok_iinc (n := 1) (by decide +kernel) (by decide +kernel) (by decide)) <|
  fc (ok_iinc (n := 1) (by decide +kernel) (by decide +kernel) (by decide)) <|
  fc (ok_goto (off := -53) (by decide +kernel) (by decide)) <|
  fc (ok_iinc (n := 1) (by decide +kernel) (by decide +kernel) (by decide)) <|
  fc (ok_goto (off := -68) (by decide +kernel) (by decide)) <|
  fc (ok_ildn (q := 2) (by decide +kernel) rfl) <|
  fc (ok_iret rfl (by decide +kernel)) <| fn
def T_X12_isBest : List (Nat × Op) := [(0, op_ic 0 1), (1, op_ist 3 1), (2, op_ild 3 1), (3, op_ic 9 2), (5, op_icgt 31), (8, op_ild 3 1), (9, op_ild 1 1), (10, op_ild 2 1), (11, op_cs M_X12_gets 3), (14, op_ild 0 1), (15, op_ild 1 1), (16, op_ild 2 1), (17, op_cs M_X12_gets 3), (20, op_icle 25), (23, op_ic 0 1), (24, op_zret), (25, op_iinc 3 1), (28, op_goto 2), (31, op_ic 1 1), (32, op_zret)]
set_option maxRecDepth 20000 in
theorem K_X12_isBest : ∀ r ∈ T_X12_isBest, OpOK M_X12_isBest r.1 r.2 :=
  fc (ok_iconst (n := 0) (by decide +kernel) (by decide +kernel)) <|
  fc (ok_istn (q := 3) (by decide +kernel) rfl (by decide)) <|
  fc (ok_ildn (q := 3) (by decide +kernel) rfl) <|
  fc (ok_bipush (n := 9) (by decide +kernel) (by decide +kernel)) <|
  fc (ok_icgt (off := 26) (by decide +kernel) (by decide)) <|
  fc (ok_ildn (q := 3) (by decide +kernel) rfl) <|
  fc (ok_ildn (q := 1) (by decide +kernel) rfl) <|
  fc (ok_ildn (q := 2) (by decide +kernel) rfl) <|
  fc (ok_cs mk_X12_isBest mk_X12_gets ⟨uw1228, uw1229, uw5, by decide +kernel⟩ (by decide +kernel)) <|
  fc (ok_ildn (q := 0) (by decide +kernel) rfl) <|
  fc (ok_ildn (q := 1) (by decide +kernel) rfl) <|
  fc (ok_ildn (q := 2) (by decide +kernel) rfl) <|
  fc (ok_cs mk_X12_isBest mk_X12_gets ⟨uw1228, uw1229, uw5, by decide +kernel⟩ (by decide +kernel)) <|
  fc (ok_icle (off := 5) (by decide +kernel) (by decide)) <|
  fc (ok_iconst (n := 0) (by decide +kernel) (by decide +kernel)) <|
  fc (ok_zret rfl (by decide +kernel)) <|
  fc (ok_iinc (n := 1) (by decide +kernel) (by decide +kernel) (by decide)) <|
  fc (ok_goto (off := -26) (by decide +kernel) (by decide)) <|
  fc (ok_iconst (n := 1) (by decide +kernel) (by decide +kernel)) <|
  fc (ok_zret rfl (by decide +kernel)) <| fn
def T_X12_gets : List (Nat × Op) := [(0, op_ild 0 1), (1, op_ild 1 1), (2, op_icle 9), (5, op_ild 2 1), (6, op_goto 10), (9, op_ic 0 1), (10, op_ic 2 1), (11, op_ic 0 1), (12, op_ild 0 1), (13, op_ild 1 1), (14, op_iadd), (15, op_ic 6 2), (17, op_isub), (18, op_max), (21, op_imul), (22, op_isub), (23, op_ild 0 1), (24, op_isub), (25, op_iret)]
set_option maxRecDepth 20000 in
theorem K_X12_gets : ∀ r ∈ T_X12_gets, OpOK M_X12_gets r.1 r.2 :=
  fc (ok_ildn (q := 0) (by decide +kernel) rfl) <|
  fc (ok_ildn (q := 1) (by decide +kernel) rfl) <|
  fc (ok_icle (off := 7) (by decide +kernel) (by decide)) <|
  fc (ok_ildn (q := 2) (by decide +kernel) rfl) <|
  fc (ok_goto (off := 4) (by decide +kernel) (by decide)) <|
  fc (ok_iconst (n := 0) (by decide +kernel) (by decide +kernel)) <|
  fc (ok_iconst (n := 2) (by decide +kernel) (by decide +kernel)) <|
  fc (ok_iconst (n := 0) (by decide +kernel) (by decide +kernel)) <|
  fc (ok_ildn (q := 0) (by decide +kernel) rfl) <|
  fc (ok_ildn (q := 1) (by decide +kernel) rfl) <|
  fc (ok_iadd (by decide +kernel)) <|
  fc (ok_bipush (n := 6) (by decide +kernel) (by decide +kernel)) <|
  fc (ok_isub (by decide +kernel)) <|
  fc (ok_max mk_X12_gets uw521 uw506 uw212 uw507 (by decide +kernel)) <|
  fc (ok_imul (by decide +kernel)) <|
  fc (ok_isub (by decide +kernel)) <|
  fc (ok_ildn (q := 0) (by decide +kernel) rfl) <|
  fc (ok_isub (by decide +kernel)) <|
  fc (ok_iret rfl (by decide +kernel)) <| fn
def T_X12_law : List (Nat × Op) := [(0, op_ald 0 1), (1, op_ic 0 1), (2, op_pi 12 7), (5, op_ald 0 1), (6, op_gi 12 4), (9, op_ist 1 1), (10, op_ald 0 1), (11, op_cv M_X12_readRule 12 0), (14, op_ifne 26), (17, op_ic (-10000) 3), (20, op_ald 0 1), (21, op_gi 12 12), (24, op_isub), (25, op_iret), (26, op_ald 0 1), (27, op_cv M_X12_pairs 12 0), (30, op_ist 2 1), (31, op_ald 0 1), (32, op_gr 12 14), (35, op_ast 3 1), (36, op_ald 0 1), (37, op_gi 12 16), (40, op_ist 4 2), (42, op_ald 0 1), (43, op_ald 0 1), (44, op_gr 12 15), (47, op_pr 12 14), (50, op_ald 0 1), (51, op_ild 1 1), (52, op_pi 12 16), (55, op_ic 0 1), (56, op_ist 5 2), (58, op_ild 5 2), (60, op_ild 1 1), (61, op_icge 84), (64, op_ald 0 1), (65, op_gr 12 14), (68, op_ild 5 2), (70, op_ald 0 1), (71, op_gf 12 3 3), (74, op_ild 5 2), (76, op_bald), (77, op_bast), (78, op_iinc 5 1), (81, op_goto 58), (84, op_ald 0 1), (85, op_cv M_X12_pairs 12 0), (88, op_ist 5 2), (90, op_ald 0 1), (91, op_ic 0 1), (92, op_pi 12 6), (95, op_ald 0 1), (96, op_ild 5 2), (98, op_i2l), (99, op_cv M_X12_tell 12 1), (102, op_ald 0 1), (103, op_ild 2 1), (104, op_i2l), (105, op_cv M_X12_tell 12 1), (108, op_ic 0 1), (109, op_ist 6 2), (111, op_ild 6 2), (113, op_ald 0 1), (114, op_gi 12 1), (117, op_icge 141), (120, op_ald 0 1), (121, op_ald 0 1), (122, op_ald 0 1), (123, op_gf 12 0 1), (126, op_ild 6 2), (128, op_cv M_X12_sayable 12 2), (131, op_i2l), (132, op_cv M_X12_tell 12 1), (135, op_iinc 6 1), (138, op_goto 111), (141, op_ald 0 1), (142, op_ald 3 1), (143, op_pr 12 14), (146, op_ald 0 1), (147, op_ild 4 2), (149, op_pi 12 16), (152, op_ild 5 2), (154, op_ild 2 1), (155, op_isub), (156, op_iret)]
set_option maxRecDepth 20000 in
theorem K_X12_law : ∀ r ∈ T_X12_law, OpOK M_X12_law r.1 r.2 :=
  fc (ok_aldn (q := 0) (by decide +kernel) rfl) <|
  fc (ok_iconst (n := 0) (by decide +kernel) (by decide +kernel)) <|
  fc (ok_pi mk_X12_law (fo_RX12_103 rfl) to_12_7 rfl (by decide +kernel)) <|
  fc (ok_aldn (q := 0) (by decide +kernel) rfl) <|
  fc (ok_gi mk_X12_law (fo_RX12_117 rfl) rfl (by decide +kernel)) <|
  fc (ok_istn (q := 1) (by decide +kernel) rfl (by decide)) <|
  fc (ok_aldn (q := 0) (by decide +kernel) rfl) <|
  fc (ok_cv mk_X12_law mk_X12_readRule ⟨uw350, uw351, uw352, uw5, by decide +kernel⟩ (T := TX12) (N := 47) rfl (by decide +kernel)) <|
  fc (ok_ifne (off := 12) (by decide +kernel) (by decide)) <|
  fc (ok_sipush (n := -10000) (by decide +kernel) (by decide +kernel)) <|
  fc (ok_aldn (q := 0) (by decide +kernel) rfl) <|
  fc (ok_gi mk_X12_law (fo_RX12_132 rfl) rfl (by decide +kernel)) <|
  fc (ok_isub (by decide +kernel)) <|
  fc (ok_iret rfl (by decide +kernel)) <|
  fc (ok_aldn (q := 0) (by decide +kernel) rfl) <|
  fc (ok_cv mk_X12_law mk_X12_pairs ⟨uw1245, uw1246, uw1247, uw5, by decide +kernel⟩ (T := TX12) (N := 47) rfl (by decide +kernel)) <|
  fc (ok_istn (q := 2) (by decide +kernel) rfl (by decide)) <|
  fc (ok_aldn (q := 0) (by decide +kernel) rfl) <|
  fc (ok_gr mk_X12_law (fo_RX12_27 rfl) rfl (by decide +kernel)) <|
  fc (ok_astn (q := 3) (by decide +kernel) rfl (by decide)) <|
  fc (ok_aldn (q := 0) (by decide +kernel) rfl) <|
  fc (ok_gi mk_X12_law (fo_RX12_201 rfl) rfl (by decide +kernel)) <|
  fc (ok_ist (by decide +kernel) (by decide)) <|
  fc (ok_aldn (q := 0) (by decide +kernel) rfl) <|
  fc (ok_aldn (q := 0) (by decide +kernel) rfl) <|
  fc (ok_gr mk_X12_law (fo_RX12_30 rfl) rfl (by decide +kernel)) <|
  fc (ok_pr mk_X12_law (fo_RX12_27 rfl) to_12_14 (fun _ => rfl) (fun _ => rfl) rfl (by decide +kernel)) <|
  fc (ok_aldn (q := 0) (by decide +kernel) rfl) <|
  fc (ok_ildn (q := 1) (by decide +kernel) rfl) <|
  fc (ok_pi mk_X12_law (fo_RX12_201 rfl) to_12_16 rfl (by decide +kernel)) <|
  fc (ok_iconst (n := 0) (by decide +kernel) (by decide +kernel)) <|
  fc (ok_ist (by decide +kernel) (by decide)) <|
  fc (ok_ild (by decide +kernel)) <|
  fc (ok_ildn (q := 1) (by decide +kernel) rfl) <|
  fc (ok_icge (off := 23) (by decide +kernel) (by decide)) <|
  fc (ok_aldn (q := 0) (by decide +kernel) rfl) <|
  fc (ok_gr mk_X12_law (fo_RX12_27 rfl) rfl (by decide +kernel)) <|
  fc (ok_ild (by decide +kernel)) <|
  fc (ok_aldn (q := 0) (by decide +kernel) rfl) <|
  fc (ok_gf mk_X12_law (fo_RX12_16 rfl) rfl (by decide +kernel)) <|
  fc (ok_ild (by decide +kernel)) <|
  fc (ok_bald (by decide +kernel)) <|
  fc (ok_bast (by decide +kernel)) <|
  fc (ok_iinc (n := 1) (by decide +kernel) (by decide +kernel) (by decide)) <|
  fc (ok_goto (off := -23) (by decide +kernel) (by decide)) <|
  fc (ok_aldn (q := 0) (by decide +kernel) rfl) <|
  fc (ok_cv mk_X12_law mk_X12_pairs ⟨uw1245, uw1246, uw1247, uw5, by decide +kernel⟩ (T := TX12) (N := 47) rfl (by decide +kernel)) <|
  fc (ok_ist (by decide +kernel) (by decide)) <|
  fc (ok_aldn (q := 0) (by decide +kernel) rfl) <|
  fc (ok_iconst (n := 0) (by decide +kernel) (by decide +kernel)) <|
  fc (ok_pi mk_X12_law (fo_RX12_107 rfl) to_12_6 rfl (by decide +kernel)) <|
  fc (ok_aldn (q := 0) (by decide +kernel) rfl) <|
  fc (ok_ild (by decide +kernel)) <|
  fc (ok_i2l (by decide +kernel)) <|
  fc (ok_cv mk_X12_law mk_X12_tell ⟨uw677, uw678, uw679, uw5, by decide +kernel⟩ (T := TX12) (N := 47) rfl (by decide +kernel)) <|
  fc (ok_aldn (q := 0) (by decide +kernel) rfl) <|
  fc (ok_ildn (q := 2) (by decide +kernel) rfl) <|
  fc (ok_i2l (by decide +kernel)) <|
  fc (ok_cv mk_X12_law mk_X12_tell ⟨uw677, uw678, uw679, uw5, by decide +kernel⟩ (T := TX12) (N := 47) rfl (by decide +kernel)) <|
  fc (ok_iconst (n := 0) (by decide +kernel) (by decide +kernel)) <|
  fc (ok_ist (by decide +kernel) (by decide)) <|
  fc (ok_ild (by decide +kernel)) <|
  fc (ok_aldn (q := 0) (by decide +kernel) rfl) <|
  fc (ok_gi mk_X12_law (fo_RX12_110 rfl) rfl (by decide +kernel)) <|
  fc (ok_icge (off := 24) (by decide +kernel) (by decide)) <|
  fc (ok_aldn (q := 0) (by decide +kernel) rfl) <|
  fc (ok_aldn (q := 0) (by decide +kernel) rfl) <|
  fc (ok_aldn (q := 0) (by decide +kernel) rfl) <|
  fc (ok_gf mk_X12_law (fo_RX12_9 rfl) rfl (by decide +kernel)) <|
  fc (ok_ild (by decide +kernel)) <|
  fc (ok_cv mk_X12_law mk_X12_sayable ⟨uw454, uw455, uw456, uw5, by decide +kernel⟩ (T := TX12) (N := 47) rfl (by decide +kernel)) <|
  fc (ok_i2l (by decide +kernel)) <|
  fc (ok_cv mk_X12_law mk_X12_tell ⟨uw677, uw678, uw679, uw5, by decide +kernel⟩ (T := TX12) (N := 47) rfl (by decide +kernel)) <|
  fc (ok_iinc (n := 1) (by decide +kernel) (by decide +kernel) (by decide)) <|
  fc (ok_goto (off := -27) (by decide +kernel) (by decide)) <|
  fc (ok_aldn (q := 0) (by decide +kernel) rfl) <|
  fc (ok_aldn (q := 3) (by decide +kernel) rfl) <|
  fc (ok_pr mk_X12_law (fo_RX12_27 rfl) to_12_14 (fun _ => rfl) (fun _ => rfl) rfl (by decide +kernel)) <|
  fc (ok_aldn (q := 0) (by decide +kernel) rfl) <|
  fc (ok_ild (by decide +kernel)) <|
  fc (ok_pi mk_X12_law (fo_RX12_201 rfl) to_12_16 rfl (by decide +kernel)) <|
  fc (ok_ild (by decide +kernel)) <|
  fc (ok_ildn (q := 2) (by decide +kernel) rfl) <|
  fc (ok_isub (by decide +kernel)) <|
  fc (ok_iret rfl (by decide +kernel)) <| fn
def T_X12_pairs : List (Nat × Op) := [(0, op_ic 0 1), (1, op_ist 1 1), (2, op_ic 0 1), (3, op_ist 2 1), (4, op_ild 2 1), (5, op_ald 0 1), (6, op_gi 12 1), (9, op_icge 33), (12, op_ild 1 1), (13, op_ald 0 1), (14, op_ald 0 1), (15, op_gf 12 0 1), (18, op_ild 2 1), (19, op_cv M_X12_sayable 12 2), (22, op_cs M_J6_bitCount_0f7a4 1), (25, op_iadd), (26, op_ist 1 1), (27, op_iinc 2 1), (30, op_goto 4), (33, op_ild 1 1), (34, op_iret)]
set_option maxRecDepth 20000 in
theorem K_X12_pairs : ∀ r ∈ T_X12_pairs, OpOK M_X12_pairs r.1 r.2 :=
  fc (ok_iconst (n := 0) (by decide +kernel) (by decide +kernel)) <|
  fc (ok_istn (q := 1) (by decide +kernel) rfl (by decide)) <|
  fc (ok_iconst (n := 0) (by decide +kernel) (by decide +kernel)) <|
  fc (ok_istn (q := 2) (by decide +kernel) rfl (by decide)) <|
  fc (ok_ildn (q := 2) (by decide +kernel) rfl) <|
  fc (ok_aldn (q := 0) (by decide +kernel) rfl) <|
  fc (ok_gi mk_X12_pairs (fo_RX12_110 rfl) rfl (by decide +kernel)) <|
  fc (ok_icge (off := 24) (by decide +kernel) (by decide)) <|
  fc (ok_ildn (q := 1) (by decide +kernel) rfl) <|
  fc (ok_aldn (q := 0) (by decide +kernel) rfl) <|
  fc (ok_aldn (q := 0) (by decide +kernel) rfl) <|
  fc (ok_gf mk_X12_pairs (fo_RX12_9 rfl) rfl (by decide +kernel)) <|
  fc (ok_ildn (q := 2) (by decide +kernel) rfl) <|
  fc (ok_cv mk_X12_pairs mk_X12_sayable ⟨uw454, uw455, uw456, uw5, by decide +kernel⟩ (T := TX12) (N := 47) rfl (by decide +kernel)) <|
  fc (ok_cs mk_X12_pairs mk_J6_bitCount_0f7a4 ⟨uw466, uw429, uw430, by decide +kernel⟩ (by decide +kernel)) <|
  fc (ok_iadd (by decide +kernel)) <|
  fc (ok_istn (q := 1) (by decide +kernel) rfl (by decide)) <|
  fc (ok_iinc (n := 1) (by decide +kernel) (by decide +kernel) (by decide)) <|
  fc (ok_goto (off := -26) (by decide +kernel) (by decide)) <|
  fc (ok_ildn (q := 1) (by decide +kernel) rfl) <|
  fc (ok_iret rfl (by decide +kernel)) <| fn
def T_X12_years : List (Nat × Op) := [(0, op_ald 0 1), (1, op_ic 0 1), (2, op_pi 12 7), (5, op_ild 2 1), (6, op_ic 1 1), (7, op_ic 60 2), (9, op_cs M_X12_in 3), (12, op_ifne 17), (15, op_ic (-1) 1), (16, op_iret), (17, op_ald 0 1), (18, op_ild 1 1), (19, op_pi 12 42), (22, op_ald 0 1), (23, op_gf 12 0 1), (26, op_ald 0 1), (27, op_gf 12 22 11), (30, op_ic 0 1), (31, op_cs M_X12_lay 3), (34, op_ic 0 1), (35, op_ist 3 1), (36, op_ild 3 1), (37, op_ild 2 1), (38, op_icge 158), (41, op_ald 0 1), (42, op_ic 4 1), (43, op_cv M_X12_draw 12 1), (46, op_ist 4 2), (48, op_ild 4 2), (50, op_ifne 62), (53, op_ald 0 1), (54, op_ald 0 1), (55, op_gf 12 22 11), (58, op_ic (-1) 1), (59, op_cv M_X12_goDay 12 2), (62, op_ild 4 2), (64, op_ifeq 152), (67, op_ald 0 1), (68, op_gi 12 1), (71, op_ifne 77), (74, op_goto 152), (77, op_ald 0 1), (78, op_ald 0 1), (79, op_gi 12 1), (82, op_cv M_X12_draw 12 1), (85, op_ist 5 2), (87, op_ald 0 1), (88, op_ild 4 2), (90, op_ic 3 1), (91, op_icne 99), (94, op_ic 10 2), (96, op_goto 103), (99, op_ald 0 1), (100, op_gi 12 1), (103, op_cv M_X12_draw 12 1), (106, op_ist 6 2), (108, op_ild 4 2), (110, op_ic 3 1), (111, op_icne 126), (114, op_ald 0 1), (115, op_gf 12 22 11), (118, op_ild 5 2), (120, op_ild 6 2), (122, op_iast), (123, op_goto 152), (126, op_ald 0 1), (127, op_ald 0 1), (128, op_gf 12 22 11), (131, op_ild 5 2), (133, op_ild 6 2), (135, op_cv M_X12_refusesSaying 12 3), (138, op_ifne 152), (141, op_ald 0 1), (142, op_gf 12 22 11), (145, op_ild 5 2), (147, op_ild 6 2), (149, op_cs M_X12_goSaying 3), (152, op_iinc 3 1), (155, op_goto 36), (158, op_ald 0 1), (159, op_ic 0 1), (160, op_pi 12 6), (163, op_ald 0 1), (164, op_ald 0 1), (165, op_gf 12 22 11), (168, op_ic 29 2), (170, op_iald), (171, op_ald 0 1), (172, op_gf 12 0 1), (175, op_ic 29 2), (177, op_iald), (178, op_isub), (179, op_i2l), (180, op_cv M_X12_tell 12 1), (183, op_ald 0 1), (184, op_ald 0 1), (185, op_ald 0 1), (186, op_gf 12 22 11), (189, op_ic 7 2), (191, op_cv M_X12_sumOf 12 2), (194, op_i2l), (195, op_cv M_X12_tell 12 1), (198, op_ald 0 1), (199, op_ald 0 1), (200, op_gf 12 22 11), (203, op_cv M_X12_atHome 12 1), (206, op_iret)]
set_option maxRecDepth 20000 in
theorem K_X12_years : ∀ r ∈ T_X12_years, OpOK M_X12_years r.1 r.2 :=
  fc (ok_aldn (q := 0) (by decide +kernel) rfl) <|
  fc (ok_iconst (n := 0) (by decide +kernel) (by decide +kernel)) <|
  fc (ok_pi mk_X12_years (fo_RX12_103 rfl) to_12_7 rfl (by decide +kernel)) <|
  fc (ok_ildn (q := 2) (by decide +kernel) rfl) <|
  fc (ok_iconst (n := 1) (by decide +kernel) (by decide +kernel)) <|
  fc (ok_bipush (n := 60) (by decide +kernel) (by decide +kernel)) <|
  fc (ok_cs mk_X12_years mk_X12_in ⟨uw199, uw200, uw5, by decide +kernel⟩ (by decide +kernel)) <|
  fc (ok_ifne (off := 5) (by decide +kernel) (by decide)) <|
  fc (ok_iconst (n := -1) (by decide +kernel) (by decide +kernel)) <|
  fc (ok_iret rfl (by decide +kernel)) <|
  fc (ok_aldn (q := 0) (by decide +kernel) rfl) <|
  fc (ok_ildn (q := 1) (by decide +kernel) rfl) <|
  fc (ok_pi mk_X12_years (fo_RX12_375 rfl) to_12_42 rfl (by decide +kernel)) <|
  fc (ok_aldn (q := 0) (by decide +kernel) rfl) <|
  fc (ok_gf mk_X12_years (fo_RX12_9 rfl) rfl (by decide +kernel)) <|
  fc (ok_aldn (q := 0) (by decide +kernel) rfl) <|
  fc (ok_gf mk_X12_years (fo_RX12_42 rfl) rfl (by decide +kernel)) <|
  fc (ok_iconst (n := 0) (by decide +kernel) (by decide +kernel)) <|
  fc (ok_cs mk_X12_years mk_X12_lay ⟨uw576, uw577, uw5, by decide +kernel⟩ (by decide +kernel)) <|
  fc (ok_iconst (n := 0) (by decide +kernel) (by decide +kernel)) <|
  fc (ok_istn (q := 3) (by decide +kernel) rfl (by decide)) <|
  fc (ok_ildn (q := 3) (by decide +kernel) rfl) <|
  fc (ok_ildn (q := 2) (by decide +kernel) rfl) <|
  fc (ok_icge (off := 120) (by decide +kernel) (by decide)) <|
  fc (ok_aldn (q := 0) (by decide +kernel) rfl) <|
  fc (ok_iconst (n := 4) (by decide +kernel) (by decide +kernel)) <|
  fc (ok_cv mk_X12_years mk_X12_draw ⟨uw1269, uw1270, uw1271, uw5, by decide +kernel⟩ (T := TX12) (N := 47) rfl (by decide +kernel)) <|
  fc (ok_ist (by decide +kernel) (by decide)) <|
  fc (ok_ild (by decide +kernel)) <|
  fc (ok_ifne (off := 12) (by decide +kernel) (by decide)) <|
  fc (ok_aldn (q := 0) (by decide +kernel) rfl) <|
  fc (ok_aldn (q := 0) (by decide +kernel) rfl) <|
  fc (ok_gf mk_X12_years (fo_RX12_42 rfl) rfl (by decide +kernel)) <|
  fc (ok_iconst (n := -1) (by decide +kernel) (by decide +kernel)) <|
  fc (ok_cv mk_X12_years mk_X12_goDay ⟨uw673, uw674, uw675, uw5, by decide +kernel⟩ (T := TX12) (N := 47) rfl (by decide +kernel)) <|
  fc (ok_ild (by decide +kernel)) <|
  fc (ok_ifeq (off := 88) (by decide +kernel) (by decide)) <|
  fc (ok_aldn (q := 0) (by decide +kernel) rfl) <|
  fc (ok_gi mk_X12_years (fo_RX12_110 rfl) rfl (by decide +kernel)) <|
  fc (ok_ifne (off := 6) (by decide +kernel) (by decide)) <|
  fc (ok_goto (off := 78) (by decide +kernel) (by decide)) <|
  fc (ok_aldn (q := 0) (by decide +kernel) rfl) <|
  fc (ok_aldn (q := 0) (by decide +kernel) rfl) <|
  fc (ok_gi mk_X12_years (fo_RX12_110 rfl) rfl (by decide +kernel)) <|
  fc (ok_cv mk_X12_years mk_X12_draw ⟨uw1269, uw1270, uw1271, uw5, by decide +kernel⟩ (T := TX12) (N := 47) rfl (by decide +kernel)) <|
  fc (ok_ist (by decide +kernel) (by decide)) <|
  fc (ok_aldn (q := 0) (by decide +kernel) rfl) <|
  fc (ok_ild (by decide +kernel)) <|
  fc (ok_iconst (n := 3) (by decide +kernel) (by decide +kernel)) <|
  fc (ok_icne (off := 8) (by decide +kernel) (by decide)) <|
  fc (ok_bipush (n := 10) (by decide +kernel) (by decide +kernel)) <|
  fc (ok_goto (off := 7) (by decide +kernel) (by decide)) <|
  fc (ok_aldn (q := 0) (by decide +kernel) rfl) <|
  fc (ok_gi mk_X12_years (fo_RX12_110 rfl) rfl (by decide +kernel)) <|
  fc (ok_cv mk_X12_years mk_X12_draw ⟨uw1269, uw1270, uw1271, uw5, by decide +kernel⟩ (T := TX12) (N := 47) rfl (by decide +kernel)) <|
  fc (ok_ist (by decide +kernel) (by decide)) <|
  fc (ok_ild (by decide +kernel)) <|
  fc (ok_iconst (n := 3) (by decide +kernel) (by decide +kernel)) <|
  fc (ok_icne (off := 15) (by decide +kernel) (by decide)) <|
  fc (ok_aldn (q := 0) (by decide +kernel) rfl) <|
  fc (ok_gf mk_X12_years (fo_RX12_42 rfl) rfl (by decide +kernel)) <|
  fc (ok_ild (by decide +kernel)) <|
  fc (ok_ild (by decide +kernel)) <|
  fc (ok_iast (by decide +kernel)) <|
  fc (ok_goto (off := 29) (by decide +kernel) (by decide)) <|
  fc (ok_aldn (q := 0) (by decide +kernel) rfl) <|
  fc (ok_aldn (q := 0) (by decide +kernel) rfl) <|
  fc (ok_gf mk_X12_years (fo_RX12_42 rfl) rfl (by decide +kernel)) <|
  fc (ok_ild (by decide +kernel)) <|
  fc (ok_ild (by decide +kernel)) <|
  fc (ok_cv mk_X12_years mk_X12_refusesSaying ⟨uw568, uw569, uw570, uw5, by decide +kernel⟩ (T := TX12) (N := 47) rfl (by decide +kernel)) <|
  fc (ok_ifne (off := 14) (by decide +kernel) (by decide)) <|
  fc (ok_aldn (q := 0) (by decide +kernel) rfl) <|
  fc (ok_gf mk_X12_years (fo_RX12_42 rfl) rfl (by decide +kernel)) <|
  fc (ok_ild (by decide +kernel)) <|
  fc (ok_ild (by decide +kernel)) <|
  fc (ok_cs mk_X12_years mk_X12_goSaying ⟨uw579, uw580, uw5, by decide +kernel⟩ (by decide +kernel)) <|
  fc (ok_iinc (n := 1) (by decide +kernel) (by decide +kernel) (by decide)) <|
  fc (ok_goto (off := -119) (by decide +kernel) (by decide)) <|
  fc (ok_aldn (q := 0) (by decide +kernel) rfl) <|
  fc (ok_iconst (n := 0) (by decide +kernel) (by decide +kernel)) <|
  fc (ok_pi mk_X12_years (fo_RX12_107 rfl) to_12_6 rfl (by decide +kernel)) <|
  fc (ok_aldn (q := 0) (by decide +kernel) rfl) <|
  fc (ok_aldn (q := 0) (by decide +kernel) rfl) <|
  fc (ok_gf mk_X12_years (fo_RX12_42 rfl) rfl (by decide +kernel)) <|
  fc (ok_bipush (n := 29) (by decide +kernel) (by decide +kernel)) <|
  fc (ok_iald (by decide +kernel)) <|
  fc (ok_aldn (q := 0) (by decide +kernel) rfl) <|
  fc (ok_gf mk_X12_years (fo_RX12_9 rfl) rfl (by decide +kernel)) <|
  fc (ok_bipush (n := 29) (by decide +kernel) (by decide +kernel)) <|
  fc (ok_iald (by decide +kernel)) <|
  fc (ok_isub (by decide +kernel)) <|
  fc (ok_i2l (by decide +kernel)) <|
  fc (ok_cv mk_X12_years mk_X12_tell ⟨uw677, uw678, uw679, uw5, by decide +kernel⟩ (T := TX12) (N := 47) rfl (by decide +kernel)) <|
  fc (ok_aldn (q := 0) (by decide +kernel) rfl) <|
  fc (ok_aldn (q := 0) (by decide +kernel) rfl) <|
  fc (ok_aldn (q := 0) (by decide +kernel) rfl) <|
  fc (ok_gf mk_X12_years (fo_RX12_42 rfl) rfl (by decide +kernel)) <|
  fc (ok_bipush (n := 7) (by decide +kernel) (by decide +kernel)) <|
  fc (ok_cv mk_X12_years mk_X12_sumOf ⟨uw522, uw523, uw524, uw5, by decide +kernel⟩ (T := TX12) (N := 47) rfl (by decide +kernel)) <|
  fc (ok_i2l (by decide +kernel)) <|
  fc (ok_cv mk_X12_years mk_X12_tell ⟨uw677, uw678, uw679, uw5, by decide +kernel⟩ (T := TX12) (N := 47) rfl (by decide +kernel)) <|
  fc (ok_aldn (q := 0) (by decide +kernel) rfl) <|
  fc (ok_aldn (q := 0) (by decide +kernel) rfl) <|
  fc (ok_gf mk_X12_years (fo_RX12_42 rfl) rfl (by decide +kernel)) <|
  fc (ok_cv mk_X12_years mk_X12_atHome ⟨uw681, uw682, uw683, uw5, by decide +kernel⟩ (T := TX12) (N := 47) rfl (by decide +kernel)) <|
  fc (ok_iret rfl (by decide +kernel)) <| fn
def T_X12_draw : List (Nat × Op) := [(0, op_ald 0 1), (1, op_ald 0 1), (2, op_gi 12 42), (5, op_ic (1103515245) 3), (8, op_imul), (9, op_ic 12345 3), (12, op_iadd), (13, op_pi 12 42), (16, op_ald 0 1), (17, op_gi 12 42), (20, op_ic 16 2), (22, op_iushr), (23, op_ild 1 1), (24, op_irem), (25, op_iret)]
set_option maxRecDepth 20000 in
theorem K_X12_draw : ∀ r ∈ T_X12_draw, OpOK M_X12_draw r.1 r.2 :=
  fc (ok_aldn (q := 0) (by decide +kernel) rfl) <|
  fc (ok_aldn (q := 0) (by decide +kernel) rfl) <|
  fc (ok_gi mk_X12_draw (fo_RX12_375 rfl) rfl (by decide +kernel)) <|
  fc (ok_ldcw mk_X12_draw uw1273 (by decide +kernel)) <|
  fc (ok_imul (by decide +kernel)) <|
  fc (ok_sipush (n := 12345) (by decide +kernel) (by decide +kernel)) <|
  fc (ok_iadd (by decide +kernel)) <|
  fc (ok_pi mk_X12_draw (fo_RX12_375 rfl) to_12_42 rfl (by decide +kernel)) <|
  fc (ok_aldn (q := 0) (by decide +kernel) rfl) <|
  fc (ok_gi mk_X12_draw (fo_RX12_375 rfl) rfl (by decide +kernel)) <|
  fc (ok_bipush (n := 16) (by decide +kernel) (by decide +kernel)) <|
  fc (ok_iushr (by decide +kernel)) <|
  fc (ok_ildn (q := 1) (by decide +kernel) rfl) <|
  fc (ok_irem (by decide +kernel)) <|
  fc (ok_iret rfl (by decide +kernel)) <| fn
def T_X12_keep : List (Nat × Op) := [(0, op_ald 0 1), (1, op_ic 0 1), (2, op_pi 12 7), (5, op_ild 1 1), (6, op_ic 0 1), (7, op_ic 1 1), (8, op_cs M_X12_in 3), (11, op_ifne 16), (14, op_ic 0 1), (15, op_zret), (16, op_ald 0 1), (17, op_gf 12 45 29), (20, op_ild 1 1), (21, op_ic 1 1), (22, op_zast), (23, op_ald 0 1), (24, op_gf 12 46 30), (27, op_ild 1 1), (28, op_ald 0 1), (29, op_gi 12 43), (32, op_iast), (33, op_ald 0 1), (34, op_gf 12 0 1), (37, op_ald 0 1), (38, op_gf 12 44 28), (41, op_ic 30 2), (43, op_ild 1 1), (44, op_imul), (45, op_cs M_X12_lay 3), (48, op_ic 1 1), (49, op_zret)]
set_option maxRecDepth 20000 in
theorem K_X12_keep : ∀ r ∈ T_X12_keep, OpOK M_X12_keep r.1 r.2 :=
  fc (ok_aldn (q := 0) (by decide +kernel) rfl) <|
  fc (ok_iconst (n := 0) (by decide +kernel) (by decide +kernel)) <|
  fc (ok_pi mk_X12_keep (fo_RX12_103 rfl) to_12_7 rfl (by decide +kernel)) <|
  fc (ok_ildn (q := 1) (by decide +kernel) rfl) <|
  fc (ok_iconst (n := 0) (by decide +kernel) (by decide +kernel)) <|
  fc (ok_iconst (n := 1) (by decide +kernel) (by decide +kernel)) <|
  fc (ok_cs mk_X12_keep mk_X12_in ⟨uw199, uw200, uw5, by decide +kernel⟩ (by decide +kernel)) <|
  fc (ok_ifne (off := 5) (by decide +kernel) (by decide)) <|
  fc (ok_iconst (n := 0) (by decide +kernel) (by decide +kernel)) <|
  fc (ok_zret rfl (by decide +kernel)) <|
  fc (ok_aldn (q := 0) (by decide +kernel) rfl) <|
  fc (ok_gf mk_X12_keep (fo_RX12_97 rfl) rfl (by decide +kernel)) <|
  fc (ok_ildn (q := 1) (by decide +kernel) rfl) <|
  fc (ok_iconst (n := 1) (by decide +kernel) (by decide +kernel)) <|
  fc (ok_zast (by decide +kernel)) <|
  fc (ok_aldn (q := 0) (by decide +kernel) rfl) <|
  fc (ok_gf mk_X12_keep (fo_RX12_100 rfl) rfl (by decide +kernel)) <|
  fc (ok_ildn (q := 1) (by decide +kernel) rfl) <|
  fc (ok_aldn (q := 0) (by decide +kernel) rfl) <|
  fc (ok_gi mk_X12_keep (fo_RX12_168 rfl) rfl (by decide +kernel)) <|
  fc (ok_iast (by decide +kernel)) <|
  fc (ok_aldn (q := 0) (by decide +kernel) rfl) <|
  fc (ok_gf mk_X12_keep (fo_RX12_9 rfl) rfl (by decide +kernel)) <|
  fc (ok_aldn (q := 0) (by decide +kernel) rfl) <|
  fc (ok_gf mk_X12_keep (fo_RX12_94 rfl) rfl (by decide +kernel)) <|
  fc (ok_bipush (n := 30) (by decide +kernel) (by decide +kernel)) <|
  fc (ok_ildn (q := 1) (by decide +kernel) rfl) <|
  fc (ok_imul (by decide +kernel)) <|
  fc (ok_cs mk_X12_keep mk_X12_lay ⟨uw576, uw577, uw5, by decide +kernel⟩ (by decide +kernel)) <|
  fc (ok_iconst (n := 1) (by decide +kernel) (by decide +kernel)) <|
  fc (ok_zret rfl (by decide +kernel)) <| fn
def T_X12_again : List (Nat × Op) := [(0, op_ald 0 1), (1, op_ic 0 1), (2, op_pi 12 7), (5, op_ild 1 1), (6, op_ic 0 1), (7, op_ic 1 1), (8, op_cs M_X12_in 3), (11, op_ifeq 36), (14, op_ald 0 1), (15, op_gf 12 45 29), (18, op_ild 1 1), (19, op_zald), (20, op_ifeq 36), (23, op_ald 0 1), (24, op_gf 12 46 30), (27, op_ild 1 1), (28, op_iald), (29, op_ald 0 1), (30, op_gi 12 43), (33, op_iceq 38), (36, op_ic 0 1), (37, op_zret), (38, op_ic 0 1), (39, op_ist 2 1), (40, op_ild 2 1), (41, op_ic 30 2), (43, op_icge 69), (46, op_ald 0 1), (47, op_gf 12 0 1), (50, op_ild 2 1), (51, op_ald 0 1), (52, op_gf 12 44 28), (55, op_ic 30 2), (57, op_ild 1 1), (58, op_imul), (59, op_ild 2 1), (60, op_iadd), (61, op_iald), (62, op_iast), (63, op_iinc 2 1), (66, op_goto 40), (69, op_ald 0 1), (70, op_ic 0 1), (71, op_pi 12 20), (74, op_ic 1 1), (75, op_zret)]
set_option maxRecDepth 20000 in
theorem K_X12_again : ∀ r ∈ T_X12_again, OpOK M_X12_again r.1 r.2 :=
  fc (ok_aldn (q := 0) (by decide +kernel) rfl) <|
  fc (ok_iconst (n := 0) (by decide +kernel) (by decide +kernel)) <|
  fc (ok_pi mk_X12_again (fo_RX12_103 rfl) to_12_7 rfl (by decide +kernel)) <|
  fc (ok_ildn (q := 1) (by decide +kernel) rfl) <|
  fc (ok_iconst (n := 0) (by decide +kernel) (by decide +kernel)) <|
  fc (ok_iconst (n := 1) (by decide +kernel) (by decide +kernel)) <|
  fc (ok_cs mk_X12_again mk_X12_in ⟨uw199, uw200, uw5, by decide +kernel⟩ (by decide +kernel)) <|
  fc (ok_ifeq (off := 25) (by decide +kernel) (by decide)) <|
  fc (ok_aldn (q := 0) (by decide +kernel) rfl) <|
  fc (ok_gf mk_X12_again (fo_RX12_97 rfl) rfl (by decide +kernel)) <|
  fc (ok_ildn (q := 1) (by decide +kernel) rfl) <|
  fc (ok_zald (by decide +kernel)) <|
  fc (ok_ifeq (off := 16) (by decide +kernel) (by decide)) <|
  fc (ok_aldn (q := 0) (by decide +kernel) rfl) <|
  fc (ok_gf mk_X12_again (fo_RX12_100 rfl) rfl (by decide +kernel)) <|
  fc (ok_ildn (q := 1) (by decide +kernel) rfl) <|
  fc (ok_iald (by decide +kernel)) <|
  fc (ok_aldn (q := 0) (by decide +kernel) rfl) <|
  fc (ok_gi mk_X12_again (fo_RX12_168 rfl) rfl (by decide +kernel)) <|
  fc (ok_iceq (off := 5) (by decide +kernel) (by decide)) <|
  fc (ok_iconst (n := 0) (by decide +kernel) (by decide +kernel)) <|
  fc (ok_zret rfl (by decide +kernel)) <|
  fc (ok_iconst (n := 0) (by decide +kernel) (by decide +kernel)) <|
  fc (ok_istn (q := 2) (by decide +kernel) rfl (by decide)) <|
  fc (ok_ildn (q := 2) (by decide +kernel) rfl) <|
  fc (ok_bipush (n := 30) (by decide +kernel) (by decide +kernel)) <|
  fc (ok_icge (off := 26) (by decide +kernel) (by decide)) <|
  fc (ok_aldn (q := 0) (by decide +kernel) rfl) <|
  fc (ok_gf mk_X12_again (fo_RX12_9 rfl) rfl (by decide +kernel)) <|
  fc (ok_ildn (q := 2) (by decide +kernel) rfl) <|
  fc (ok_aldn (q := 0) (by decide +kernel) rfl) <|
  fc (ok_gf mk_X12_again (fo_RX12_94 rfl) rfl (by decide +kernel)) <|
  fc (ok_bipush (n := 30) (by decide +kernel) (by decide +kernel)) <|
  fc (ok_ildn (q := 1) (by decide +kernel) rfl) <|
  fc (ok_imul (by decide +kernel)) <|
  fc (ok_ildn (q := 2) (by decide +kernel) rfl) <|
  fc (ok_iadd (by decide +kernel)) <|
  fc (ok_iald (by decide +kernel)) <|
  fc (ok_iast (by decide +kernel)) <|
  fc (ok_iinc (n := 1) (by decide +kernel) (by decide +kernel) (by decide)) <|
  fc (ok_goto (off := -26) (by decide +kernel) (by decide)) <|
  fc (ok_aldn (q := 0) (by decide +kernel) rfl) <|
  fc (ok_iconst (n := 0) (by decide +kernel) (by decide +kernel)) <|
  fc (ok_pi mk_X12_again (fo_RX12_165 rfl) to_12_20 rfl (by decide +kernel)) <|
  fc (ok_iconst (n := 1) (by decide +kernel) (by decide +kernel)) <|
  fc (ok_zret rfl (by decide +kernel)) <| fn
def T_X12_count : List (Nat × Op) := [(0, op_ald 0 1), (1, op_ic 0 1), (2, op_pi 12 7), (5, op_ild 1 1), (6, op_sw 150 [(0, 68), (1, 73), (2, 81), (3, 89), (4, 98), (5, 109), (6, 120), (7, 125), (8, 130), (9, 135), (10, 140), (11, 145)]), (68, op_ald 0 1), (69, op_gi 12 1), (72, op_iret), (73, op_ald 0 1), (74, op_gf 12 0 1), (77, op_ic 28 2), (79, op_iald), (80, op_iret), (81, op_ald 0 1), (82, op_gf 12 0 1), (85, op_ic 29 2), (87, op_iald), (88, op_iret), (89, op_ald 0 1), (90, op_ald 0 1), (91, op_gf 12 0 1), (94, op_cv M_X12_atHome 12 1), (97, op_iret), (98, op_ald 0 1), (99, op_ald 0 1), (100, op_gf 12 0 1), (103, op_ic 7 2), (105, op_cv M_X12_sumOf 12 2), (108, op_iret), (109, op_ald 0 1), (110, op_ald 0 1), (111, op_gf 12 0 1), (114, op_ic 21 2), (116, op_cv M_X12_sumOf 12 2), (119, op_iret), (120, op_ald 0 1), (121, op_cv M_X12_voices 12 0), (124, op_iret), (125, op_ald 0 1), (126, op_gi 12 35), (129, op_iret), (130, op_ald 0 1), (131, op_gi 12 38), (134, op_iret), (135, op_ald 0 1), (136, op_gi 12 20), (139, op_iret), (140, op_ald 0 1), (141, op_gi 12 6), (144, op_iret), (145, op_ald 0 1), (146, op_gi 12 4), (149, op_iret), (150, op_ic (-1) 1), (151, op_iret)]
set_option maxRecDepth 20000 in
theorem K_X12_count : ∀ r ∈ T_X12_count, OpOK M_X12_count r.1 r.2 :=
  fc (ok_aldn (q := 0) (by decide +kernel) rfl) <|
  fc (ok_iconst (n := 0) (by decide +kernel) (by decide +kernel)) <|
  fc (ok_pi mk_X12_count (fo_RX12_103 rfl) to_12_7 rfl (by decide +kernel)) <|
  fc (ok_ildn (q := 1) (by decide +kernel) rfl) <|
  fc (ok_tsw (dflt := 144) (lo := 0) (hi := 11) (offs := #[62, 67, 75, 83, 92, 103, 114, 119, 124, 129, 134, 139]) (len := 62) (by decide +kernel) (by decide +kernel) (by decide +kernel) (by decide) (by decide)) <|
  fc (ok_aldn (q := 0) (by decide +kernel) rfl) <|
  fc (ok_gi mk_X12_count (fo_RX12_110 rfl) rfl (by decide +kernel)) <|
  fc (ok_iret rfl (by decide +kernel)) <|
  fc (ok_aldn (q := 0) (by decide +kernel) rfl) <|
  fc (ok_gf mk_X12_count (fo_RX12_9 rfl) rfl (by decide +kernel)) <|
  fc (ok_bipush (n := 28) (by decide +kernel) (by decide +kernel)) <|
  fc (ok_iald (by decide +kernel)) <|
  fc (ok_iret rfl (by decide +kernel)) <|
  fc (ok_aldn (q := 0) (by decide +kernel) rfl) <|
  fc (ok_gf mk_X12_count (fo_RX12_9 rfl) rfl (by decide +kernel)) <|
  fc (ok_bipush (n := 29) (by decide +kernel) (by decide +kernel)) <|
  fc (ok_iald (by decide +kernel)) <|
  fc (ok_iret rfl (by decide +kernel)) <|
  fc (ok_aldn (q := 0) (by decide +kernel) rfl) <|
  fc (ok_aldn (q := 0) (by decide +kernel) rfl) <|
  fc (ok_gf mk_X12_count (fo_RX12_9 rfl) rfl (by decide +kernel)) <|
  fc (ok_cv mk_X12_count mk_X12_atHome ⟨uw681, uw682, uw683, uw5, by decide +kernel⟩ (T := TX12) (N := 47) rfl (by decide +kernel)) <|
  fc (ok_iret rfl (by decide +kernel)) <|
  fc (ok_aldn (q := 0) (by decide +kernel) rfl) <|
  fc (ok_aldn (q := 0) (by decide +kernel) rfl) <|
  fc (ok_gf mk_X12_count (fo_RX12_9 rfl) rfl (by decide +kernel)) <|
  fc (ok_bipush (n := 7) (by decide +kernel) (by decide +kernel)) <|
  fc (ok_cv mk_X12_count mk_X12_sumOf ⟨uw522, uw523, uw524, uw5, by decide +kernel⟩ (T := TX12) (N := 47) rfl (by decide +kernel)) <|
  fc (ok_iret rfl (by decide +kernel)) <|
  fc (ok_aldn (q := 0) (by decide +kernel) rfl) <|
  fc (ok_aldn (q := 0) (by decide +kernel) rfl) <|
  fc (ok_gf mk_X12_count (fo_RX12_9 rfl) rfl (by decide +kernel)) <|
  fc (ok_bipush (n := 21) (by decide +kernel) (by decide +kernel)) <|
  fc (ok_cv mk_X12_count mk_X12_sumOf ⟨uw522, uw523, uw524, uw5, by decide +kernel⟩ (T := TX12) (N := 47) rfl (by decide +kernel)) <|
  fc (ok_iret rfl (by decide +kernel)) <|
  fc (ok_aldn (q := 0) (by decide +kernel) rfl) <|
  fc (ok_cv mk_X12_count mk_X12_voices ⟨uw1309, uw1310, uw1311, uw5, by decide +kernel⟩ (T := TX12) (N := 47) rfl (by decide +kernel)) <|
  fc (ok_iret rfl (by decide +kernel)) <|
  fc (ok_aldn (q := 0) (by decide +kernel) rfl) <|
  fc (ok_gi mk_X12_count (fo_RX12_337 rfl) rfl (by decide +kernel)) <|
  fc (ok_iret rfl (by decide +kernel)) <|
  fc (ok_aldn (q := 0) (by decide +kernel) rfl) <|
  fc (ok_gi mk_X12_count (fo_RX12_346 rfl) rfl (by decide +kernel)) <|
  fc (ok_iret rfl (by decide +kernel)) <|
  fc (ok_aldn (q := 0) (by decide +kernel) rfl) <|
  fc (ok_gi mk_X12_count (fo_RX12_165 rfl) rfl (by decide +kernel)) <|
  fc (ok_iret rfl (by decide +kernel)) <|
  fc (ok_aldn (q := 0) (by decide +kernel) rfl) <|
  fc (ok_gi mk_X12_count (fo_RX12_107 rfl) rfl (by decide +kernel)) <|
  fc (ok_iret rfl (by decide +kernel)) <|
  fc (ok_aldn (q := 0) (by decide +kernel) rfl) <|
  fc (ok_gi mk_X12_count (fo_RX12_117 rfl) rfl (by decide +kernel)) <|
  fc (ok_iret rfl (by decide +kernel)) <|
  fc (ok_iconst (n := -1) (by decide +kernel) (by decide +kernel)) <|
  fc (ok_iret rfl (by decide +kernel)) <| fn
def T_X12_voices : List (Nat × Op) := [(0, op_ic 0 1), (1, op_ist 1 1), (2, op_ic 0 1), (3, op_ist 2 1), (4, op_ild 2 1), (5, op_ald 0 1), (6, op_gi 12 1), (9, op_icge 27), (12, op_ild 1 1), (13, op_ald 0 1), (14, op_gf 12 2 2), (17, op_ild 2 1), (18, op_iald), (19, op_iadd), (20, op_ist 1 1), (21, op_iinc 2 1), (24, op_goto 4), (27, op_ild 1 1), (28, op_iret)]
set_option maxRecDepth 20000 in
theorem K_X12_voices : ∀ r ∈ T_X12_voices, OpOK M_X12_voices r.1 r.2 :=
  fc (ok_iconst (n := 0) (by decide +kernel) (by decide +kernel)) <|
  fc (ok_istn (q := 1) (by decide +kernel) rfl (by decide)) <|
  fc (ok_iconst (n := 0) (by decide +kernel) (by decide +kernel)) <|
  fc (ok_istn (q := 2) (by decide +kernel) rfl (by decide)) <|
  fc (ok_ildn (q := 2) (by decide +kernel) rfl) <|
  fc (ok_aldn (q := 0) (by decide +kernel) rfl) <|
  fc (ok_gi mk_X12_voices (fo_RX12_110 rfl) rfl (by decide +kernel)) <|
  fc (ok_icge (off := 18) (by decide +kernel) (by decide)) <|
  fc (ok_ildn (q := 1) (by decide +kernel) rfl) <|
  fc (ok_aldn (q := 0) (by decide +kernel) rfl) <|
  fc (ok_gf mk_X12_voices (fo_RX12_13 rfl) rfl (by decide +kernel)) <|
  fc (ok_ildn (q := 2) (by decide +kernel) rfl) <|
  fc (ok_iald (by decide +kernel)) <|
  fc (ok_iadd (by decide +kernel)) <|
  fc (ok_istn (q := 1) (by decide +kernel) rfl (by decide)) <|
  fc (ok_iinc (n := 1) (by decide +kernel) (by decide +kernel) (by decide)) <|
  fc (ok_goto (off := -20) (by decide +kernel) (by decide)) <|
  fc (ok_ildn (q := 1) (by decide +kernel) rfl) <|
  fc (ok_iret rfl (by decide +kernel)) <| fn
def T_X12_row : List (Nat × Op) := [(0, op_ald 0 1), (1, op_ic 0 1), (2, op_pi 12 7), (5, op_ild 1 1), (6, op_ic 0 1), (7, op_ald 0 1), (8, op_gi 12 6), (11, op_ic 1 1), (12, op_isub), (13, op_cs M_X12_in 3), (16, op_ifeq 28), (19, op_ald 0 1), (20, op_gf 12 5 4), (23, op_ild 1 1), (24, op_lald), (25, op_goto 33), (28, op_ald 0 1), (29, op_cv M_X12_lost 12 0), (32, op_i2l), (33, op_lret)]
set_option maxRecDepth 20000 in
theorem K_X12_row : ∀ r ∈ T_X12_row, OpOK M_X12_row r.1 r.2 :=
  fc (ok_aldn (q := 0) (by decide +kernel) rfl) <|
  fc (ok_iconst (n := 0) (by decide +kernel) (by decide +kernel)) <|
  fc (ok_pi mk_X12_row (fo_RX12_103 rfl) to_12_7 rfl (by decide +kernel)) <|
  fc (ok_ildn (q := 1) (by decide +kernel) rfl) <|
  fc (ok_iconst (n := 0) (by decide +kernel) (by decide +kernel)) <|
  fc (ok_aldn (q := 0) (by decide +kernel) rfl) <|
  fc (ok_gi mk_X12_row (fo_RX12_107 rfl) rfl (by decide +kernel)) <|
  fc (ok_iconst (n := 1) (by decide +kernel) (by decide +kernel)) <|
  fc (ok_isub (by decide +kernel)) <|
  fc (ok_cs mk_X12_row mk_X12_in ⟨uw199, uw200, uw5, by decide +kernel⟩ (by decide +kernel)) <|
  fc (ok_ifeq (off := 12) (by decide +kernel) (by decide)) <|
  fc (ok_aldn (q := 0) (by decide +kernel) rfl) <|
  fc (ok_gf mk_X12_row (fo_RX12_20 rfl) rfl (by decide +kernel)) <|
  fc (ok_ildn (q := 1) (by decide +kernel) rfl) <|
  fc (ok_lald (by decide +kernel)) <|
  fc (ok_goto (off := 8) (by decide +kernel) (by decide)) <|
  fc (ok_aldn (q := 0) (by decide +kernel) rfl) <|
  fc (ok_cv mk_X12_row mk_X12_lost ⟨uw446, uw447, uw448, uw5, by decide +kernel⟩ (T := TX12) (N := 47) rfl (by decide +kernel)) <|
  fc (ok_i2l (by decide +kernel)) <|
  fc (ok_lret rfl (by decide +kernel)) <| fn
