def T_X12_sign : List (Nat × Op) := [(0, op_ald 0 1), (1, op_ic 0 1), (2, op_pi 12 7), (5, op_ald 0 1), (6, op_gi 12 4), (9, op_ic 4 1), (10, op_iadd), (11, op_ic 80 2), (13, op_icle 18), (16, op_ic (-1) 1), (17, op_iret), (18, op_ic 3 1), (19, op_ist 2 1), (20, op_ild 2 1), (21, op_iflt 53), (24, op_ald 0 1), (25, op_gf 12 3 3), (28, op_ald 0 1), (29, op_dup), (30, op_gi 12 4), (33, op_dup_x1), (34, op_ic 1 1), (35, op_iadd), (36, op_pi 12 4), (39, op_ild 1 1), (40, op_ic 8 2), (42, op_ild 2 1), (43, op_imul), (44, op_ishr), (45, op_i2b), (46, op_bast), (47, op_iinc 2 (-1)), (50, op_goto 20), (53, op_ald 0 1), (54, op_gi 12 4), (57, op_iret)]
set_option maxRecDepth 20000 in
theorem K_X12_sign : ∀ r ∈ T_X12_sign, OpOK M_X12_sign r.1 r.2 :=
  fc (ok_aldn (q := 0) (by decide +kernel) rfl) <|
  fc (ok_iconst (n := 0) (by decide +kernel) (by decide +kernel)) <|
  fc (ok_pi mk_X12_sign (fo_RX12_103 rfl) to_12_7 rfl (by decide +kernel)) <|
  fc (ok_aldn (q := 0) (by decide +kernel) rfl) <|
  fc (ok_gi mk_X12_sign (fo_RX12_117 rfl) rfl (by decide +kernel)) <|
  fc (ok_iconst (n := 4) (by decide +kernel) (by decide +kernel)) <|
  fc (ok_iadd (by decide +kernel)) <|
  fc (ok_bipush (n := 80) (by decide +kernel) (by decide +kernel)) <|
  fc (ok_icle (off := 5) (by decide +kernel) (by decide)) <|
  fc (ok_iconst (n := -1) (by decide +kernel) (by decide +kernel)) <|
  fc (ok_iret rfl (by decide +kernel)) <|
  fc (ok_iconst (n := 3) (by decide +kernel) (by decide +kernel)) <|
  fc (ok_istn (q := 2) (by decide +kernel) rfl (by decide)) <|
  fc (ok_ildn (q := 2) (by decide +kernel) rfl) <|
  fc (ok_iflt (off := 32) (by decide +kernel) (by decide)) <|
  fc (ok_aldn (q := 0) (by decide +kernel) rfl) <|
  fc (ok_gf mk_X12_sign (fo_RX12_16 rfl) rfl (by decide +kernel)) <|
  fc (ok_aldn (q := 0) (by decide +kernel) rfl) <|
  fc (ok_dup (by decide +kernel)) <|
  fc (ok_gi mk_X12_sign (fo_RX12_117 rfl) rfl (by decide +kernel)) <|
  fc (ok_dup_x1 (by decide +kernel)) <|
  fc (ok_iconst (n := 1) (by decide +kernel) (by decide +kernel)) <|
  fc (ok_iadd (by decide +kernel)) <|
  fc (ok_pi mk_X12_sign (fo_RX12_117 rfl) to_12_4 rfl (by decide +kernel)) <|
  fc (ok_ildn (q := 1) (by decide +kernel) rfl) <|
  fc (ok_bipush (n := 8) (by decide +kernel) (by decide +kernel)) <|
  fc (ok_ildn (q := 2) (by decide +kernel) rfl) <|
  fc (ok_imul (by decide +kernel)) <|
  fc (ok_ishr (by decide +kernel)) <|
  fc (ok_i2b (by decide +kernel)) <|
  fc (ok_bast (by decide +kernel)) <|
  fc (ok_iinc (n := -1) (by decide +kernel) (by decide +kernel) (by decide)) <|
  fc (ok_goto (off := -30) (by decide +kernel) (by decide)) <|
  fc (ok_aldn (q := 0) (by decide +kernel) rfl) <|
  fc (ok_gi mk_X12_sign (fo_RX12_117 rfl) rfl (by decide +kernel)) <|
  fc (ok_iret rfl (by decide +kernel)) <| fn
def T_X12_end : List (Nat × Op) := [(0, op_ald 0 1), (1, op_ic 0 1), (2, op_pi 12 7), (5, op_ild 1 1), (6, op_ic 0 1), (7, op_ald 0 1), (8, op_gi 12 4), (11, op_cs M_X12_in 3), (14, op_ifne 19), (17, op_ic 0 1), (18, op_zret), (19, op_ald 0 1), (20, op_ild 1 1), (21, op_pi 12 4), (24, op_ic 1 1), (25, op_zret)]
set_option maxRecDepth 20000 in
theorem K_X12_end : ∀ r ∈ T_X12_end, OpOK M_X12_end r.1 r.2 :=
  fc (ok_aldn (q := 0) (by decide +kernel) rfl) <|
  fc (ok_iconst (n := 0) (by decide +kernel) (by decide +kernel)) <|
  fc (ok_pi mk_X12_end (fo_RX12_103 rfl) to_12_7 rfl (by decide +kernel)) <|
  fc (ok_ildn (q := 1) (by decide +kernel) rfl) <|
  fc (ok_iconst (n := 0) (by decide +kernel) (by decide +kernel)) <|
  fc (ok_aldn (q := 0) (by decide +kernel) rfl) <|
  fc (ok_gi mk_X12_end (fo_RX12_117 rfl) rfl (by decide +kernel)) <|
  fc (ok_cs mk_X12_end mk_X12_in ⟨uw199, uw200, uw5, by decide +kernel⟩ (by decide +kernel)) <|
  fc (ok_ifne (off := 5) (by decide +kernel) (by decide)) <|
  fc (ok_iconst (n := 0) (by decide +kernel) (by decide +kernel)) <|
  fc (ok_zret rfl (by decide +kernel)) <|
  fc (ok_aldn (q := 0) (by decide +kernel) rfl) <|
  fc (ok_ildn (q := 1) (by decide +kernel) rfl) <|
  fc (ok_pi mk_X12_end (fo_RX12_117 rfl) to_12_4 rfl (by decide +kernel)) <|
  fc (ok_iconst (n := 1) (by decide +kernel) (by decide +kernel)) <|
  fc (ok_zret rfl (by decide +kernel)) <| fn
def T_X12_in : List (Nat × Op) := [(0, op_ild 0 1), (1, op_ild 1 1), (2, op_iclt 14), (5, op_ild 0 1), (6, op_ild 2 1), (7, op_icgt 14), (10, op_ic 1 1), (11, op_goto 15), (14, op_ic 0 1), (15, op_zret)]
set_option maxRecDepth 20000 in
theorem K_X12_in : ∀ r ∈ T_X12_in, OpOK M_X12_in r.1 r.2 :=
  fc (ok_ildn (q := 0) (by decide +kernel) rfl) <|
  fc (ok_ildn (q := 1) (by decide +kernel) rfl) <|
  fc (ok_iclt (off := 12) (by decide +kernel) (by decide)) <|
  fc (ok_ildn (q := 0) (by decide +kernel) rfl) <|
  fc (ok_ildn (q := 2) (by decide +kernel) rfl) <|
  fc (ok_icgt (off := 7) (by decide +kernel) (by decide)) <|
  fc (ok_iconst (n := 1) (by decide +kernel) (by decide +kernel)) <|
  fc (ok_goto (off := 4) (by decide +kernel) (by decide)) <|
  fc (ok_iconst (n := 0) (by decide +kernel) (by decide +kernel)) <|
  fc (ok_zret rfl (by decide +kernel)) <| fn
def T_X12_people : List (Nat × Op) := [(0, op_ald 0 1), (1, op_ic 0 1), (2, op_pi 12 7), (5, op_ald 0 1), (6, op_ic 34 2), (8, op_cv M_X12_beginText 12 1), (11, op_ald 0 1), (12, op_gi 12 9), (15, op_ifne 20), (18, op_ic 0 1), (19, op_iret), (20, op_ic 0 1), (21, op_ist 1 1), (22, op_ic 1 1), (23, op_ist 2 1), (24, op_ild 2 1), (25, op_ifeq 146), (28, op_ald 0 1), (29, op_cv M_X12_fine 12 0), (32, op_ifeq 146), (35, op_ald 0 1), (36, op_gi 12 1), (39, op_ild 1 1), (40, op_iadd), (41, op_ic 7 2), (43, op_icne 57), (46, op_ald 0 1), (47, op_ald 0 1), (48, op_gi 12 11), (51, op_cv M_X12_fault 12 1), (54, op_goto 133), (57, op_ald 0 1), (58, op_gf 12 13 5), (61, op_ic 3 1), (62, op_ild 1 1), (63, op_imul), (64, op_ald 0 1), (65, op_ic 48 2), (67, op_ic 10 2), (69, op_cv M_X12_oneOf 12 2), (72, op_iast), (73, op_ald 0 1), (74, op_gf 12 13 5), (77, op_ic 3 1), (78, op_ild 1 1), (79, op_imul), (80, op_ic 1 1), (81, op_iadd), (82, op_ald 0 1), (83, op_ic 48 2), (85, op_ic 10 2), (87, op_cv M_X12_oneOf 12 2), (90, op_iast), (91, op_ald 0 1), (92, op_gf 12 13 5), (95, op_ic 3 1), (96, op_ild 1 1), (97, op_imul), (98, op_ic 2 1), (99, op_iadd), (100, op_ic 10 2), (102, op_ald 0 1), (103, op_ic 48 2), (105, op_ic 10 2), (107, op_cv M_X12_oneOf 12 2), (110, op_imul), (111, op_iast), (112, op_ald 0 1), (113, op_gf 12 13 5), (116, op_ic 3 1), (117, op_ild 1 1), (118, op_imul), (119, op_ic 2 1), (120, op_iadd), (121, op_dup2), (122, op_iald), (123, op_ald 0 1), (124, op_ic 48 2), (126, op_ic 10 2), (128, op_cv M_X12_oneOf 12 2), (131, op_iadd), (132, op_iast), (133, op_iinc 1 1), (136, op_ald 0 1), (137, op_ic 59 2), (139, op_cv M_X12_passes 12 1), (142, op_ist 2 1), (143, op_goto 24), (146, op_ald 0 1), (147, op_cv M_X12_wasRight 12 0), (150, op_ifne 160), (153, op_ic (-1) 1), (154, op_ald 0 1), (155, op_gi 12 12), (158, op_isub), (159, op_iret), (160, op_ic 0 1), (161, op_ist 3 1), (162, op_ild 3 1), (163, op_ild 1 1), (164, op_icge 270), (167, op_ald 0 1), (168, op_gf 12 0 1), (171, op_ald 0 1), (172, op_gi 12 1), (175, op_ald 0 1), (176, op_gf 12 13 5), (179, op_ic 3 1), (180, op_ild 3 1), (181, op_imul), (182, op_iald), (183, op_iast), (184, op_ald 0 1), (185, op_gf 12 2 2), (188, op_ald 0 1), (189, op_gi 12 1), (192, op_ald 0 1), (193, op_gf 12 13 5), (196, op_ic 3 1), (197, op_ild 3 1), (198, op_imul), (199, op_ic 1 1), (200, op_iadd), (201, op_iald), (202, op_iast), (203, op_ald 0 1), (204, op_gf 12 0 1), (207, op_ic 7 2), (209, op_ald 0 1), (210, op_gi 12 1), (213, op_iadd), (214, op_ald 0 1), (215, op_gf 12 13 5), (218, op_ic 3 1), (219, op_ild 3 1), (220, op_imul), (221, op_ic 2 1), (222, op_iadd), (223, op_iald), (224, op_iast), (225, op_ald 0 1), (226, op_gf 12 0 1), (229, op_ic 14 2), (231, op_ald 0 1), (232, op_gi 12 1), (235, op_iadd), (236, op_ald 0 1), (237, op_gi 12 1), (240, op_iast), (241, op_ald 0 1), (242, op_gf 12 0 1), (245, op_ic 21 2), (247, op_ald 0 1), (248, op_gi 12 1), (251, op_iadd), (252, op_ic 0 1), (253, op_iast), (254, op_ald 0 1), (255, op_dup), (256, op_gi 12 1), (259, op_ic 1 1), (260, op_iadd), (261, op_pi 12 1), (264, op_iinc 3 1), (267, op_goto 162), (270, op_ald 0 1), (271, op_ic 0 1), (272, op_pi 12 20), (275, op_ald 0 1), (276, op_dup), (277, op_gi 12 43), (280, op_ic 1 1), (281, op_iadd), (282, op_pi 12 43), (285, op_ild 1 1), (286, op_iret)]
set_option maxRecDepth 20000 in
theorem K_X12_people : ∀ r ∈ T_X12_people, OpOK M_X12_people r.1 r.2 :=
  fc (ok_aldn (q := 0) (by decide +kernel) rfl) <|
  fc (ok_iconst (n := 0) (by decide +kernel) (by decide +kernel)) <|
  fc (ok_pi mk_X12_people (fo_RX12_103 rfl) to_12_7 rfl (by decide +kernel)) <|
  fc (ok_aldn (q := 0) (by decide +kernel) rfl) <|
  fc (ok_bipush (n := 34) (by decide +kernel) (by decide +kernel)) <|
  fc (ok_cv mk_X12_people mk_X12_beginText ⟨uw263, uw264, uw265, uw5, by decide +kernel⟩ (T := TX12) (N := 47) rfl (by decide +kernel)) <|
  fc (ok_aldn (q := 0) (by decide +kernel) rfl) <|
  fc (ok_gi mk_X12_people (fo_RX12_123 rfl) rfl (by decide +kernel)) <|
  fc (ok_ifne (off := 5) (by decide +kernel) (by decide)) <|
  fc (ok_iconst (n := 0) (by decide +kernel) (by decide +kernel)) <|
  fc (ok_iret rfl (by decide +kernel)) <|
  fc (ok_iconst (n := 0) (by decide +kernel) (by decide +kernel)) <|
  fc (ok_istn (q := 1) (by decide +kernel) rfl (by decide)) <|
  fc (ok_iconst (n := 1) (by decide +kernel) (by decide +kernel)) <|
  fc (ok_istn (q := 2) (by decide +kernel) rfl (by decide)) <|
  fc (ok_ildn (q := 2) (by decide +kernel) rfl) <|
  fc (ok_ifeq (off := 121) (by decide +kernel) (by decide)) <|
  fc (ok_aldn (q := 0) (by decide +kernel) rfl) <|
  fc (ok_cv mk_X12_people mk_X12_fine ⟨uw273, uw274, uw275, uw5, by decide +kernel⟩ (T := TX12) (N := 47) rfl (by decide +kernel)) <|
  fc (ok_ifeq (off := 114) (by decide +kernel) (by decide)) <|
  fc (ok_aldn (q := 0) (by decide +kernel) rfl) <|
  fc (ok_gi mk_X12_people (fo_RX12_110 rfl) rfl (by decide +kernel)) <|
  fc (ok_ildn (q := 1) (by decide +kernel) rfl) <|
  fc (ok_iadd (by decide +kernel)) <|
  fc (ok_bipush (n := 7) (by decide +kernel) (by decide +kernel)) <|
  fc (ok_icne (off := 14) (by decide +kernel) (by decide)) <|
  fc (ok_aldn (q := 0) (by decide +kernel) rfl) <|
  fc (ok_aldn (q := 0) (by decide +kernel) rfl) <|
  fc (ok_gi mk_X12_people (fo_RX12_129 rfl) rfl (by decide +kernel)) <|
  fc (ok_cv mk_X12_people mk_X12_fault ⟨uw277, uw278, uw279, uw5, by decide +kernel⟩ (T := TX12) (N := 47) rfl (by decide +kernel)) <|
  fc (ok_goto (off := 79) (by decide +kernel) (by decide)) <|
  fc (ok_aldn (q := 0) (by decide +kernel) rfl) <|
  fc (ok_gf mk_X12_people (fo_RX12_24 rfl) rfl (by decide +kernel)) <|
  fc (ok_iconst (n := 3) (by decide +kernel) (by decide +kernel)) <|
  fc (ok_ildn (q := 1) (by decide +kernel) rfl) <|
  fc (ok_imul (by decide +kernel)) <|
  fc (ok_aldn (q := 0) (by decide +kernel) rfl) <|
  fc (ok_bipush (n := 48) (by decide +kernel) (by decide +kernel)) <|
  fc (ok_bipush (n := 10) (by decide +kernel) (by decide +kernel)) <|
  fc (ok_cv mk_X12_people mk_X12_oneOf ⟨uw281, uw282, uw283, uw5, by decide +kernel⟩ (T := TX12) (N := 47) rfl (by decide +kernel)) <|
  fc (ok_iast (by decide +kernel)) <|
  fc (ok_aldn (q := 0) (by decide +kernel) rfl) <|
  fc (ok_gf mk_X12_people (fo_RX12_24 rfl) rfl (by decide +kernel)) <|
  fc (ok_iconst (n := 3) (by decide +kernel) (by decide +kernel)) <|
  fc (ok_ildn (q := 1) (by decide +kernel) rfl) <|
  fc (ok_imul (by decide +kernel)) <|
  fc (ok_iconst (n := 1) (by decide +kernel) (by decide +kernel)) <|
  fc (ok_iadd (by decide +kernel)) <|
  fc (ok_aldn (q := 0) (by decide +kernel) rfl) <|
  fc (ok_bipush (n := 48) (by decide +kernel) (by decide +kernel)) <|
  fc (ok_bipush (n := 10) (by decide +kernel) (by decide +kernel)) <|
  fc (ok_cv mk_X12_people mk_X12_oneOf ⟨uw281, uw282, uw283, uw5, by decide +kernel⟩ (T := TX12) (N := 47) rfl (by decide +kernel)) <|
  fc (ok_iast (by decide +kernel)) <|
  fc (ok_aldn (q := 0) (by decide +kernel) rfl) <|
  fc (ok_gf mk_X12_people (fo_RX12_24 rfl) rfl (by decide +kernel)) <|
  fc (ok_iconst (n := 3) (by decide +kernel) (by decide +kernel)) <|
  fc (ok_ildn (q := 1) (by decide +kernel) rfl) <|
  fc (ok_imul (by decide +kernel)) <|
  fc (ok_iconst (n := 2) (by decide +kernel) (by decide +kernel)) <|
  fc (ok_iadd (by decide +kernel)) <|
  fc (ok_bipush (n := 10) (by decide +kernel) (by decide +kernel)) <|
  fc (ok_aldn (q := 0) (by decide +kernel) rfl) <|
  fc (ok_bipush (n := 48) (by decide +kernel) (by decide +kernel)) <|
  fc (ok_bipush (n := 10) (by decide +kernel) (by decide +kernel)) <|
  fc (ok_cv mk_X12_people mk_X12_oneOf ⟨uw281, uw282, uw283, uw5, by decide +kernel⟩ (T := TX12) (N := 47) rfl (by decide +kernel)) <|
  fc (ok_imul (by decide +kernel)) <|
  fc (ok_iast (by decide +kernel)) <|
  fc (ok_aldn (q := 0) (by decide +kernel) rfl) <|
  fc (ok_gf mk_X12_people (fo_RX12_24 rfl) rfl (by decide +kernel)) <|
  fc (ok_iconst (n := 3) (by decide +kernel) (by decide +kernel)) <|
  fc (ok_ildn (q := 1) (by decide +kernel) rfl) <|
  fc (ok_imul (by decide +kernel)) <|
  fc (ok_iconst (n := 2) (by decide +kernel) (by decide +kernel)) <|
  fc (ok_iadd (by decide +kernel)) <|
  fc (ok_dup2 (by decide +kernel)) <|
  fc (ok_iald (by decide +kernel)) <|
  fc (ok_aldn (q := 0) (by decide +kernel) rfl) <|
  fc (ok_bipush (n := 48) (by decide +kernel) (by decide +kernel)) <|
  fc (ok_bipush (n := 10) (by decide +kernel) (by decide +kernel)) <|
  fc (ok_cv mk_X12_people mk_X12_oneOf ⟨uw281, uw282, uw283, uw5, by decide +kernel⟩ (T := TX12) (N := 47) rfl (by decide +kernel)) <|
  fc (ok_iadd (by decide +kernel)) <|
  fc (ok_iast (by decide +kernel)) <|
  fc (ok_iinc (n := 1) (by decide +kernel) (by decide +kernel) (by decide)) <|
  fc (ok_aldn (q := 0) (by decide +kernel) rfl) <|
  fc (ok_bipush (n := 59) (by decide +kernel) (by decide +kernel)) <|
  fc (ok_cv mk_X12_people mk_X12_passes ⟨uw289, uw290, uw291, uw5, by decide +kernel⟩ (T := TX12) (N := 47) rfl (by decide +kernel)) <|
  fc (ok_istn (q := 2) (by decide +kernel) rfl (by decide)) <|
  fc (ok_goto (off := -119) (by decide +kernel) (by decide)) <|
  fc (ok_aldn (q := 0) (by decide +kernel) rfl) <|
  fc (ok_cv mk_X12_people mk_X12_wasRight ⟨uw293, uw294, uw295, uw5, by decide +kernel⟩ (T := TX12) (N := 47) rfl (by decide +kernel)) <|
  fc (ok_ifne (off := 10) (by decide +kernel) (by decide)) <|
  fc (ok_iconst (n := -1) (by decide +kernel) (by decide +kernel)) <|
  fc (ok_aldn (q := 0) (by decide +kernel) rfl) <|
  fc (ok_gi mk_X12_people (fo_RX12_132 rfl) rfl (by decide +kernel)) <|
  fc (ok_isub (by decide +kernel)) <|
  fc (ok_iret rfl (by decide +kernel)) <|
  fc (ok_iconst (n := 0) (by decide +kernel) (by decide +kernel)) <|
  fc (ok_istn (q := 3) (by decide +kernel) rfl (by decide)) <|
  fc (ok_ildn (q := 3) (by decide +kernel) rfl) <|
  fc (ok_ildn (q := 1) (by decide +kernel) rfl) <|
  fc (ok_icge (off := 106) (by decide +kernel) (by decide)) <|
  fc (ok_aldn (q := 0) (by decide +kernel) rfl) <|
  fc (ok_gf mk_X12_people (fo_RX12_9 rfl) rfl (by decide +kernel)) <|
  fc (ok_aldn (q := 0) (by decide +kernel) rfl) <|
  fc (ok_gi mk_X12_people (fo_RX12_110 rfl) rfl (by decide +kernel)) <|
  fc (ok_aldn (q := 0) (by decide +kernel) rfl) <|
  fc (ok_gf mk_X12_people (fo_RX12_24 rfl) rfl (by decide +kernel)) <|
  fc (ok_iconst (n := 3) (by decide +kernel) (by decide +kernel)) <|
  fc (ok_ildn (q := 3) (by decide +kernel) rfl) <|
  fc (ok_imul (by decide +kernel)) <|
  fc (ok_iald (by decide +kernel)) <|
  fc (ok_iast (by decide +kernel)) <|
  fc (ok_aldn (q := 0) (by decide +kernel) rfl) <|
  fc (ok_gf mk_X12_people (fo_RX12_13 rfl) rfl (by decide +kernel)) <|
  fc (ok_aldn (q := 0) (by decide +kernel) rfl) <|
  fc (ok_gi mk_X12_people (fo_RX12_110 rfl) rfl (by decide +kernel)) <|
  fc (ok_aldn (q := 0) (by decide +kernel) rfl) <|
  fc (ok_gf mk_X12_people (fo_RX12_24 rfl) rfl (by decide +kernel)) <|
  fc (ok_iconst (n := 3) (by decide +kernel) (by decide +kernel)) <|
  fc (ok_ildn (q := 3) (by decide +kernel) rfl) <|
  fc (ok_imul (by decide +kernel)) <|
  fc (ok_iconst (n := 1) (by decide +kernel) (by decide +kernel)) <|
  fc (ok_iadd (by decide +kernel)) <|
  fc (ok_iald (by decide +kernel)) <|
  fc (ok_iast (by decide +kernel)) <|
  fc (ok_aldn (q := 0) (by decide +kernel) rfl) <|
  fc (ok_gf mk_X12_people (fo_RX12_9 rfl) rfl (by decide +kernel)) <|
  fc (ok_bipush (n := 7) (by decide +kernel) (by decide +kernel)) <|
  fc (ok_aldn (q := 0) (by decide +kernel) rfl) <|
  fc (ok_gi mk_X12_people (fo_RX12_110 rfl) rfl (by decide +kernel)) <|
  fc (ok_iadd (by decide +kernel)) <|
  fc (ok_aldn (q := 0) (by decide +kernel) rfl) <|
  fc (ok_gf mk_X12_people (fo_RX12_24 rfl) rfl (by decide +kernel)) <|
  fc (ok_iconst (n := 3) (by decide +kernel) (by decide +kernel)) <|
  fc (ok_ildn (q := 3) (by decide +kernel) rfl) <|
  fc (ok_imul (by decide +kernel)) <|
  fc (ok_iconst (n := 2) (by decide +kernel) (by decide +kernel)) <|
  fc (ok_iadd (by decide +kernel)) <|
  fc (ok_iald (by decide +kernel)) <|
  fc (ok_iast (by decide +kernel)) <|
  fc (ok_aldn (q := 0) (by decide +kernel) rfl) <|
  fc (ok_gf mk_X12_people (fo_RX12_9 rfl) rfl (by decide +kernel)) <|
  fc (ok_bipush (n := 14) (by decide +kernel) (by decide +kernel)) <|
  fc (ok_aldn (q := 0) (by decide +kernel) rfl) <|
  fc (ok_gi mk_X12_people (fo_RX12_110 rfl) rfl (by decide +kernel)) <|
  fc (ok_iadd (by decide +kernel)) <|
  fc (ok_aldn (q := 0) (by decide +kernel) rfl) <|
  fc (ok_gi mk_X12_people (fo_RX12_110 rfl) rfl (by decide +kernel)) <|
  fc (ok_iast (by decide +kernel)) <|
  fc (ok_aldn (q := 0) (by decide +kernel) rfl) <|
  fc (ok_gf mk_X12_people (fo_RX12_9 rfl) rfl (by decide +kernel)) <|
  fc (ok_bipush (n := 21) (by decide +kernel) (by decide +kernel)) <|
  fc (ok_aldn (q := 0) (by decide +kernel) rfl) <|
  fc (ok_gi mk_X12_people (fo_RX12_110 rfl) rfl (by decide +kernel)) <|
  fc (ok_iadd (by decide +kernel)) <|
  fc (ok_iconst (n := 0) (by decide +kernel) (by decide +kernel)) <|
  fc (ok_iast (by decide +kernel)) <|
  fc (ok_aldn (q := 0) (by decide +kernel) rfl) <|
  fc (ok_dup (by decide +kernel)) <|
  fc (ok_gi mk_X12_people (fo_RX12_110 rfl) rfl (by decide +kernel)) <|
  fc (ok_iconst (n := 1) (by decide +kernel) (by decide +kernel)) <|
  fc (ok_iadd (by decide +kernel)) <|
  fc (ok_pi mk_X12_people (fo_RX12_110 rfl) to_12_1 rfl (by decide +kernel)) <|
  fc (ok_iinc (n := 1) (by decide +kernel) (by decide +kernel) (by decide)) <|
  fc (ok_goto (off := -105) (by decide +kernel) (by decide)) <|
  fc (ok_aldn (q := 0) (by decide +kernel) rfl) <|
  fc (ok_iconst (n := 0) (by decide +kernel) (by decide +kernel)) <|
  fc (ok_pi mk_X12_people (fo_RX12_165 rfl) to_12_20 rfl (by decide +kernel)) <|
  fc (ok_aldn (q := 0) (by decide +kernel) rfl) <|
  fc (ok_dup (by decide +kernel)) <|
  fc (ok_gi mk_X12_people (fo_RX12_168 rfl) rfl (by decide +kernel)) <|
  fc (ok_iconst (n := 1) (by decide +kernel) (by decide +kernel)) <|
  fc (ok_iadd (by decide +kernel)) <|
  fc (ok_pi mk_X12_people (fo_RX12_168 rfl) to_12_43 rfl (by decide +kernel)) <|
  fc (ok_ildn (q := 1) (by decide +kernel) rfl) <|
  fc (ok_iret rfl (by decide +kernel)) <| fn
def T_X12_beginText : List (Nat × Op) := [(0, op_ald 0 1), (1, op_ald 0 1), (2, op_gf 12 3 3), (5, op_ald 0 1), (6, op_gi 12 4), (9, op_ild 1 1), (10, op_cv M_X12_begin 12 3), (13, op_ald 0 1), (14, op_ic 0 1), (15, op_pi 12 4), (18, op_vret)]
set_option maxRecDepth 20000 in
theorem K_X12_beginText : ∀ r ∈ T_X12_beginText, OpOK M_X12_beginText r.1 r.2 :=
  fc (ok_aldn (q := 0) (by decide +kernel) rfl) <|
  fc (ok_aldn (q := 0) (by decide +kernel) rfl) <|
  fc (ok_gf mk_X12_beginText (fo_RX12_16 rfl) rfl (by decide +kernel)) <|
  fc (ok_aldn (q := 0) (by decide +kernel) rfl) <|
  fc (ok_gi mk_X12_beginText (fo_RX12_117 rfl) rfl (by decide +kernel)) <|
  fc (ok_ildn (q := 1) (by decide +kernel) rfl) <|
  fc (ok_cv mk_X12_beginText mk_X12_begin ⟨uw267, uw268, uw269, uw5, by decide +kernel⟩ (T := TX12) (N := 47) rfl (by decide +kernel)) <|
  fc (ok_aldn (q := 0) (by decide +kernel) rfl) <|
  fc (ok_iconst (n := 0) (by decide +kernel) (by decide +kernel)) <|
  fc (ok_pi mk_X12_beginText (fo_RX12_117 rfl) to_12_4 rfl (by decide +kernel)) <|
  fc (ok_vret rfl (by decide +kernel)) <| fn
def T_X12_begin : List (Nat × Op) := [(0, op_ald 0 1), (1, op_ald 1 1), (2, op_pr 12 8), (5, op_ald 0 1), (6, op_ild 2 1), (7, op_pi 12 9), (10, op_ald 0 1), (11, op_ild 3 1), (12, op_pi 12 10), (15, op_ald 0 1), (16, op_ic 0 1), (17, op_pi 12 11), (20, op_ald 0 1), (21, op_ic (-1) 1), (22, op_pi 12 12), (25, op_vret)]
set_option maxRecDepth 20000 in
theorem K_X12_begin : ∀ r ∈ T_X12_begin, OpOK M_X12_begin r.1 r.2 :=
  fc (ok_aldn (q := 0) (by decide +kernel) rfl) <|
  fc (ok_aldn (q := 1) (by decide +kernel) rfl) <|
  fc (ok_pr mk_X12_begin (fo_RX12_120 rfl) to_12_8 (fun _ => rfl) (fun _ => rfl) rfl (by decide +kernel)) <|
  fc (ok_aldn (q := 0) (by decide +kernel) rfl) <|
  fc (ok_ildn (q := 2) (by decide +kernel) rfl) <|
  fc (ok_pi mk_X12_begin (fo_RX12_123 rfl) to_12_9 rfl (by decide +kernel)) <|
  fc (ok_aldn (q := 0) (by decide +kernel) rfl) <|
  fc (ok_ildn (q := 3) (by decide +kernel) rfl) <|
  fc (ok_pi mk_X12_begin (fo_RX12_126 rfl) to_12_10 rfl (by decide +kernel)) <|
  fc (ok_aldn (q := 0) (by decide +kernel) rfl) <|
  fc (ok_iconst (n := 0) (by decide +kernel) (by decide +kernel)) <|
  fc (ok_pi mk_X12_begin (fo_RX12_129 rfl) to_12_11 rfl (by decide +kernel)) <|
  fc (ok_aldn (q := 0) (by decide +kernel) rfl) <|
  fc (ok_iconst (n := -1) (by decide +kernel) (by decide +kernel)) <|
  fc (ok_pi mk_X12_begin (fo_RX12_132 rfl) to_12_12 rfl (by decide +kernel)) <|
  fc (ok_vret rfl (by decide +kernel)) <| fn
def T_X12_fine : List (Nat × Op) := [(0, op_ald 0 1), (1, op_gi 12 12), (4, op_ic (-1) 1), (5, op_icne 12), (8, op_ic 1 1), (9, op_goto 13), (12, op_ic 0 1), (13, op_zret)]
set_option maxRecDepth 20000 in
theorem K_X12_fine : ∀ r ∈ T_X12_fine, OpOK M_X12_fine r.1 r.2 :=
  fc (ok_aldn (q := 0) (by decide +kernel) rfl) <|
  fc (ok_gi mk_X12_fine (fo_RX12_132 rfl) rfl (by decide +kernel)) <|
  fc (ok_iconst (n := -1) (by decide +kernel) (by decide +kernel)) <|
  fc (ok_icne (off := 7) (by decide +kernel) (by decide)) <|
  fc (ok_iconst (n := 1) (by decide +kernel) (by decide +kernel)) <|
  fc (ok_goto (off := 4) (by decide +kernel) (by decide)) <|
  fc (ok_iconst (n := 0) (by decide +kernel) (by decide +kernel)) <|
  fc (ok_zret rfl (by decide +kernel)) <| fn
def T_X12_fault : List (Nat × Op) := [(0, op_ald 0 1), (1, op_cv M_X12_fine 12 0), (4, op_ifeq 12), (7, op_ald 0 1), (8, op_ild 1 1), (9, op_pi 12 12), (12, op_vret)]
set_option maxRecDepth 20000 in
theorem K_X12_fault : ∀ r ∈ T_X12_fault, OpOK M_X12_fault r.1 r.2 :=
  fc (ok_aldn (q := 0) (by decide +kernel) rfl) <|
  fc (ok_cv mk_X12_fault mk_X12_fine ⟨uw273, uw274, uw275, uw5, by decide +kernel⟩ (T := TX12) (N := 47) rfl (by decide +kernel)) <|
  fc (ok_ifeq (off := 8) (by decide +kernel) (by decide)) <|
  fc (ok_aldn (q := 0) (by decide +kernel) rfl) <|
  fc (ok_ildn (q := 1) (by decide +kernel) rfl) <|
  fc (ok_pi mk_X12_fault (fo_RX12_132 rfl) to_12_12 rfl (by decide +kernel)) <|
  fc (ok_vret rfl (by decide +kernel)) <| fn
def T_X12_oneOf : List (Nat × Op) := [(0, op_ald 0 1), (1, op_cv M_X12_fine 12 0), (4, op_ifne 9), (7, op_ic 0 1), (8, op_iret), (9, op_ald 0 1), (10, op_cv M_X12_here 12 0), (13, op_ild 1 1), (14, op_ild 1 1), (15, op_ild 2 1), (16, op_iadd), (17, op_ic 1 1), (18, op_isub), (19, op_cs M_X12_in 3), (22, op_ifne 35), (25, op_ald 0 1), (26, op_ald 0 1), (27, op_gi 12 11), (30, op_cv M_X12_fault 12 1), (33, op_ic 0 1), (34, op_iret), (35, op_ald 0 1), (36, op_dup), (37, op_gi 12 11), (40, op_ic 1 1), (41, op_iadd), (42, op_pi 12 11), (45, op_ald 0 1), (46, op_gr 12 8), (49, op_ald 0 1), (50, op_gi 12 11), (53, op_ic 1 1), (54, op_isub), (55, op_bald), (56, op_ild 1 1), (57, op_isub), (58, op_iret)]
set_option maxRecDepth 20000 in
theorem K_X12_oneOf : ∀ r ∈ T_X12_oneOf, OpOK M_X12_oneOf r.1 r.2 :=
  fc (ok_aldn (q := 0) (by decide +kernel) rfl) <|
  fc (ok_cv mk_X12_oneOf mk_X12_fine ⟨uw273, uw274, uw275, uw5, by decide +kernel⟩ (T := TX12) (N := 47) rfl (by decide +kernel)) <|
  fc (ok_ifne (off := 5) (by decide +kernel) (by decide)) <|
  fc (ok_iconst (n := 0) (by decide +kernel) (by decide +kernel)) <|
  fc (ok_iret rfl (by decide +kernel)) <|
  fc (ok_aldn (q := 0) (by decide +kernel) rfl) <|
  fc (ok_cv mk_X12_oneOf mk_X12_here ⟨uw285, uw286, uw287, uw5, by decide +kernel⟩ (T := TX12) (N := 47) rfl (by decide +kernel)) <|
  fc (ok_ildn (q := 1) (by decide +kernel) rfl) <|
  fc (ok_ildn (q := 1) (by decide +kernel) rfl) <|
  fc (ok_ildn (q := 2) (by decide +kernel) rfl) <|
  fc (ok_iadd (by decide +kernel)) <|
  fc (ok_iconst (n := 1) (by decide +kernel) (by decide +kernel)) <|
  fc (ok_isub (by decide +kernel)) <|
  fc (ok_cs mk_X12_oneOf mk_X12_in ⟨uw199, uw200, uw5, by decide +kernel⟩ (by decide +kernel)) <|
  fc (ok_ifne (off := 13) (by decide +kernel) (by decide)) <|
  fc (ok_aldn (q := 0) (by decide +kernel) rfl) <|
  fc (ok_aldn (q := 0) (by decide +kernel) rfl) <|
  fc (ok_gi mk_X12_oneOf (fo_RX12_129 rfl) rfl (by decide +kernel)) <|
  fc (ok_cv mk_X12_oneOf mk_X12_fault ⟨uw277, uw278, uw279, uw5, by decide +kernel⟩ (T := TX12) (N := 47) rfl (by decide +kernel)) <|
  fc (ok_iconst (n := 0) (by decide +kernel) (by decide +kernel)) <|
  fc (ok_iret rfl (by decide +kernel)) <|
  fc (ok_aldn (q := 0) (by decide +kernel) rfl) <|
  fc (ok_dup (by decide +kernel)) <|
  fc (ok_gi mk_X12_oneOf (fo_RX12_129 rfl) rfl (by decide +kernel)) <|
  fc (ok_iconst (n := 1) (by decide +kernel) (by decide +kernel)) <|
  fc (ok_iadd (by decide +kernel)) <|
  fc (ok_pi mk_X12_oneOf (fo_RX12_129 rfl) to_12_11 rfl (by decide +kernel)) <|
  fc (ok_aldn (q := 0) (by decide +kernel) rfl) <|
  fc (ok_gr mk_X12_oneOf (fo_RX12_120 rfl) rfl (by decide +kernel)) <|
  fc (ok_aldn (q := 0) (by decide +kernel) rfl) <|
  fc (ok_gi mk_X12_oneOf (fo_RX12_129 rfl) rfl (by decide +kernel)) <|
  fc (ok_iconst (n := 1) (by decide +kernel) (by decide +kernel)) <|
  fc (ok_isub (by decide +kernel)) <|
  fc (ok_bald (by decide +kernel)) <|
  fc (ok_ildn (q := 1) (by decide +kernel) rfl) <|
  fc (ok_isub (by decide +kernel)) <|
  fc (ok_iret rfl (by decide +kernel)) <| fn
def T_X12_here : List (Nat × Op) := [(0, op_ald 0 1), (1, op_gi 12 11), (4, op_ald 0 1), (5, op_gi 12 9), (8, op_icge 38), (11, op_ald 0 1), (12, op_gi 12 11), (15, op_ald 0 1), (16, op_gi 12 10), (19, op_icge 38), (22, op_ald 0 1), (23, op_gr 12 8), (26, op_ald 0 1), (27, op_gi 12 11), (30, op_bald), (31, op_ic 255 3), (34, op_iand), (35, op_goto 39), (38, op_ic (-1) 1), (39, op_iret)]
set_option maxRecDepth 20000 in
theorem K_X12_here : ∀ r ∈ T_X12_here, OpOK M_X12_here r.1 r.2 :=
  fc (ok_aldn (q := 0) (by decide +kernel) rfl) <|
  fc (ok_gi mk_X12_here (fo_RX12_129 rfl) rfl (by decide +kernel)) <|
  fc (ok_aldn (q := 0) (by decide +kernel) rfl) <|
  fc (ok_gi mk_X12_here (fo_RX12_123 rfl) rfl (by decide +kernel)) <|
  fc (ok_icge (off := 30) (by decide +kernel) (by decide)) <|
  fc (ok_aldn (q := 0) (by decide +kernel) rfl) <|
  fc (ok_gi mk_X12_here (fo_RX12_129 rfl) rfl (by decide +kernel)) <|
  fc (ok_aldn (q := 0) (by decide +kernel) rfl) <|
  fc (ok_gi mk_X12_here (fo_RX12_126 rfl) rfl (by decide +kernel)) <|
  fc (ok_icge (off := 19) (by decide +kernel) (by decide)) <|
  fc (ok_aldn (q := 0) (by decide +kernel) rfl) <|
  fc (ok_gr mk_X12_here (fo_RX12_120 rfl) rfl (by decide +kernel)) <|
  fc (ok_aldn (q := 0) (by decide +kernel) rfl) <|
  fc (ok_gi mk_X12_here (fo_RX12_129 rfl) rfl (by decide +kernel)) <|
  fc (ok_bald (by decide +kernel)) <|
  fc (ok_sipush (n := 255) (by decide +kernel) (by decide +kernel)) <|
  fc (ok_iand (by decide +kernel)) <|
  fc (ok_goto (off := 4) (by decide +kernel) (by decide)) <|
  fc (ok_iconst (n := -1) (by decide +kernel) (by decide +kernel)) <|
  fc (ok_iret rfl (by decide +kernel)) <| fn
def T_X12_passes : List (Nat × Op) := [(0, op_ald 0 1), (1, op_cv M_X12_fine 12 0), (4, op_ifeq 15), (7, op_ald 0 1), (8, op_cv M_X12_here 12 0), (11, op_ild 1 1), (12, op_iceq 17), (15, op_ic 0 1), (16, op_zret), (17, op_ald 0 1), (18, op_dup), (19, op_gi 12 11), (22, op_ic 1 1), (23, op_iadd), (24, op_pi 12 11), (27, op_ic 1 1), (28, op_zret)]
set_option maxRecDepth 20000 in
theorem K_X12_passes : ∀ r ∈ T_X12_passes, OpOK M_X12_passes r.1 r.2 :=
  fc (ok_aldn (q := 0) (by decide +kernel) rfl) <|
  fc (ok_cv mk_X12_passes mk_X12_fine ⟨uw273, uw274, uw275, uw5, by decide +kernel⟩ (T := TX12) (N := 47) rfl (by decide +kernel)) <|
  fc (ok_ifeq (off := 11) (by decide +kernel) (by decide)) <|
  fc (ok_aldn (q := 0) (by decide +kernel) rfl) <|
  fc (ok_cv mk_X12_passes mk_X12_here ⟨uw285, uw286, uw287, uw5, by decide +kernel⟩ (T := TX12) (N := 47) rfl (by decide +kernel)) <|
  fc (ok_ildn (q := 1) (by decide +kernel) rfl) <|
  fc (ok_iceq (off := 5) (by decide +kernel) (by decide)) <|
  fc (ok_iconst (n := 0) (by decide +kernel) (by decide +kernel)) <|
  fc (ok_zret rfl (by decide +kernel)) <|
  fc (ok_aldn (q := 0) (by decide +kernel) rfl) <|
  fc (ok_dup (by decide +kernel)) <|
  fc (ok_gi mk_X12_passes (fo_RX12_129 rfl) rfl (by decide +kernel)) <|
  fc (ok_iconst (n := 1) (by decide +kernel) (by decide +kernel)) <|
  fc (ok_iadd (by decide +kernel)) <|
  fc (ok_pi mk_X12_passes (fo_RX12_129 rfl) to_12_11 rfl (by decide +kernel)) <|
  fc (ok_iconst (n := 1) (by decide +kernel) (by decide +kernel)) <|
  fc (ok_zret rfl (by decide +kernel)) <| fn
def T_X12_wasRight : List (Nat × Op) := [(0, op_ald 0 1), (1, op_gi 12 11), (4, op_ald 0 1), (5, op_gi 12 9), (8, op_icge 19), (11, op_ald 0 1), (12, op_ald 0 1), (13, op_gi 12 11), (16, op_cv M_X12_fault 12 1), (19, op_ald 0 1), (20, op_cv M_X12_fine 12 0), (23, op_zret)]
set_option maxRecDepth 20000 in
theorem K_X12_wasRight : ∀ r ∈ T_X12_wasRight, OpOK M_X12_wasRight r.1 r.2 :=
  fc (ok_aldn (q := 0) (by decide +kernel) rfl) <|
  fc (ok_gi mk_X12_wasRight (fo_RX12_129 rfl) rfl (by decide +kernel)) <|
  fc (ok_aldn (q := 0) (by decide +kernel) rfl) <|
  fc (ok_gi mk_X12_wasRight (fo_RX12_123 rfl) rfl (by decide +kernel)) <|
  fc (ok_icge (off := 11) (by decide +kernel) (by decide)) <|
  fc (ok_aldn (q := 0) (by decide +kernel) rfl) <|
  fc (ok_aldn (q := 0) (by decide +kernel) rfl) <|
  fc (ok_gi mk_X12_wasRight (fo_RX12_129 rfl) rfl (by decide +kernel)) <|
  fc (ok_cv mk_X12_wasRight mk_X12_fault ⟨uw277, uw278, uw279, uw5, by decide +kernel⟩ (T := TX12) (N := 47) rfl (by decide +kernel)) <|
  fc (ok_aldn (q := 0) (by decide +kernel) rfl) <|
  fc (ok_cv mk_X12_wasRight mk_X12_fine ⟨uw273, uw274, uw275, uw5, by decide +kernel⟩ (T := TX12) (N := 47) rfl (by decide +kernel)) <|
  fc (ok_zret rfl (by decide +kernel)) <| fn
def T_X12_rule : List (Nat × Op) := [(0, op_ald 0 1), (1, op_ic 0 1), (2, op_pi 12 7), (5, op_ald 0 1), (6, op_gi 12 4), (9, op_ist 1 1), (10, op_ald 0 1), (11, op_cv M_X12_readRule 12 0), (14, op_ifne 24), (17, op_ic (-1) 1), (18, op_ald 0 1), (19, op_gi 12 12), (22, op_isub), (23, op_iret), (24, op_ic 0 1), (25, op_ist 2 1), (26, op_ild 2 1), (27, op_ild 1 1), (28, op_icge 49), (31, op_ald 0 1), (32, op_gr 12 14), (35, op_ild 2 1), (36, op_ald 0 1), (37, op_gf 12 3 3), (40, op_ild 2 1), (41, op_bald), (42, op_bast), (43, op_iinc 2 1), (46, op_goto 26), (49, op_ald 0 1), (50, op_ild 1 1), (51, op_pi 12 16), (54, op_ic 0 1), (55, op_iret)]
set_option maxRecDepth 20000 in
theorem K_X12_rule : ∀ r ∈ T_X12_rule, OpOK M_X12_rule r.1 r.2 :=
  fc (ok_aldn (q := 0) (by decide +kernel) rfl) <|
  fc (ok_iconst (n := 0) (by decide +kernel) (by decide +kernel)) <|
  fc (ok_pi mk_X12_rule (fo_RX12_103 rfl) to_12_7 rfl (by decide +kernel)) <|
  fc (ok_aldn (q := 0) (by decide +kernel) rfl) <|
  fc (ok_gi mk_X12_rule (fo_RX12_117 rfl) rfl (by decide +kernel)) <|
  fc (ok_istn (q := 1) (by decide +kernel) rfl (by decide)) <|
  fc (ok_aldn (q := 0) (by decide +kernel) rfl) <|
  fc (ok_cv mk_X12_rule mk_X12_readRule ⟨uw350, uw351, uw352, uw5, by decide +kernel⟩ (T := TX12) (N := 47) rfl (by decide +kernel)) <|
  fc (ok_ifne (off := 10) (by decide +kernel) (by decide)) <|
  fc (ok_iconst (n := -1) (by decide +kernel) (by decide +kernel)) <|
  fc (ok_aldn (q := 0) (by decide +kernel) rfl) <|
  fc (ok_gi mk_X12_rule (fo_RX12_132 rfl) rfl (by decide +kernel)) <|
  fc (ok_isub (by decide +kernel)) <|
  fc (ok_iret rfl (by decide +kernel)) <|
  fc (ok_iconst (n := 0) (by decide +kernel) (by decide +kernel)) <|
  fc (ok_istn (q := 2) (by decide +kernel) rfl (by decide)) <|
  fc (ok_ildn (q := 2) (by decide +kernel) rfl) <|
  fc (ok_ildn (q := 1) (by decide +kernel) rfl) <|
  fc (ok_icge (off := 21) (by decide +kernel) (by decide)) <|
  fc (ok_aldn (q := 0) (by decide +kernel) rfl) <|
  fc (ok_gr mk_X12_rule (fo_RX12_27 rfl) rfl (by decide +kernel)) <|
  fc (ok_ildn (q := 2) (by decide +kernel) rfl) <|
  fc (ok_aldn (q := 0) (by decide +kernel) rfl) <|
  fc (ok_gf mk_X12_rule (fo_RX12_16 rfl) rfl (by decide +kernel)) <|
  fc (ok_ildn (q := 2) (by decide +kernel) rfl) <|
  fc (ok_bald (by decide +kernel)) <|
  fc (ok_bast (by decide +kernel)) <|
  fc (ok_iinc (n := 1) (by decide +kernel) (by decide +kernel) (by decide)) <|
  fc (ok_goto (off := -20) (by decide +kernel) (by decide)) <|
  fc (ok_aldn (q := 0) (by decide +kernel) rfl) <|
  fc (ok_ildn (q := 1) (by decide +kernel) rfl) <|
  fc (ok_pi mk_X12_rule (fo_RX12_201 rfl) to_12_16 rfl (by decide +kernel)) <|
  fc (ok_iconst (n := 0) (by decide +kernel) (by decide +kernel)) <|
  fc (ok_iret rfl (by decide +kernel)) <| fn
def T_X12_readRule : List (Nat × Op) := [(0, op_ald 0 1), (1, op_ic 40 2), (3, op_cv M_X12_beginText 12 1), (6, op_ald 0 1), (7, op_ic 0 1), (8, op_pz 12 17), (11, op_ald 0 1), (12, op_gi 12 9), (15, op_ifle 24), (18, op_ald 0 1), (19, op_ic 0 1), (20, op_cv M_X12_held 12 1), (23, op_pop), (24, op_ald 0 1), (25, op_cv M_X12_wasRight 12 0), (28, op_zret)]
set_option maxRecDepth 20000 in
theorem K_X12_readRule : ∀ r ∈ T_X12_readRule, OpOK M_X12_readRule r.1 r.2 :=
  fc (ok_aldn (q := 0) (by decide +kernel) rfl) <|
  fc (ok_bipush (n := 40) (by decide +kernel) (by decide +kernel)) <|
  fc (ok_cv mk_X12_readRule mk_X12_beginText ⟨uw263, uw264, uw265, uw5, by decide +kernel⟩ (T := TX12) (N := 47) rfl (by decide +kernel)) <|
  fc (ok_aldn (q := 0) (by decide +kernel) rfl) <|
  fc (ok_iconst (n := 0) (by decide +kernel) (by decide +kernel)) <|
  fc (ok_pz mk_X12_readRule (fo_RX12_194 rfl) to_12_17 rfl (by decide +kernel)) <|
  fc (ok_aldn (q := 0) (by decide +kernel) rfl) <|
  fc (ok_gi mk_X12_readRule (fo_RX12_123 rfl) rfl (by decide +kernel)) <|
  fc (ok_ifle (off := 9) (by decide +kernel) (by decide)) <|
  fc (ok_aldn (q := 0) (by decide +kernel) rfl) <|
  fc (ok_iconst (n := 0) (by decide +kernel) (by decide +kernel)) <|
  fc (ok_cv mk_X12_readRule mk_X12_held ⟨uw355, uw356, uw357, uw5, by decide +kernel⟩ (T := TX12) (N := 47) rfl (by decide +kernel)) <|
  fc (ok_pop (by decide +kernel)) <|
  fc (ok_aldn (q := 0) (by decide +kernel) rfl) <|
  fc (ok_cv mk_X12_readRule mk_X12_wasRight ⟨uw293, uw294, uw295, uw5, by decide +kernel⟩ (T := TX12) (N := 47) rfl (by decide +kernel)) <|
  fc (ok_zret rfl (by decide +kernel)) <| fn
def T_X12_held : List (Nat × Op) := [(0, op_ald 0 1), (1, op_ild 1 1), (2, op_cv M_X12_sum 12 1), (5, op_ist 2 1), (6, op_ald 0 1), (7, op_ic 60 2), (9, op_cv M_X12_passes 12 1), (12, op_ifeq 30), (15, op_ild 2 1), (16, op_ald 0 1), (17, op_ild 1 1), (18, op_cv M_X12_sum 12 1), (21, op_icge 28), (24, op_ic 1 1), (25, op_goto 29), (28, op_ic 0 1), (29, op_iret), (30, op_ald 0 1), (31, op_ic 62 2), (33, op_cv M_X12_passes 12 1), (36, op_ifeq 54), (39, op_ild 2 1), (40, op_ald 0 1), (41, op_ild 1 1), (42, op_cv M_X12_sum 12 1), (45, op_icle 52), (48, op_ic 1 1), (49, op_goto 53), (52, op_ic 0 1), (53, op_iret), (54, op_ald 0 1), (55, op_ic 61 2), (57, op_cv M_X12_passes 12 1), (60, op_ifeq 78), (63, op_ild 2 1), (64, op_ald 0 1), (65, op_ild 1 1), (66, op_cv M_X12_sum 12 1), (69, op_icne 76), (72, op_ic 1 1), (73, op_goto 77), (76, op_ic 0 1), (77, op_iret), (78, op_ild 2 1), (79, op_iret)]
set_option maxRecDepth 20000 in
theorem K_X12_held : ∀ r ∈ T_X12_held, OpOK M_X12_held r.1 r.2 :=
  fc (ok_aldn (q := 0) (by decide +kernel) rfl) <|
  fc (ok_ildn (q := 1) (by decide +kernel) rfl) <|
  fc (ok_cv mk_X12_held mk_X12_sum ⟨uw359, uw360, uw361, uw5, by decide +kernel⟩ (T := TX12) (N := 47) rfl (by decide +kernel)) <|
  fc (ok_istn (q := 2) (by decide +kernel) rfl (by decide)) <|
  fc (ok_aldn (q := 0) (by decide +kernel) rfl) <|
  fc (ok_bipush (n := 60) (by decide +kernel) (by decide +kernel)) <|
  fc (ok_cv mk_X12_held mk_X12_passes ⟨uw289, uw290, uw291, uw5, by decide +kernel⟩ (T := TX12) (N := 47) rfl (by decide +kernel)) <|
  fc (ok_ifeq (off := 18) (by decide +kernel) (by decide)) <|
  fc (ok_ildn (q := 2) (by decide +kernel) rfl) <|
  fc (ok_aldn (q := 0) (by decide +kernel) rfl) <|
  fc (ok_ildn (q := 1) (by decide +kernel) rfl) <|
  fc (ok_cv mk_X12_held mk_X12_sum ⟨uw359, uw360, uw361, uw5, by decide +kernel⟩ (T := TX12) (N := 47) rfl (by decide +kernel)) <|
  fc (ok_icge (off := 7) (by decide +kernel) (by decide)) <|
  fc (ok_iconst (n := 1) (by decide +kernel) (by decide +kernel)) <|
  fc (ok_goto (off := 4) (by decide +kernel) (by decide)) <|
  fc (ok_iconst (n := 0) (by decide +kernel) (by decide +kernel)) <|
  fc (ok_iret rfl (by decide +kernel)) <|
  fc (ok_aldn (q := 0) (by decide +kernel) rfl) <|
  fc (ok_bipush (n := 62) (by decide +kernel) (by decide +kernel)) <|
  fc (ok_cv mk_X12_held mk_X12_passes ⟨uw289, uw290, uw291, uw5, by decide +kernel⟩ (T := TX12) (N := 47) rfl (by decide +kernel)) <|
  fc (ok_ifeq (off := 18) (by decide +kernel) (by decide)) <|
  fc (ok_ildn (q := 2) (by decide +kernel) rfl) <|
  fc (ok_aldn (q := 0) (by decide +kernel) rfl) <|
  fc (ok_ildn (q := 1) (by decide +kernel) rfl) <|
  fc (ok_cv mk_X12_held mk_X12_sum ⟨uw359, uw360, uw361, uw5, by decide +kernel⟩ (T := TX12) (N := 47) rfl (by decide +kernel)) <|
  fc (ok_icle (off := 7) (by decide +kernel) (by decide)) <|
  fc (ok_iconst (n := 1) (by decide +kernel) (by decide +kernel)) <|
  fc (ok_goto (off := 4) (by decide +kernel) (by decide)) <|
  fc (ok_iconst (n := 0) (by decide +kernel) (by decide +kernel)) <|
  fc (ok_iret rfl (by decide +kernel)) <|
  fc (ok_aldn (q := 0) (by decide +kernel) rfl) <|
  fc (ok_bipush (n := 61) (by decide +kernel) (by decide +kernel)) <|
  fc (ok_cv mk_X12_held mk_X12_passes ⟨uw289, uw290, uw291, uw5, by decide +kernel⟩ (T := TX12) (N := 47) rfl (by decide +kernel)) <|
  fc (ok_ifeq (off := 18) (by decide +kernel) (by decide)) <|
  fc (ok_ildn (q := 2) (by decide +kernel) rfl) <|
  fc (ok_aldn (q := 0) (by decide +kernel) rfl) <|
  fc (ok_ildn (q := 1) (by decide +kernel) rfl) <|
  fc (ok_cv mk_X12_held mk_X12_sum ⟨uw359, uw360, uw361, uw5, by decide +kernel⟩ (T := TX12) (N := 47) rfl (by decide +kernel)) <|
  fc (ok_icne (off := 7) (by decide +kernel) (by decide)) <|
  fc (ok_iconst (n := 1) (by decide +kernel) (by decide +kernel)) <|
  fc (ok_goto (off := 4) (by decide +kernel) (by decide)) <|
  fc (ok_iconst (n := 0) (by decide +kernel) (by decide +kernel)) <|
  fc (ok_iret rfl (by decide +kernel)) <|
  fc (ok_ildn (q := 2) (by decide +kernel) rfl) <|
  fc (ok_iret rfl (by decide +kernel)) <| fn
def T_X12_product : List (Nat × Op) := [(0, op_ald 0 1), (1, op_ild 1 1), (2, op_cv M_X12_thing 12 1), (5, op_ist 2 1), (6, op_ald 0 1), (7, op_cv M_X12_fine 12 0), (10, op_ifeq 91), (13, op_ald 0 1), (14, op_cv M_X12_here 12 0), (17, op_ic 42 2), (19, op_iceq 31), (22, op_ald 0 1), (23, op_cv M_X12_here 12 0), (26, op_ic 47 2), (28, op_icne 91), (31, op_ald 0 1), (32, op_cv M_X12_here 12 0), (35, op_ic 42 2), (37, op_icne 44), (40, op_ic 1 1), (41, op_goto 45), (44, op_ic 0 1), (45, op_ist 3 1), (46, op_ald 0 1), (47, op_dup), (48, op_gi 12 11), (51, op_ic 1 1), (52, op_iadd), (53, op_pi 12 11), (56, op_ald 0 1), (57, op_ild 1 1), (58, op_cv M_X12_thing 12 1), (61, op_ist 4 2), (63, op_ild 3 1), (64, op_ifeq 74), (67, op_ild 2 1), (68, op_ild 4 2), (70, op_imul), (71, op_goto 87), (74, op_ild 4 2), (76, op_ifne 83), (79, op_ic 0 1), (80, op_goto 87), (83, op_ild 2 1), (84, op_ild 4 2), (86, op_idiv), (87, op_ist 2 1), (88, op_goto 6), (91, op_ild 2 1), (92, op_iret)]
set_option maxRecDepth 20000 in
theorem K_X12_product : ∀ r ∈ T_X12_product, OpOK M_X12_product r.1 r.2 :=
  fc (ok_aldn (q := 0) (by decide +kernel) rfl) <|
  fc (ok_ildn (q := 1) (by decide +kernel) rfl) <|
  fc (ok_cv mk_X12_product mk_X12_thing ⟨uw363, uw364, uw365, uw5, by decide +kernel⟩ (T := TX12) (N := 47) rfl (by decide +kernel)) <|
  fc (ok_istn (q := 2) (by decide +kernel) rfl (by decide)) <|
  fc (ok_aldn (q := 0) (by decide +kernel) rfl) <|
  fc (ok_cv mk_X12_product mk_X12_fine ⟨uw273, uw274, uw275, uw5, by decide +kernel⟩ (T := TX12) (N := 47) rfl (by decide +kernel)) <|
  fc (ok_ifeq (off := 81) (by decide +kernel) (by decide)) <|
  fc (ok_aldn (q := 0) (by decide +kernel) rfl) <|
  fc (ok_cv mk_X12_product mk_X12_here ⟨uw285, uw286, uw287, uw5, by decide +kernel⟩ (T := TX12) (N := 47) rfl (by decide +kernel)) <|
  fc (ok_bipush (n := 42) (by decide +kernel) (by decide +kernel)) <|
  fc (ok_iceq (off := 12) (by decide +kernel) (by decide)) <|
  fc (ok_aldn (q := 0) (by decide +kernel) rfl) <|
  fc (ok_cv mk_X12_product mk_X12_here ⟨uw285, uw286, uw287, uw5, by decide +kernel⟩ (T := TX12) (N := 47) rfl (by decide +kernel)) <|
  fc (ok_bipush (n := 47) (by decide +kernel) (by decide +kernel)) <|
  fc (ok_icne (off := 63) (by decide +kernel) (by decide)) <|
  fc (ok_aldn (q := 0) (by decide +kernel) rfl) <|
  fc (ok_cv mk_X12_product mk_X12_here ⟨uw285, uw286, uw287, uw5, by decide +kernel⟩ (T := TX12) (N := 47) rfl (by decide +kernel)) <|
  fc (ok_bipush (n := 42) (by decide +kernel) (by decide +kernel)) <|
  fc (ok_icne (off := 7) (by decide +kernel) (by decide)) <|
  fc (ok_iconst (n := 1) (by decide +kernel) (by decide +kernel)) <|
  fc (ok_goto (off := 4) (by decide +kernel) (by decide)) <|
  fc (ok_iconst (n := 0) (by decide +kernel) (by decide +kernel)) <|
  fc (ok_istn (q := 3) (by decide +kernel) rfl (by decide)) <|
  fc (ok_aldn (q := 0) (by decide +kernel) rfl) <|
  fc (ok_dup (by decide +kernel)) <|
  fc (ok_gi mk_X12_product (fo_RX12_129 rfl) rfl (by decide +kernel)) <|
  fc (ok_iconst (n := 1) (by decide +kernel) (by decide +kernel)) <|
  fc (ok_iadd (by decide +kernel)) <|
  fc (ok_pi mk_X12_product (fo_RX12_129 rfl) to_12_11 rfl (by decide +kernel)) <|
  fc (ok_aldn (q := 0) (by decide +kernel) rfl) <|
  fc (ok_ildn (q := 1) (by decide +kernel) rfl) <|
  fc (ok_cv mk_X12_product mk_X12_thing ⟨uw363, uw364, uw365, uw5, by decide +kernel⟩ (T := TX12) (N := 47) rfl (by decide +kernel)) <|
  fc (ok_ist (by decide +kernel) (by decide)) <|
  fc (ok_ildn (q := 3) (by decide +kernel) rfl) <|
  fc (ok_ifeq (off := 10) (by decide +kernel) (by decide)) <|
  fc (ok_ildn (q := 2) (by decide +kernel) rfl) <|
  fc (ok_ild (by decide +kernel)) <|
  fc (ok_imul (by decide +kernel)) <|
  fc (ok_goto (off := 16) (by decide +kernel) (by decide)) <|
  fc (ok_ild (by decide +kernel)) <|
  fc (ok_ifne (off := 7) (by decide +kernel) (by decide)) <|
  fc (ok_iconst (n := 0) (by decide +kernel) (by decide +kernel)) <|
  fc (ok_goto (off := 7) (by decide +kernel) (by decide)) <|
  fc (ok_ildn (q := 2) (by decide +kernel) rfl) <|
  fc (ok_ild (by decide +kernel)) <|
  fc (ok_idiv (by decide +kernel)) <|
  fc (ok_istn (q := 2) (by decide +kernel) rfl (by decide)) <|
  fc (ok_goto (off := -82) (by decide +kernel) (by decide)) <|
  fc (ok_ildn (q := 2) (by decide +kernel) rfl) <|
  fc (ok_iret rfl (by decide +kernel)) <| fn
def T_X12_sum : List (Nat × Op) := [(0, op_ald 0 1), (1, op_ild 1 1), (2, op_cv M_X12_product 12 1), (5, op_ist 2 1), (6, op_ald 0 1), (7, op_cv M_X12_fine 12 0), (10, op_ifeq 82), (13, op_ald 0 1), (14, op_cv M_X12_here 12 0), (17, op_ic 43 2), (19, op_iceq 31), (22, op_ald 0 1), (23, op_cv M_X12_here 12 0), (26, op_ic 45 2), (28, op_icne 82), (31, op_ald 0 1), (32, op_cv M_X12_here 12 0), (35, op_ic 43 2), (37, op_icne 44), (40, op_ic 1 1), (41, op_goto 45), (44, op_ic 0 1), (45, op_ist 3 1), (46, op_ald 0 1), (47, op_dup), (48, op_gi 12 11), (51, op_ic 1 1), (52, op_iadd), (53, op_pi 12 11), (56, op_ald 0 1), (57, op_ild 1 1), (58, op_cv M_X12_product 12 1), (61, op_ist 4 2), (63, op_ild 3 1), (64, op_ifeq 74), (67, op_ild 2 1), (68, op_ild 4 2), (70, op_iadd), (71, op_goto 78), (74, op_ild 2 1), (75, op_ild 4 2), (77, op_isub), (78, op_ist 2 1), (79, op_goto 6), (82, op_ild 2 1), (83, op_iret)]
set_option maxRecDepth 20000 in
theorem K_X12_sum : ∀ r ∈ T_X12_sum, OpOK M_X12_sum r.1 r.2 :=
  fc (ok_aldn (q := 0) (by decide +kernel) rfl) <|
  fc (ok_ildn (q := 1) (by decide +kernel) rfl) <|
  fc (ok_cv mk_X12_sum mk_X12_product ⟨uw367, uw368, uw369, uw5, by decide +kernel⟩ (T := TX12) (N := 47) rfl (by decide +kernel)) <|
  fc (ok_istn (q := 2) (by decide +kernel) rfl (by decide)) <|
  fc (ok_aldn (q := 0) (by decide +kernel) rfl) <|
  fc (ok_cv mk_X12_sum mk_X12_fine ⟨uw273, uw274, uw275, uw5, by decide +kernel⟩ (T := TX12) (N := 47) rfl (by decide +kernel)) <|
  fc (ok_ifeq (off := 72) (by decide +kernel) (by decide)) <|
  fc (ok_aldn (q := 0) (by decide +kernel) rfl) <|
  fc (ok_cv mk_X12_sum mk_X12_here ⟨uw285, uw286, uw287, uw5, by decide +kernel⟩ (T := TX12) (N := 47) rfl (by decide +kernel)) <|
  fc (ok_bipush (n := 43) (by decide +kernel) (by decide +kernel)) <|
  fc (ok_iceq (off := 12) (by decide +kernel) (by decide)) <|
  fc (ok_aldn (q := 0) (by decide +kernel) rfl) <|
  fc (ok_cv mk_X12_sum mk_X12_here ⟨uw285, uw286, uw287, uw5, by decide +kernel⟩ (T := TX12) (N := 47) rfl (by decide +kernel)) <|
  fc (ok_bipush (n := 45) (by decide +kernel) (by decide +kernel)) <|
  fc (ok_icne (off := 54) (by decide +kernel) (by decide)) <|
  fc (ok_aldn (q := 0) (by decide +kernel) rfl) <|
  fc (ok_cv mk_X12_sum mk_X12_here ⟨uw285, uw286, uw287, uw5, by decide +kernel⟩ (T := TX12) (N := 47) rfl (by decide +kernel)) <|
  fc (ok_bipush (n := 43) (by decide +kernel) (by decide +kernel)) <|
  fc (ok_icne (off := 7) (by decide +kernel) (by decide)) <|
  fc (ok_iconst (n := 1) (by decide +kernel) (by decide +kernel)) <|
  fc (ok_goto (off := 4) (by decide +kernel) (by decide)) <|
  fc (ok_iconst (n := 0) (by decide +kernel) (by decide +kernel)) <|
  fc (ok_istn (q := 3) (by decide +kernel) rfl (by decide)) <|
  fc (ok_aldn (q := 0) (by decide +kernel) rfl) <|
  fc (ok_dup (by decide +kernel)) <|
  fc (ok_gi mk_X12_sum (fo_RX12_129 rfl) rfl (by decide +kernel)) <|
  fc (ok_iconst (n := 1) (by decide +kernel) (by decide +kernel)) <|
  fc (ok_iadd (by decide +kernel)) <|
  fc (ok_pi mk_X12_sum (fo_RX12_129 rfl) to_12_11 rfl (by decide +kernel)) <|
  fc (ok_aldn (q := 0) (by decide +kernel) rfl) <|
  fc (ok_ildn (q := 1) (by decide +kernel) rfl) <|
  fc (ok_cv mk_X12_sum mk_X12_product ⟨uw367, uw368, uw369, uw5, by decide +kernel⟩ (T := TX12) (N := 47) rfl (by decide +kernel)) <|
  fc (ok_ist (by decide +kernel) (by decide)) <|
  fc (ok_ildn (q := 3) (by decide +kernel) rfl) <|
  fc (ok_ifeq (off := 10) (by decide +kernel) (by decide)) <|
  fc (ok_ildn (q := 2) (by decide +kernel) rfl) <|
  fc (ok_ild (by decide +kernel)) <|
  fc (ok_iadd (by decide +kernel)) <|
  fc (ok_goto (off := 7) (by decide +kernel) (by decide)) <|
  fc (ok_ildn (q := 2) (by decide +kernel) rfl) <|
  fc (ok_ild (by decide +kernel)) <|
  fc (ok_isub (by decide +kernel)) <|
  fc (ok_istn (q := 2) (by decide +kernel) rfl (by decide)) <|
  fc (ok_goto (off := -73) (by decide +kernel) (by decide)) <|
  fc (ok_ildn (q := 2) (by decide +kernel) rfl) <|
  fc (ok_iret rfl (by decide +kernel)) <| fn
def T_X12_thing : List (Nat × Op) := [(0, op_ald 0 1), (1, op_ic 45 2), (3, op_cv M_X12_passes 12 1), (6, op_ifeq 16), (9, op_ald 0 1), (10, op_ild 1 1), (11, op_cv M_X12_thing 12 1), (14, op_ineg), (15, op_iret), (16, op_ald 0 1), (17, op_cv M_X12_fine 12 0), (20, op_ifne 25), (23, op_ic 0 1), (24, op_iret), (25, op_ald 0 1), (26, op_cv M_X12_here 12 0), (29, op_ist 2 1), (30, op_ild 2 1), (31, op_ic 40 2), (33, op_icne 67), (36, op_ild 1 1), (37, op_ic 4 1), (38, op_icge 67), (41, op_ald 0 1), (42, op_dup), (43, op_gi 12 11), (46, op_ic 1 1), (47, op_iadd), (48, op_pi 12 11), (51, op_ald 0 1), (52, op_ild 1 1), (53, op_ic 1 1), (54, op_iadd), (55, op_cv M_X12_held 12 1), (58, op_ist 3 1), (59, op_ald 0 1), (60, op_ic 41 2), (62, op_cv M_X12_need 12 1), (65, op_ild 3 1), (66, op_iret), (67, op_ild 2 1), (68, op_ic 48 2), (70, op_ic 57 2), (72, op_cs M_X12_in 3), (75, op_ifeq 84), (78, op_ald 0 1), (79, op_ic 3 1), (80, op_cv M_X12_number 12 1), (83, op_iret), (84, op_ild 2 1), (85, op_cs M_X12_letterOf 1), (88, op_ic (-1) 1), (89, op_icne 102), (92, op_ald 0 1), (93, op_ald 0 1), (94, op_gi 12 11), (97, op_cv M_X12_fault 12 1), (100, op_ic 0 1), (101, op_iret), (102, op_ald 0 1), (103, op_dup), (104, op_gi 12 11), (107, op_ic 1 1), (108, op_iadd), (109, op_pi 12 11), (112, op_ald 0 1), (113, op_gi 12 17), (116, op_ifeq 131), (119, op_ald 0 1), (120, op_gf 12 18 8), (123, op_ild 2 1), (124, op_cs M_X12_letterOf 1), (127, op_iald), (128, op_goto 132), (131, op_ic 0 1), (132, op_iret)]
set_option maxRecDepth 20000 in
theorem K_X12_thing : ∀ r ∈ T_X12_thing, OpOK M_X12_thing r.1 r.2 :=
  fc (ok_aldn (q := 0) (by decide +kernel) rfl) <|
  fc (ok_bipush (n := 45) (by decide +kernel) (by decide +kernel)) <|
  fc (ok_cv mk_X12_thing mk_X12_passes ⟨uw289, uw290, uw291, uw5, by decide +kernel⟩ (T := TX12) (N := 47) rfl (by decide +kernel)) <|
  fc (ok_ifeq (off := 10) (by decide +kernel) (by decide)) <|
  fc (ok_aldn (q := 0) (by decide +kernel) rfl) <|
  fc (ok_ildn (q := 1) (by decide +kernel) rfl) <|
  fc (ok_cv mk_X12_thing mk_X12_thing ⟨uw363, uw364, uw365, uw5, by decide +kernel⟩ (T := TX12) (N := 47) rfl (by decide +kernel)) <|
  fc (ok_ineg (by decide +kernel)) <|
  fc (ok_iret rfl (by decide +kernel)) <|
  fc (ok_aldn (q := 0) (by decide +kernel) rfl) <|
  fc (ok_cv mk_X12_thing mk_X12_fine ⟨uw273, uw274, uw275, uw5, by decide +kernel⟩ (T := TX12) (N := 47) rfl (by decide +kernel)) <|
  fc (ok_ifne (off := 5) (by decide +kernel) (by decide)) <|
  fc (ok_iconst (n := 0) (by decide +kernel) (by decide +kernel)) <|
  fc (ok_iret rfl (by decide +kernel)) <|
  fc (ok_aldn (q := 0) (by decide +kernel) rfl) <|
  fc (ok_cv mk_X12_thing mk_X12_here ⟨uw285, uw286, uw287, uw5, by decide +kernel⟩ (T := TX12) (N := 47) rfl (by decide +kernel)) <|
  fc (ok_istn (q := 2) (by decide +kernel) rfl (by decide)) <|
  fc (ok_ildn (q := 2) (by decide +kernel) rfl) <|
  fc (ok_bipush (n := 40) (by decide +kernel) (by decide +kernel)) <|
  fc (ok_icne (off := 34) (by decide +kernel) (by decide)) <|
  fc (ok_ildn (q := 1) (by decide +kernel) rfl) <|
  fc (ok_iconst (n := 4) (by decide +kernel) (by decide +kernel)) <|
  fc (ok_icge (off := 29) (by decide +kernel) (by decide)) <|
  fc (ok_aldn (q := 0) (by decide +kernel) rfl) <|
  fc (ok_dup (by decide +kernel)) <|
  fc (ok_gi mk_X12_thing (fo_RX12_129 rfl) rfl (by decide +kernel)) <|
  fc (ok_iconst (n := 1) (by decide +kernel) (by decide +kernel)) <|
  fc (ok_iadd (by decide +kernel)) <|
  fc (ok_pi mk_X12_thing (fo_RX12_129 rfl) to_12_11 rfl (by decide +kernel)) <|
  fc (ok_aldn (q := 0) (by decide +kernel) rfl) <|
  fc (ok_ildn (q := 1) (by decide +kernel) rfl) <|
  fc (ok_iconst (n := 1) (by decide +kernel) (by decide +kernel)) <|
  fc (ok_iadd (by decide +kernel)) <|
  fc (ok_cv mk_X12_thing mk_X12_held ⟨uw355, uw356, uw357, uw5, by decide +kernel⟩ (T := TX12) (N := 47) rfl (by decide +kernel)) <|
  fc (ok_istn (q := 3) (by decide +kernel) rfl (by decide)) <|
  fc (ok_aldn (q := 0) (by decide +kernel) rfl) <|
  fc (ok_bipush (n := 41) (by decide +kernel) (by decide +kernel)) <|
  fc (ok_cv mk_X12_thing mk_X12_need ⟨uw371, uw372, uw373, uw5, by decide +kernel⟩ (T := TX12) (N := 47) rfl (by decide +kernel)) <|
  fc (ok_ildn (q := 3) (by decide +kernel) rfl) <|
  fc (ok_iret rfl (by decide +kernel)) <|
  fc (ok_ildn (q := 2) (by decide +kernel) rfl) <|
  fc (ok_bipush (n := 48) (by decide +kernel) (by decide +kernel)) <|
  fc (ok_bipush (n := 57) (by decide +kernel) (by decide +kernel)) <|
  fc (ok_cs mk_X12_thing mk_X12_in ⟨uw199, uw200, uw5, by decide +kernel⟩ (by decide +kernel)) <|
  fc (ok_ifeq (off := 9) (by decide +kernel) (by decide)) <|
  fc (ok_aldn (q := 0) (by decide +kernel) rfl) <|
  fc (ok_iconst (n := 3) (by decide +kernel) (by decide +kernel)) <|
  fc (ok_cv mk_X12_thing mk_X12_number ⟨uw375, uw376, uw377, uw5, by decide +kernel⟩ (T := TX12) (N := 47) rfl (by decide +kernel)) <|
  fc (ok_iret rfl (by decide +kernel)) <|
  fc (ok_ildn (q := 2) (by decide +kernel) rfl) <|
  fc (ok_cs mk_X12_thing mk_X12_letterOf ⟨uw379, uw380, uw5, by decide +kernel⟩ (by decide +kernel)) <|
  fc (ok_iconst (n := -1) (by decide +kernel) (by decide +kernel)) <|
  fc (ok_icne (off := 13) (by decide +kernel) (by decide)) <|
  fc (ok_aldn (q := 0) (by decide +kernel) rfl) <|
  fc (ok_aldn (q := 0) (by decide +kernel) rfl) <|
  fc (ok_gi mk_X12_thing (fo_RX12_129 rfl) rfl (by decide +kernel)) <|
  fc (ok_cv mk_X12_thing mk_X12_fault ⟨uw277, uw278, uw279, uw5, by decide +kernel⟩ (T := TX12) (N := 47) rfl (by decide +kernel)) <|
  fc (ok_iconst (n := 0) (by decide +kernel) (by decide +kernel)) <|
  fc (ok_iret rfl (by decide +kernel)) <|
  fc (ok_aldn (q := 0) (by decide +kernel) rfl) <|
  fc (ok_dup (by decide +kernel)) <|
  fc (ok_gi mk_X12_thing (fo_RX12_129 rfl) rfl (by decide +kernel)) <|
  fc (ok_iconst (n := 1) (by decide +kernel) (by decide +kernel)) <|
  fc (ok_iadd (by decide +kernel)) <|
  fc (ok_pi mk_X12_thing (fo_RX12_129 rfl) to_12_11 rfl (by decide +kernel)) <|
  fc (ok_aldn (q := 0) (by decide +kernel) rfl) <|
  fc (ok_gi mk_X12_thing (fo_RX12_194 rfl) rfl (by decide +kernel)) <|
  fc (ok_ifeq (off := 15) (by decide +kernel) (by decide)) <|
  fc (ok_aldn (q := 0) (by decide +kernel) rfl) <|
  fc (ok_gf mk_X12_thing (fo_RX12_33 rfl) rfl (by decide +kernel)) <|
  fc (ok_ildn (q := 2) (by decide +kernel) rfl) <|
  fc (ok_cs mk_X12_thing mk_X12_letterOf ⟨uw379, uw380, uw5, by decide +kernel⟩ (by decide +kernel)) <|
  fc (ok_iald (by decide +kernel)) <|
  fc (ok_goto (off := 4) (by decide +kernel) (by decide)) <|
  fc (ok_iconst (n := 0) (by decide +kernel) (by decide +kernel)) <|
  fc (ok_iret rfl (by decide +kernel)) <| fn
def T_X12_need : List (Nat × Op) := [(0, op_ald 0 1), (1, op_ild 1 1), (2, op_cv M_X12_passes 12 1), (5, op_ifne 16), (8, op_ald 0 1), (9, op_ald 0 1), (10, op_gi 12 11), (13, op_cv M_X12_fault 12 1), (16, op_vret)]
set_option maxRecDepth 20000 in
theorem K_X12_need : ∀ r ∈ T_X12_need, OpOK M_X12_need r.1 r.2 :=
  fc (ok_aldn (q := 0) (by decide +kernel) rfl) <|
  fc (ok_ildn (q := 1) (by decide +kernel) rfl) <|
  fc (ok_cv mk_X12_need mk_X12_passes ⟨uw289, uw290, uw291, uw5, by decide +kernel⟩ (T := TX12) (N := 47) rfl (by decide +kernel)) <|
  fc (ok_ifne (off := 11) (by decide +kernel) (by decide)) <|
  fc (ok_aldn (q := 0) (by decide +kernel) rfl) <|
  fc (ok_aldn (q := 0) (by decide +kernel) rfl) <|
  fc (ok_gi mk_X12_need (fo_RX12_129 rfl) rfl (by decide +kernel)) <|
  fc (ok_cv mk_X12_need mk_X12_fault ⟨uw277, uw278, uw279, uw5, by decide +kernel⟩ (T := TX12) (N := 47) rfl (by decide +kernel)) <|
  fc (ok_vret rfl (by decide +kernel)) <| fn
def T_X12_number : List (Nat × Op) := [(0, op_ald 0 1), (1, op_ic 48 2), (3, op_ic 10 2), (5, op_cv M_X12_oneOf 12 2), (8, op_ist 2 1), (9, op_ic 1 1), (10, op_ist 3 1), (11, op_ild 3 1), (12, op_ild 1 1), (13, op_icge 57), (16, op_ald 0 1), (17, op_cv M_X12_fine 12 0), (20, op_ifeq 57), (23, op_ald 0 1), (24, op_cv M_X12_here 12 0), (27, op_ic 48 2), (29, op_ic 57 2), (31, op_cs M_X12_in 3), (34, op_ifeq 57), (37, op_ic 10 2), (39, op_ild 2 1), (40, op_imul), (41, op_ald 0 1), (42, op_ic 48 2), (44, op_ic 10 2), (46, op_cv M_X12_oneOf 12 2), (49, op_iadd), (50, op_ist 2 1), (51, op_iinc 3 1), (54, op_goto 11), (57, op_ild 2 1), (58, op_iret)]
set_option maxRecDepth 20000 in
theorem K_X12_number : ∀ r ∈ T_X12_number, OpOK M_X12_number r.1 r.2 :=
  fc (ok_aldn (q := 0) (by decide +kernel) rfl) <|
  fc (ok_bipush (n := 48) (by decide +kernel) (by decide +kernel)) <|
  fc (ok_bipush (n := 10) (by decide +kernel) (by decide +kernel)) <|
  fc (ok_cv mk_X12_number mk_X12_oneOf ⟨uw281, uw282, uw283, uw5, by decide +kernel⟩ (T := TX12) (N := 47) rfl (by decide +kernel)) <|
  fc (ok_istn (q := 2) (by decide +kernel) rfl (by decide)) <|
  fc (ok_iconst (n := 1) (by decide +kernel) (by decide +kernel)) <|
  fc (ok_istn (q := 3) (by decide +kernel) rfl (by decide)) <|
  fc (ok_ildn (q := 3) (by decide +kernel) rfl) <|
  fc (ok_ildn (q := 1) (by decide +kernel) rfl) <|
  fc (ok_icge (off := 44) (by decide +kernel) (by decide)) <|
  fc (ok_aldn (q := 0) (by decide +kernel) rfl) <|
  fc (ok_cv mk_X12_number mk_X12_fine ⟨uw273, uw274, uw275, uw5, by decide +kernel⟩ (T := TX12) (N := 47) rfl (by decide +kernel)) <|
  fc (ok_ifeq (off := 37) (by decide +kernel) (by decide)) <|
  fc (ok_aldn (q := 0) (by decide +kernel) rfl) <|
  fc (ok_cv mk_X12_number mk_X12_here ⟨uw285, uw286, uw287, uw5, by decide +kernel⟩ (T := TX12) (N := 47) rfl (by decide +kernel)) <|
  fc (ok_bipush (n := 48) (by decide +kernel) (by decide +kernel)) <|
  fc (ok_bipush (n := 57) (by decide +kernel) (by decide +kernel)) <|
  fc (ok_cs mk_X12_number mk_X12_in ⟨uw199, uw200, uw5, by decide +kernel⟩ (by decide +kernel)) <|
  fc (ok_ifeq (off := 23) (by decide +kernel) (by decide)) <|
  fc (ok_bipush (n := 10) (by decide +kernel) (by decide +kernel)) <|
  fc (ok_ildn (q := 2) (by decide +kernel) rfl) <|
  fc (ok_imul (by decide +kernel)) <|
  fc (ok_aldn (q := 0) (by decide +kernel) rfl) <|
  fc (ok_bipush (n := 48) (by decide +kernel) (by decide +kernel)) <|
  fc (ok_bipush (n := 10) (by decide +kernel) (by decide +kernel)) <|
  fc (ok_cv mk_X12_number mk_X12_oneOf ⟨uw281, uw282, uw283, uw5, by decide +kernel⟩ (T := TX12) (N := 47) rfl (by decide +kernel)) <|
  fc (ok_iadd (by decide +kernel)) <|
  fc (ok_istn (q := 2) (by decide +kernel) rfl (by decide)) <|
  fc (ok_iinc (n := 1) (by decide +kernel) (by decide +kernel) (by decide)) <|
  fc (ok_goto (off := -43) (by decide +kernel) (by decide)) <|
  fc (ok_ildn (q := 2) (by decide +kernel) rfl) <|
  fc (ok_iret rfl (by decide +kernel)) <| fn
def T_X12_letterOf : List (Nat × Op) := [(0, op_ild 0 1), (1, op_ic 118 2), (3, op_icne 10), (6, op_ic 0 1), (7, op_goto 72), (10, op_ild 0 1), (11, op_ic 117 2), (13, op_icne 20), (16, op_ic 1 1), (17, op_goto 72), (20, op_ild 0 1), (21, op_ic 102 2), (23, op_icne 30), (26, op_ic 2 1), (27, op_goto 72), (30, op_ild 0 1), (31, op_ic 104 2), (33, op_icne 40), (36, op_ic 3 1), (37, op_goto 72), (40, op_ild 0 1), (41, op_ic 97 2), (43, op_icne 50), (46, op_ic 4 1), (47, op_goto 72), (50, op_ild 0 1), (51, op_ic 111 2), (53, op_icne 60), (56, op_ic 5 1), (57, op_goto 72), (60, op_ild 0 1), (61, op_ic 110 2), (63, op_icne 71), (66, op_ic 6 2), (68, op_goto 72), (71, op_ic (-1) 1), (72, op_iret)]
set_option maxRecDepth 20000 in
theorem K_X12_letterOf : ∀ r ∈ T_X12_letterOf, OpOK M_X12_letterOf r.1 r.2 :=
  fc (ok_ildn (q := 0) (by decide +kernel) rfl) <|
  fc (ok_bipush (n := 118) (by decide +kernel) (by decide +kernel)) <|
  fc (ok_icne (off := 7) (by decide +kernel) (by decide)) <|
  fc (ok_iconst (n := 0) (by decide +kernel) (by decide +kernel)) <|
  fc (ok_goto (off := 65) (by decide +kernel) (by decide)) <|
  fc (ok_ildn (q := 0) (by decide +kernel) rfl) <|
  fc (ok_bipush (n := 117) (by decide +kernel) (by decide +kernel)) <|
  fc (ok_icne (off := 7) (by decide +kernel) (by decide)) <|
  fc (ok_iconst (n := 1) (by decide +kernel) (by decide +kernel)) <|
  fc (ok_goto (off := 55) (by decide +kernel) (by decide)) <|
  fc (ok_ildn (q := 0) (by decide +kernel) rfl) <|
  fc (ok_bipush (n := 102) (by decide +kernel) (by decide +kernel)) <|
  fc (ok_icne (off := 7) (by decide +kernel) (by decide)) <|
  fc (ok_iconst (n := 2) (by decide +kernel) (by decide +kernel)) <|
  fc (ok_goto (off := 45) (by decide +kernel) (by decide)) <|
  fc (ok_ildn (q := 0) (by decide +kernel) rfl) <|
  fc (ok_bipush (n := 104) (by decide +kernel) (by decide +kernel)) <|
  fc (ok_icne (off := 7) (by decide +kernel) (by decide)) <|
  fc (ok_iconst (n := 3) (by decide +kernel) (by decide +kernel)) <|
  fc (ok_goto (off := 35) (by decide +kernel) (by decide)) <|
  fc (ok_ildn (q := 0) (by decide +kernel) rfl) <|
  fc (ok_bipush (n := 97) (by decide +kernel) (by decide +kernel)) <|
  fc (ok_icne (off := 7) (by decide +kernel) (by decide)) <|
  fc (ok_iconst (n := 4) (by decide +kernel) (by decide +kernel)) <|
  fc (ok_goto (off := 25) (by decide +kernel) (by decide)) <|
  fc (ok_ildn (q := 0) (by decide +kernel) rfl) <|
  fc (ok_bipush (n := 111) (by decide +kernel) (by decide +kernel)) <|
  fc (ok_icne (off := 7) (by decide +kernel) (by decide)) <|
  fc (ok_iconst (n := 5) (by decide +kernel) (by decide +kernel)) <|
  fc (ok_goto (off := 15) (by decide +kernel) (by decide)) <|
  fc (ok_ildn (q := 0) (by decide +kernel) rfl) <|
  fc (ok_bipush (n := 110) (by decide +kernel) (by decide +kernel)) <|
  fc (ok_icne (off := 8) (by decide +kernel) (by decide)) <|
  fc (ok_bipush (n := 6) (by decide +kernel) (by decide +kernel)) <|
  fc (ok_goto (off := 4) (by decide +kernel) (by decide)) <|
  fc (ok_iconst (n := -1) (by decide +kernel) (by decide +kernel)) <|
  fc (ok_iret rfl (by decide +kernel)) <| fn
def T_X12_one : List (Nat × Op) := [(0, op_ald 0 1), (1, op_ic 0 1), (2, op_pi 12 7), (5, op_ald 0 1), (6, op_ild 1 1), (7, op_cv M_X12_isOne 12 1), (10, op_ifeq 22), (13, op_ild 2 1), (14, op_ic 0 1), (15, op_ic 4 1), (16, op_cs M_X12_in 3), (19, op_ifne 27), (22, op_ald 0 1), (23, op_cv M_X12_lost 12 0), (26, op_iret), (27, op_ild 2 1), (28, op_sw 94 [(0, 60), (1, 67), (2, 74), (3, 84)]), (60, op_ald 0 1), (61, op_gf 12 0 1), (64, op_ild 1 1), (65, op_iald), (66, op_iret), (67, op_ald 0 1), (68, op_gf 12 2 2), (71, op_ild 1 1), (72, op_iald), (73, op_iret), (74, op_ald 0 1), (75, op_gf 12 0 1), (78, op_ic 7 2), (80, op_ild 1 1), (81, op_iadd), (82, op_iald), (83, op_iret), (84, op_ald 0 1), (85, op_ald 0 1), (86, op_gf 12 0 1), (89, op_ild 1 1), (90, op_cv M_X12_heldBy 12 2), (93, op_iret), (94, op_ald 0 1), (95, op_ald 0 1), (96, op_gf 12 0 1), (99, op_ild 1 1), (100, op_cv M_X12_sayable 12 2), (103, op_iret)]
set_option maxRecDepth 20000 in
theorem K_X12_one : ∀ r ∈ T_X12_one, OpOK M_X12_one r.1 r.2 :=
  fc (ok_aldn (q := 0) (by decide +kernel) rfl) <|
  fc (ok_iconst (n := 0) (by decide +kernel) (by decide +kernel)) <|
  fc (ok_pi mk_X12_one (fo_RX12_103 rfl) to_12_7 rfl (by decide +kernel)) <|
  fc (ok_aldn (q := 0) (by decide +kernel) rfl) <|
  fc (ok_ildn (q := 1) (by decide +kernel) rfl) <|
  fc (ok_cv mk_X12_one mk_X12_isOne ⟨uw442, uw443, uw444, uw5, by decide +kernel⟩ (T := TX12) (N := 47) rfl (by decide +kernel)) <|
  fc (ok_ifeq (off := 12) (by decide +kernel) (by decide)) <|
  fc (ok_ildn (q := 2) (by decide +kernel) rfl) <|
  fc (ok_iconst (n := 0) (by decide +kernel) (by decide +kernel)) <|
  fc (ok_iconst (n := 4) (by decide +kernel) (by decide +kernel)) <|
  fc (ok_cs mk_X12_one mk_X12_in ⟨uw199, uw200, uw5, by decide +kernel⟩ (by decide +kernel)) <|
  fc (ok_ifne (off := 8) (by decide +kernel) (by decide)) <|
  fc (ok_aldn (q := 0) (by decide +kernel) rfl) <|
  fc (ok_cv mk_X12_one mk_X12_lost ⟨uw446, uw447, uw448, uw5, by decide +kernel⟩ (T := TX12) (N := 47) rfl (by decide +kernel)) <|
  fc (ok_iret rfl (by decide +kernel)) <|
  fc (ok_ildn (q := 2) (by decide +kernel) rfl) <|
  fc (ok_tsw (dflt := 66) (lo := 0) (hi := 3) (offs := #[32, 39, 46, 56]) (len := 32) (by decide +kernel) (by decide +kernel) (by decide +kernel) (by decide) (by decide)) <|
  fc (ok_aldn (q := 0) (by decide +kernel) rfl) <|
  fc (ok_gf mk_X12_one (fo_RX12_9 rfl) rfl (by decide +kernel)) <|
  fc (ok_ildn (q := 1) (by decide +kernel) rfl) <|
  fc (ok_iald (by decide +kernel)) <|
  fc (ok_iret rfl (by decide +kernel)) <|
  fc (ok_aldn (q := 0) (by decide +kernel) rfl) <|
  fc (ok_gf mk_X12_one (fo_RX12_13 rfl) rfl (by decide +kernel)) <|
  fc (ok_ildn (q := 1) (by decide +kernel) rfl) <|
  fc (ok_iald (by decide +kernel)) <|
  fc (ok_iret rfl (by decide +kernel)) <|
  fc (ok_aldn (q := 0) (by decide +kernel) rfl) <|
  fc (ok_gf mk_X12_one (fo_RX12_9 rfl) rfl (by decide +kernel)) <|
  fc (ok_bipush (n := 7) (by decide +kernel) (by decide +kernel)) <|
  fc (ok_ildn (q := 1) (by decide +kernel) rfl) <|
  fc (ok_iadd (by decide +kernel)) <|
  fc (ok_iald (by decide +kernel)) <|
  fc (ok_iret rfl (by decide +kernel)) <|
  fc (ok_aldn (q := 0) (by decide +kernel) rfl) <|
  fc (ok_aldn (q := 0) (by decide +kernel) rfl) <|
  fc (ok_gf mk_X12_one (fo_RX12_9 rfl) rfl (by decide +kernel)) <|
  fc (ok_ildn (q := 1) (by decide +kernel) rfl) <|
  fc (ok_cv mk_X12_one mk_X12_heldBy ⟨uw450, uw451, uw452, uw5, by decide +kernel⟩ (T := TX12) (N := 47) rfl (by decide +kernel)) <|
  fc (ok_iret rfl (by decide +kernel)) <|
  fc (ok_aldn (q := 0) (by decide +kernel) rfl) <|
  fc (ok_aldn (q := 0) (by decide +kernel) rfl) <|
  fc (ok_gf mk_X12_one (fo_RX12_9 rfl) rfl (by decide +kernel)) <|
  fc (ok_ildn (q := 1) (by decide +kernel) rfl) <|
  fc (ok_cv mk_X12_one mk_X12_sayable ⟨uw454, uw455, uw456, uw5, by decide +kernel⟩ (T := TX12) (N := 47) rfl (by decide +kernel)) <|
  fc (ok_iret rfl (by decide +kernel)) <| fn
def T_X12_isOne : List (Nat × Op) := [(0, op_ild 1 1), (1, op_ic 0 1), (2, op_ald 0 1), (3, op_gi 12 1), (6, op_ic 1 1), (7, op_isub), (8, op_cs M_X12_in 3), (11, op_zret)]
set_option maxRecDepth 20000 in
theorem K_X12_isOne : ∀ r ∈ T_X12_isOne, OpOK M_X12_isOne r.1 r.2 :=
  fc (ok_ildn (q := 1) (by decide +kernel) rfl) <|
  fc (ok_iconst (n := 0) (by decide +kernel) (by decide +kernel)) <|
  fc (ok_aldn (q := 0) (by decide +kernel) rfl) <|
  fc (ok_gi mk_X12_isOne (fo_RX12_110 rfl) rfl (by decide +kernel)) <|
  fc (ok_iconst (n := 1) (by decide +kernel) (by decide +kernel)) <|
  fc (ok_isub (by decide +kernel)) <|
  fc (ok_cs mk_X12_isOne mk_X12_in ⟨uw199, uw200, uw5, by decide +kernel⟩ (by decide +kernel)) <|
  fc (ok_zret rfl (by decide +kernel)) <| fn
def T_X12_lost : List (Nat × Op) := [(0, op_ald 0 1), (1, op_ic 1 1), (2, op_pi 12 7), (5, op_ic 0 1), (6, op_iret)]
set_option maxRecDepth 20000 in
theorem K_X12_lost : ∀ r ∈ T_X12_lost, OpOK M_X12_lost r.1 r.2 :=
  fc (ok_aldn (q := 0) (by decide +kernel) rfl) <|
  fc (ok_iconst (n := 1) (by decide +kernel) (by decide +kernel)) <|
  fc (ok_pi mk_X12_lost (fo_RX12_103 rfl) to_12_7 rfl (by decide +kernel)) <|
  fc (ok_iconst (n := 0) (by decide +kernel) (by decide +kernel)) <|
  fc (ok_iret rfl (by decide +kernel)) <| fn
def T_X12_heldBy : List (Nat × Op) := [(0, op_ic 0 1), (1, op_ist 3 1), (2, op_ic 0 1), (3, op_ist 4 2), (5, op_ild 4 2), (7, op_ald 0 1), (8, op_gi 12 1), (11, op_icge 42), (14, op_ild 3 1), (15, op_ald 1 1), (16, op_ic 14 2), (18, op_ild 4 2), (20, op_iadd), (21, op_iald), (22, op_ild 2 1), (23, op_icne 33), (26, op_ic 1 1), (27, op_ild 4 2), (29, op_ishl), (30, op_goto 34), (33, op_ic 0 1), (34, op_ior), (35, op_ist 3 1), (36, op_iinc 4 1), (39, op_goto 5), (42, op_ild 3 1), (43, op_iret)]
set_option maxRecDepth 20000 in
theorem K_X12_heldBy : ∀ r ∈ T_X12_heldBy, OpOK M_X12_heldBy r.1 r.2 :=
  fc (ok_iconst (n := 0) (by decide +kernel) (by decide +kernel)) <|
  fc (ok_istn (q := 3) (by decide +kernel) rfl (by decide)) <|
  fc (ok_iconst (n := 0) (by decide +kernel) (by decide +kernel)) <|
  fc (ok_ist (by decide +kernel) (by decide)) <|
  fc (ok_ild (by decide +kernel)) <|
  fc (ok_aldn (q := 0) (by decide +kernel) rfl) <|
  fc (ok_gi mk_X12_heldBy (fo_RX12_110 rfl) rfl (by decide +kernel)) <|
  fc (ok_icge (off := 31) (by decide +kernel) (by decide)) <|
  fc (ok_ildn (q := 3) (by decide +kernel) rfl) <|
  fc (ok_aldn (q := 1) (by decide +kernel) rfl) <|
  fc (ok_bipush (n := 14) (by decide +kernel) (by decide +kernel)) <|
  fc (ok_ild (by decide +kernel)) <|
  fc (ok_iadd (by decide +kernel)) <|
  fc (ok_iald (by decide +kernel)) <|
  fc (ok_ildn (q := 2) (by decide +kernel) rfl) <|
  fc (ok_icne (off := 10) (by decide +kernel) (by decide)) <|
  fc (ok_iconst (n := 1) (by decide +kernel) (by decide +kernel)) <|
  fc (ok_ild (by decide +kernel)) <|
  fc (ok_ishl (by decide +kernel)) <|
  fc (ok_goto (off := 4) (by decide +kernel) (by decide)) <|
  fc (ok_iconst (n := 0) (by decide +kernel) (by decide +kernel)) <|
  fc (ok_ior (by decide +kernel)) <|
  fc (ok_istn (q := 3) (by decide +kernel) rfl (by decide)) <|
  fc (ok_iinc (n := 1) (by decide +kernel) (by decide +kernel) (by decide)) <|
  fc (ok_goto (off := -34) (by decide +kernel) (by decide)) <|
  fc (ok_ildn (q := 3) (by decide +kernel) rfl) <|
  fc (ok_iret rfl (by decide +kernel)) <| fn
def T_X12_sayable : List (Nat × Op) := [(0, op_ic 0 1), (1, op_ist 3 1), (2, op_ic 0 1), (3, op_ist 4 2), (5, op_ild 4 2), (7, op_ald 0 1), (8, op_gi 12 1), (11, op_icge 42), (14, op_ild 3 1), (15, op_ald 0 1), (16, op_ald 1 1), (17, op_ild 2 1), (18, op_ild 4 2), (20, op_cv M_X12_canSay 12 3), (23, op_ifeq 33), (26, op_ic 1 1), (27, op_ild 4 2), (29, op_ishl), (30, op_goto 34), (33, op_ic 0 1), (34, op_ior), (35, op_ist 3 1), (36, op_iinc 4 1), (39, op_goto 5), (42, op_ild 3 1), (43, op_iret)]
set_option maxRecDepth 20000 in
theorem K_X12_sayable : ∀ r ∈ T_X12_sayable, OpOK M_X12_sayable r.1 r.2 :=
  fc (ok_iconst (n := 0) (by decide +kernel) (by decide +kernel)) <|
  fc (ok_istn (q := 3) (by decide +kernel) rfl (by decide)) <|
  fc (ok_iconst (n := 0) (by decide +kernel) (by decide +kernel)) <|
  fc (ok_ist (by decide +kernel) (by decide)) <|
  fc (ok_ild (by decide +kernel)) <|
  fc (ok_aldn (q := 0) (by decide +kernel) rfl) <|
  fc (ok_gi mk_X12_sayable (fo_RX12_110 rfl) rfl (by decide +kernel)) <|
  fc (ok_icge (off := 31) (by decide +kernel) (by decide)) <|
  fc (ok_ildn (q := 3) (by decide +kernel) rfl) <|
  fc (ok_aldn (q := 0) (by decide +kernel) rfl) <|
  fc (ok_aldn (q := 1) (by decide +kernel) rfl) <|
  fc (ok_ildn (q := 2) (by decide +kernel) rfl) <|
  fc (ok_ild (by decide +kernel)) <|
  fc (ok_cv mk_X12_sayable mk_X12_canSay ⟨uw458, uw459, uw460, uw5, by decide +kernel⟩ (T := TX12) (N := 47) rfl (by decide +kernel)) <|
  fc (ok_ifeq (off := 10) (by decide +kernel) (by decide)) <|
  fc (ok_iconst (n := 1) (by decide +kernel) (by decide +kernel)) <|
  fc (ok_ild (by decide +kernel)) <|
  fc (ok_ishl (by decide +kernel)) <|
  fc (ok_goto (off := 4) (by decide +kernel) (by decide)) <|
  fc (ok_iconst (n := 0) (by decide +kernel) (by decide +kernel)) <|
  fc (ok_ior (by decide +kernel)) <|
  fc (ok_istn (q := 3) (by decide +kernel) rfl (by decide)) <|
  fc (ok_iinc (n := 1) (by decide +kernel) (by decide +kernel) (by decide)) <|
  fc (ok_goto (off := -34) (by decide +kernel) (by decide)) <|
  fc (ok_ildn (q := 3) (by decide +kernel) rfl) <|
  fc (ok_iret rfl (by decide +kernel)) <| fn
def T_X12_canSay : List (Nat × Op) := [(0, op_ald 1 1), (1, op_ic 14 2), (3, op_ild 3 1), (4, op_iadd), (5, op_iald), (6, op_ist 4 2), (8, op_ild 4 2), (10, op_ild 2 1), (11, op_icne 16), (14, op_ic 0 1), (15, op_zret), (16, op_ald 0 1), (17, op_gi 12 16), (20, op_ifne 46), (23, op_ald 0 1), (24, op_gf 12 2 2), (27, op_ild 2 1), (28, op_iald), (29, op_ald 1 1), (30, op_ild 2 1), (31, op_ild 4 2), (33, op_cs M_X12_farOf 3), (36, op_isub), (37, op_iflt 44), (40, op_ic 1 1), (41, op_goto 45), (44, op_ic 0 1), (45, op_zret), (46, op_ald 0 1), (47, op_gf 12 18 8), (50, op_ic 0 1), (51, op_ald 0 1), (52, op_gf 12 2 2), (55, op_ild 2 1), (56, op_iald), (57, op_iast), (58, op_ald 0 1), (59, op_gf 12 18 8), (62, op_ic 1 1), (63, op_ald 0 1), (64, op_gf 12 2 2), (67, op_ild 4 2), (69, op_iald), (70, op_iast), (71, op_ald 0 1), (72, op_gf 12 18 8), (75, op_ic 2 1), (76, op_ald 1 1), (77, op_ild 2 1), (78, op_ild 4 2), (80, op_cs M_X12_farOf 3), (83, op_iast), (84, op_ald 0 1), (85, op_gf 12 18 8), (88, op_ic 3 1), (89, op_ald 0 1), (90, op_ald 1 1), (91, op_ild 2 1), (92, op_cv M_X12_heldBy 12 2), (95, op_cs M_J6_bitCount_0f7a4 1), (98, op_iast), (99, op_ald 0 1), (100, op_gf 12 18 8), (103, op_ic 4 1), (104, op_ald 1 1), (105, op_ic 21 2), (107, op_ild 3 1), (108, op_iadd), (109, op_iald), (110, op_iast), (111, op_ald 0 1), (112, op_gf 12 18 8), (115, op_ic 5 1), (116, op_ild 2 1), (117, op_ild 3 1), (118, op_icne 125), (121, op_ic 1 1), (122, op_goto 126), (125, op_ic 0 1), (126, op_iast), (127, op_ald 0 1), (128, op_gf 12 18 8), (131, op_ic 6 2), (133, op_ald 1 1), (134, op_ic 28 2), (136, op_iald), (137, op_ic 7 2), (139, op_irem), (140, op_iast), (141, op_ald 0 1), (142, op_ald 0 1), (143, op_gr 12 14), (146, op_ald 0 1), (147, op_gi 12 16), (150, op_ic 40 2), (152, op_cv M_X12_begin 12 3), (155, op_ald 0 1), (156, op_ic 1 1), (157, op_pz 12 17), (160, op_ald 0 1), (161, op_ic 0 1), (162, op_cv M_X12_held 12 1), (165, op_ist 5 2), (167, op_ald 0 1), (168, op_ic 0 1), (169, op_pz 12 17), (172, op_ild 5 2), (174, op_iflt 181), (177, op_ic 1 1), (178, op_goto 182), (181, op_ic 0 1), (182, op_zret)]
set_option maxRecDepth 20000 in
theorem K_X12_canSay : ∀ r ∈ T_X12_canSay, OpOK M_X12_canSay r.1 r.2 :=
  fc (ok_aldn (q := 1) (by decide +kernel) rfl) <|
  fc (ok_bipush (n := 14) (by decide +kernel) (by decide +kernel)) <|
  fc (ok_ildn (q := 3) (by decide +kernel) rfl) <|
  fc (ok_iadd (by decide +kernel)) <|
  fc (ok_iald (by decide +kernel)) <|
  fc (ok_ist (by decide +kernel) (by decide)) <|
  fc (ok_ild (by decide +kernel)) <|
  fc (ok_ildn (q := 2) (by decide +kernel) rfl) <|
  fc (ok_icne (off := 5) (by decide +kernel) (by decide)) <|
  fc (ok_iconst (n := 0) (by decide +kernel) (by decide +kernel)) <|
  fc (ok_zret rfl (by decide +kernel)) <|
  fc (ok_aldn (q := 0) (by decide +kernel) rfl) <|
  fc (ok_gi mk_X12_canSay (fo_RX12_201 rfl) rfl (by decide +kernel)) <|
  fc (ok_ifne (off := 26) (by decide +kernel) (by decide)) <|
  fc (ok_aldn (q := 0) (by decide +kernel) rfl) <|
  fc (ok_gf mk_X12_canSay (fo_RX12_13 rfl) rfl (by decide +kernel)) <|
  fc (ok_ildn (q := 2) (by decide +kernel) rfl) <|
  fc (ok_iald (by decide +kernel)) <|
  fc (ok_aldn (q := 1) (by decide +kernel) rfl) <|
  fc (ok_ildn (q := 2) (by decide +kernel) rfl) <|
  fc (ok_ild (by decide +kernel)) <|
  fc (ok_cs mk_X12_canSay mk_X12_farOf ⟨uw462, uw463, uw5, by decide +kernel⟩ (by decide +kernel)) <|
  fc (ok_isub (by decide +kernel)) <|
  fc (ok_iflt (off := 7) (by decide +kernel) (by decide)) <|
  fc (ok_iconst (n := 1) (by decide +kernel) (by decide +kernel)) <|
  fc (ok_goto (off := 4) (by decide +kernel) (by decide)) <|
  fc (ok_iconst (n := 0) (by decide +kernel) (by decide +kernel)) <|
  fc (ok_zret rfl (by decide +kernel)) <|
  fc (ok_aldn (q := 0) (by decide +kernel) rfl) <|
  fc (ok_gf mk_X12_canSay (fo_RX12_33 rfl) rfl (by decide +kernel)) <|
  fc (ok_iconst (n := 0) (by decide +kernel) (by decide +kernel)) <|
  fc (ok_aldn (q := 0) (by decide +kernel) rfl) <|
  fc (ok_gf mk_X12_canSay (fo_RX12_13 rfl) rfl (by decide +kernel)) <|
  fc (ok_ildn (q := 2) (by decide +kernel) rfl) <|
  fc (ok_iald (by decide +kernel)) <|
  fc (ok_iast (by decide +kernel)) <|
  fc (ok_aldn (q := 0) (by decide +kernel) rfl) <|
  fc (ok_gf mk_X12_canSay (fo_RX12_33 rfl) rfl (by decide +kernel)) <|
  fc (ok_iconst (n := 1) (by decide +kernel) (by decide +kernel)) <|
  fc (ok_aldn (q := 0) (by decide +kernel) rfl) <|
  fc (ok_gf mk_X12_canSay (fo_RX12_13 rfl) rfl (by decide +kernel)) <|
  fc (ok_ild (by decide +kernel)) <|
  fc (ok_iald (by decide +kernel)) <|
  fc (ok_iast (by decide +kernel)) <|
  fc (ok_aldn (q := 0) (by decide +kernel) rfl) <|
  fc (ok_gf mk_X12_canSay (fo_RX12_33 rfl) rfl (by decide +kernel)) <|
  fc (ok_iconst (n := 2) (by decide +kernel) (by decide +kernel)) <|
  fc (ok_aldn (q := 1) (by decide +kernel) rfl) <|
  fc (ok_ildn (q := 2) (by decide +kernel) rfl) <|
  fc (ok_ild (by decide +kernel)) <|
  fc (ok_cs mk_X12_canSay mk_X12_farOf ⟨uw462, uw463, uw5, by decide +kernel⟩ (by decide +kernel)) <|
  fc (ok_iast (by decide +kernel)) <|
  fc (ok_aldn (q := 0) (by decide +kernel) rfl) <|
  fc (ok_gf mk_X12_canSay (fo_RX12_33 rfl) rfl (by decide +kernel)) <|
  fc (ok_iconst (n := 3) (by decide +kernel) (by decide +kernel)) <|
  fc (ok_aldn (q := 0) (by decide +kernel) rfl) <|
  fc (ok_aldn (q := 1) (by decide +kernel) rfl) <|
  fc (ok_ildn (q := 2) (by decide +kernel) rfl) <|
  fc (ok_cv mk_X12_canSay mk_X12_heldBy ⟨uw450, uw451, uw452, uw5, by decide +kernel⟩ (T := TX12) (N := 47) rfl (by decide +kernel)) <|
  fc (ok_cs mk_X12_canSay mk_J6_bitCount_0f7a4 ⟨uw466, uw429, uw430, by decide +kernel⟩ (by decide +kernel)) <|
  fc (ok_iast (by decide +kernel)) <|
  fc (ok_aldn (q := 0) (by decide +kernel) rfl) <|
  fc (ok_gf mk_X12_canSay (fo_RX12_33 rfl) rfl (by decide +kernel)) <|
  fc (ok_iconst (n := 4) (by decide +kernel) (by decide +kernel)) <|
  fc (ok_aldn (q := 1) (by decide +kernel) rfl) <|
  fc (ok_bipush (n := 21) (by decide +kernel) (by decide +kernel)) <|
  fc (ok_ildn (q := 3) (by decide +kernel) rfl) <|
  fc (ok_iadd (by decide +kernel)) <|
  fc (ok_iald (by decide +kernel)) <|
  fc (ok_iast (by decide +kernel)) <|
  fc (ok_aldn (q := 0) (by decide +kernel) rfl) <|
  fc (ok_gf mk_X12_canSay (fo_RX12_33 rfl) rfl (by decide +kernel)) <|
  fc (ok_iconst (n := 5) (by decide +kernel) (by decide +kernel)) <|
  fc (ok_ildn (q := 2) (by decide +kernel) rfl) <|
  fc (ok_ildn (q := 3) (by decide +kernel) rfl) <|
  fc (ok_icne (off := 7) (by decide +kernel) (by decide)) <|
  fc (ok_iconst (n := 1) (by decide +kernel) (by decide +kernel)) <|
  fc (ok_goto (off := 4) (by decide +kernel) (by decide)) <|
  fc (ok_iconst (n := 0) (by decide +kernel) (by decide +kernel)) <|
  fc (ok_iast (by decide +kernel)) <|
  fc (ok_aldn (q := 0) (by decide +kernel) rfl) <|
  fc (ok_gf mk_X12_canSay (fo_RX12_33 rfl) rfl (by decide +kernel)) <|
  fc (ok_bipush (n := 6) (by decide +kernel) (by decide +kernel)) <|
  fc (ok_aldn (q := 1) (by decide +kernel) rfl) <|
  fc (ok_bipush (n := 28) (by decide +kernel) (by decide +kernel)) <|
  fc (ok_iald (by decide +kernel)) <|
  fc (ok_bipush (n := 7) (by decide +kernel) (by decide +kernel)) <|
  fc (ok_irem (by decide +kernel)) <|
  fc (ok_iast (by decide +kernel)) <|
  fc (ok_aldn (q := 0) (by decide +kernel) rfl) <|
  fc (ok_aldn (q := 0) (by decide +kernel) rfl) <|
  fc (ok_gr mk_X12_canSay (fo_RX12_27 rfl) rfl (by decide +kernel)) <|
  fc (ok_aldn (q := 0) (by decide +kernel) rfl) <|
  fc (ok_gi mk_X12_canSay (fo_RX12_201 rfl) rfl (by decide +kernel)) <|
  fc (ok_bipush (n := 40) (by decide +kernel) (by decide +kernel)) <|
  fc (ok_cv mk_X12_canSay mk_X12_begin ⟨uw267, uw268, uw269, uw5, by decide +kernel⟩ (T := TX12) (N := 47) rfl (by decide +kernel)) <|
  fc (ok_aldn (q := 0) (by decide +kernel) rfl) <|
  fc (ok_iconst (n := 1) (by decide +kernel) (by decide +kernel)) <|
  fc (ok_pz mk_X12_canSay (fo_RX12_194 rfl) to_12_17 rfl (by decide +kernel)) <|
  fc (ok_aldn (q := 0) (by decide +kernel) rfl) <|
  fc (ok_iconst (n := 0) (by decide +kernel) (by decide +kernel)) <|
  fc (ok_cv mk_X12_canSay mk_X12_held ⟨uw355, uw356, uw357, uw5, by decide +kernel⟩ (T := TX12) (N := 47) rfl (by decide +kernel)) <|
  fc (ok_ist (by decide +kernel) (by decide)) <|
  fc (ok_aldn (q := 0) (by decide +kernel) rfl) <|
  fc (ok_iconst (n := 0) (by decide +kernel) (by decide +kernel)) <|
  fc (ok_pz mk_X12_canSay (fo_RX12_194 rfl) to_12_17 rfl (by decide +kernel)) <|
  fc (ok_ild (by decide +kernel)) <|
  fc (ok_iflt (off := 7) (by decide +kernel) (by decide)) <|
  fc (ok_iconst (n := 1) (by decide +kernel) (by decide +kernel)) <|
  fc (ok_goto (off := 4) (by decide +kernel) (by decide)) <|
  fc (ok_iconst (n := 0) (by decide +kernel) (by decide +kernel)) <|
  fc (ok_zret rfl (by decide +kernel)) <| fn
def T_X12_farOf : List (Nat × Op) := [(0, op_ald 0 1), (1, op_ild 1 1), (2, op_iald), (3, op_ald 0 1), (4, op_ild 2 1), (5, op_iald), (6, op_isub), (7, op_abs), (10, op_iret)]
set_option maxRecDepth 20000 in
theorem K_X12_farOf : ∀ r ∈ T_X12_farOf, OpOK M_X12_farOf r.1 r.2 :=
  fc (ok_aldn (q := 0) (by decide +kernel) rfl) <|
  fc (ok_ildn (q := 1) (by decide +kernel) rfl) <|
  fc (ok_iald (by decide +kernel)) <|
  fc (ok_aldn (q := 0) (by decide +kernel) rfl) <|
  fc (ok_ildn (q := 2) (by decide +kernel) rfl) <|
  fc (ok_iald (by decide +kernel)) <|
  fc (ok_isub (by decide +kernel)) <|
  fc (ok_abs mk_X12_farOf uw465 uw423 uw212 uw424 (by decide +kernel)) <|
  fc (ok_iret rfl (by decide +kernel)) <| fn
def T_X12_thrown : List (Nat × Op) := [(0, op_ald 0 1), (1, op_gi 12 7), (4, op_iret)]
set_option maxRecDepth 20000 in
theorem K_X12_thrown : ∀ r ∈ T_X12_thrown, OpOK M_X12_thrown r.1 r.2 :=
  fc (ok_aldn (q := 0) (by decide +kernel) rfl) <|
  fc (ok_gi mk_X12_thrown (fo_RX12_103 rfl) rfl (by decide +kernel)) <|
  fc (ok_iret rfl (by decide +kernel)) <| fn
def T_X12_name : List (Nat × Op) := [(0, op_ald 0 1), (1, op_ic 0 1), (2, op_pi 12 7), (5, op_ald 0 1), (6, op_ild 1 1), (7, op_cv M_X12_isOne 12 1), (10, op_ifeq 22), (13, op_ild 2 1), (14, op_ic 0 1), (15, op_ic 3 1), (16, op_cs M_X12_in 3), (19, op_ifne 27), (22, op_ald 0 1), (23, op_cv M_X12_lost 12 0), (26, op_iret), (27, op_ild 2 1), (28, op_sw 82 [(0, 56), (1, 66), (2, 76)]), (56, op_ald 0 1), (57, op_gf 12 0 1), (60, op_ic 14 2), (62, op_ild 1 1), (63, op_iadd), (64, op_iald), (65, op_iret), (66, op_ald 0 1), (67, op_gf 12 0 1), (70, op_ic 21 2), (72, op_ild 1 1), (73, op_iadd), (74, op_iald), (75, op_iret), (76, op_ald 0 1), (77, op_ild 1 1), (78, op_cv M_X12_sayers 12 1), (81, op_iret), (82, op_ald 0 1), (83, op_gf 12 0 1), (86, op_ild 1 1), (87, op_ald 0 1), (88, op_gf 12 0 1), (91, op_ic 14 2), (93, op_ild 1 1), (94, op_iadd), (95, op_iald), (96, op_cs M_X12_farOf 3), (99, op_iret)]
set_option maxRecDepth 20000 in
theorem K_X12_name : ∀ r ∈ T_X12_name, OpOK M_X12_name r.1 r.2 :=
  fc (ok_aldn (q := 0) (by decide +kernel) rfl) <|
  fc (ok_iconst (n := 0) (by decide +kernel) (by decide +kernel)) <|
  fc (ok_pi mk_X12_name (fo_RX12_103 rfl) to_12_7 rfl (by decide +kernel)) <|
  fc (ok_aldn (q := 0) (by decide +kernel) rfl) <|
  fc (ok_ildn (q := 1) (by decide +kernel) rfl) <|
  fc (ok_cv mk_X12_name mk_X12_isOne ⟨uw442, uw443, uw444, uw5, by decide +kernel⟩ (T := TX12) (N := 47) rfl (by decide +kernel)) <|
  fc (ok_ifeq (off := 12) (by decide +kernel) (by decide)) <|
  fc (ok_ildn (q := 2) (by decide +kernel) rfl) <|
  fc (ok_iconst (n := 0) (by decide +kernel) (by decide +kernel)) <|
  fc (ok_iconst (n := 3) (by decide +kernel) (by decide +kernel)) <|
  fc (ok_cs mk_X12_name mk_X12_in ⟨uw199, uw200, uw5, by decide +kernel⟩ (by decide +kernel)) <|
  fc (ok_ifne (off := 8) (by decide +kernel) (by decide)) <|
  fc (ok_aldn (q := 0) (by decide +kernel) rfl) <|
  fc (ok_cv mk_X12_name mk_X12_lost ⟨uw446, uw447, uw448, uw5, by decide +kernel⟩ (T := TX12) (N := 47) rfl (by decide +kernel)) <|
  fc (ok_iret rfl (by decide +kernel)) <|
  fc (ok_ildn (q := 2) (by decide +kernel) rfl) <|
  fc (ok_tsw (dflt := 54) (lo := 0) (hi := 2) (offs := #[28, 38, 48]) (len := 28) (by decide +kernel) (by decide +kernel) (by decide +kernel) (by decide) (by decide)) <|
  fc (ok_aldn (q := 0) (by decide +kernel) rfl) <|
  fc (ok_gf mk_X12_name (fo_RX12_9 rfl) rfl (by decide +kernel)) <|
  fc (ok_bipush (n := 14) (by decide +kernel) (by decide +kernel)) <|
  fc (ok_ildn (q := 1) (by decide +kernel) rfl) <|
  fc (ok_iadd (by decide +kernel)) <|
  fc (ok_iald (by decide +kernel)) <|
  fc (ok_iret rfl (by decide +kernel)) <|
  fc (ok_aldn (q := 0) (by decide +kernel) rfl) <|
  fc (ok_gf mk_X12_name (fo_RX12_9 rfl) rfl (by decide +kernel)) <|
  fc (ok_bipush (n := 21) (by decide +kernel) (by decide +kernel)) <|
  fc (ok_ildn (q := 1) (by decide +kernel) rfl) <|
  fc (ok_iadd (by decide +kernel)) <|
  fc (ok_iald (by decide +kernel)) <|
  fc (ok_iret rfl (by decide +kernel)) <|
  fc (ok_aldn (q := 0) (by decide +kernel) rfl) <|
  fc (ok_ildn (q := 1) (by decide +kernel) rfl) <|
  fc (ok_cv mk_X12_name mk_X12_sayers ⟨uw493, uw494, uw495, uw5, by decide +kernel⟩ (T := TX12) (N := 47) rfl (by decide +kernel)) <|
  fc (ok_iret rfl (by decide +kernel)) <|
  fc (ok_aldn (q := 0) (by decide +kernel) rfl) <|
  fc (ok_gf mk_X12_name (fo_RX12_9 rfl) rfl (by decide +kernel)) <|
  fc (ok_ildn (q := 1) (by decide +kernel) rfl) <|
  fc (ok_aldn (q := 0) (by decide +kernel) rfl) <|
  fc (ok_gf mk_X12_name (fo_RX12_9 rfl) rfl (by decide +kernel)) <|
  fc (ok_bipush (n := 14) (by decide +kernel) (by decide +kernel)) <|
  fc (ok_ildn (q := 1) (by decide +kernel) rfl) <|
  fc (ok_iadd (by decide +kernel)) <|
  fc (ok_iald (by decide +kernel)) <|
  fc (ok_cs mk_X12_name mk_X12_farOf ⟨uw462, uw463, uw5, by decide +kernel⟩ (by decide +kernel)) <|
  fc (ok_iret rfl (by decide +kernel)) <| fn
def T_X12_sayers : List (Nat × Op) := [(0, op_ic 0 1), (1, op_ist 2 1), (2, op_ic 0 1), (3, op_ist 3 1), (4, op_ild 3 1), (5, op_ald 0 1), (6, op_gi 12 1), (9, op_icge 41), (12, op_ild 2 1), (13, op_ald 0 1), (14, op_ald 0 1), (15, op_gf 12 0 1), (18, op_ild 3 1), (19, op_ild 1 1), (20, op_cv M_X12_canSay 12 3), (23, op_ifeq 32), (26, op_ic 1 1), (27, op_ild 3 1), (28, op_ishl), (29, op_goto 33), (32, op_ic 0 1), (33, op_ior), (34, op_ist 2 1), (35, op_iinc 3 1), (38, op_goto 4), (41, op_ild 2 1), (42, op_iret)]
set_option maxRecDepth 20000 in
theorem K_X12_sayers : ∀ r ∈ T_X12_sayers, OpOK M_X12_sayers r.1 r.2 :=
  fc (ok_iconst (n := 0) (by decide +kernel) (by decide +kernel)) <|
  fc (ok_istn (q := 2) (by decide +kernel) rfl (by decide)) <|
  fc (ok_iconst (n := 0) (by decide +kernel) (by decide +kernel)) <|
  fc (ok_istn (q := 3) (by decide +kernel) rfl (by decide)) <|
  fc (ok_ildn (q := 3) (by decide +kernel) rfl) <|
  fc (ok_aldn (q := 0) (by decide +kernel) rfl) <|
  fc (ok_gi mk_X12_sayers (fo_RX12_110 rfl) rfl (by decide +kernel)) <|
  fc (ok_icge (off := 32) (by decide +kernel) (by decide)) <|
  fc (ok_ildn (q := 2) (by decide +kernel) rfl) <|
  fc (ok_aldn (q := 0) (by decide +kernel) rfl) <|
  fc (ok_aldn (q := 0) (by decide +kernel) rfl) <|
  fc (ok_gf mk_X12_sayers (fo_RX12_9 rfl) rfl (by decide +kernel)) <|
  fc (ok_ildn (q := 3) (by decide +kernel) rfl) <|
  fc (ok_ildn (q := 1) (by decide +kernel) rfl) <|
  fc (ok_cv mk_X12_sayers mk_X12_canSay ⟨uw458, uw459, uw460, uw5, by decide +kernel⟩ (T := TX12) (N := 47) rfl (by decide +kernel)) <|
  fc (ok_ifeq (off := 9) (by decide +kernel) (by decide)) <|
  fc (ok_iconst (n := 1) (by decide +kernel) (by decide +kernel)) <|
  fc (ok_ildn (q := 3) (by decide +kernel) rfl) <|
  fc (ok_ishl (by decide +kernel)) <|
  fc (ok_goto (off := 4) (by decide +kernel) (by decide)) <|
  fc (ok_iconst (n := 0) (by decide +kernel) (by decide +kernel)) <|
  fc (ok_ior (by decide +kernel)) <|
  fc (ok_istn (q := 2) (by decide +kernel) rfl (by decide)) <|
  fc (ok_iinc (n := 1) (by decide +kernel) (by decide +kernel) (by decide)) <|
  fc (ok_goto (off := -34) (by decide +kernel) (by decide)) <|
  fc (ok_ildn (q := 2) (by decide +kernel) rfl) <|
  fc (ok_iret rfl (by decide +kernel)) <| fn
def T_X12_sheet : List (Nat × Op) := [(0, op_ald 0 1), (1, op_ic 0 1), (2, op_pi 12 7), (5, op_ild 1 1), (6, op_ic 0 1), (7, op_ic 3 1), (8, op_cs M_X12_in 3), (11, op_ifeq 20), (14, op_ild 2 1), (15, op_ic 7 2), (17, op_icle 22), (20, op_ic (-1) 1), (21, op_iret), (22, op_ild 1 1), (23, op_ic 3 1), (24, op_icge 34), (27, op_ild 2 1), (28, op_ifge 34), (31, op_ic (-2) 2), (33, op_iret), (34, op_ild 3 1), (35, op_ist 5 2), (37, op_ic 0 1), (38, op_ist 6 2), (40, op_ild 6 2), (42, op_ald 0 1), (43, op_gi 12 1), (46, op_icge 123), (49, op_ild 1 1), (50, op_ifne 59), (53, op_ild 5 2), (55, op_i2b), (56, op_goto 72), (59, op_ild 1 1), (60, op_ic 1 1), (61, op_icne 70), (64, op_ild 5 2), (66, op_i2s), (67, op_goto 72), (70, op_ild 5 2), (72, op_ist 7 2), (74, op_ald 0 1), (75, op_gf 12 0 1), (78, op_ic 7 2), (80, op_ild 6 2), (82, op_iadd), (83, op_ild 1 1), (84, op_ic 3 1), (85, op_iceq 94), (88, op_ild 6 2), (90, op_ild 2 1), (91, op_iclt 98), (94, op_ic 0 1), (95, op_goto 109), (98, op_ic 0 1), (99, op_ic 99 2), (101, op_ild 7 2), (103, op_min), (106, op_max), (109, op_iast), (110, op_ild 5 2), (112, op_ild 4 2), (114, op_iadd), (115, op_ist 5 2), (117, op_iinc 6 1), (120, op_goto 40), (123, op_ild 1 1), (124, op_ic 3 1), (125, op_icne 133), (128, op_ic (-3) 2), (130, op_goto 143), (133, op_ald 0 1), (134, op_ald 0 1), (135, op_gf 12 0 1), (138, op_ic 7 2), (140, op_cv M_X12_sumOf 12 2), (143, op_iret)]
set_option maxRecDepth 20000 in
theorem K_X12_sheet : ∀ r ∈ T_X12_sheet, OpOK M_X12_sheet r.1 r.2 :=
  fc (ok_aldn (q := 0) (by decide +kernel) rfl) <|
  fc (ok_iconst (n := 0) (by decide +kernel) (by decide +kernel)) <|
  fc (ok_pi mk_X12_sheet (fo_RX12_103 rfl) to_12_7 rfl (by decide +kernel)) <|
  fc (ok_ildn (q := 1) (by decide +kernel) rfl) <|
  fc (ok_iconst (n := 0) (by decide +kernel) (by decide +kernel)) <|
  fc (ok_iconst (n := 3) (by decide +kernel) (by decide +kernel)) <|
  fc (ok_cs mk_X12_sheet mk_X12_in ⟨uw199, uw200, uw5, by decide +kernel⟩ (by decide +kernel)) <|
  fc (ok_ifeq (off := 9) (by decide +kernel) (by decide)) <|
  fc (ok_ildn (q := 2) (by decide +kernel) rfl) <|
  fc (ok_bipush (n := 7) (by decide +kernel) (by decide +kernel)) <|
  fc (ok_icle (off := 5) (by decide +kernel) (by decide)) <|
  fc (ok_iconst (n := -1) (by decide +kernel) (by decide +kernel)) <|
  fc (ok_iret rfl (by decide +kernel)) <|
  fc (ok_ildn (q := 1) (by decide +kernel) rfl) <|
  fc (ok_iconst (n := 3) (by decide +kernel) (by decide +kernel)) <|
  fc (ok_icge (off := 10) (by decide +kernel) (by decide)) <|
  fc (ok_ildn (q := 2) (by decide +kernel) rfl) <|
  fc (ok_ifge (off := 6) (by decide +kernel) (by decide)) <|
  fc (ok_bipush (n := -2) (by decide +kernel) (by decide +kernel)) <|
  fc (ok_iret rfl (by decide +kernel)) <|
  fc (ok_ildn (q := 3) (by decide +kernel) rfl) <|
  fc (ok_ist (by decide +kernel) (by decide)) <|
  fc (ok_iconst (n := 0) (by decide +kernel) (by decide +kernel)) <|
  fc (ok_ist (by decide +kernel) (by decide)) <|
  fc (ok_ild (by decide +kernel)) <|
  fc (ok_aldn (q := 0) (by decide +kernel) rfl) <|
  fc (ok_gi mk_X12_sheet (fo_RX12_110 rfl) rfl (by decide +kernel)) <|
  fc (ok_icge (off := 77) (by decide +kernel) (by decide)) <|
  fc (ok_ildn (q := 1) (by decide +kernel) rfl) <|
  fc (ok_ifne (off := 9) (by decide +kernel) (by decide)) <|
  fc (ok_ild (by decide +kernel)) <|
  fc (ok_i2b (by decide +kernel)) <|
  fc (ok_goto (off := 16) (by decide +kernel) (by decide)) <|
  fc (ok_ildn (q := 1) (by decide +kernel) rfl) <|
  fc (ok_iconst (n := 1) (by decide +kernel) (by decide +kernel)) <|
  fc (ok_icne (off := 9) (by decide +kernel) (by decide)) <|
  fc (ok_ild (by decide +kernel)) <|
  fc (ok_i2s (by decide +kernel)) <|
  fc (ok_goto (off := 5) (by decide +kernel) (by decide)) <|
  fc (ok_ild (by decide +kernel)) <|
  fc (ok_ist (by decide +kernel) (by decide)) <|
  fc (ok_aldn (q := 0) (by decide +kernel) rfl) <|
  fc (ok_gf mk_X12_sheet (fo_RX12_9 rfl) rfl (by decide +kernel)) <|
  fc (ok_bipush (n := 7) (by decide +kernel) (by decide +kernel)) <|
  fc (ok_ild (by decide +kernel)) <|
  fc (ok_iadd (by decide +kernel)) <|
  fc (ok_ildn (q := 1) (by decide +kernel) rfl) <|
  fc (ok_iconst (n := 3) (by decide +kernel) (by decide +kernel)) <|
  fc (ok_iceq (off := 9) (by decide +kernel) (by decide)) <|
  fc (ok_ild (by decide +kernel)) <|
  fc (ok_ildn (q := 2) (by decide +kernel) rfl) <|
  fc (ok_iclt (off := 7) (by decide +kernel) (by decide)) <|
  fc (ok_iconst (n := 0) (by decide +kernel) (by decide +kernel)) <|
  fc (ok_goto (off := 14) (by decide +kernel) (by decide)) <|
  fc (ok_iconst (n := 0) (by decide +kernel) (by decide +kernel)) <|
  fc (ok_bipush (n := 99) (by decide +kernel) (by decide +kernel)) <|
  fc (ok_ild (by decide +kernel)) <|
  fc (ok_min mk_X12_sheet uw520 uw211 uw212 uw213 (by decide +kernel)) <|
  fc (ok_max mk_X12_sheet uw521 uw506 uw212 uw507 (by decide +kernel)) <|
  fc (ok_iast (by decide +kernel)) <|
  fc (ok_ild (by decide +kernel)) <|
  fc (ok_ild (by decide +kernel)) <|
  fc (ok_iadd (by decide +kernel)) <|
  fc (ok_ist (by decide +kernel) (by decide)) <|
  fc (ok_iinc (n := 1) (by decide +kernel) (by decide +kernel) (by decide)) <|
  fc (ok_goto (off := -80) (by decide +kernel) (by decide)) <|
  fc (ok_ildn (q := 1) (by decide +kernel) rfl) <|
  fc (ok_iconst (n := 3) (by decide +kernel) (by decide +kernel)) <|
  fc (ok_icne (off := 8) (by decide +kernel) (by decide)) <|
  fc (ok_bipush (n := -3) (by decide +kernel) (by decide +kernel)) <|
  fc (ok_goto (off := 13) (by decide +kernel) (by decide)) <|
  fc (ok_aldn (q := 0) (by decide +kernel) rfl) <|
  fc (ok_aldn (q := 0) (by decide +kernel) rfl) <|
  fc (ok_gf mk_X12_sheet (fo_RX12_9 rfl) rfl (by decide +kernel)) <|
  fc (ok_bipush (n := 7) (by decide +kernel) (by decide +kernel)) <|
  fc (ok_cv mk_X12_sheet mk_X12_sumOf ⟨uw522, uw523, uw524, uw5, by decide +kernel⟩ (T := TX12) (N := 47) rfl (by decide +kernel)) <|
  fc (ok_iret rfl (by decide +kernel)) <| fn
def T_X12_sumOf : List (Nat × Op) := [(0, op_ic 0 1), (1, op_ist 3 1), (2, op_ic 0 1), (3, op_ist 4 2), (5, op_ild 4 2), (7, op_ald 0 1), (8, op_gi 12 1), (11, op_icge 29), (14, op_ild 3 1), (15, op_ald 1 1), (16, op_ild 2 1), (17, op_ild 4 2), (19, op_iadd), (20, op_iald), (21, op_iadd), (22, op_ist 3 1), (23, op_iinc 4 1), (26, op_goto 5), (29, op_ild 3 1), (30, op_iret)]
set_option maxRecDepth 20000 in
theorem K_X12_sumOf : ∀ r ∈ T_X12_sumOf, OpOK M_X12_sumOf r.1 r.2 :=
  fc (ok_iconst (n := 0) (by decide +kernel) (by decide +kernel)) <|
  fc (ok_istn (q := 3) (by decide +kernel) rfl (by decide)) <|
  fc (ok_iconst (n := 0) (by decide +kernel) (by decide +kernel)) <|
  fc (ok_ist (by decide +kernel) (by decide)) <|
  fc (ok_ild (by decide +kernel)) <|
  fc (ok_aldn (q := 0) (by decide +kernel) rfl) <|
  fc (ok_gi mk_X12_sumOf (fo_RX12_110 rfl) rfl (by decide +kernel)) <|
  fc (ok_icge (off := 18) (by decide +kernel) (by decide)) <|
  fc (ok_ildn (q := 3) (by decide +kernel) rfl) <|
  fc (ok_aldn (q := 1) (by decide +kernel) rfl) <|
  fc (ok_ildn (q := 2) (by decide +kernel) rfl) <|
  fc (ok_ild (by decide +kernel)) <|
  fc (ok_iadd (by decide +kernel)) <|
  fc (ok_iald (by decide +kernel)) <|
  fc (ok_iadd (by decide +kernel)) <|
  fc (ok_istn (q := 3) (by decide +kernel) rfl (by decide)) <|
  fc (ok_iinc (n := 1) (by decide +kernel) (by decide +kernel) (by decide)) <|
  fc (ok_goto (off := -21) (by decide +kernel) (by decide)) <|
  fc (ok_ildn (q := 3) (by decide +kernel) rfl) <|
  fc (ok_iret rfl (by decide +kernel)) <| fn
def T_X12_says : List (Nat × Op) := [(0, op_ald 0 1), (1, op_ic 0 1), (2, op_pi 12 7), (5, op_ald 0 1), (6, op_ald 0 1), (7, op_gf 12 0 1), (10, op_ild 1 1), (11, op_ild 2 1), (12, op_cv M_X12_refusesSaying 12 3), (15, op_ist 3 1), (16, op_ild 3 1), (17, op_ifge 22), (20, op_ild 3 1), (21, op_iret), (22, op_ald 0 1), (23, op_ald 0 1), (24, op_gf 12 0 1), (27, op_cv M_X12_remember 12 1), (30, op_ald 0 1), (31, op_gf 12 0 1), (34, op_ic 14 2), (36, op_ild 2 1), (37, op_iadd), (38, op_iald), (39, op_ist 4 2), (41, op_ald 0 1), (42, op_gf 12 0 1), (45, op_ild 1 1), (46, op_ild 2 1), (47, op_cs M_X12_goSaying 3), (50, op_ild 4 2), (52, op_iret)]
set_option maxRecDepth 20000 in
theorem K_X12_says : ∀ r ∈ T_X12_says, OpOK M_X12_says r.1 r.2 :=
  fc (ok_aldn (q := 0) (by decide +kernel) rfl) <|
  fc (ok_iconst (n := 0) (by decide +kernel) (by decide +kernel)) <|
  fc (ok_pi mk_X12_says (fo_RX12_103 rfl) to_12_7 rfl (by decide +kernel)) <|
  fc (ok_aldn (q := 0) (by decide +kernel) rfl) <|
  fc (ok_aldn (q := 0) (by decide +kernel) rfl) <|
  fc (ok_gf mk_X12_says (fo_RX12_9 rfl) rfl (by decide +kernel)) <|
  fc (ok_ildn (q := 1) (by decide +kernel) rfl) <|
  fc (ok_ildn (q := 2) (by decide +kernel) rfl) <|
  fc (ok_cv mk_X12_says mk_X12_refusesSaying ⟨uw568, uw569, uw570, uw5, by decide +kernel⟩ (T := TX12) (N := 47) rfl (by decide +kernel)) <|
  fc (ok_istn (q := 3) (by decide +kernel) rfl (by decide)) <|
  fc (ok_ildn (q := 3) (by decide +kernel) rfl) <|
  fc (ok_ifge (off := 5) (by decide +kernel) (by decide)) <|
  fc (ok_ildn (q := 3) (by decide +kernel) rfl) <|
  fc (ok_iret rfl (by decide +kernel)) <|
  fc (ok_aldn (q := 0) (by decide +kernel) rfl) <|
  fc (ok_aldn (q := 0) (by decide +kernel) rfl) <|
  fc (ok_gf mk_X12_says (fo_RX12_9 rfl) rfl (by decide +kernel)) <|
  fc (ok_cv mk_X12_says mk_X12_remember ⟨uw572, uw573, uw574, uw5, by decide +kernel⟩ (T := TX12) (N := 47) rfl (by decide +kernel)) <|
  fc (ok_aldn (q := 0) (by decide +kernel) rfl) <|
  fc (ok_gf mk_X12_says (fo_RX12_9 rfl) rfl (by decide +kernel)) <|
  fc (ok_bipush (n := 14) (by decide +kernel) (by decide +kernel)) <|
  fc (ok_ildn (q := 2) (by decide +kernel) rfl) <|
  fc (ok_iadd (by decide +kernel)) <|
  fc (ok_iald (by decide +kernel)) <|
  fc (ok_ist (by decide +kernel) (by decide)) <|
  fc (ok_aldn (q := 0) (by decide +kernel) rfl) <|
  fc (ok_gf mk_X12_says (fo_RX12_9 rfl) rfl (by decide +kernel)) <|
  fc (ok_ildn (q := 1) (by decide +kernel) rfl) <|
  fc (ok_ildn (q := 2) (by decide +kernel) rfl) <|
  fc (ok_cs mk_X12_says mk_X12_goSaying ⟨uw579, uw580, uw5, by decide +kernel⟩ (by decide +kernel)) <|
  fc (ok_ild (by decide +kernel)) <|
  fc (ok_iret rfl (by decide +kernel)) <| fn
def T_X12_refusesSaying : List (Nat × Op) := [(0, op_ald 0 1), (1, op_ild 2 1), (2, op_cv M_X12_isOne 12 1), (5, op_ifeq 16), (8, op_ald 0 1), (9, op_ild 3 1), (10, op_cv M_X12_isOne 12 1), (13, op_ifne 18), (16, op_ic (-1) 1), (17, op_iret), (18, op_ald 1 1), (19, op_ic 14 2), (21, op_ild 3 1), (22, op_iadd), (23, op_iald), (24, op_ild 2 1), (25, op_icne 31), (28, op_ic (-2) 2), (30, op_iret), (31, op_ald 0 1), (32, op_ald 1 1), (33, op_ild 2 1), (34, op_ild 3 1), (35, op_cv M_X12_canSay 12 3), (38, op_ifeq 45), (41, op_ic 0 1), (42, op_goto 47), (45, op_ic (-3) 2), (47, op_iret)]
set_option maxRecDepth 20000 in
theorem K_X12_refusesSaying : ∀ r ∈ T_X12_refusesSaying, OpOK M_X12_refusesSaying r.1 r.2 :=
  fc (ok_aldn (q := 0) (by decide +kernel) rfl) <|
  fc (ok_ildn (q := 2) (by decide +kernel) rfl) <|
  fc (ok_cv mk_X12_refusesSaying mk_X12_isOne ⟨uw442, uw443, uw444, uw5, by decide +kernel⟩ (T := TX12) (N := 47) rfl (by decide +kernel)) <|
  fc (ok_ifeq (off := 11) (by decide +kernel) (by decide)) <|
  fc (ok_aldn (q := 0) (by decide +kernel) rfl) <|
  fc (ok_ildn (q := 3) (by decide +kernel) rfl) <|
  fc (ok_cv mk_X12_refusesSaying mk_X12_isOne ⟨uw442, uw443, uw444, uw5, by decide +kernel⟩ (T := TX12) (N := 47) rfl (by decide +kernel)) <|
  fc (ok_ifne (off := 5) (by decide +kernel) (by decide)) <|
  fc (ok_iconst (n := -1) (by decide +kernel) (by decide +kernel)) <|
  fc (ok_iret rfl (by decide +kernel)) <|
  fc (ok_aldn (q := 1) (by decide +kernel) rfl) <|
  fc (ok_bipush (n := 14) (by decide +kernel) (by decide +kernel)) <|
  fc (ok_ildn (q := 3) (by decide +kernel) rfl) <|
  fc (ok_iadd (by decide +kernel)) <|
  fc (ok_iald (by decide +kernel)) <|
  fc (ok_ildn (q := 2) (by decide +kernel) rfl) <|
  fc (ok_icne (off := 6) (by decide +kernel) (by decide)) <|
  fc (ok_bipush (n := -2) (by decide +kernel) (by decide +kernel)) <|
  fc (ok_iret rfl (by decide +kernel)) <|
  fc (ok_aldn (q := 0) (by decide +kernel) rfl) <|
  fc (ok_aldn (q := 1) (by decide +kernel) rfl) <|
  fc (ok_ildn (q := 2) (by decide +kernel) rfl) <|
  fc (ok_ildn (q := 3) (by decide +kernel) rfl) <|
  fc (ok_cv mk_X12_refusesSaying mk_X12_canSay ⟨uw458, uw459, uw460, uw5, by decide +kernel⟩ (T := TX12) (N := 47) rfl (by decide +kernel)) <|
  fc (ok_ifeq (off := 7) (by decide +kernel) (by decide)) <|
  fc (ok_iconst (n := 0) (by decide +kernel) (by decide +kernel)) <|
  fc (ok_goto (off := 5) (by decide +kernel) (by decide)) <|
  fc (ok_bipush (n := -3) (by decide +kernel) (by decide +kernel)) <|
  fc (ok_iret rfl (by decide +kernel)) <| fn
def T_X12_remember : List (Nat × Op) := [(0, op_ald 0 1), (1, op_gi 12 20), (4, op_ic 12 2), (6, op_icne 49), (9, op_ic 0 1), (10, op_ist 2 1), (11, op_ild 2 1), (12, op_ic 330 3), (15, op_icge 39), (18, op_ald 0 1), (19, op_gf 12 19 9), (22, op_ild 2 1), (23, op_ald 0 1), (24, op_gf 12 19 9), (27, op_ild 2 1), (28, op_ic 30 2), (30, op_iadd), (31, op_iald), (32, op_iast), (33, op_iinc 2 1), (36, op_goto 11), (39, op_ald 0 1), (40, op_dup), (41, op_gi 12 20), (44, op_ic 1 1), (45, op_isub), (46, op_pi 12 20), (49, op_ald 1 1), (50, op_ald 0 1), (51, op_gf 12 19 9), (54, op_ic 30 2), (56, op_ald 0 1), (57, op_gi 12 20), (60, op_imul), (61, op_cs M_X12_lay 3), (64, op_ald 0 1), (65, op_dup), (66, op_gi 12 20), (69, op_ic 1 1), (70, op_iadd), (71, op_pi 12 20), (74, op_vret)]
set_option maxRecDepth 20000 in
theorem K_X12_remember : ∀ r ∈ T_X12_remember, OpOK M_X12_remember r.1 r.2 :=
  fc (ok_aldn (q := 0) (by decide +kernel) rfl) <|
  fc (ok_gi mk_X12_remember (fo_RX12_165 rfl) rfl (by decide +kernel)) <|
  fc (ok_bipush (n := 12) (by decide +kernel) (by decide +kernel)) <|
  fc (ok_icne (off := 43) (by decide +kernel) (by decide)) <|
  fc (ok_iconst (n := 0) (by decide +kernel) (by decide +kernel)) <|
  fc (ok_istn (q := 2) (by decide +kernel) rfl (by decide)) <|
  fc (ok_ildn (q := 2) (by decide +kernel) rfl) <|
  fc (ok_sipush (n := 330) (by decide +kernel) (by decide +kernel)) <|
  fc (ok_icge (off := 24) (by decide +kernel) (by decide)) <|
  fc (ok_aldn (q := 0) (by decide +kernel) rfl) <|
  fc (ok_gf mk_X12_remember (fo_RX12_36 rfl) rfl (by decide +kernel)) <|
  fc (ok_ildn (q := 2) (by decide +kernel) rfl) <|
  fc (ok_aldn (q := 0) (by decide +kernel) rfl) <|
  fc (ok_gf mk_X12_remember (fo_RX12_36 rfl) rfl (by decide +kernel)) <|
  fc (ok_ildn (q := 2) (by decide +kernel) rfl) <|
  fc (ok_bipush (n := 30) (by decide +kernel) (by decide +kernel)) <|
  fc (ok_iadd (by decide +kernel)) <|
  fc (ok_iald (by decide +kernel)) <|
  fc (ok_iast (by decide +kernel)) <|
  fc (ok_iinc (n := 1) (by decide +kernel) (by decide +kernel) (by decide)) <|
  fc (ok_goto (off := -25) (by decide +kernel) (by decide)) <|
  fc (ok_aldn (q := 0) (by decide +kernel) rfl) <|
  fc (ok_dup (by decide +kernel)) <|
  fc (ok_gi mk_X12_remember (fo_RX12_165 rfl) rfl (by decide +kernel)) <|
  fc (ok_iconst (n := 1) (by decide +kernel) (by decide +kernel)) <|
  fc (ok_isub (by decide +kernel)) <|
  fc (ok_pi mk_X12_remember (fo_RX12_165 rfl) to_12_20 rfl (by decide +kernel)) <|
  fc (ok_aldn (q := 1) (by decide +kernel) rfl) <|
  fc (ok_aldn (q := 0) (by decide +kernel) rfl) <|
  fc (ok_gf mk_X12_remember (fo_RX12_36 rfl) rfl (by decide +kernel)) <|
  fc (ok_bipush (n := 30) (by decide +kernel) (by decide +kernel)) <|
  fc (ok_aldn (q := 0) (by decide +kernel) rfl) <|
  fc (ok_gi mk_X12_remember (fo_RX12_165 rfl) rfl (by decide +kernel)) <|
  fc (ok_imul (by decide +kernel)) <|
  fc (ok_cs mk_X12_remember mk_X12_lay ⟨uw576, uw577, uw5, by decide +kernel⟩ (by decide +kernel)) <|
  fc (ok_aldn (q := 0) (by decide +kernel) rfl) <|
  fc (ok_dup (by decide +kernel)) <|
  fc (ok_gi mk_X12_remember (fo_RX12_165 rfl) rfl (by decide +kernel)) <|
  fc (ok_iconst (n := 1) (by decide +kernel) (by decide +kernel)) <|
  fc (ok_iadd (by decide +kernel)) <|
  fc (ok_pi mk_X12_remember (fo_RX12_165 rfl) to_12_20 rfl (by decide +kernel)) <|
  fc (ok_vret rfl (by decide +kernel)) <| fn
def T_X12_lay : List (Nat × Op) := [(0, op_ic 0 1), (1, op_ist 3 1), (2, op_ild 3 1), (3, op_ic 30 2), (5, op_icge 22), (8, op_ald 1 1), (9, op_ild 2 1), (10, op_ild 3 1), (11, op_iadd), (12, op_ald 0 1), (13, op_ild 3 1), (14, op_iald), (15, op_iast), (16, op_iinc 3 1), (19, op_goto 2), (22, op_vret)]
set_option maxRecDepth 20000 in
theorem K_X12_lay : ∀ r ∈ T_X12_lay, OpOK M_X12_lay r.1 r.2 :=
  fc (ok_iconst (n := 0) (by decide +kernel) (by decide +kernel)) <|
  fc (ok_istn (q := 3) (by decide +kernel) rfl (by decide)) <|
  fc (ok_ildn (q := 3) (by decide +kernel) rfl) <|
  fc (ok_bipush (n := 30) (by decide +kernel) (by decide +kernel)) <|
  fc (ok_icge (off := 17) (by decide +kernel) (by decide)) <|
  fc (ok_aldn (q := 1) (by decide +kernel) rfl) <|
  fc (ok_ildn (q := 2) (by decide +kernel) rfl) <|
  fc (ok_ildn (q := 3) (by decide +kernel) rfl) <|
  fc (ok_iadd (by decide +kernel)) <|
  fc (ok_aldn (q := 0) (by decide +kernel) rfl) <|
  fc (ok_ildn (q := 3) (by decide +kernel) rfl) <|
  fc (ok_iald (by decide +kernel)) <|
  fc (ok_iast (by decide +kernel)) <|
  fc (ok_iinc (n := 1) (by decide +kernel) (by decide +kernel) (by decide)) <|
  fc (ok_goto (off := -17) (by decide +kernel) (by decide)) <|
  fc (ok_vret rfl (by decide +kernel)) <| fn
def T_X12_goSaying : List (Nat × Op) := [(0, op_ald 0 1), (1, op_ic 14 2), (3, op_ild 2 1), (4, op_iadd), (5, op_ild 1 1), (6, op_iast), (7, op_ald 0 1), (8, op_ic 21 2), (10, op_ild 2 1), (11, op_iadd), (12, op_ic 0 1), (13, op_iast), (14, op_ald 0 1), (15, op_ic 29 2), (17, op_ic 9999 3), (20, op_ald 0 1), (21, op_ic 29 2), (23, op_iald), (24, op_ic 1 1), (25, op_iadd), (26, op_min), (29, op_iast), (30, op_vret)]
set_option maxRecDepth 20000 in
theorem K_X12_goSaying : ∀ r ∈ T_X12_goSaying, OpOK M_X12_goSaying r.1 r.2 :=
  fc (ok_aldn (q := 0) (by decide +kernel) rfl) <|
  fc (ok_bipush (n := 14) (by decide +kernel) (by decide +kernel)) <|
  fc (ok_ildn (q := 2) (by decide +kernel) rfl) <|
  fc (ok_iadd (by decide +kernel)) <|
  fc (ok_ildn (q := 1) (by decide +kernel) rfl) <|
  fc (ok_iast (by decide +kernel)) <|
  fc (ok_aldn (q := 0) (by decide +kernel) rfl) <|
  fc (ok_bipush (n := 21) (by decide +kernel) (by decide +kernel)) <|
  fc (ok_ildn (q := 2) (by decide +kernel) rfl) <|
  fc (ok_iadd (by decide +kernel)) <|
  fc (ok_iconst (n := 0) (by decide +kernel) (by decide +kernel)) <|
  fc (ok_iast (by decide +kernel)) <|
  fc (ok_aldn (q := 0) (by decide +kernel) rfl) <|
  fc (ok_bipush (n := 29) (by decide +kernel) (by decide +kernel)) <|
  fc (ok_sipush (n := 9999) (by decide +kernel) (by decide +kernel)) <|
  fc (ok_aldn (q := 0) (by decide +kernel) rfl) <|
  fc (ok_bipush (n := 29) (by decide +kernel) (by decide +kernel)) <|
  fc (ok_iald (by decide +kernel)) <|
  fc (ok_iconst (n := 1) (by decide +kernel) (by decide +kernel)) <|
  fc (ok_iadd (by decide +kernel)) <|
  fc (ok_min mk_X12_goSaying uw520 uw211 uw212 uw213 (by decide +kernel)) <|
  fc (ok_iast (by decide +kernel)) <|
  fc (ok_vret rfl (by decide +kernel)) <| fn
def T_X12_signs : List (Nat × Op) := [(0, op_ald 0 1), (1, op_ic 0 1), (2, op_pi 12 7), (5, op_ald 0 1), (6, op_ild 1 1), (7, op_ild 2 1), (8, op_cv M_X12_refusesDeed 12 2), (11, op_ist 3 1), (12, op_ild 3 1), (13, op_ifge 18), (16, op_ild 3 1), (17, op_iret), (18, op_ald 0 1), (19, op_ald 0 1), (20, op_gf 12 0 1), (23, op_cv M_X12_remember 12 1), (26, op_ald 0 1), (27, op_ild 1 1), (28, op_ild 2 1), (29, op_cv M_X12_goDeed 12 2), (32, op_iret)]
set_option maxRecDepth 20000 in
theorem K_X12_signs : ∀ r ∈ T_X12_signs, OpOK M_X12_signs r.1 r.2 :=
  fc (ok_aldn (q := 0) (by decide +kernel) rfl) <|
  fc (ok_iconst (n := 0) (by decide +kernel) (by decide +kernel)) <|
  fc (ok_pi mk_X12_signs (fo_RX12_103 rfl) to_12_7 rfl (by decide +kernel)) <|
  fc (ok_aldn (q := 0) (by decide +kernel) rfl) <|
  fc (ok_ildn (q := 1) (by decide +kernel) rfl) <|
  fc (ok_ildn (q := 2) (by decide +kernel) rfl) <|
  fc (ok_cv mk_X12_signs mk_X12_refusesDeed ⟨uw594, uw595, uw596, uw5, by decide +kernel⟩ (T := TX12) (N := 47) rfl (by decide +kernel)) <|
  fc (ok_istn (q := 3) (by decide +kernel) rfl (by decide)) <|
  fc (ok_ildn (q := 3) (by decide +kernel) rfl) <|
  fc (ok_ifge (off := 5) (by decide +kernel) (by decide)) <|
  fc (ok_ildn (q := 3) (by decide +kernel) rfl) <|
  fc (ok_iret rfl (by decide +kernel)) <|
  fc (ok_aldn (q := 0) (by decide +kernel) rfl) <|
  fc (ok_aldn (q := 0) (by decide +kernel) rfl) <|
  fc (ok_gf mk_X12_signs (fo_RX12_9 rfl) rfl (by decide +kernel)) <|
  fc (ok_cv mk_X12_signs mk_X12_remember ⟨uw572, uw573, uw574, uw5, by decide +kernel⟩ (T := TX12) (N := 47) rfl (by decide +kernel)) <|
  fc (ok_aldn (q := 0) (by decide +kernel) rfl) <|
  fc (ok_ildn (q := 1) (by decide +kernel) rfl) <|
  fc (ok_ildn (q := 2) (by decide +kernel) rfl) <|
  fc (ok_cv mk_X12_signs mk_X12_goDeed ⟨uw598, uw599, uw600, uw5, by decide +kernel⟩ (T := TX12) (N := 47) rfl (by decide +kernel)) <|
  fc (ok_iret rfl (by decide +kernel)) <| fn
def T_X12_refusesDeed : List (Nat × Op) := [(0, op_ald 0 1), (1, op_ild 1 1), (2, op_cv M_X12_isOne 12 1), (5, op_ifeq 18), (8, op_ild 2 1), (9, op_ic 1 1), (10, op_ic 99 2), (12, op_cs M_X12_in 3), (15, op_ifne 20), (18, op_ic (-1) 1), (19, op_iret), (20, op_ald 0 1), (21, op_gf 12 0 1), (24, op_ic 14 2), (26, op_ild 1 1), (27, op_iadd), (28, op_iald), (29, op_ist 3 1), (30, op_ild 3 1), (31, op_ild 1 1), (32, op_icne 38), (35, op_ic (-2) 2), (37, op_iret), (38, op_ald 0 1), (39, op_gf 12 0 1), (42, op_ic 7 2), (44, op_ild 1 1), (45, op_iadd), (46, op_iald), (47, op_ild 2 1), (48, op_iclt 67), (51, op_ald 0 1), (52, op_gf 12 0 1), (55, op_ic 7 2), (57, op_ild 3 1), (58, op_iadd), (59, op_iald), (60, op_ild 2 1), (61, op_iadd), (62, op_ic 99 2), (64, op_icle 72), (67, op_ic (-3) 2), (69, op_goto 73), (72, op_ic 0 1), (73, op_iret)]
set_option maxRecDepth 20000 in
theorem K_X12_refusesDeed : ∀ r ∈ T_X12_refusesDeed, OpOK M_X12_refusesDeed r.1 r.2 :=
  fc (ok_aldn (q := 0) (by decide +kernel) rfl) <|
  fc (ok_ildn (q := 1) (by decide +kernel) rfl) <|
  fc (ok_cv mk_X12_refusesDeed mk_X12_isOne ⟨uw442, uw443, uw444, uw5, by decide +kernel⟩ (T := TX12) (N := 47) rfl (by decide +kernel)) <|
  fc (ok_ifeq (off := 13) (by decide +kernel) (by decide)) <|
  fc (ok_ildn (q := 2) (by decide +kernel) rfl) <|
  fc (ok_iconst (n := 1) (by decide +kernel) (by decide +kernel)) <|
  fc (ok_bipush (n := 99) (by decide +kernel) (by decide +kernel)) <|
  fc (ok_cs mk_X12_refusesDeed mk_X12_in ⟨uw199, uw200, uw5, by decide +kernel⟩ (by decide +kernel)) <|
  fc (ok_ifne (off := 5) (by decide +kernel) (by decide)) <|
  fc (ok_iconst (n := -1) (by decide +kernel) (by decide +kernel)) <|
  fc (ok_iret rfl (by decide +kernel)) <|
  fc (ok_aldn (q := 0) (by decide +kernel) rfl) <|
  fc (ok_gf mk_X12_refusesDeed (fo_RX12_9 rfl) rfl (by decide +kernel)) <|
  fc (ok_bipush (n := 14) (by decide +kernel) (by decide +kernel)) <|
  fc (ok_ildn (q := 1) (by decide +kernel) rfl) <|
  fc (ok_iadd (by decide +kernel)) <|
  fc (ok_iald (by decide +kernel)) <|
  fc (ok_istn (q := 3) (by decide +kernel) rfl (by decide)) <|
  fc (ok_ildn (q := 3) (by decide +kernel) rfl) <|
  fc (ok_ildn (q := 1) (by decide +kernel) rfl) <|
  fc (ok_icne (off := 6) (by decide +kernel) (by decide)) <|
  fc (ok_bipush (n := -2) (by decide +kernel) (by decide +kernel)) <|
  fc (ok_iret rfl (by decide +kernel)) <|
  fc (ok_aldn (q := 0) (by decide +kernel) rfl) <|
  fc (ok_gf mk_X12_refusesDeed (fo_RX12_9 rfl) rfl (by decide +kernel)) <|
  fc (ok_bipush (n := 7) (by decide +kernel) (by decide +kernel)) <|
  fc (ok_ildn (q := 1) (by decide +kernel) rfl) <|
  fc (ok_iadd (by decide +kernel)) <|
  fc (ok_iald (by decide +kernel)) <|
  fc (ok_ildn (q := 2) (by decide +kernel) rfl) <|
  fc (ok_iclt (off := 19) (by decide +kernel) (by decide)) <|
  fc (ok_aldn (q := 0) (by decide +kernel) rfl) <|
  fc (ok_gf mk_X12_refusesDeed (fo_RX12_9 rfl) rfl (by decide +kernel)) <|
  fc (ok_bipush (n := 7) (by decide +kernel) (by decide +kernel)) <|
  fc (ok_ildn (q := 3) (by decide +kernel) rfl) <|
  fc (ok_iadd (by decide +kernel)) <|
  fc (ok_iald (by decide +kernel)) <|
  fc (ok_ildn (q := 2) (by decide +kernel) rfl) <|
  fc (ok_iadd (by decide +kernel)) <|
  fc (ok_bipush (n := 99) (by decide +kernel) (by decide +kernel)) <|
  fc (ok_icle (off := 8) (by decide +kernel) (by decide)) <|
  fc (ok_bipush (n := -3) (by decide +kernel) (by decide +kernel)) <|
  fc (ok_goto (off := 4) (by decide +kernel) (by decide)) <|
  fc (ok_iconst (n := 0) (by decide +kernel) (by decide +kernel)) <|
  fc (ok_iret rfl (by decide +kernel)) <| fn
def T_X12_goDeed : List (Nat × Op) := [(0, op_ald 0 1), (1, op_gf 12 0 1), (4, op_ic 14 2), (6, op_ild 1 1), (7, op_iadd), (8, op_iald), (9, op_ist 3 1), (10, op_ald 0 1), (11, op_gf 12 0 1), (14, op_ic 7 2), (16, op_ild 1 1), (17, op_iadd), (18, op_dup2), (19, op_iald), (20, op_ild 2 1), (21, op_isub), (22, op_iast), (23, op_ald 0 1), (24, op_gf 12 0 1), (27, op_ic 7 2), (29, op_ild 3 1), (30, op_iadd), (31, op_dup2), (32, op_iald), (33, op_ild 2 1), (34, op_iadd), (35, op_iast), (36, op_ald 0 1), (37, op_gf 12 0 1), (40, op_ic 7 2), (42, op_ild 3 1), (43, op_iadd), (44, op_iald), (45, op_iret)]
set_option maxRecDepth 20000 in
theorem K_X12_goDeed : ∀ r ∈ T_X12_goDeed, OpOK M_X12_goDeed r.1 r.2 :=
  fc (ok_aldn (q := 0) (by decide +kernel) rfl) <|
  fc (ok_gf mk_X12_goDeed (fo_RX12_9 rfl) rfl (by decide +kernel)) <|
  fc (ok_bipush (n := 14) (by decide +kernel) (by decide +kernel)) <|
  fc (ok_ildn (q := 1) (by decide +kernel) rfl) <|
  fc (ok_iadd (by decide +kernel)) <|
  fc (ok_iald (by decide +kernel)) <|
  fc (ok_istn (q := 3) (by decide +kernel) rfl (by decide)) <|
  fc (ok_aldn (q := 0) (by decide +kernel) rfl) <|
  fc (ok_gf mk_X12_goDeed (fo_RX12_9 rfl) rfl (by decide +kernel)) <|
  fc (ok_bipush (n := 7) (by decide +kernel) (by decide +kernel)) <|
  fc (ok_ildn (q := 1) (by decide +kernel) rfl) <|
  fc (ok_iadd (by decide +kernel)) <|
  fc (ok_dup2 (by decide +kernel)) <|
  fc (ok_iald (by decide +kernel)) <|
  fc (ok_ildn (q := 2) (by decide +kernel) rfl) <|
  fc (ok_isub (by decide +kernel)) <|
  fc (ok_iast (by decide +kernel)) <|
  fc (ok_aldn (q := 0) (by decide +kernel) rfl) <|
  fc (ok_gf mk_X12_goDeed (fo_RX12_9 rfl) rfl (by decide +kernel)) <|
  fc (ok_bipush (n := 7) (by decide +kernel) (by decide +kernel)) <|
  fc (ok_ildn (q := 3) (by decide +kernel) rfl) <|
  fc (ok_iadd (by decide +kernel)) <|
  fc (ok_dup2 (by decide +kernel)) <|
  fc (ok_iald (by decide +kernel)) <|
  fc (ok_ildn (q := 2) (by decide +kernel) rfl) <|
  fc (ok_iadd (by decide +kernel)) <|
  fc (ok_iast (by decide +kernel)) <|
  fc (ok_aldn (q := 0) (by decide +kernel) rfl) <|
  fc (ok_gf mk_X12_goDeed (fo_RX12_9 rfl) rfl (by decide +kernel)) <|
  fc (ok_bipush (n := 7) (by decide +kernel) (by decide +kernel)) <|
  fc (ok_ildn (q := 3) (by decide +kernel) rfl) <|
  fc (ok_iadd (by decide +kernel)) <|
  fc (ok_iald (by decide +kernel)) <|
  fc (ok_iret rfl (by decide +kernel)) <| fn
def T_X12_moves : List (Nat × Op) := [(0, op_ald 0 1), (1, op_ic 0 1), (2, op_pi 12 7), (5, op_ald 0 1), (6, op_ald 0 1), (7, op_gf 12 0 1), (10, op_ild 1 1), (11, op_ild 2 1), (12, op_cv M_X12_refusesMove 12 3), (15, op_ist 3 1), (16, op_ild 3 1), (17, op_ifge 22), (20, op_ild 3 1), (21, op_iret), (22, op_ald 0 1), (23, op_ald 0 1), (24, op_gf 12 0 1), (27, op_cv M_X12_remember 12 1), (30, op_ald 0 1), (31, op_gf 12 0 1), (34, op_ild 1 1), (35, op_iald), (36, op_ild 2 1), (37, op_isub), (38, op_abs), (41, op_ist 4 2), (43, op_ald 0 1), (44, op_gf 12 0 1), (47, op_ild 1 1), (48, op_ild 2 1), (49, op_iast), (50, op_ild 4 2), (52, op_iret)]
set_option maxRecDepth 20000 in
theorem K_X12_moves : ∀ r ∈ T_X12_moves, OpOK M_X12_moves r.1 r.2 :=
  fc (ok_aldn (q := 0) (by decide +kernel) rfl) <|
  fc (ok_iconst (n := 0) (by decide +kernel) (by decide +kernel)) <|
  fc (ok_pi mk_X12_moves (fo_RX12_103 rfl) to_12_7 rfl (by decide +kernel)) <|
  fc (ok_aldn (q := 0) (by decide +kernel) rfl) <|
  fc (ok_aldn (q := 0) (by decide +kernel) rfl) <|
  fc (ok_gf mk_X12_moves (fo_RX12_9 rfl) rfl (by decide +kernel)) <|
  fc (ok_ildn (q := 1) (by decide +kernel) rfl) <|
  fc (ok_ildn (q := 2) (by decide +kernel) rfl) <|
  fc (ok_cv mk_X12_moves mk_X12_refusesMove ⟨uw614, uw615, uw616, uw5, by decide +kernel⟩ (T := TX12) (N := 47) rfl (by decide +kernel)) <|
  fc (ok_istn (q := 3) (by decide +kernel) rfl (by decide)) <|
  fc (ok_ildn (q := 3) (by decide +kernel) rfl) <|
  fc (ok_ifge (off := 5) (by decide +kernel) (by decide)) <|
  fc (ok_ildn (q := 3) (by decide +kernel) rfl) <|
  fc (ok_iret rfl (by decide +kernel)) <|
  fc (ok_aldn (q := 0) (by decide +kernel) rfl) <|
  fc (ok_aldn (q := 0) (by decide +kernel) rfl) <|
  fc (ok_gf mk_X12_moves (fo_RX12_9 rfl) rfl (by decide +kernel)) <|
  fc (ok_cv mk_X12_moves mk_X12_remember ⟨uw572, uw573, uw574, uw5, by decide +kernel⟩ (T := TX12) (N := 47) rfl (by decide +kernel)) <|
  fc (ok_aldn (q := 0) (by decide +kernel) rfl) <|
  fc (ok_gf mk_X12_moves (fo_RX12_9 rfl) rfl (by decide +kernel)) <|
  fc (ok_ildn (q := 1) (by decide +kernel) rfl) <|
  fc (ok_iald (by decide +kernel)) <|
  fc (ok_ildn (q := 2) (by decide +kernel) rfl) <|
  fc (ok_isub (by decide +kernel)) <|
  fc (ok_abs mk_X12_moves uw465 uw423 uw212 uw424 (by decide +kernel)) <|
  fc (ok_ist (by decide +kernel) (by decide)) <|
  fc (ok_aldn (q := 0) (by decide +kernel) rfl) <|
  fc (ok_gf mk_X12_moves (fo_RX12_9 rfl) rfl (by decide +kernel)) <|
  fc (ok_ildn (q := 1) (by decide +kernel) rfl) <|
  fc (ok_ildn (q := 2) (by decide +kernel) rfl) <|
  fc (ok_iast (by decide +kernel)) <|
  fc (ok_ild (by decide +kernel)) <|
  fc (ok_iret rfl (by decide +kernel)) <| fn
def T_X12_refusesMove : List (Nat × Op) := [(0, op_ald 0 1), (1, op_ild 2 1), (2, op_cv M_X12_isOne 12 1), (5, op_ifeq 18), (8, op_ild 3 1), (9, op_ic 0 1), (10, op_ic 9 2), (12, op_cs M_X12_in 3), (15, op_ifne 20), (18, op_ic (-1) 1), (19, op_iret), (20, op_ald 1 1), (21, op_ild 2 1), (22, op_iald), (23, op_ild 3 1), (24, op_icne 32), (27, op_ic (-2) 2), (29, op_goto 33), (32, op_ic 0 1), (33, op_iret)]
set_option maxRecDepth 20000 in
theorem K_X12_refusesMove : ∀ r ∈ T_X12_refusesMove, OpOK M_X12_refusesMove r.1 r.2 :=
  fc (ok_aldn (q := 0) (by decide +kernel) rfl) <|
  fc (ok_ildn (q := 2) (by decide +kernel) rfl) <|
  fc (ok_cv mk_X12_refusesMove mk_X12_isOne ⟨uw442, uw443, uw444, uw5, by decide +kernel⟩ (T := TX12) (N := 47) rfl (by decide +kernel)) <|
  fc (ok_ifeq (off := 13) (by decide +kernel) (by decide)) <|
  fc (ok_ildn (q := 3) (by decide +kernel) rfl) <|
  fc (ok_iconst (n := 0) (by decide +kernel) (by decide +kernel)) <|
  fc (ok_bipush (n := 9) (by decide +kernel) (by decide +kernel)) <|
  fc (ok_cs mk_X12_refusesMove mk_X12_in ⟨uw199, uw200, uw5, by decide +kernel⟩ (by decide +kernel)) <|
  fc (ok_ifne (off := 5) (by decide +kernel) (by decide)) <|
  fc (ok_iconst (n := -1) (by decide +kernel) (by decide +kernel)) <|
  fc (ok_iret rfl (by decide +kernel)) <|
  fc (ok_aldn (q := 1) (by decide +kernel) rfl) <|
  fc (ok_ildn (q := 2) (by decide +kernel) rfl) <|
  fc (ok_iald (by decide +kernel)) <|
  fc (ok_ildn (q := 3) (by decide +kernel) rfl) <|
  fc (ok_icne (off := 8) (by decide +kernel) (by decide)) <|
  fc (ok_bipush (n := -2) (by decide +kernel) (by decide +kernel)) <|
  fc (ok_goto (off := 4) (by decide +kernel) (by decide)) <|
  fc (ok_iconst (n := 0) (by decide +kernel) (by decide +kernel)) <|
  fc (ok_iret rfl (by decide +kernel)) <| fn
def T_X12_calls : List (Nat × Op) := [(0, op_ald 0 1), (1, op_ic 0 1), (2, op_pi 12 7), (5, op_ald 0 1), (6, op_ild 1 1), (7, op_cv M_X12_refusesRoll 12 1), (10, op_ist 2 1), (11, op_ild 2 1), (12, op_ifge 17), (15, op_ild 2 1), (16, op_iret), (17, op_ald 0 1), (18, op_ald 0 1), (19, op_gf 12 0 1), (22, op_cv M_X12_remember 12 1), (25, op_ald 0 1), (26, op_ald 0 1), (27, op_gf 12 0 1), (30, op_ild 1 1), (31, op_cv M_X12_goRoll 12 2), (34, op_iret)]
set_option maxRecDepth 20000 in
theorem K_X12_calls : ∀ r ∈ T_X12_calls, OpOK M_X12_calls r.1 r.2 :=
  fc (ok_aldn (q := 0) (by decide +kernel) rfl) <|
  fc (ok_iconst (n := 0) (by decide +kernel) (by decide +kernel)) <|
  fc (ok_pi mk_X12_calls (fo_RX12_103 rfl) to_12_7 rfl (by decide +kernel)) <|
  fc (ok_aldn (q := 0) (by decide +kernel) rfl) <|
  fc (ok_ildn (q := 1) (by decide +kernel) rfl) <|
  fc (ok_cv mk_X12_calls mk_X12_refusesRoll ⟨uw630, uw631, uw632, uw5, by decide +kernel⟩ (T := TX12) (N := 47) rfl (by decide +kernel)) <|
  fc (ok_istn (q := 2) (by decide +kernel) rfl (by decide)) <|
  fc (ok_ildn (q := 2) (by decide +kernel) rfl) <|
  fc (ok_ifge (off := 5) (by decide +kernel) (by decide)) <|
  fc (ok_ildn (q := 2) (by decide +kernel) rfl) <|
  fc (ok_iret rfl (by decide +kernel)) <|
  fc (ok_aldn (q := 0) (by decide +kernel) rfl) <|
  fc (ok_aldn (q := 0) (by decide +kernel) rfl) <|
  fc (ok_gf mk_X12_calls (fo_RX12_9 rfl) rfl (by decide +kernel)) <|
  fc (ok_cv mk_X12_calls mk_X12_remember ⟨uw572, uw573, uw574, uw5, by decide +kernel⟩ (T := TX12) (N := 47) rfl (by decide +kernel)) <|
  fc (ok_aldn (q := 0) (by decide +kernel) rfl) <|
  fc (ok_aldn (q := 0) (by decide +kernel) rfl) <|
  fc (ok_gf mk_X12_calls (fo_RX12_9 rfl) rfl (by decide +kernel)) <|
  fc (ok_ildn (q := 1) (by decide +kernel) rfl) <|
  fc (ok_cv mk_X12_calls mk_X12_goRoll ⟨uw634, uw635, uw636, uw5, by decide +kernel⟩ (T := TX12) (N := 47) rfl (by decide +kernel)) <|
  fc (ok_iret rfl (by decide +kernel)) <| fn
def T_X12_refusesRoll : List (Nat × Op) := [(0, op_ald 0 1), (1, op_ild 1 1), (2, op_cv M_X12_isOne 12 1), (5, op_ifne 10), (8, op_ic (-1) 1), (9, op_iret), (10, op_ald 0 1), (11, op_gf 12 0 1), (14, op_ald 0 1), (15, op_gf 12 22 11), (18, op_ic 0 1), (19, op_cs M_X12_lay 3), (22, op_ald 0 1), (23, op_ald 0 1), (24, op_gf 12 22 11), (27, op_ild 1 1), (28, op_cv M_X12_goRoll 12 2), (31, op_ifne 39), (34, op_ic (-2) 2), (36, op_goto 40), (39, op_ic 0 1), (40, op_iret)]
set_option maxRecDepth 20000 in
theorem K_X12_refusesRoll : ∀ r ∈ T_X12_refusesRoll, OpOK M_X12_refusesRoll r.1 r.2 :=
  fc (ok_aldn (q := 0) (by decide +kernel) rfl) <|
  fc (ok_ildn (q := 1) (by decide +kernel) rfl) <|
  fc (ok_cv mk_X12_refusesRoll mk_X12_isOne ⟨uw442, uw443, uw444, uw5, by decide +kernel⟩ (T := TX12) (N := 47) rfl (by decide +kernel)) <|
  fc (ok_ifne (off := 5) (by decide +kernel) (by decide)) <|
  fc (ok_iconst (n := -1) (by decide +kernel) (by decide +kernel)) <|
  fc (ok_iret rfl (by decide +kernel)) <|
  fc (ok_aldn (q := 0) (by decide +kernel) rfl) <|
  fc (ok_gf mk_X12_refusesRoll (fo_RX12_9 rfl) rfl (by decide +kernel)) <|
  fc (ok_aldn (q := 0) (by decide +kernel) rfl) <|
  fc (ok_gf mk_X12_refusesRoll (fo_RX12_42 rfl) rfl (by decide +kernel)) <|
  fc (ok_iconst (n := 0) (by decide +kernel) (by decide +kernel)) <|
  fc (ok_cs mk_X12_refusesRoll mk_X12_lay ⟨uw576, uw577, uw5, by decide +kernel⟩ (by decide +kernel)) <|
  fc (ok_aldn (q := 0) (by decide +kernel) rfl) <|
  fc (ok_aldn (q := 0) (by decide +kernel) rfl) <|
  fc (ok_gf mk_X12_refusesRoll (fo_RX12_42 rfl) rfl (by decide +kernel)) <|
  fc (ok_ildn (q := 1) (by decide +kernel) rfl) <|
  fc (ok_cv mk_X12_refusesRoll mk_X12_goRoll ⟨uw634, uw635, uw636, uw5, by decide +kernel⟩ (T := TX12) (N := 47) rfl (by decide +kernel)) <|
  fc (ok_ifne (off := 8) (by decide +kernel) (by decide)) <|
  fc (ok_bipush (n := -2) (by decide +kernel) (by decide +kernel)) <|
  fc (ok_goto (off := 4) (by decide +kernel) (by decide)) <|
  fc (ok_iconst (n := 0) (by decide +kernel) (by decide +kernel)) <|
  fc (ok_iret rfl (by decide +kernel)) <| fn
def T_X12_goRoll : List (Nat × Op) := [(0, op_ic 0 1), (1, op_ist 3 1), (2, op_ic 0 1), (3, op_ist 4 2), (5, op_ild 4 2), (7, op_ald 0 1), (8, op_gi 12 1), (11, op_icge 44), (14, op_ald 0 1), (15, op_ald 1 1), (16, op_ild 2 1), (17, op_ild 4 2), (19, op_cv M_X12_canSay 12 3), (22, op_ifne 28), (25, op_goto 38), (28, op_ald 1 1), (29, op_ild 2 1), (30, op_ild 4 2), (32, op_cs M_X12_goSaying 3), (35, op_iinc 3 1), (38, op_iinc 4 1), (41, op_goto 5), (44, op_ild 3 1), (45, op_iret)]
set_option maxRecDepth 20000 in
theorem K_X12_goRoll : ∀ r ∈ T_X12_goRoll, OpOK M_X12_goRoll r.1 r.2 :=
  fc (ok_iconst (n := 0) (by decide +kernel) (by decide +kernel)) <|
  fc (ok_istn (q := 3) (by decide +kernel) rfl (by decide)) <|
  fc (ok_iconst (n := 0) (by decide +kernel) (by decide +kernel)) <|
  fc (ok_ist (by decide +kernel) (by decide)) <|
  fc (ok_ild (by decide +kernel)) <|
  fc (ok_aldn (q := 0) (by decide +kernel) rfl) <|
  fc (ok_gi mk_X12_goRoll (fo_RX12_110 rfl) rfl (by decide +kernel)) <|
  fc (ok_icge (off := 33) (by decide +kernel) (by decide)) <|
  fc (ok_aldn (q := 0) (by decide +kernel) rfl) <|
  fc (ok_aldn (q := 1) (by decide +kernel) rfl) <|
  fc (ok_ildn (q := 2) (by decide +kernel) rfl) <|
  fc (ok_ild (by decide +kernel)) <|
  fc (ok_cv mk_X12_goRoll mk_X12_canSay ⟨uw458, uw459, uw460, uw5, by decide +kernel⟩ (T := TX12) (N := 47) rfl (by decide +kernel)) <|
  fc (ok_ifne (off := 6) (by decide +kernel) (by decide)) <|
  fc (ok_goto (off := 13) (by decide +kernel) (by decide)) <|
  fc (ok_aldn (q := 1) (by decide +kernel) rfl) <|
  fc (ok_ildn (q := 2) (by decide +kernel) rfl) <|
  fc (ok_ild (by decide +kernel)) <|
  fc (ok_cs mk_X12_goRoll mk_X12_goSaying ⟨uw579, uw580, uw5, by decide +kernel⟩ (by decide +kernel)) <|
  fc (ok_iinc (n := 1) (by decide +kernel) (by decide +kernel) (by decide)) <|
  fc (ok_iinc (n := 1) (by decide +kernel) (by decide +kernel) (by decide)) <|
  fc (ok_goto (off := -36) (by decide +kernel) (by decide)) <|
  fc (ok_ildn (q := 3) (by decide +kernel) rfl) <|
  fc (ok_iret rfl (by decide +kernel)) <| fn
def T_X12_days : List (Nat × Op) := [(0, op_ald 0 1), (1, op_ic 0 1), (2, op_pi 12 7), (5, op_ild 1 1), (6, op_ic 0 1), (7, op_ic 60 2), (9, op_cs M_X12_in 3), (12, op_ifne 17), (15, op_ic (-1) 1), (16, op_iret), (17, op_ild 1 1), (18, op_ifle 29), (21, op_ald 0 1), (22, op_ald 0 1), (23, op_gf 12 0 1), (26, op_cv M_X12_remember 12 1), (29, op_ald 0 1), (30, op_gf 12 0 1), (33, op_ic 29 2), (35, op_iald), (36, op_ist 2 1), (37, op_ald 0 1), (38, op_ald 0 1), (39, op_gf 12 0 1), (42, op_ild 1 1), (43, op_ic (-1) 1), (44, op_cv M_X12_goDays 12 3), (47, op_ald 0 1), (48, op_ic 0 1), (49, op_pi 12 6), (52, op_ald 0 1), (53, op_ald 0 1), (54, op_gf 12 0 1), (57, op_ic 29 2), (59, op_iald), (60, op_ild 2 1), (61, op_isub), (62, op_i2l), (63, op_cv M_X12_tell 12 1), (66, op_ald 0 1), (67, op_ald 0 1), (68, op_ald 0 1), (69, op_gf 12 0 1), (72, op_ic 7 2), (74, op_cv M_X12_sumOf 12 2), (77, op_i2l), (78, op_cv M_X12_tell 12 1), (81, op_ald 0 1), (82, op_ald 0 1), (83, op_gf 12 0 1), (86, op_cv M_X12_atHome 12 1), (89, op_iret)]
set_option maxRecDepth 20000 in
theorem K_X12_days : ∀ r ∈ T_X12_days, OpOK M_X12_days r.1 r.2 :=
  fc (ok_aldn (q := 0) (by decide +kernel) rfl) <|
  fc (ok_iconst (n := 0) (by decide +kernel) (by decide +kernel)) <|
  fc (ok_pi mk_X12_days (fo_RX12_103 rfl) to_12_7 rfl (by decide +kernel)) <|
  fc (ok_ildn (q := 1) (by decide +kernel) rfl) <|
  fc (ok_iconst (n := 0) (by decide +kernel) (by decide +kernel)) <|
  fc (ok_bipush (n := 60) (by decide +kernel) (by decide +kernel)) <|
  fc (ok_cs mk_X12_days mk_X12_in ⟨uw199, uw200, uw5, by decide +kernel⟩ (by decide +kernel)) <|
  fc (ok_ifne (off := 5) (by decide +kernel) (by decide)) <|
  fc (ok_iconst (n := -1) (by decide +kernel) (by decide +kernel)) <|
  fc (ok_iret rfl (by decide +kernel)) <|
  fc (ok_ildn (q := 1) (by decide +kernel) rfl) <|
  fc (ok_ifle (off := 11) (by decide +kernel) (by decide)) <|
  fc (ok_aldn (q := 0) (by decide +kernel) rfl) <|
  fc (ok_aldn (q := 0) (by decide +kernel) rfl) <|
  fc (ok_gf mk_X12_days (fo_RX12_9 rfl) rfl (by decide +kernel)) <|
  fc (ok_cv mk_X12_days mk_X12_remember ⟨uw572, uw573, uw574, uw5, by decide +kernel⟩ (T := TX12) (N := 47) rfl (by decide +kernel)) <|
  fc (ok_aldn (q := 0) (by decide +kernel) rfl) <|
  fc (ok_gf mk_X12_days (fo_RX12_9 rfl) rfl (by decide +kernel)) <|
  fc (ok_bipush (n := 29) (by decide +kernel) (by decide +kernel)) <|
  fc (ok_iald (by decide +kernel)) <|
  fc (ok_istn (q := 2) (by decide +kernel) rfl (by decide)) <|
  fc (ok_aldn (q := 0) (by decide +kernel) rfl) <|
  fc (ok_aldn (q := 0) (by decide +kernel) rfl) <|
  fc (ok_gf mk_X12_days (fo_RX12_9 rfl) rfl (by decide +kernel)) <|
  fc (ok_ildn (q := 1) (by decide +kernel) rfl) <|
  fc (ok_iconst (n := -1) (by decide +kernel) (by decide +kernel)) <|
  fc (ok_cv mk_X12_days mk_X12_goDays ⟨uw669, uw670, uw671, uw5, by decide +kernel⟩ (T := TX12) (N := 47) rfl (by decide +kernel)) <|
  fc (ok_aldn (q := 0) (by decide +kernel) rfl) <|
  fc (ok_iconst (n := 0) (by decide +kernel) (by decide +kernel)) <|
  fc (ok_pi mk_X12_days (fo_RX12_107 rfl) to_12_6 rfl (by decide +kernel)) <|
  fc (ok_aldn (q := 0) (by decide +kernel) rfl) <|
  fc (ok_aldn (q := 0) (by decide +kernel) rfl) <|
  fc (ok_gf mk_X12_days (fo_RX12_9 rfl) rfl (by decide +kernel)) <|
  fc (ok_bipush (n := 29) (by decide +kernel) (by decide +kernel)) <|
  fc (ok_iald (by decide +kernel)) <|
  fc (ok_ildn (q := 2) (by decide +kernel) rfl) <|
  fc (ok_isub (by decide +kernel)) <|
  fc (ok_i2l (by decide +kernel)) <|
  fc (ok_cv mk_X12_days mk_X12_tell ⟨uw677, uw678, uw679, uw5, by decide +kernel⟩ (T := TX12) (N := 47) rfl (by decide +kernel)) <|
  fc (ok_aldn (q := 0) (by decide +kernel) rfl) <|
  fc (ok_aldn (q := 0) (by decide +kernel) rfl) <|
  fc (ok_aldn (q := 0) (by decide +kernel) rfl) <|
  fc (ok_gf mk_X12_days (fo_RX12_9 rfl) rfl (by decide +kernel)) <|
  fc (ok_bipush (n := 7) (by decide +kernel) (by decide +kernel)) <|
  fc (ok_cv mk_X12_days mk_X12_sumOf ⟨uw522, uw523, uw524, uw5, by decide +kernel⟩ (T := TX12) (N := 47) rfl (by decide +kernel)) <|
  fc (ok_i2l (by decide +kernel)) <|
  fc (ok_cv mk_X12_days mk_X12_tell ⟨uw677, uw678, uw679, uw5, by decide +kernel⟩ (T := TX12) (N := 47) rfl (by decide +kernel)) <|
  fc (ok_aldn (q := 0) (by decide +kernel) rfl) <|
  fc (ok_aldn (q := 0) (by decide +kernel) rfl) <|
  fc (ok_gf mk_X12_days (fo_RX12_9 rfl) rfl (by decide +kernel)) <|
  fc (ok_cv mk_X12_days mk_X12_atHome ⟨uw681, uw682, uw683, uw5, by decide +kernel⟩ (T := TX12) (N := 47) rfl (by decide +kernel)) <|
  fc (ok_iret rfl (by decide +kernel)) <| fn
def T_X12_goDays : List (Nat × Op) := [(0, op_ic 0 1), (1, op_ist 4 2), (3, op_ild 4 2), (5, op_ild 2 1), (6, op_icge 21), (9, op_ald 0 1), (10, op_ald 1 1), (11, op_ild 3 1), (12, op_cv M_X12_goDay 12 2), (15, op_iinc 4 1), (18, op_goto 3), (21, op_vret)]
set_option maxRecDepth 20000 in
theorem K_X12_goDays : ∀ r ∈ T_X12_goDays, OpOK M_X12_goDays r.1 r.2 :=
  fc (ok_iconst (n := 0) (by decide +kernel) (by decide +kernel)) <|
  fc (ok_ist (by decide +kernel) (by decide)) <|
  fc (ok_ild (by decide +kernel)) <|
  fc (ok_ildn (q := 2) (by decide +kernel) rfl) <|
  fc (ok_icge (off := 15) (by decide +kernel) (by decide)) <|
  fc (ok_aldn (q := 0) (by decide +kernel) rfl) <|
  fc (ok_aldn (q := 1) (by decide +kernel) rfl) <|
  fc (ok_ildn (q := 3) (by decide +kernel) rfl) <|
  fc (ok_cv mk_X12_goDays mk_X12_goDay ⟨uw673, uw674, uw675, uw5, by decide +kernel⟩ (T := TX12) (N := 47) rfl (by decide +kernel)) <|
  fc (ok_iinc (n := 1) (by decide +kernel) (by decide +kernel) (by decide)) <|
  fc (ok_goto (off := -15) (by decide +kernel) (by decide)) <|
  fc (ok_vret rfl (by decide +kernel)) <| fn
def T_X12_goDay : List (Nat × Op) := [(0, op_ic 0 1), (1, op_ist 3 1), (2, op_ild 3 1), (3, op_ald 0 1), (4, op_gi 12 1), (7, op_icge 37), (10, op_ild 3 1), (11, op_ild 2 1), (12, op_iceq 31), (15, op_ald 0 1), (16, op_ald 1 1), (17, op_ild 3 1), (18, op_ild 3 1), (19, op_cv M_X12_canSay 12 3), (22, op_ifeq 31), (25, op_ald 1 1), (26, op_ild 3 1), (27, op_ild 3 1), (28, op_cs M_X12_goSaying 3), (31, op_iinc 3 1), (34, op_goto 2), (37, op_ic 0 1), (38, op_ist 3 1), (39, op_ild 3 1), (40, op_ald 0 1), (41, op_gi 12 1), (44, op_icge 112), (47, op_ald 1 1), (48, op_ic 14 2), (50, op_ild 3 1), (51, op_iadd), (52, op_iald), (53, op_ist 4 2), (55, op_ild 4 2), (57, op_ild 3 1), (58, op_iceq 106), (61, op_ald 1 1), (62, op_ic 7 2), (64, op_ild 3 1), (65, op_iadd), (66, op_iald), (67, op_ifeq 106), (70, op_ald 1 1), (71, op_ic 7 2), (73, op_ild 4 2), (75, op_iadd), (76, op_iald), (77, op_ic 99 2), (79, op_iclt 85), (82, op_goto 106), (85, op_ald 1 1), (86, op_ic 7 2), (88, op_ild 3 1), (89, op_iadd), (90, op_dup2), (91, op_iald), (92, op_ic 1 1), (93, op_isub), (94, op_iast), (95, op_ald 1 1), (96, op_ic 7 2), (98, op_ild 4 2), (100, op_iadd), (101, op_dup2), (102, op_iald), (103, op_ic 1 1), (104, op_iadd), (105, op_iast), (106, op_iinc 3 1), (109, op_goto 39), (112, op_ic 0 1), (113, op_ist 3 1), (114, op_ild 3 1), (115, op_ald 0 1), (116, op_gi 12 1), (119, op_icge 147), (122, op_ald 1 1), (123, op_ic 21 2), (125, op_ild 3 1), (126, op_iadd), (127, op_ic 99 2), (129, op_ald 1 1), (130, op_ic 21 2), (132, op_ild 3 1), (133, op_iadd), (134, op_iald), (135, op_ic 1 1), (136, op_iadd), (137, op_min), (140, op_iast), (141, op_iinc 3 1), (144, op_goto 114), (147, op_ald 1 1), (148, op_ic 28 2), (150, op_dup2), (151, op_iald), (152, op_ic 1 1), (153, op_iadd), (154, op_iast), (155, op_vret)]
set_option maxRecDepth 20000 in
theorem K_X12_goDay : ∀ r ∈ T_X12_goDay, OpOK M_X12_goDay r.1 r.2 :=
  fc (ok_iconst (n := 0) (by decide +kernel) (by decide +kernel)) <|
  fc (ok_istn (q := 3) (by decide +kernel) rfl (by decide)) <|
  fc (ok_ildn (q := 3) (by decide +kernel) rfl) <|
  fc (ok_aldn (q := 0) (by decide +kernel) rfl) <|
  fc (ok_gi mk_X12_goDay (fo_RX12_110 rfl) rfl (by decide +kernel)) <|
  fc (ok_icge (off := 30) (by decide +kernel) (by decide)) <|
  fc (ok_ildn (q := 3) (by decide +kernel) rfl) <|
  fc (ok_ildn (q := 2) (by decide +kernel) rfl) <|
  fc (ok_iceq (off := 19) (by decide +kernel) (by decide)) <|
  fc (ok_aldn (q := 0) (by decide +kernel) rfl) <|
  fc (ok_aldn (q := 1) (by decide +kernel) rfl) <|
  fc (ok_ildn (q := 3) (by decide +kernel) rfl) <|
  fc (ok_ildn (q := 3) (by decide +kernel) rfl) <|
  fc (ok_cv mk_X12_goDay mk_X12_canSay ⟨uw458, uw459, uw460, uw5, by decide +kernel⟩ (T := TX12) (N := 47) rfl (by decide +kernel)) <|
  fc (ok_ifeq (off := 9) (by decide +kernel) (by decide)) <|
  fc (ok_aldn (q := 1) (by decide +kernel) rfl) <|
  fc (ok_ildn (q := 3) (by decide +kernel) rfl) <|
  fc (ok_ildn (q := 3) (by decide +kernel) rfl) <|
  fc (ok_cs mk_X12_goDay mk_X12_goSaying ⟨uw579, uw580, uw5, by decide +kernel⟩ (by decide +kernel)) <|
  fc (ok_iinc (n := 1) (by decide +kernel) (by decide +kernel) (by decide)) <|
  fc (ok_goto (off := -32) (by decide +kernel) (by decide)) <|
  fc (ok_iconst (n := 0) (by decide +kernel) (by decide +kernel)) <|
  fc (ok_istn (q := 3) (by decide +kernel) rfl (by decide)) <|
  fc (ok_ildn (q := 3) (by decide +kernel) rfl) <|
  fc (ok_aldn (q := 0) (by decide +kernel) rfl) <|
  fc (ok_gi mk_X12_goDay (fo_RX12_110 rfl) rfl (by decide +kernel)) <|
  fc (ok_icge (off := 68) (by decide +kernel) (by decide)) <|
  fc (ok_aldn (q := 1) (by decide +kernel) rfl) <|
  fc (ok_bipush (n := 14) (by decide +kernel) (by decide +kernel)) <|
  fc (ok_ildn (q := 3) (by decide +kernel) rfl) <|
  fc (ok_iadd (by decide +kernel)) <|
  fc (ok_iald (by decide +kernel)) <|
  fc (ok_ist (by decide +kernel) (by decide)) <|
  fc (ok_ild (by decide +kernel)) <|
  fc (ok_ildn (q := 3) (by decide +kernel) rfl) <|
  fc (ok_iceq (off := 48) (by decide +kernel) (by decide)) <|
  fc (ok_aldn (q := 1) (by decide +kernel) rfl) <|
  fc (ok_bipush (n := 7) (by decide +kernel) (by decide +kernel)) <|
  fc (ok_ildn (q := 3) (by decide +kernel) rfl) <|
  fc (ok_iadd (by decide +kernel)) <|
  fc (ok_iald (by decide +kernel)) <|
  fc (ok_ifeq (off := 39) (by decide +kernel) (by decide)) <|
  fc (ok_aldn (q := 1) (by decide +kernel) rfl) <|
  fc (ok_bipush (n := 7) (by decide +kernel) (by decide +kernel)) <|
  fc (ok_ild (by decide +kernel)) <|
  fc (ok_iadd (by decide +kernel)) <|
  fc (ok_iald (by decide +kernel)) <|
  fc (ok_bipush (n := 99) (by decide +kernel) (by decide +kernel)) <|
  fc (ok_iclt (off := 6) (by decide +kernel) (by decide)) <|
  fc (ok_goto (off := 24) (by decide +kernel) (by decide)) <|
  fc (ok_aldn (q := 1) (by decide +kernel) rfl) <|
  fc (ok_bipush (n := 7) (by decide +kernel) (by decide +kernel)) <|
  fc (ok_ildn (q := 3) (by decide +kernel) rfl) <|
  fc (ok_iadd (by decide +kernel)) <|
  fc (ok_dup2 (by decide +kernel)) <|
  fc (ok_iald (by decide +kernel)) <|
  fc (ok_iconst (n := 1) (by decide +kernel) (by decide +kernel)) <|
  fc (ok_isub (by decide +kernel)) <|
  fc (ok_iast (by decide +kernel)) <|
  fc (ok_aldn (q := 1) (by decide +kernel) rfl) <|
  fc (ok_bipush (n := 7) (by decide +kernel) (by decide +kernel)) <|
  fc (ok_ild (by decide +kernel)) <|
  fc (ok_iadd (by decide +kernel)) <|
  fc (ok_dup2 (by decide +kernel)) <|
  fc (ok_iald (by decide +kernel)) <|
  fc (ok_iconst (n := 1) (by decide +kernel) (by decide +kernel)) <|
  fc (ok_iadd (by decide +kernel)) <|
  fc (ok_iast (by decide +kernel)) <|
  fc (ok_iinc (n := 1) (by decide +kernel) (by decide +kernel) (by decide)) <|
  fc (ok_goto (off := -70) (by decide +kernel) (by decide)) <|
  fc (ok_iconst (n := 0) (by decide +kernel) (by decide +kernel)) <|
  fc (ok_istn (q := 3) (by decide +kernel) rfl (by decide)) <|
  fc (ok_ildn (q := 3) (by decide +kernel) rfl) <|
  fc (ok_aldn (q := 0) (by decide +kernel) rfl) <|
  fc (ok_gi mk_X12_goDay (fo_RX12_110 rfl) rfl (by decide +kernel)) <|
  fc (ok_icge (off := 28) (by decide +kernel) (by decide)) <|
  fc (ok_aldn (q := 1) (by decide +kernel) rfl) <|
  fc (ok_bipush (n := 21) (by decide +kernel) (by decide +kernel)) <|
  fc (ok_ildn (q := 3) (by decide +kernel) rfl) <|
  fc (ok_iadd (by decide +kernel)) <|
  fc (ok_bipush (n := 99) (by decide +kernel) (by decide +kernel)) <|
  fc (ok_aldn (q := 1) (by decide +kernel) rfl) <|
  fc (ok_bipush (n := 21) (by decide +kernel) (by decide +kernel)) <|
  fc (ok_ildn (q := 3) (by decide +kernel) rfl) <|
  fc (ok_iadd (by decide +kernel)) <|
  fc (ok_iald (by decide +kernel)) <|
  fc (ok_iconst (n := 1) (by decide +kernel) (by decide +kernel)) <|
  fc (ok_iadd (by decide +kernel)) <|
  fc (ok_min mk_X12_goDay uw520 uw211 uw212 uw213 (by decide +kernel)) <|
  fc (ok_iast (by decide +kernel)) <|
  fc (ok_iinc (n := 1) (by decide +kernel) (by decide +kernel) (by decide)) <|
  fc (ok_goto (off := -30) (by decide +kernel) (by decide)) <|
  fc (ok_aldn (q := 1) (by decide +kernel) rfl) <|
  fc (ok_bipush (n := 28) (by decide +kernel) (by decide +kernel)) <|
  fc (ok_dup2 (by decide +kernel)) <|
  fc (ok_iald (by decide +kernel)) <|
  fc (ok_iconst (n := 1) (by decide +kernel) (by decide +kernel)) <|
  fc (ok_iadd (by decide +kernel)) <|
  fc (ok_iast (by decide +kernel)) <|
  fc (ok_vret rfl (by decide +kernel)) <| fn
def T_X12_tell : List (Nat × Op) := [(0, op_ald 0 1), (1, op_gf 12 5 4), (4, op_ald 0 1), (5, op_gi 12 6), (8, op_lld 1 1), (9, op_last), (10, op_ald 0 1), (11, op_dup), (12, op_gi 12 6), (15, op_ic 1 1), (16, op_iadd), (17, op_pi 12 6), (20, op_vret)]
set_option maxRecDepth 20000 in
theorem K_X12_tell : ∀ r ∈ T_X12_tell, OpOK M_X12_tell r.1 r.2 :=
  fc (ok_aldn (q := 0) (by decide +kernel) rfl) <|
  fc (ok_gf mk_X12_tell (fo_RX12_20 rfl) rfl (by decide +kernel)) <|
  fc (ok_aldn (q := 0) (by decide +kernel) rfl) <|
  fc (ok_gi mk_X12_tell (fo_RX12_107 rfl) rfl (by decide +kernel)) <|
  fc (ok_lldn (q := 1) (by decide +kernel) rfl) <|
  fc (ok_last (by decide +kernel)) <|
  fc (ok_aldn (q := 0) (by decide +kernel) rfl) <|
  fc (ok_dup (by decide +kernel)) <|
  fc (ok_gi mk_X12_tell (fo_RX12_107 rfl) rfl (by decide +kernel)) <|
  fc (ok_iconst (n := 1) (by decide +kernel) (by decide +kernel)) <|
  fc (ok_iadd (by decide +kernel)) <|
  fc (ok_pi mk_X12_tell (fo_RX12_107 rfl) to_12_6 rfl (by decide +kernel)) <|
  fc (ok_vret rfl (by decide +kernel)) <| fn
def T_X12_atHome : List (Nat × Op) := [(0, op_ic 0 1), (1, op_ist 2 1), (2, op_ic 0 1), (3, op_ist 3 1), (4, op_ild 3 1), (5, op_ald 0 1), (6, op_gi 12 1), (9, op_icge 38), (12, op_ild 2 1), (13, op_ald 1 1), (14, op_ic 14 2), (16, op_ild 3 1), (17, op_iadd), (18, op_iald), (19, op_ild 3 1), (20, op_icne 29), (23, op_ic 1 1), (24, op_ild 3 1), (25, op_ishl), (26, op_goto 30), (29, op_ic 0 1), (30, op_ior), (31, op_ist 2 1), (32, op_iinc 3 1), (35, op_goto 4), (38, op_ild 2 1), (39, op_iret)]
set_option maxRecDepth 20000 in
theorem K_X12_atHome : ∀ r ∈ T_X12_atHome, OpOK M_X12_atHome r.1 r.2 :=
  fc (ok_iconst (n := 0) (by decide +kernel) (by decide +kernel)) <|
  fc (ok_istn (q := 2) (by decide +kernel) rfl (by decide)) <|
  fc (ok_iconst (n := 0) (by decide +kernel) (by decide +kernel)) <|
  fc (ok_istn (q := 3) (by decide +kernel) rfl (by decide)) <|
  fc (ok_ildn (q := 3) (by decide +kernel) rfl) <|
  fc (ok_aldn (q := 0) (by decide +kernel) rfl) <|
  fc (ok_gi mk_X12_atHome (fo_RX12_110 rfl) rfl (by decide +kernel)) <|
  fc (ok_icge (off := 29) (by decide +kernel) (by decide)) <|
  fc (ok_ildn (q := 2) (by decide +kernel) rfl) <|
  fc (ok_aldn (q := 1) (by decide +kernel) rfl) <|
  fc (ok_bipush (n := 14) (by decide +kernel) (by decide +kernel)) <|
  fc (ok_ildn (q := 3) (by decide +kernel) rfl) <|
  fc (ok_iadd (by decide +kernel)) <|
  fc (ok_iald (by decide +kernel)) <|
  fc (ok_ildn (q := 3) (by decide +kernel) rfl) <|
  fc (ok_icne (off := 9) (by decide +kernel) (by decide)) <|
  fc (ok_iconst (n := 1) (by decide +kernel) (by decide +kernel)) <|
  fc (ok_ildn (q := 3) (by decide +kernel) rfl) <|
  fc (ok_ishl (by decide +kernel)) <|
  fc (ok_goto (off := 4) (by decide +kernel) (by decide)) <|
  fc (ok_iconst (n := 0) (by decide +kernel) (by decide +kernel)) <|
  fc (ok_ior (by decide +kernel)) <|
  fc (ok_istn (q := 2) (by decide +kernel) rfl (by decide)) <|
  fc (ok_iinc (n := 1) (by decide +kernel) (by decide +kernel) (by decide)) <|
  fc (ok_goto (off := -31) (by decide +kernel) (by decide)) <|
  fc (ok_ildn (q := 2) (by decide +kernel) rfl) <|
  fc (ok_iret rfl (by decide +kernel)) <| fn
def T_X12_week : List (Nat × Op) := [(0, op_ald 0 1), (1, op_ic 0 1), (2, op_pi 12 7), (5, op_ald 0 1), (6, op_ic 60 2), (8, op_cv M_X12_beginText 12 1), (11, op_ic 0 1), (12, op_ist 1 1), (13, op_ald 0 1), (14, op_cv M_X12_fine 12 0), (17, op_ifeq 44), (20, op_ald 0 1), (21, op_gi 12 11), (24, op_ald 0 1), (25, op_gi 12 9), (28, op_icge 44), (31, op_ald 0 1), (32, op_ic 3 1), (33, op_ild 1 1), (34, op_imul), (35, op_cv M_X12_readAct 12 1), (38, op_iinc 1 1), (41, op_goto 13), (44, op_ald 0 1), (45, op_cv M_X12_wasRight 12 0), (48, op_ifne 58), (51, op_ic (-1) 1), (52, op_ald 0 1), (53, op_gi 12 12), (56, op_isub), (57, op_iret), (58, op_ald 0 1), (59, op_gf 12 0 1), (62, op_ald 0 1), (63, op_gf 12 21 10), (66, op_ic 0 1), (67, op_cs M_X12_lay 3), (70, op_ic 0 1), (71, op_ist 2 1), (72, op_ild 2 1), (73, op_ild 1 1), (74, op_icge 118), (77, op_ald 0 1), (78, op_ald 0 1), (79, op_gf 12 23 12), (82, op_ic 3 1), (83, op_ild 2 1), (84, op_imul), (85, op_iald), (86, op_ald 0 1), (87, op_gf 12 23 12), (90, op_ic 3 1), (91, op_ild 2 1), (92, op_imul), (93, op_ic 1 1), (94, op_iadd), (95, op_iald), (96, op_ald 0 1), (97, op_gf 12 23 12), (100, op_ic 3 1), (101, op_ild 2 1), (102, op_imul), (103, op_ic 2 1), (104, op_iadd), (105, op_iald), (106, op_cv M_X12_act 12 3), (109, op_ifeq 118), (112, op_iinc 2 1), (115, op_goto 72), (118, op_ild 2 1), (119, op_ifle 130), (122, op_ald 0 1), (123, op_ald 0 1), (124, op_gf 12 21 10), (127, op_cv M_X12_remember 12 1), (130, op_ald 0 1), (131, op_ic 0 1), (132, op_pi 12 6), (135, op_ald 0 1), (136, op_ild 2 1), (137, op_ild 1 1), (138, op_icge 145), (141, op_lc 1 1), (142, op_goto 146), (145, op_lc 0 1), (146, op_cv M_X12_tell 12 1), (149, op_ald 0 1), (150, op_ald 0 1), (151, op_gf 12 0 1), (154, op_ic 29 2), (156, op_iald), (157, op_i2l), (158, op_cv M_X12_tell 12 1), (161, op_ild 2 1), (162, op_iret)]
set_option maxRecDepth 20000 in
theorem K_X12_week : ∀ r ∈ T_X12_week, OpOK M_X12_week r.1 r.2 :=
  fc (ok_aldn (q := 0) (by decide +kernel) rfl) <|
  fc (ok_iconst (n := 0) (by decide +kernel) (by decide +kernel)) <|
  fc (ok_pi mk_X12_week (fo_RX12_103 rfl) to_12_7 rfl (by decide +kernel)) <|
  fc (ok_aldn (q := 0) (by decide +kernel) rfl) <|
  fc (ok_bipush (n := 60) (by decide +kernel) (by decide +kernel)) <|
  fc (ok_cv mk_X12_week mk_X12_beginText ⟨uw263, uw264, uw265, uw5, by decide +kernel⟩ (T := TX12) (N := 47) rfl (by decide +kernel)) <|
  fc (ok_iconst (n := 0) (by decide +kernel) (by decide +kernel)) <|
  fc (ok_istn (q := 1) (by decide +kernel) rfl (by decide)) <|
  fc (ok_aldn (q := 0) (by decide +kernel) rfl) <|
  fc (ok_cv mk_X12_week mk_X12_fine ⟨uw273, uw274, uw275, uw5, by decide +kernel⟩ (T := TX12) (N := 47) rfl (by decide +kernel)) <|
  fc (ok_ifeq (off := 27) (by decide +kernel) (by decide)) <|
  fc (ok_aldn (q := 0) (by decide +kernel) rfl) <|
  fc (ok_gi mk_X12_week (fo_RX12_129 rfl) rfl (by decide +kernel)) <|
  fc (ok_aldn (q := 0) (by decide +kernel) rfl) <|
  fc (ok_gi mk_X12_week (fo_RX12_123 rfl) rfl (by decide +kernel)) <|
  fc (ok_icge (off := 16) (by decide +kernel) (by decide)) <|
  fc (ok_aldn (q := 0) (by decide +kernel) rfl) <|
  fc (ok_iconst (n := 3) (by decide +kernel) (by decide +kernel)) <|
  fc (ok_ildn (q := 1) (by decide +kernel) rfl) <|
  fc (ok_imul (by decide +kernel)) <|
  fc (ok_cv mk_X12_week mk_X12_readAct ⟨uw704, uw705, uw706, uw5, by decide +kernel⟩ (T := TX12) (N := 47) rfl (by decide +kernel)) <|
  fc (ok_iinc (n := 1) (by decide +kernel) (by decide +kernel) (by decide)) <|
  fc (ok_goto (off := -28) (by decide +kernel) (by decide)) <|
  fc (ok_aldn (q := 0) (by decide +kernel) rfl) <|
  fc (ok_cv mk_X12_week mk_X12_wasRight ⟨uw293, uw294, uw295, uw5, by decide +kernel⟩ (T := TX12) (N := 47) rfl (by decide +kernel)) <|
  fc (ok_ifne (off := 10) (by decide +kernel) (by decide)) <|
  fc (ok_iconst (n := -1) (by decide +kernel) (by decide +kernel)) <|
  fc (ok_aldn (q := 0) (by decide +kernel) rfl) <|
  fc (ok_gi mk_X12_week (fo_RX12_132 rfl) rfl (by decide +kernel)) <|
  fc (ok_isub (by decide +kernel)) <|
  fc (ok_iret rfl (by decide +kernel)) <|
  fc (ok_aldn (q := 0) (by decide +kernel) rfl) <|
  fc (ok_gf mk_X12_week (fo_RX12_9 rfl) rfl (by decide +kernel)) <|
  fc (ok_aldn (q := 0) (by decide +kernel) rfl) <|
  fc (ok_gf mk_X12_week (fo_RX12_39 rfl) rfl (by decide +kernel)) <|
  fc (ok_iconst (n := 0) (by decide +kernel) (by decide +kernel)) <|
  fc (ok_cs mk_X12_week mk_X12_lay ⟨uw576, uw577, uw5, by decide +kernel⟩ (by decide +kernel)) <|
  fc (ok_iconst (n := 0) (by decide +kernel) (by decide +kernel)) <|
  fc (ok_istn (q := 2) (by decide +kernel) rfl (by decide)) <|
  fc (ok_ildn (q := 2) (by decide +kernel) rfl) <|
  fc (ok_ildn (q := 1) (by decide +kernel) rfl) <|
  fc (ok_icge (off := 44) (by decide +kernel) (by decide)) <|
  fc (ok_aldn (q := 0) (by decide +kernel) rfl) <|
  fc (ok_aldn (q := 0) (by decide +kernel) rfl) <|
  fc (ok_gf mk_X12_week (fo_RX12_45 rfl) rfl (by decide +kernel)) <|
  fc (ok_iconst (n := 3) (by decide +kernel) (by decide +kernel)) <|
  fc (ok_ildn (q := 2) (by decide +kernel) rfl) <|
  fc (ok_imul (by decide +kernel)) <|
  fc (ok_iald (by decide +kernel)) <|
  fc (ok_aldn (q := 0) (by decide +kernel) rfl) <|
  fc (ok_gf mk_X12_week (fo_RX12_45 rfl) rfl (by decide +kernel)) <|
  fc (ok_iconst (n := 3) (by decide +kernel) (by decide +kernel)) <|
  fc (ok_ildn (q := 2) (by decide +kernel) rfl) <|
  fc (ok_imul (by decide +kernel)) <|
  fc (ok_iconst (n := 1) (by decide +kernel) (by decide +kernel)) <|
  fc (ok_iadd (by decide +kernel)) <|
  fc (ok_iald (by decide +kernel)) <|
  fc (ok_aldn (q := 0) (by decide +kernel) rfl) <|
  fc (ok_gf mk_X12_week (fo_RX12_45 rfl) rfl (by decide +kernel)) <|
  fc (ok_iconst (n := 3) (by decide +kernel) (by decide +kernel)) <|
  fc (ok_ildn (q := 2) (by decide +kernel) rfl) <|
  fc (ok_imul (by decide +kernel)) <|
  fc (ok_iconst (n := 2) (by decide +kernel) (by decide +kernel)) <|
  fc (ok_iadd (by decide +kernel)) <|
  fc (ok_iald (by decide +kernel)) <|
  fc (ok_cv mk_X12_week mk_X12_act ⟨uw708, uw709, uw710, uw5, by decide +kernel⟩ (T := TX12) (N := 47) rfl (by decide +kernel)) <|
  fc (ok_ifeq (off := 9) (by decide +kernel) (by decide)) <|
  fc (ok_iinc (n := 1) (by decide +kernel) (by decide +kernel) (by decide)) <|
  fc (ok_goto (off := -43) (by decide +kernel) (by decide)) <|
  fc (ok_ildn (q := 2) (by decide +kernel) rfl) <|
  fc (ok_ifle (off := 11) (by decide +kernel) (by decide)) <|
  fc (ok_aldn (q := 0) (by decide +kernel) rfl) <|
  fc (ok_aldn (q := 0) (by decide +kernel) rfl) <|
  fc (ok_gf mk_X12_week (fo_RX12_39 rfl) rfl (by decide +kernel)) <|
  fc (ok_cv mk_X12_week mk_X12_remember ⟨uw572, uw573, uw574, uw5, by decide +kernel⟩ (T := TX12) (N := 47) rfl (by decide +kernel)) <|
  fc (ok_aldn (q := 0) (by decide +kernel) rfl) <|
  fc (ok_iconst (n := 0) (by decide +kernel) (by decide +kernel)) <|
  fc (ok_pi mk_X12_week (fo_RX12_107 rfl) to_12_6 rfl (by decide +kernel)) <|
  fc (ok_aldn (q := 0) (by decide +kernel) rfl) <|
  fc (ok_ildn (q := 2) (by decide +kernel) rfl) <|
  fc (ok_ildn (q := 1) (by decide +kernel) rfl) <|
  fc (ok_icge (off := 7) (by decide +kernel) (by decide)) <|
  fc (ok_lconst (n := 1) (by decide +kernel) rfl) <|
  fc (ok_goto (off := 4) (by decide +kernel) (by decide)) <|
  fc (ok_lconst (n := 0) (by decide +kernel) rfl) <|
  fc (ok_cv mk_X12_week mk_X12_tell ⟨uw677, uw678, uw679, uw5, by decide +kernel⟩ (T := TX12) (N := 47) rfl (by decide +kernel)) <|
  fc (ok_aldn (q := 0) (by decide +kernel) rfl) <|
  fc (ok_aldn (q := 0) (by decide +kernel) rfl) <|
  fc (ok_gf mk_X12_week (fo_RX12_9 rfl) rfl (by decide +kernel)) <|
  fc (ok_bipush (n := 29) (by decide +kernel) (by decide +kernel)) <|
  fc (ok_iald (by decide +kernel)) <|
  fc (ok_i2l (by decide +kernel)) <|
  fc (ok_cv mk_X12_week mk_X12_tell ⟨uw677, uw678, uw679, uw5, by decide +kernel⟩ (T := TX12) (N := 47) rfl (by decide +kernel)) <|
  fc (ok_ildn (q := 2) (by decide +kernel) rfl) <|
  fc (ok_iret rfl (by decide +kernel)) <| fn
def T_X12_readAct : List (Nat × Op) := [(0, op_ald 0 1), (1, op_cv M_X12_here 12 0), (4, op_ist 2 1), (5, op_ild 2 1), (6, op_ic 110 2), (8, op_iceq 44), (11, op_ild 2 1), (12, op_ic 115 2), (14, op_iceq 44), (17, op_ild 2 1), (18, op_ic 103 2), (20, op_iceq 44), (23, op_ild 2 1), (24, op_ic 109 2), (26, op_iceq 44), (29, op_ild 2 1), (30, op_ic 99 2), (32, op_iceq 44), (35, op_ald 0 1), (36, op_ald 0 1), (37, op_gi 12 11), (40, op_cv M_X12_fault 12 1), (43, op_vret), (44, op_ald 0 1), (45, op_dup), (46, op_gi 12 11), (49, op_ic 1 1), (50, op_iadd), (51, op_pi 12 11), (54, op_ald 0 1), (55, op_gf 12 23 12), (58, op_ild 1 1), (59, op_ild 2 1), (60, op_iast), (61, op_ald 0 1), (62, op_gf 12 23 12), (65, op_ild 1 1), (66, op_ic 1 1), (67, op_iadd), (68, op_ald 0 1), (69, op_ic 48 2), (71, op_ic 10 2), (73, op_cv M_X12_oneOf 12 2), (76, op_iast), (77, op_ild 2 1), (78, op_ic 115 2), (80, op_iceq 95), (83, op_ild 2 1), (84, op_ic 109 2), (86, op_iceq 95), (89, op_ild 2 1), (90, op_ic 103 2), (92, op_icne 111), (95, op_ald 0 1), (96, op_gf 12 23 12), (99, op_ild 1 1), (100, op_ic 2 1), (101, op_iadd), (102, op_ald 0 1), (103, op_ic 48 2), (105, op_ic 10 2), (107, op_cv M_X12_oneOf 12 2), (110, op_iast), (111, op_ild 2 1), (112, op_ic 103 2), (114, op_icne 145), (117, op_ald 0 1), (118, op_gf 12 23 12), (121, op_ild 1 1), (122, op_ic 2 1), (123, op_iadd), (124, op_ic 10 2), (126, op_ald 0 1), (127, op_gf 12 23 12), (130, op_ild 1 1), (131, op_ic 2 1), (132, op_iadd), (133, op_iald), (134, op_imul), (135, op_ald 0 1), (136, op_ic 48 2), (138, op_ic 10 2), (140, op_cv M_X12_oneOf 12 2), (143, op_iadd), (144, op_iast), (145, op_vret)]
set_option maxRecDepth 20000 in
theorem K_X12_readAct : ∀ r ∈ T_X12_readAct, OpOK M_X12_readAct r.1 r.2 :=
  fc (ok_aldn (q := 0) (by decide +kernel) rfl) <|
  fc (ok_cv mk_X12_readAct mk_X12_here ⟨uw285, uw286, uw287, uw5, by decide +kernel⟩ (T := TX12) (N := 47) rfl (by decide +kernel)) <|
  fc (ok_istn (q := 2) (by decide +kernel) rfl (by decide)) <|
  fc (ok_ildn (q := 2) (by decide +kernel) rfl) <|
  fc (ok_bipush (n := 110) (by decide +kernel) (by decide +kernel)) <|
  fc (ok_iceq (off := 36) (by decide +kernel) (by decide)) <|
  fc (ok_ildn (q := 2) (by decide +kernel) rfl) <|
  fc (ok_bipush (n := 115) (by decide +kernel) (by decide +kernel)) <|
  fc (ok_iceq (off := 30) (by decide +kernel) (by decide)) <|
  fc (ok_ildn (q := 2) (by decide +kernel) rfl) <|
  fc (ok_bipush (n := 103) (by decide +kernel) (by decide +kernel)) <|
  fc (ok_iceq (off := 24) (by decide +kernel) (by decide)) <|
  fc (ok_ildn (q := 2) (by decide +kernel) rfl) <|
  fc (ok_bipush (n := 109) (by decide +kernel) (by decide +kernel)) <|
  fc (ok_iceq (off := 18) (by decide +kernel) (by decide)) <|
  fc (ok_ildn (q := 2) (by decide +kernel) rfl) <|
  fc (ok_bipush (n := 99) (by decide +kernel) (by decide +kernel)) <|
  fc (ok_iceq (off := 12) (by decide +kernel) (by decide)) <|
  fc (ok_aldn (q := 0) (by decide +kernel) rfl) <|
  fc (ok_aldn (q := 0) (by decide +kernel) rfl) <|
  fc (ok_gi mk_X12_readAct (fo_RX12_129 rfl) rfl (by decide +kernel)) <|
  fc (ok_cv mk_X12_readAct mk_X12_fault ⟨uw277, uw278, uw279, uw5, by decide +kernel⟩ (T := TX12) (N := 47) rfl (by decide +kernel)) <|
  fc (ok_vret rfl (by decide +kernel)) <|
  fc (ok_aldn (q := 0) (by decide +kernel) rfl) <|
  fc (ok_dup (by decide +kernel)) <|
  fc (ok_gi mk_X12_readAct (fo_RX12_129 rfl) rfl (by decide +kernel)) <|
  fc (ok_iconst (n := 1) (by decide +kernel) (by decide +kernel)) <|
  fc (ok_iadd (by decide +kernel)) <|
  fc (ok_pi mk_X12_readAct (fo_RX12_129 rfl) to_12_11 rfl (by decide +kernel)) <|
  fc (ok_aldn (q := 0) (by decide +kernel) rfl) <|
  fc (ok_gf mk_X12_readAct (fo_RX12_45 rfl) rfl (by decide +kernel)) <|
  fc (ok_ildn (q := 1) (by decide +kernel) rfl) <|
  fc (ok_ildn (q := 2) (by decide +kernel) rfl) <|
  fc (ok_iast (by decide +kernel)) <|
  fc (ok_aldn (q := 0) (by decide +kernel) rfl) <|
  fc (ok_gf mk_X12_readAct (fo_RX12_45 rfl) rfl (by decide +kernel)) <|
  fc (ok_ildn (q := 1) (by decide +kernel) rfl) <|
  fc (ok_iconst (n := 1) (by decide +kernel) (by decide +kernel)) <|
  fc (ok_iadd (by decide +kernel)) <|
  fc (ok_aldn (q := 0) (by decide +kernel) rfl) <|
  fc (ok_bipush (n := 48) (by decide +kernel) (by decide +kernel)) <|
  fc (ok_bipush (n := 10) (by decide +kernel) (by decide +kernel)) <|
  fc (ok_cv mk_X12_readAct mk_X12_oneOf ⟨uw281, uw282, uw283, uw5, by decide +kernel⟩ (T := TX12) (N := 47) rfl (by decide +kernel)) <|
  fc (ok_iast (by decide +kernel)) <|
  fc (ok_ildn (q := 2) (by decide +kernel) rfl) <|
  fc (ok_bipush (n := 115) (by decide +kernel) (by decide +kernel)) <|
  fc (ok_iceq (off := 15) (by decide +kernel) (by decide)) <|
  fc (ok_ildn (q := 2) (by decide +kernel) rfl) <|
  fc (ok_bipush (n := 109) (by decide +kernel) (by decide +kernel)) <|
  fc (ok_iceq (off := 9) (by decide +kernel) (by decide)) <|
  fc (ok_ildn (q := 2) (by decide +kernel) rfl) <|
  fc (ok_bipush (n := 103) (by decide +kernel) (by decide +kernel)) <|
  fc (ok_icne (off := 19) (by decide +kernel) (by decide)) <|
  fc (ok_aldn (q := 0) (by decide +kernel) rfl) <|
  fc (ok_gf mk_X12_readAct (fo_RX12_45 rfl) rfl (by decide +kernel)) <|
  fc (ok_ildn (q := 1) (by decide +kernel) rfl) <|
  fc (ok_iconst (n := 2) (by decide +kernel) (by decide +kernel)) <|
  fc (ok_iadd (by decide +kernel)) <|
  fc (ok_aldn (q := 0) (by decide +kernel) rfl) <|
  fc (ok_bipush (n := 48) (by decide +kernel) (by decide +kernel)) <|
  fc (ok_bipush (n := 10) (by decide +kernel) (by decide +kernel)) <|
  fc (ok_cv mk_X12_readAct mk_X12_oneOf ⟨uw281, uw282, uw283, uw5, by decide +kernel⟩ (T := TX12) (N := 47) rfl (by decide +kernel)) <|
  fc (ok_iast (by decide +kernel)) <|
  fc (ok_ildn (q := 2) (by decide +kernel) rfl) <|
  fc (ok_bipush (n := 103) (by decide +kernel) (by decide +kernel)) <|
  fc (ok_icne (off := 31) (by decide +kernel) (by decide)) <|
  fc (ok_aldn (q := 0) (by decide +kernel) rfl) <|
  fc (ok_gf mk_X12_readAct (fo_RX12_45 rfl) rfl (by decide +kernel)) <|
  fc (ok_ildn (q := 1) (by decide +kernel) rfl) <|
  fc (ok_iconst (n := 2) (by decide +kernel) (by decide +kernel)) <|
  fc (ok_iadd (by decide +kernel)) <|
  fc (ok_bipush (n := 10) (by decide +kernel) (by decide +kernel)) <|
  fc (ok_aldn (q := 0) (by decide +kernel) rfl) <|
  fc (ok_gf mk_X12_readAct (fo_RX12_45 rfl) rfl (by decide +kernel)) <|
  fc (ok_ildn (q := 1) (by decide +kernel) rfl) <|
  fc (ok_iconst (n := 2) (by decide +kernel) (by decide +kernel)) <|
  fc (ok_iadd (by decide +kernel)) <|
  fc (ok_iald (by decide +kernel)) <|
  fc (ok_imul (by decide +kernel)) <|
  fc (ok_aldn (q := 0) (by decide +kernel) rfl) <|
  fc (ok_bipush (n := 48) (by decide +kernel) (by decide +kernel)) <|
  fc (ok_bipush (n := 10) (by decide +kernel) (by decide +kernel)) <|
  fc (ok_cv mk_X12_readAct mk_X12_oneOf ⟨uw281, uw282, uw283, uw5, by decide +kernel⟩ (T := TX12) (N := 47) rfl (by decide +kernel)) <|
  fc (ok_iadd (by decide +kernel)) <|
  fc (ok_iast (by decide +kernel)) <|
  fc (ok_vret rfl (by decide +kernel)) <| fn
def T_X12_act : List (Nat × Op) := [(0, op_ild 1 1), (1, op_sw 126 [(103, 82), (109, 102), (110, 44), (115, 56)]), (44, op_ald 0 1), (45, op_ald 0 1), (46, op_gf 12 0 1), (49, op_ild 2 1), (50, op_ic (-1) 1), (51, op_cv M_X12_goDays 12 3), (54, op_ic 1 1), (55, op_zret), (56, op_ald 0 1), (57, op_ald 0 1), (58, op_gf 12 0 1), (61, op_ild 2 1), (62, op_ild 3 1), (63, op_cv M_X12_refusesSaying 12 3), (66, op_ifge 71), (69, op_ic 0 1), (70, op_zret), (71, op_ald 0 1), (72, op_gf 12 0 1), (75, op_ild 2 1), (76, op_ild 3 1), (77, op_cs M_X12_goSaying 3), (80, op_ic 1 1), (81, op_zret), (82, op_ald 0 1), (83, op_ild 2 1), (84, op_ild 3 1), (85, op_cv M_X12_refusesDeed 12 2), (88, op_ifge 93), (91, op_ic 0 1), (92, op_zret), (93, op_ald 0 1), (94, op_ild 2 1), (95, op_ild 3 1), (96, op_cv M_X12_goDeed 12 2), (99, op_pop), (100, op_ic 1 1), (101, op_zret), (102, op_ald 0 1), (103, op_ald 0 1), (104, op_gf 12 0 1), (107, op_ild 2 1), (108, op_ild 3 1), (109, op_cv M_X12_refusesMove 12 3), (112, op_ifge 117), (115, op_ic 0 1), (116, op_zret), (117, op_ald 0 1), (118, op_gf 12 0 1), (121, op_ild 2 1), (122, op_ild 3 1), (123, op_iast), (124, op_ic 1 1), (125, op_zret), (126, op_ald 0 1), (127, op_ild 2 1), (128, op_cv M_X12_refusesRoll 12 1), (131, op_ifge 136), (134, op_ic 0 1), (135, op_zret), (136, op_ald 0 1), (137, op_ald 0 1), (138, op_gf 12 0 1), (141, op_ild 2 1), (142, op_cv M_X12_goRoll 12 2), (145, op_pop), (146, op_ic 1 1), (147, op_zret)]
set_option maxRecDepth 20000 in
theorem K_X12_act : ∀ r ∈ T_X12_act, OpOK M_X12_act r.1 r.2 :=
  fc (ok_ildn (q := 1) (by decide +kernel) rfl) <|
  fc (ok_lsw (dflt := 125) (pp := #[(103, 81), (109, 101), (110, 43), (115, 55)]) (len := 43) (by decide +kernel) (by decide +kernel) (by decide +kernel) (by decide)) <|
  fc (ok_aldn (q := 0) (by decide +kernel) rfl) <|
  fc (ok_aldn (q := 0) (by decide +kernel) rfl) <|
  fc (ok_gf mk_X12_act (fo_RX12_9 rfl) rfl (by decide +kernel)) <|
  fc (ok_ildn (q := 2) (by decide +kernel) rfl) <|
  fc (ok_iconst (n := -1) (by decide +kernel) (by decide +kernel)) <|
  fc (ok_cv mk_X12_act mk_X12_goDays ⟨uw669, uw670, uw671, uw5, by decide +kernel⟩ (T := TX12) (N := 47) rfl (by decide +kernel)) <|
  fc (ok_iconst (n := 1) (by decide +kernel) (by decide +kernel)) <|
  fc (ok_zret rfl (by decide +kernel)) <|
  fc (ok_aldn (q := 0) (by decide +kernel) rfl) <|
  fc (ok_aldn (q := 0) (by decide +kernel) rfl) <|
  fc (ok_gf mk_X12_act (fo_RX12_9 rfl) rfl (by decide +kernel)) <|
  fc (ok_ildn (q := 2) (by decide +kernel) rfl) <|
  fc (ok_ildn (q := 3) (by decide +kernel) rfl) <|
  fc (ok_cv mk_X12_act mk_X12_refusesSaying ⟨uw568, uw569, uw570, uw5, by decide +kernel⟩ (T := TX12) (N := 47) rfl (by decide +kernel)) <|
  fc (ok_ifge (off := 5) (by decide +kernel) (by decide)) <|
  fc (ok_iconst (n := 0) (by decide +kernel) (by decide +kernel)) <|
  fc (ok_zret rfl (by decide +kernel)) <|
  fc (ok_aldn (q := 0) (by decide +kernel) rfl) <|
  fc (ok_gf mk_X12_act (fo_RX12_9 rfl) rfl (by decide +kernel)) <|
  fc (ok_ildn (q := 2) (by decide +kernel) rfl) <|
  fc (ok_ildn (q := 3) (by decide +kernel) rfl) <|
  fc (ok_cs mk_X12_act mk_X12_goSaying ⟨uw579, uw580, uw5, by decide +kernel⟩ (by decide +kernel)) <|
  fc (ok_iconst (n := 1) (by decide +kernel) (by decide +kernel)) <|
  fc (ok_zret rfl (by decide +kernel)) <|
  fc (ok_aldn (q := 0) (by decide +kernel) rfl) <|
  fc (ok_ildn (q := 2) (by decide +kernel) rfl) <|
  fc (ok_ildn (q := 3) (by decide +kernel) rfl) <|
  fc (ok_cv mk_X12_act mk_X12_refusesDeed ⟨uw594, uw595, uw596, uw5, by decide +kernel⟩ (T := TX12) (N := 47) rfl (by decide +kernel)) <|
  fc (ok_ifge (off := 5) (by decide +kernel) (by decide)) <|
  fc (ok_iconst (n := 0) (by decide +kernel) (by decide +kernel)) <|
  fc (ok_zret rfl (by decide +kernel)) <|
  fc (ok_aldn (q := 0) (by decide +kernel) rfl) <|
  fc (ok_ildn (q := 2) (by decide +kernel) rfl) <|
  fc (ok_ildn (q := 3) (by decide +kernel) rfl) <|
  fc (ok_cv mk_X12_act mk_X12_goDeed ⟨uw598, uw599, uw600, uw5, by decide +kernel⟩ (T := TX12) (N := 47) rfl (by decide +kernel)) <|
  fc (ok_pop (by decide +kernel)) <|
  fc (ok_iconst (n := 1) (by decide +kernel) (by decide +kernel)) <|
  fc (ok_zret rfl (by decide +kernel)) <|
  fc (ok_aldn (q := 0) (by decide +kernel) rfl) <|
  fc (ok_aldn (q := 0) (by decide +kernel) rfl) <|
  fc (ok_gf mk_X12_act (fo_RX12_9 rfl) rfl (by decide +kernel)) <|
  fc (ok_ildn (q := 2) (by decide +kernel) rfl) <|
  fc (ok_ildn (q := 3) (by decide +kernel) rfl) <|
  fc (ok_cv mk_X12_act mk_X12_refusesMove ⟨uw614, uw615, uw616, uw5, by decide +kernel⟩ (T := TX12) (N := 47) rfl (by decide +kernel)) <|
  fc (ok_ifge (off := 5) (by decide +kernel) (by decide)) <|
  fc (ok_iconst (n := 0) (by decide +kernel) (by decide +kernel)) <|
  fc (ok_zret rfl (by decide +kernel)) <|
  fc (ok_aldn (q := 0) (by decide +kernel) rfl) <|
  fc (ok_gf mk_X12_act (fo_RX12_9 rfl) rfl (by decide +kernel)) <|
  fc (ok_ildn (q := 2) (by decide +kernel) rfl) <|
  fc (ok_ildn (q := 3) (by decide +kernel) rfl) <|
  fc (ok_iast (by decide +kernel)) <|
  fc (ok_iconst (n := 1) (by decide +kernel) (by decide +kernel)) <|
  fc (ok_zret rfl (by decide +kernel)) <|
  fc (ok_aldn (q := 0) (by decide +kernel) rfl) <|
  fc (ok_ildn (q := 2) (by decide +kernel) rfl) <|
  fc (ok_cv mk_X12_act mk_X12_refusesRoll ⟨uw630, uw631, uw632, uw5, by decide +kernel⟩ (T := TX12) (N := 47) rfl (by decide +kernel)) <|
  fc (ok_ifge (off := 5) (by decide +kernel) (by decide)) <|
  fc (ok_iconst (n := 0) (by decide +kernel) (by decide +kernel)) <|
  fc (ok_zret rfl (by decide +kernel)) <|
  fc (ok_aldn (q := 0) (by decide +kernel) rfl) <|
  fc (ok_aldn (q := 0) (by decide +kernel) rfl) <|
  fc (ok_gf mk_X12_act (fo_RX12_9 rfl) rfl (by decide +kernel)) <|
  fc (ok_ildn (q := 2) (by decide +kernel) rfl) <|
  fc (ok_cv mk_X12_act mk_X12_goRoll ⟨uw634, uw635, uw636, uw5, by decide +kernel⟩ (T := TX12) (N := 47) rfl (by decide +kernel)) <|
  fc (ok_pop (by decide +kernel)) <|
  fc (ok_iconst (n := 1) (by decide +kernel) (by decide +kernel)) <|
  fc (ok_zret rfl (by decide +kernel)) <| fn
