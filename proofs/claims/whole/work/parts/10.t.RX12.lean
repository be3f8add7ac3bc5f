def T_X12_undo : List (Nat × Op) := [(0, op_ald 0 1), (1, op_ic 0 1), (2, op_pi 12 7), (5, op_ald 0 1), (6, op_gi 12 20), (9, op_ifne 14), (12, op_ic (-1) 1), (13, op_iret), (14, op_ald 0 1), (15, op_dup), (16, op_gi 12 20), (19, op_ic 1 1), (20, op_isub), (21, op_pi 12 20), (24, op_ic 0 1), (25, op_ist 1 1), (26, op_ild 1 1), (27, op_ic 30 2), (29, op_icge 58), (32, op_ald 0 1), (33, op_gf 12 0 1), (36, op_ild 1 1), (37, op_ald 0 1), (38, op_gf 12 19 9), (41, op_ic 30 2), (43, op_ald 0 1), (44, op_gi 12 20), (47, op_imul), (48, op_ild 1 1), (49, op_iadd), (50, op_iald), (51, op_iast), (52, op_iinc 1 1), (55, op_goto 26), (58, op_ald 0 1), (59, op_gi 12 20), (62, op_iret)]
set_option maxRecDepth 20000 in
theorem K_X12_undo : ∀ r ∈ T_X12_undo, OpOK M_X12_undo r.1 r.2 :=
  fc (ok_aldn (q := 0) (by decide +kernel) rfl) <|
  fc (ok_iconst (n := 0) (by decide +kernel) (by decide +kernel)) <|
  fc (ok_pi mk_X12_undo (fo_RX12_103 rfl) to_12_7 rfl (by decide +kernel)) <|
  fc (ok_aldn (q := 0) (by decide +kernel) rfl) <|
  fc (ok_gi mk_X12_undo (fo_RX12_165 rfl) rfl (by decide +kernel)) <|
  fc (ok_ifne (off := 5) (by decide +kernel) (by decide)) <|
  fc (ok_iconst (n := -1) (by decide +kernel) (by decide +kernel)) <|
  fc (ok_iret rfl (by decide +kernel)) <|
  fc (ok_aldn (q := 0) (by decide +kernel) rfl) <|
  fc (ok_dup (by decide +kernel)) <|
  fc (ok_gi mk_X12_undo (fo_RX12_165 rfl) rfl (by decide +kernel)) <|
  fc (ok_iconst (n := 1) (by decide +kernel) (by decide +kernel)) <|
  fc (ok_isub (by decide +kernel)) <|
  fc (ok_pi mk_X12_undo (fo_RX12_165 rfl) to_12_20 rfl (by decide +kernel)) <|
  fc (ok_iconst (n := 0) (by decide +kernel) (by decide +kernel)) <|
  fc (ok_istn (q := 1) (by decide +kernel) rfl (by decide)) <|
  fc (ok_ildn (q := 1) (by decide +kernel) rfl) <|
  fc (ok_bipush (n := 30) (by decide +kernel) (by decide +kernel)) <|
  fc (ok_icge (off := 29) (by decide +kernel) (by decide)) <|
  fc (ok_aldn (q := 0) (by decide +kernel) rfl) <|
  fc (ok_gf mk_X12_undo (fo_RX12_9 rfl) rfl (by decide +kernel)) <|
  fc (ok_ildn (q := 1) (by decide +kernel) rfl) <|
  fc (ok_aldn (q := 0) (by decide +kernel) rfl) <|
  fc (ok_gf mk_X12_undo (fo_RX12_36 rfl) rfl (by decide +kernel)) <|
  fc (ok_bipush (n := 30) (by decide +kernel) (by decide +kernel)) <|
  fc (ok_aldn (q := 0) (by decide +kernel) rfl) <|
  fc (ok_gi mk_X12_undo (fo_RX12_165 rfl) rfl (by decide +kernel)) <|
  fc (ok_imul (by decide +kernel)) <|
  fc (ok_ildn (q := 1) (by decide +kernel) rfl) <|
  fc (ok_iadd (by decide +kernel)) <|
  fc (ok_iald (by decide +kernel)) <|
  fc (ok_iast (by decide +kernel)) <|
  fc (ok_iinc (n := 1) (by decide +kernel) (by decide +kernel) (by decide)) <|
  fc (ok_goto (off := -29) (by decide +kernel) (by decide)) <|
  fc (ok_aldn (q := 0) (by decide +kernel) rfl) <|
  fc (ok_gi mk_X12_undo (fo_RX12_165 rfl) rfl (by decide +kernel)) <|
  fc (ok_iret rfl (by decide +kernel)) <| fn
def T_X12_brings : List (Nat × Op) := [(0, op_ald 0 1), (1, op_ic 0 1), (2, op_pi 12 7), (5, op_ald 0 1), (6, op_ild 1 1), (7, op_cv M_X12_isOne 12 1), (10, op_ifeq 21), (13, op_ald 0 1), (14, op_ild 2 1), (15, op_cv M_X12_isOne 12 1), (18, op_ifne 23), (21, op_ic (-1) 1), (22, op_iret), (23, op_ald 0 1), (24, op_gf 12 0 1), (27, op_ald 0 1), (28, op_gf 12 24 13), (31, op_ic 0 1), (32, op_cs M_X12_lay 3), (35, op_ic 0 1), (36, op_ist 3 1), (37, op_ild 3 1), (38, op_ic 4 1), (39, op_icgt 96), (42, op_ald 0 1), (43, op_ic 0 1), (44, op_ild 3 1), (45, op_ild 1 1), (46, op_ild 2 1), (47, op_cv M_X12_canBring 12 4), (50, op_ifne 56), (53, op_goto 90), (56, op_ald 0 1), (57, op_ic 0 1), (58, op_pi 12 6), (61, op_ic 0 1), (62, op_ist 4 2), (64, op_ild 4 2), (66, op_ild 3 1), (67, op_icge 88), (70, op_ald 0 1), (71, op_ald 0 1), (72, op_gf 12 25 14), (75, op_ild 4 2), (77, op_iald), (78, op_i2l), (79, op_cv M_X12_tell 12 1), (82, op_iinc 4 1), (85, op_goto 64), (88, op_ild 3 1), (89, op_iret), (90, op_iinc 3 1), (93, op_goto 37), (96, op_ic (-2) 2), (98, op_iret)]
set_option maxRecDepth 20000 in
theorem K_X12_brings : ∀ r ∈ T_X12_brings, OpOK M_X12_brings r.1 r.2 :=
  fc (ok_aldn (q := 0) (by decide +kernel) rfl) <|
  fc (ok_iconst (n := 0) (by decide +kernel) (by decide +kernel)) <|
  fc (ok_pi mk_X12_brings (fo_RX12_103 rfl) to_12_7 rfl (by decide +kernel)) <|
  fc (ok_aldn (q := 0) (by decide +kernel) rfl) <|
  fc (ok_ildn (q := 1) (by decide +kernel) rfl) <|
  fc (ok_cv mk_X12_brings mk_X12_isOne ⟨uw442, uw443, uw444, uw5, by decide +kernel⟩ (T := TX12) (N := 47) rfl (by decide +kernel)) <|
  fc (ok_ifeq (off := 11) (by decide +kernel) (by decide)) <|
  fc (ok_aldn (q := 0) (by decide +kernel) rfl) <|
  fc (ok_ildn (q := 2) (by decide +kernel) rfl) <|
  fc (ok_cv mk_X12_brings mk_X12_isOne ⟨uw442, uw443, uw444, uw5, by decide +kernel⟩ (T := TX12) (N := 47) rfl (by decide +kernel)) <|
  fc (ok_ifne (off := 5) (by decide +kernel) (by decide)) <|
  fc (ok_iconst (n := -1) (by decide +kernel) (by decide +kernel)) <|
  fc (ok_iret rfl (by decide +kernel)) <|
  fc (ok_aldn (q := 0) (by decide +kernel) rfl) <|
  fc (ok_gf mk_X12_brings (fo_RX12_9 rfl) rfl (by decide +kernel)) <|
  fc (ok_aldn (q := 0) (by decide +kernel) rfl) <|
  fc (ok_gf mk_X12_brings (fo_RX12_48 rfl) rfl (by decide +kernel)) <|
  fc (ok_iconst (n := 0) (by decide +kernel) (by decide +kernel)) <|
  fc (ok_cs mk_X12_brings mk_X12_lay ⟨uw576, uw577, uw5, by decide +kernel⟩ (by decide +kernel)) <|
  fc (ok_iconst (n := 0) (by decide +kernel) (by decide +kernel)) <|
  fc (ok_istn (q := 3) (by decide +kernel) rfl (by decide)) <|
  fc (ok_ildn (q := 3) (by decide +kernel) rfl) <|
  fc (ok_iconst (n := 4) (by decide +kernel) (by decide +kernel)) <|
  fc (ok_icgt (off := 57) (by decide +kernel) (by decide)) <|
  fc (ok_aldn (q := 0) (by decide +kernel) rfl) <|
  fc (ok_iconst (n := 0) (by decide +kernel) (by decide +kernel)) <|
  fc (ok_ildn (q := 3) (by decide +kernel) rfl) <|
  fc (ok_ildn (q := 1) (by decide +kernel) rfl) <|
  fc (ok_ildn (q := 2) (by decide +kernel) rfl) <|
  fc (ok_cv mk_X12_brings mk_X12_canBring ⟨uw767, uw768, uw769, uw5, by decide +kernel⟩ (T := TX12) (N := 47) rfl (by decide +kernel)) <|
  fc (ok_ifne (off := 6) (by decide +kernel) (by decide)) <|
  fc (ok_goto (off := 37) (by decide +kernel) (by decide)) <|
  fc (ok_aldn (q := 0) (by decide +kernel) rfl) <|
  fc (ok_iconst (n := 0) (by decide +kernel) (by decide +kernel)) <|
  fc (ok_pi mk_X12_brings (fo_RX12_107 rfl) to_12_6 rfl (by decide +kernel)) <|
  fc (ok_iconst (n := 0) (by decide +kernel) (by decide +kernel)) <|
  fc (ok_ist (by decide +kernel) (by decide)) <|
  fc (ok_ild (by decide +kernel)) <|
  fc (ok_ildn (q := 3) (by decide +kernel) rfl) <|
  fc (ok_icge (off := 21) (by decide +kernel) (by decide)) <|
  fc (ok_aldn (q := 0) (by decide +kernel) rfl) <|
  fc (ok_aldn (q := 0) (by decide +kernel) rfl) <|
  fc (ok_gf mk_X12_brings (fo_RX12_51 rfl) rfl (by decide +kernel)) <|
  fc (ok_ild (by decide +kernel)) <|
  fc (ok_iald (by decide +kernel)) <|
  fc (ok_i2l (by decide +kernel)) <|
  fc (ok_cv mk_X12_brings mk_X12_tell ⟨uw677, uw678, uw679, uw5, by decide +kernel⟩ (T := TX12) (N := 47) rfl (by decide +kernel)) <|
  fc (ok_iinc (n := 1) (by decide +kernel) (by decide +kernel) (by decide)) <|
  fc (ok_goto (off := -21) (by decide +kernel) (by decide)) <|
  fc (ok_ildn (q := 3) (by decide +kernel) rfl) <|
  fc (ok_iret rfl (by decide +kernel)) <|
  fc (ok_iinc (n := 1) (by decide +kernel) (by decide +kernel) (by decide)) <|
  fc (ok_goto (off := -56) (by decide +kernel) (by decide)) <|
  fc (ok_bipush (n := -2) (by decide +kernel) (by decide +kernel)) <|
  fc (ok_iret rfl (by decide +kernel)) <| fn
def T_X12_canBring : List (Nat × Op) := [(0, op_ild 2 1), (1, op_ifne 29), (4, op_ald 0 1), (5, op_gf 12 24 13), (8, op_ic 30 2), (10, op_ild 1 1), (11, op_imul), (12, op_ic 14 2), (14, op_iadd), (15, op_ild 3 1), (16, op_iadd), (17, op_iald), (18, op_ild 4 2), (20, op_icne 27), (23, op_ic 1 1), (24, op_goto 28), (27, op_ic 0 1), (28, op_zret), (29, op_ic 0 1), (30, op_ist 5 2), (32, op_ild 5 2), (34, op_ald 0 1), (35, op_gi 12 1), (38, op_icge 152), (41, op_ic 0 1), (42, op_ist 6 2), (44, op_ild 6 2), (46, op_ic 30 2), (48, op_icge 76), (51, op_ald 0 1), (52, op_gf 12 22 11), (55, op_ild 6 2), (57, op_ald 0 1), (58, op_gf 12 24 13), (61, op_ic 30 2), (63, op_ild 1 1), (64, op_imul), (65, op_ild 6 2), (67, op_iadd), (68, op_iald), (69, op_iast), (70, op_iinc 6 1), (73, op_goto 44), (76, op_ald 0 1), (77, op_ald 0 1), (78, op_gf 12 22 11), (81, op_ild 5 2), (83, op_ild 3 1), (84, op_cv M_X12_canSay 12 3), (87, op_ifne 93), (90, op_goto 146), (93, op_ald 0 1), (94, op_gf 12 22 11), (97, op_ild 5 2), (99, op_ild 3 1), (100, op_cs M_X12_goSaying 3), (103, op_ald 0 1), (104, op_gf 12 22 11), (107, op_ald 0 1), (108, op_gf 12 24 13), (111, op_ic 30 2), (113, op_ild 1 1), (114, op_ic 1 1), (115, op_iadd), (116, op_imul), (117, op_cs M_X12_lay 3), (120, op_ald 0 1), (121, op_gf 12 25 14), (124, op_ild 1 1), (125, op_ild 5 2), (127, op_iast), (128, op_ald 0 1), (129, op_ild 1 1), (130, op_ic 1 1), (131, op_iadd), (132, op_ild 2 1), (133, op_ic 1 1), (134, op_isub), (135, op_ild 3 1), (136, op_ild 4 2), (138, op_cv M_X12_canBring 12 4), (141, op_ifeq 146), (144, op_ic 1 1), (145, op_zret), (146, op_iinc 5 1), (149, op_goto 32), (152, op_ic 0 1), (153, op_zret)]
set_option maxRecDepth 20000 in
theorem K_X12_canBring : ∀ r ∈ T_X12_canBring, OpOK M_X12_canBring r.1 r.2 :=
  fc (ok_ildn (q := 2) (by decide +kernel) rfl) <|
  fc (ok_ifne (off := 28) (by decide +kernel) (by decide)) <|
  fc (ok_aldn (q := 0) (by decide +kernel) rfl) <|
  fc (ok_gf mk_X12_canBring (fo_RX12_48 rfl) rfl (by decide +kernel)) <|
  fc (ok_bipush (n := 30) (by decide +kernel) (by decide +kernel)) <|
  fc (ok_ildn (q := 1) (by decide +kernel) rfl) <|
  fc (ok_imul (by decide +kernel)) <|
  fc (ok_bipush (n := 14) (by decide +kernel) (by decide +kernel)) <|
  fc (ok_iadd (by decide +kernel)) <|
  fc (ok_ildn (q := 3) (by decide +kernel) rfl) <|
  fc (ok_iadd (by decide +kernel)) <|
  fc (ok_iald (by decide +kernel)) <|
  fc (ok_ild (by decide +kernel)) <|
  fc (ok_icne (off := 7) (by decide +kernel) (by decide)) <|
  fc (ok_iconst (n := 1) (by decide +kernel) (by decide +kernel)) <|
  fc (ok_goto (off := 4) (by decide +kernel) (by decide)) <|
  fc (ok_iconst (n := 0) (by decide +kernel) (by decide +kernel)) <|
  fc (ok_zret rfl (by decide +kernel)) <|
  fc (ok_iconst (n := 0) (by decide +kernel) (by decide +kernel)) <|
  fc (ok_ist (by decide +kernel) (by decide)) <|
  fc (ok_ild (by decide +kernel)) <|
  fc (ok_aldn (q := 0) (by decide +kernel) rfl) <|
  fc (ok_gi mk_X12_canBring (fo_RX12_110 rfl) rfl (by decide +kernel)) <|
  fc (ok_icge (off := 114) (by decide +kernel) (by decide)) <|
  fc (ok_iconst (n := 0) (by decide +kernel) (by decide +kernel)) <|
  fc (ok_ist (by decide +kernel) (by decide)) <|
  fc (ok_ild (by decide +kernel)) <|
  fc (ok_bipush (n := 30) (by decide +kernel) (by decide +kernel)) <|
  fc (ok_icge (off := 28) (by decide +kernel) (by decide)) <|
  fc (ok_aldn (q := 0) (by decide +kernel) rfl) <|
  fc (ok_gf mk_X12_canBring (fo_RX12_42 rfl) rfl (by decide +kernel)) <|
  fc (ok_ild (by decide +kernel)) <|
  fc (ok_aldn (q := 0) (by decide +kernel) rfl) <|
  fc (ok_gf mk_X12_canBring (fo_RX12_48 rfl) rfl (by decide +kernel)) <|
  fc (ok_bipush (n := 30) (by decide +kernel) (by decide +kernel)) <|
  fc (ok_ildn (q := 1) (by decide +kernel) rfl) <|
  fc (ok_imul (by decide +kernel)) <|
  fc (ok_ild (by decide +kernel)) <|
  fc (ok_iadd (by decide +kernel)) <|
  fc (ok_iald (by decide +kernel)) <|
  fc (ok_iast (by decide +kernel)) <|
  fc (ok_iinc (n := 1) (by decide +kernel) (by decide +kernel) (by decide)) <|
  fc (ok_goto (off := -29) (by decide +kernel) (by decide)) <|
  fc (ok_aldn (q := 0) (by decide +kernel) rfl) <|
  fc (ok_aldn (q := 0) (by decide +kernel) rfl) <|
  fc (ok_gf mk_X12_canBring (fo_RX12_42 rfl) rfl (by decide +kernel)) <|
  fc (ok_ild (by decide +kernel)) <|
  fc (ok_ildn (q := 3) (by decide +kernel) rfl) <|
  fc (ok_cv mk_X12_canBring mk_X12_canSay ⟨uw458, uw459, uw460, uw5, by decide +kernel⟩ (T := TX12) (N := 47) rfl (by decide +kernel)) <|
  fc (ok_ifne (off := 6) (by decide +kernel) (by decide)) <|
  fc (ok_goto (off := 56) (by decide +kernel) (by decide)) <|
  fc (ok_aldn (q := 0) (by decide +kernel) rfl) <|
  fc (ok_gf mk_X12_canBring (fo_RX12_42 rfl) rfl (by decide +kernel)) <|
  fc (ok_ild (by decide +kernel)) <|
  fc (ok_ildn (q := 3) (by decide +kernel) rfl) <|
  fc (ok_cs mk_X12_canBring mk_X12_goSaying ⟨uw579, uw580, uw5, by decide +kernel⟩ (by decide +kernel)) <|
  fc (ok_aldn (q := 0) (by decide +kernel) rfl) <|
  fc (ok_gf mk_X12_canBring (fo_RX12_42 rfl) rfl (by decide +kernel)) <|
  fc (ok_aldn (q := 0) (by decide +kernel) rfl) <|
  fc (ok_gf mk_X12_canBring (fo_RX12_48 rfl) rfl (by decide +kernel)) <|
  fc (ok_bipush (n := 30) (by decide +kernel) (by decide +kernel)) <|
  fc (ok_ildn (q := 1) (by decide +kernel) rfl) <|
  fc (ok_iconst (n := 1) (by decide +kernel) (by decide +kernel)) <|
  fc (ok_iadd (by decide +kernel)) <|
  fc (ok_imul (by decide +kernel)) <|
  fc (ok_cs mk_X12_canBring mk_X12_lay ⟨uw576, uw577, uw5, by decide +kernel⟩ (by decide +kernel)) <|
  fc (ok_aldn (q := 0) (by decide +kernel) rfl) <|
  fc (ok_gf mk_X12_canBring (fo_RX12_51 rfl) rfl (by decide +kernel)) <|
  fc (ok_ildn (q := 1) (by decide +kernel) rfl) <|
  fc (ok_ild (by decide +kernel)) <|
  fc (ok_iast (by decide +kernel)) <|
  fc (ok_aldn (q := 0) (by decide +kernel) rfl) <|
  fc (ok_ildn (q := 1) (by decide +kernel) rfl) <|
  fc (ok_iconst (n := 1) (by decide +kernel) (by decide +kernel)) <|
  fc (ok_iadd (by decide +kernel)) <|
  fc (ok_ildn (q := 2) (by decide +kernel) rfl) <|
  fc (ok_iconst (n := 1) (by decide +kernel) (by decide +kernel)) <|
  fc (ok_isub (by decide +kernel)) <|
  fc (ok_ildn (q := 3) (by decide +kernel) rfl) <|
  fc (ok_ild (by decide +kernel)) <|
  fc (ok_cv mk_X12_canBring mk_X12_canBring ⟨uw767, uw768, uw769, uw5, by decide +kernel⟩ (T := TX12) (N := 47) rfl (by decide +kernel)) <|
  fc (ok_ifeq (off := 5) (by decide +kernel) (by decide)) <|
  fc (ok_iconst (n := 1) (by decide +kernel) (by decide +kernel)) <|
  fc (ok_zret rfl (by decide +kernel)) <|
  fc (ok_iinc (n := 1) (by decide +kernel) (by decide +kernel) (by decide)) <|
  fc (ok_goto (off := -117) (by decide +kernel) (by decide)) <|
  fc (ok_iconst (n := 0) (by decide +kernel) (by decide +kernel)) <|
  fc (ok_zret rfl (by decide +kernel)) <| fn
def T_X12_later : List (Nat × Op) := [(0, op_ald 0 1), (1, op_ic 0 1), (2, op_pi 12 7), (5, op_ald 0 1), (6, op_ild 1 1), (7, op_cv M_X12_isOne 12 1), (10, op_ifeq 23), (13, op_ild 2 1), (14, op_ic 0 1), (15, op_ic 99 2), (17, op_cs M_X12_in 3), (20, op_ifne 25), (23, op_ic (-1) 1), (24, op_iret), (25, op_ald 0 1), (26, op_gf 12 0 1), (29, op_ald 0 1), (30, op_gf 12 22 11), (33, op_ic 0 1), (34, op_cs M_X12_lay 3), (37, op_ald 0 1), (38, op_ald 0 1), (39, op_gf 12 22 11), (42, op_ild 2 1), (43, op_ic (-1) 1), (44, op_cv M_X12_goDays 12 3), (47, op_ald 0 1), (48, op_ic 0 1), (49, op_pi 12 6), (52, op_ald 0 1), (53, op_ald 0 1), (54, op_gf 12 22 11), (57, op_ic 7 2), (59, op_ild 1 1), (60, op_iadd), (61, op_iald), (62, op_i2l), (63, op_cv M_X12_tell 12 1), (66, op_ald 0 1), (67, op_ald 0 1), (68, op_gf 12 22 11), (71, op_ic 21 2), (73, op_ild 1 1), (74, op_iadd), (75, op_iald), (76, op_i2l), (77, op_cv M_X12_tell 12 1), (80, op_ald 0 1), (81, op_gf 12 22 11), (84, op_ic 14 2), (86, op_ild 1 1), (87, op_iadd), (88, op_iald), (89, op_iret)]
set_option maxRecDepth 20000 in
theorem K_X12_later : ∀ r ∈ T_X12_later, OpOK M_X12_later r.1 r.2 :=
  fc (ok_aldn (q := 0) (by decide +kernel) rfl) <|
  fc (ok_iconst (n := 0) (by decide +kernel) (by decide +kernel)) <|
  fc (ok_pi mk_X12_later (fo_RX12_103 rfl) to_12_7 rfl (by decide +kernel)) <|
  fc (ok_aldn (q := 0) (by decide +kernel) rfl) <|
  fc (ok_ildn (q := 1) (by decide +kernel) rfl) <|
  fc (ok_cv mk_X12_later mk_X12_isOne ⟨uw442, uw443, uw444, uw5, by decide +kernel⟩ (T := TX12) (N := 47) rfl (by decide +kernel)) <|
  fc (ok_ifeq (off := 13) (by decide +kernel) (by decide)) <|
  fc (ok_ildn (q := 2) (by decide +kernel) rfl) <|
  fc (ok_iconst (n := 0) (by decide +kernel) (by decide +kernel)) <|
  fc (ok_bipush (n := 99) (by decide +kernel) (by decide +kernel)) <|
  fc (ok_cs mk_X12_later mk_X12_in ⟨uw199, uw200, uw5, by decide +kernel⟩ (by decide +kernel)) <|
  fc (ok_ifne (off := 5) (by decide +kernel) (by decide)) <|
  fc (ok_iconst (n := -1) (by decide +kernel) (by decide +kernel)) <|
  fc (ok_iret rfl (by decide +kernel)) <|
  fc (ok_aldn (q := 0) (by decide +kernel) rfl) <|
  fc (ok_gf mk_X12_later (fo_RX12_9 rfl) rfl (by decide +kernel)) <|
  fc (ok_aldn (q := 0) (by decide +kernel) rfl) <|
  fc (ok_gf mk_X12_later (fo_RX12_42 rfl) rfl (by decide +kernel)) <|
  fc (ok_iconst (n := 0) (by decide +kernel) (by decide +kernel)) <|
  fc (ok_cs mk_X12_later mk_X12_lay ⟨uw576, uw577, uw5, by decide +kernel⟩ (by decide +kernel)) <|
  fc (ok_aldn (q := 0) (by decide +kernel) rfl) <|
  fc (ok_aldn (q := 0) (by decide +kernel) rfl) <|
  fc (ok_gf mk_X12_later (fo_RX12_42 rfl) rfl (by decide +kernel)) <|
  fc (ok_ildn (q := 2) (by decide +kernel) rfl) <|
  fc (ok_iconst (n := -1) (by decide +kernel) (by decide +kernel)) <|
  fc (ok_cv mk_X12_later mk_X12_goDays ⟨uw669, uw670, uw671, uw5, by decide +kernel⟩ (T := TX12) (N := 47) rfl (by decide +kernel)) <|
  fc (ok_aldn (q := 0) (by decide +kernel) rfl) <|
  fc (ok_iconst (n := 0) (by decide +kernel) (by decide +kernel)) <|
  fc (ok_pi mk_X12_later (fo_RX12_107 rfl) to_12_6 rfl (by decide +kernel)) <|
  fc (ok_aldn (q := 0) (by decide +kernel) rfl) <|
  fc (ok_aldn (q := 0) (by decide +kernel) rfl) <|
  fc (ok_gf mk_X12_later (fo_RX12_42 rfl) rfl (by decide +kernel)) <|
  fc (ok_bipush (n := 7) (by decide +kernel) (by decide +kernel)) <|
  fc (ok_ildn (q := 1) (by decide +kernel) rfl) <|
  fc (ok_iadd (by decide +kernel)) <|
  fc (ok_iald (by decide +kernel)) <|
  fc (ok_i2l (by decide +kernel)) <|
  fc (ok_cv mk_X12_later mk_X12_tell ⟨uw677, uw678, uw679, uw5, by decide +kernel⟩ (T := TX12) (N := 47) rfl (by decide +kernel)) <|
  fc (ok_aldn (q := 0) (by decide +kernel) rfl) <|
  fc (ok_aldn (q := 0) (by decide +kernel) rfl) <|
  fc (ok_gf mk_X12_later (fo_RX12_42 rfl) rfl (by decide +kernel)) <|
  fc (ok_bipush (n := 21) (by decide +kernel) (by decide +kernel)) <|
  fc (ok_ildn (q := 1) (by decide +kernel) rfl) <|
  fc (ok_iadd (by decide +kernel)) <|
  fc (ok_iald (by decide +kernel)) <|
  fc (ok_i2l (by decide +kernel)) <|
  fc (ok_cv mk_X12_later mk_X12_tell ⟨uw677, uw678, uw679, uw5, by decide +kernel⟩ (T := TX12) (N := 47) rfl (by decide +kernel)) <|
  fc (ok_aldn (q := 0) (by decide +kernel) rfl) <|
  fc (ok_gf mk_X12_later (fo_RX12_42 rfl) rfl (by decide +kernel)) <|
  fc (ok_bipush (n := 14) (by decide +kernel) (by decide +kernel)) <|
  fc (ok_ildn (q := 1) (by decide +kernel) rfl) <|
  fc (ok_iadd (by decide +kernel)) <|
  fc (ok_iald (by decide +kernel)) <|
  fc (ok_iret rfl (by decide +kernel)) <| fn
def T_X12_home : List (Nat × Op) := [(0, op_ald 0 1), (1, op_ic 0 1), (2, op_pi 12 7), (5, op_ald 0 1), (6, op_ild 1 1), (7, op_cv M_X12_isOne 12 1), (10, op_ifne 15), (13, op_ic (-1) 1), (14, op_iret), (15, op_ald 0 1), (16, op_gf 12 0 1), (19, op_ald 0 1), (20, op_gf 12 22 11), (23, op_ic 0 1), (24, op_cs M_X12_lay 3), (27, op_ic 0 1), (28, op_ist 2 1), (29, op_ild 2 1), (30, op_ic 99 2), (32, op_icgt 86), (35, op_ald 0 1), (36, op_gf 12 22 11), (39, op_ic 14 2), (41, op_ild 1 1), (42, op_iadd), (43, op_iald), (44, op_ild 1 1), (45, op_icne 71), (48, op_ald 0 1), (49, op_ic 0 1), (50, op_pi 12 6), (53, op_ald 0 1), (54, op_ald 0 1), (55, op_ald 0 1), (56, op_gf 12 22 11), (59, op_cv M_X12_atHome 12 1), (62, op_cs M_J6_bitCount_0f7a4 1), (65, op_i2l), (66, op_cv M_X12_tell 12 1), (69, op_ild 2 1), (70, op_iret), (71, op_ald 0 1), (72, op_ald 0 1), (73, op_gf 12 22 11), (76, op_ic (-1) 1), (77, op_cv M_X12_goDay 12 2), (80, op_iinc 2 1), (83, op_goto 29), (86, op_ic (-2) 2), (88, op_iret)]
set_option maxRecDepth 20000 in
theorem K_X12_home : ∀ r ∈ T_X12_home, OpOK M_X12_home r.1 r.2 :=
  fc (ok_aldn (q := 0) (by decide +kernel) rfl) <|
  fc (ok_iconst (n := 0) (by decide +kernel) (by decide +kernel)) <|
  fc (ok_pi mk_X12_home (fo_RX12_103 rfl) to_12_7 rfl (by decide +kernel)) <|
  fc (ok_aldn (q := 0) (by decide +kernel) rfl) <|
  fc (ok_ildn (q := 1) (by decide +kernel) rfl) <|
  fc (ok_cv mk_X12_home mk_X12_isOne ⟨uw442, uw443, uw444, uw5, by decide +kernel⟩ (T := TX12) (N := 47) rfl (by decide +kernel)) <|
  fc (ok_ifne (off := 5) (by decide +kernel) (by decide)) <|
  fc (ok_iconst (n := -1) (by decide +kernel) (by decide +kernel)) <|
  fc (ok_iret rfl (by decide +kernel)) <|
  fc (ok_aldn (q := 0) (by decide +kernel) rfl) <|
  fc (ok_gf mk_X12_home (fo_RX12_9 rfl) rfl (by decide +kernel)) <|
  fc (ok_aldn (q := 0) (by decide +kernel) rfl) <|
  fc (ok_gf mk_X12_home (fo_RX12_42 rfl) rfl (by decide +kernel)) <|
  fc (ok_iconst (n := 0) (by decide +kernel) (by decide +kernel)) <|
  fc (ok_cs mk_X12_home mk_X12_lay ⟨uw576, uw577, uw5, by decide +kernel⟩ (by decide +kernel)) <|
  fc (ok_iconst (n := 0) (by decide +kernel) (by decide +kernel)) <|
  fc (ok_istn (q := 2) (by decide +kernel) rfl (by decide)) <|
  fc (ok_ildn (q := 2) (by decide +kernel) rfl) <|
  fc (ok_bipush (n := 99) (by decide +kernel) (by decide +kernel)) <|
  fc (ok_icgt (off := 54) (by decide +kernel) (by decide)) <|
  fc (ok_aldn (q := 0) (by decide +kernel) rfl) <|
  fc (ok_gf mk_X12_home (fo_RX12_42 rfl) rfl (by decide +kernel)) <|
  fc (ok_bipush (n := 14) (by decide +kernel) (by decide +kernel)) <|
  fc (ok_ildn (q := 1) (by decide +kernel) rfl) <|
  fc (ok_iadd (by decide +kernel)) <|
  fc (ok_iald (by decide +kernel)) <|
  fc (ok_ildn (q := 1) (by decide +kernel) rfl) <|
  fc (ok_icne (off := 26) (by decide +kernel) (by decide)) <|
  fc (ok_aldn (q := 0) (by decide +kernel) rfl) <|
  fc (ok_iconst (n := 0) (by decide +kernel) (by decide +kernel)) <|
  fc (ok_pi mk_X12_home (fo_RX12_107 rfl) to_12_6 rfl (by decide +kernel)) <|
  fc (ok_aldn (q := 0) (by decide +kernel) rfl) <|
  fc (ok_aldn (q := 0) (by decide +kernel) rfl) <|
  fc (ok_aldn (q := 0) (by decide +kernel) rfl) <|
  fc (ok_gf mk_X12_home (fo_RX12_42 rfl) rfl (by decide +kernel)) <|
  fc (ok_cv mk_X12_home mk_X12_atHome ⟨uw681, uw682, uw683, uw5, by decide +kernel⟩ (T := TX12) (N := 47) rfl (by decide +kernel)) <|
  fc (ok_cs mk_X12_home mk_J6_bitCount_0f7a4 ⟨uw466, uw429, uw430, by decide +kernel⟩ (by decide +kernel)) <|
  fc (ok_i2l (by decide +kernel)) <|
  fc (ok_cv mk_X12_home mk_X12_tell ⟨uw677, uw678, uw679, uw5, by decide +kernel⟩ (T := TX12) (N := 47) rfl (by decide +kernel)) <|
  fc (ok_ildn (q := 2) (by decide +kernel) rfl) <|
  fc (ok_iret rfl (by decide +kernel)) <|
  fc (ok_aldn (q := 0) (by decide +kernel) rfl) <|
  fc (ok_aldn (q := 0) (by decide +kernel) rfl) <|
  fc (ok_gf mk_X12_home (fo_RX12_42 rfl) rfl (by decide +kernel)) <|
  fc (ok_iconst (n := -1) (by decide +kernel) (by decide +kernel)) <|
  fc (ok_cv mk_X12_home mk_X12_goDay ⟨uw673, uw674, uw675, uw5, by decide +kernel⟩ (T := TX12) (N := 47) rfl (by decide +kernel)) <|
  fc (ok_iinc (n := 1) (by decide +kernel) (by decide +kernel) (by decide)) <|
  fc (ok_goto (off := -54) (by decide +kernel) (by decide)) <|
  fc (ok_bipush (n := -2) (by decide +kernel) (by decide +kernel)) <|
  fc (ok_iret rfl (by decide +kernel)) <| fn
def T_X12_poor : List (Nat × Op) := [(0, op_ald 0 1), (1, op_ic 0 1), (2, op_pi 12 7), (5, op_ald 0 1), (6, op_ild 1 1), (7, op_cv M_X12_isOne 12 1), (10, op_ifne 15), (13, op_ic (-1) 1), (14, op_iret), (15, op_ald 0 1), (16, op_gf 12 0 1), (19, op_ald 0 1), (20, op_gf 12 22 11), (23, op_ic 0 1), (24, op_cs M_X12_lay 3), (27, op_ic 0 1), (28, op_ist 2 1), (29, op_ild 2 1), (30, op_ic 99 2), (32, op_icgt 84), (35, op_ald 0 1), (36, op_gf 12 22 11), (39, op_ic 7 2), (41, op_ild 1 1), (42, op_iadd), (43, op_iald), (44, op_ifne 69), (47, op_ald 0 1), (48, op_ic 0 1), (49, op_pi 12 6), (52, op_ald 0 1), (53, op_ald 0 1), (54, op_ald 0 1), (55, op_gf 12 22 11), (58, op_ic 7 2), (60, op_cv M_X12_sumOf 12 2), (63, op_i2l), (64, op_cv M_X12_tell 12 1), (67, op_ild 2 1), (68, op_iret), (69, op_ald 0 1), (70, op_ald 0 1), (71, op_gf 12 22 11), (74, op_ic (-1) 1), (75, op_cv M_X12_goDay 12 2), (78, op_iinc 2 1), (81, op_goto 29), (84, op_ic (-2) 2), (86, op_iret)]
set_option maxRecDepth 20000 in
theorem K_X12_poor : ∀ r ∈ T_X12_poor, OpOK M_X12_poor r.1 r.2 :=
  fc (ok_aldn (q := 0) (by decide +kernel) rfl) <|
  fc (ok_iconst (n := 0) (by decide +kernel) (by decide +kernel)) <|
  fc (ok_pi mk_X12_poor (fo_RX12_103 rfl) to_12_7 rfl (by decide +kernel)) <|
  fc (ok_aldn (q := 0) (by decide +kernel) rfl) <|
  fc (ok_ildn (q := 1) (by decide +kernel) rfl) <|
  fc (ok_cv mk_X12_poor mk_X12_isOne ⟨uw442, uw443, uw444, uw5, by decide +kernel⟩ (T := TX12) (N := 47) rfl (by decide +kernel)) <|
  fc (ok_ifne (off := 5) (by decide +kernel) (by decide)) <|
  fc (ok_iconst (n := -1) (by decide +kernel) (by decide +kernel)) <|
  fc (ok_iret rfl (by decide +kernel)) <|
  fc (ok_aldn (q := 0) (by decide +kernel) rfl) <|
  fc (ok_gf mk_X12_poor (fo_RX12_9 rfl) rfl (by decide +kernel)) <|
  fc (ok_aldn (q := 0) (by decide +kernel) rfl) <|
  fc (ok_gf mk_X12_poor (fo_RX12_42 rfl) rfl (by decide +kernel)) <|
  fc (ok_iconst (n := 0) (by decide +kernel) (by decide +kernel)) <|
  fc (ok_cs mk_X12_poor mk_X12_lay ⟨uw576, uw577, uw5, by decide +kernel⟩ (by decide +kernel)) <|
  fc (ok_iconst (n := 0) (by decide +kernel) (by decide +kernel)) <|
  fc (ok_istn (q := 2) (by decide +kernel) rfl (by decide)) <|
  fc (ok_ildn (q := 2) (by decide +kernel) rfl) <|
  fc (ok_bipush (n := 99) (by decide +kernel) (by decide +kernel)) <|
  fc (ok_icgt (off := 52) (by decide +kernel) (by decide)) <|
  fc (ok_aldn (q := 0) (by decide +kernel) rfl) <|
  fc (ok_gf mk_X12_poor (fo_RX12_42 rfl) rfl (by decide +kernel)) <|
  fc (ok_bipush (n := 7) (by decide +kernel) (by decide +kernel)) <|
  fc (ok_ildn (q := 1) (by decide +kernel) rfl) <|
  fc (ok_iadd (by decide +kernel)) <|
  fc (ok_iald (by decide +kernel)) <|
  fc (ok_ifne (off := 25) (by decide +kernel) (by decide)) <|
  fc (ok_aldn (q := 0) (by decide +kernel) rfl) <|
  fc (ok_iconst (n := 0) (by decide +kernel) (by decide +kernel)) <|
  fc (ok_pi mk_X12_poor (fo_RX12_107 rfl) to_12_6 rfl (by decide +kernel)) <|
  fc (ok_aldn (q := 0) (by decide +kernel) rfl) <|
  fc (ok_aldn (q := 0) (by decide +kernel) rfl) <|
  fc (ok_aldn (q := 0) (by decide +kernel) rfl) <|
  fc (ok_gf mk_X12_poor (fo_RX12_42 rfl) rfl (by decide +kernel)) <|
  fc (ok_bipush (n := 7) (by decide +kernel) (by decide +kernel)) <|
  fc (ok_cv mk_X12_poor mk_X12_sumOf ⟨uw522, uw523, uw524, uw5, by decide +kernel⟩ (T := TX12) (N := 47) rfl (by decide +kernel)) <|
  fc (ok_i2l (by decide +kernel)) <|
  fc (ok_cv mk_X12_poor mk_X12_tell ⟨uw677, uw678, uw679, uw5, by decide +kernel⟩ (T := TX12) (N := 47) rfl (by decide +kernel)) <|
  fc (ok_ildn (q := 2) (by decide +kernel) rfl) <|
  fc (ok_iret rfl (by decide +kernel)) <|
  fc (ok_aldn (q := 0) (by decide +kernel) rfl) <|
  fc (ok_aldn (q := 0) (by decide +kernel) rfl) <|
  fc (ok_gf mk_X12_poor (fo_RX12_42 rfl) rfl (by decide +kernel)) <|
  fc (ok_iconst (n := -1) (by decide +kernel) (by decide +kernel)) <|
  fc (ok_cv mk_X12_poor mk_X12_goDay ⟨uw673, uw674, uw675, uw5, by decide +kernel⟩ (T := TX12) (N := 47) rfl (by decide +kernel)) <|
  fc (ok_iinc (n := 1) (by decide +kernel) (by decide +kernel) (by decide)) <|
  fc (ok_goto (off := -52) (by decide +kernel) (by decide)) <|
  fc (ok_bipush (n := -2) (by decide +kernel) (by decide +kernel)) <|
  fc (ok_iret rfl (by decide +kernel)) <| fn
def T_X12_leads : List (Nat × Op) := [(0, op_ald 0 1), (1, op_ic 0 1), (2, op_pi 12 7), (5, op_ald 0 1), (6, op_ild 1 1), (7, op_cv M_X12_isOne 12 1), (10, op_ifne 15), (13, op_ic (-1) 1), (14, op_iret), (15, op_ald 0 1), (16, op_ild 1 1), (17, op_cv M_X12_goLead 12 1), (20, op_ist 2 1), (21, op_ald 0 1), (22, op_ic 0 1), (23, op_pi 12 6), (26, op_ald 0 1), (27, op_ald 0 1), (28, op_gf 12 13 5), (31, op_ic 0 1), (32, op_iald), (33, op_i2l), (34, op_cv M_X12_tell 12 1), (37, op_ald 0 1), (38, op_ild 2 1), (39, op_ald 0 1), (40, op_gf 12 26 15), (43, op_ald 0 1), (44, op_gf 12 13 5), (47, op_ic 0 1), (48, op_iald), (49, op_iald), (50, op_isub), (51, op_i2l), (52, op_cv M_X12_tell 12 1), (55, op_ild 2 1), (56, op_iret)]
set_option maxRecDepth 20000 in
theorem K_X12_leads : ∀ r ∈ T_X12_leads, OpOK M_X12_leads r.1 r.2 :=
  fc (ok_aldn (q := 0) (by decide +kernel) rfl) <|
  fc (ok_iconst (n := 0) (by decide +kernel) (by decide +kernel)) <|
  fc (ok_pi mk_X12_leads (fo_RX12_103 rfl) to_12_7 rfl (by decide +kernel)) <|
  fc (ok_aldn (q := 0) (by decide +kernel) rfl) <|
  fc (ok_ildn (q := 1) (by decide +kernel) rfl) <|
  fc (ok_cv mk_X12_leads mk_X12_isOne ⟨uw442, uw443, uw444, uw5, by decide +kernel⟩ (T := TX12) (N := 47) rfl (by decide +kernel)) <|
  fc (ok_ifne (off := 5) (by decide +kernel) (by decide)) <|
  fc (ok_iconst (n := -1) (by decide +kernel) (by decide +kernel)) <|
  fc (ok_iret rfl (by decide +kernel)) <|
  fc (ok_aldn (q := 0) (by decide +kernel) rfl) <|
  fc (ok_ildn (q := 1) (by decide +kernel) rfl) <|
  fc (ok_cv mk_X12_leads mk_X12_goLead ⟨uw817, uw818, uw819, uw5, by decide +kernel⟩ (T := TX12) (N := 47) rfl (by decide +kernel)) <|
  fc (ok_istn (q := 2) (by decide +kernel) rfl (by decide)) <|
  fc (ok_aldn (q := 0) (by decide +kernel) rfl) <|
  fc (ok_iconst (n := 0) (by decide +kernel) (by decide +kernel)) <|
  fc (ok_pi mk_X12_leads (fo_RX12_107 rfl) to_12_6 rfl (by decide +kernel)) <|
  fc (ok_aldn (q := 0) (by decide +kernel) rfl) <|
  fc (ok_aldn (q := 0) (by decide +kernel) rfl) <|
  fc (ok_gf mk_X12_leads (fo_RX12_24 rfl) rfl (by decide +kernel)) <|
  fc (ok_iconst (n := 0) (by decide +kernel) (by decide +kernel)) <|
  fc (ok_iald (by decide +kernel)) <|
  fc (ok_i2l (by decide +kernel)) <|
  fc (ok_cv mk_X12_leads mk_X12_tell ⟨uw677, uw678, uw679, uw5, by decide +kernel⟩ (T := TX12) (N := 47) rfl (by decide +kernel)) <|
  fc (ok_aldn (q := 0) (by decide +kernel) rfl) <|
  fc (ok_ildn (q := 2) (by decide +kernel) rfl) <|
  fc (ok_aldn (q := 0) (by decide +kernel) rfl) <|
  fc (ok_gf mk_X12_leads (fo_RX12_54 rfl) rfl (by decide +kernel)) <|
  fc (ok_aldn (q := 0) (by decide +kernel) rfl) <|
  fc (ok_gf mk_X12_leads (fo_RX12_24 rfl) rfl (by decide +kernel)) <|
  fc (ok_iconst (n := 0) (by decide +kernel) (by decide +kernel)) <|
  fc (ok_iald (by decide +kernel)) <|
  fc (ok_iald (by decide +kernel)) <|
  fc (ok_isub (by decide +kernel)) <|
  fc (ok_i2l (by decide +kernel)) <|
  fc (ok_cv mk_X12_leads mk_X12_tell ⟨uw677, uw678, uw679, uw5, by decide +kernel⟩ (T := TX12) (N := 47) rfl (by decide +kernel)) <|
  fc (ok_ildn (q := 2) (by decide +kernel) rfl) <|
  fc (ok_iret rfl (by decide +kernel)) <| fn
def T_X12_goLead : List (Nat × Op) := [(0, op_ic 0 1), (1, op_ist 2 1), (2, op_ild 2 1), (3, op_ald 0 1), (4, op_gi 12 1), (7, op_icge 23), (10, op_ald 0 1), (11, op_gf 12 26 15), (14, op_ild 2 1), (15, op_ic (-1) 1), (16, op_iast), (17, op_iinc 2 1), (20, op_goto 2), (23, op_ild 1 1), (24, op_ist 2 1), (25, op_ic 0 1), (26, op_ist 3 1), (27, op_ald 0 1), (28, op_gf 12 26 15), (31, op_ild 2 1), (32, op_iald), (33, op_ic (-1) 1), (34, op_icne 60), (37, op_ald 0 1), (38, op_gf 12 26 15), (41, op_ild 2 1), (42, op_ild 3 1), (43, op_iast), (44, op_ald 0 1), (45, op_gf 12 0 1), (48, op_ic 14 2), (50, op_ild 2 1), (51, op_iadd), (52, op_iald), (53, op_ist 2 1), (54, op_iinc 3 1), (57, op_goto 27), (60, op_ald 0 1), (61, op_gf 12 13 5), (64, op_ic 0 1), (65, op_ild 2 1), (66, op_iast), (67, op_ild 3 1), (68, op_iret)]
set_option maxRecDepth 20000 in
theorem K_X12_goLead : ∀ r ∈ T_X12_goLead, OpOK M_X12_goLead r.1 r.2 :=
  fc (ok_iconst (n := 0) (by decide +kernel) (by decide +kernel)) <|
  fc (ok_istn (q := 2) (by decide +kernel) rfl (by decide)) <|
  fc (ok_ildn (q := 2) (by decide +kernel) rfl) <|
  fc (ok_aldn (q := 0) (by decide +kernel) rfl) <|
  fc (ok_gi mk_X12_goLead (fo_RX12_110 rfl) rfl (by decide +kernel)) <|
  fc (ok_icge (off := 16) (by decide +kernel) (by decide)) <|
  fc (ok_aldn (q := 0) (by decide +kernel) rfl) <|
  fc (ok_gf mk_X12_goLead (fo_RX12_54 rfl) rfl (by decide +kernel)) <|
  fc (ok_ildn (q := 2) (by decide +kernel) rfl) <|
  fc (ok_iconst (n := -1) (by decide +kernel) (by decide +kernel)) <|
  fc (ok_iast (by decide +kernel)) <|
  fc (ok_iinc (n := 1) (by decide +kernel) (by decide +kernel) (by decide)) <|
  fc (ok_goto (off := -18) (by decide +kernel) (by decide)) <|
  fc (ok_ildn (q := 1) (by decide +kernel) rfl) <|
  fc (ok_istn (q := 2) (by decide +kernel) rfl (by decide)) <|
  fc (ok_iconst (n := 0) (by decide +kernel) (by decide +kernel)) <|
  fc (ok_istn (q := 3) (by decide +kernel) rfl (by decide)) <|
  fc (ok_aldn (q := 0) (by decide +kernel) rfl) <|
  fc (ok_gf mk_X12_goLead (fo_RX12_54 rfl) rfl (by decide +kernel)) <|
  fc (ok_ildn (q := 2) (by decide +kernel) rfl) <|
  fc (ok_iald (by decide +kernel)) <|
  fc (ok_iconst (n := -1) (by decide +kernel) (by decide +kernel)) <|
  fc (ok_icne (off := 26) (by decide +kernel) (by decide)) <|
  fc (ok_aldn (q := 0) (by decide +kernel) rfl) <|
  fc (ok_gf mk_X12_goLead (fo_RX12_54 rfl) rfl (by decide +kernel)) <|
  fc (ok_ildn (q := 2) (by decide +kernel) rfl) <|
  fc (ok_ildn (q := 3) (by decide +kernel) rfl) <|
  fc (ok_iast (by decide +kernel)) <|
  fc (ok_aldn (q := 0) (by decide +kernel) rfl) <|
  fc (ok_gf mk_X12_goLead (fo_RX12_9 rfl) rfl (by decide +kernel)) <|
  fc (ok_bipush (n := 14) (by decide +kernel) (by decide +kernel)) <|
  fc (ok_ildn (q := 2) (by decide +kernel) rfl) <|
  fc (ok_iadd (by decide +kernel)) <|
  fc (ok_iald (by decide +kernel)) <|
  fc (ok_istn (q := 2) (by decide +kernel) rfl (by decide)) <|
  fc (ok_iinc (n := 1) (by decide +kernel) (by decide +kernel) (by decide)) <|
  fc (ok_goto (off := -30) (by decide +kernel) (by decide)) <|
  fc (ok_aldn (q := 0) (by decide +kernel) rfl) <|
  fc (ok_gf mk_X12_goLead (fo_RX12_24 rfl) rfl (by decide +kernel)) <|
  fc (ok_iconst (n := 0) (by decide +kernel) (by decide +kernel)) <|
  fc (ok_ildn (q := 2) (by decide +kernel) rfl) <|
  fc (ok_iast (by decide +kernel)) <|
  fc (ok_ildn (q := 3) (by decide +kernel) rfl) <|
  fc (ok_iret rfl (by decide +kernel)) <| fn
def T_X12_rings : List (Nat × Op) := [(0, op_ald 0 1), (1, op_ic 0 1), (2, op_pi 12 7), (5, op_ic 0 1), (6, op_ist 1 1), (7, op_ic 0 1), (8, op_ist 2 1), (9, op_ic 0 1), (10, op_ist 3 1), (11, op_ic 0 1), (12, op_ist 4 2), (14, op_ild 4 2), (16, op_ald 0 1), (17, op_gi 12 1), (20, op_icge 86), (23, op_ald 0 1), (24, op_ild 4 2), (26, op_cv M_X12_ringOf 12 1), (29, op_ist 5 2), (31, op_ild 5 2), (33, op_ild 4 2), (35, op_cs M_X12_has 2), (38, op_ifeq 80), (41, op_ild 2 1), (42, op_ild 4 2), (44, op_cs M_X12_has 2), (47, op_ifeq 53), (50, op_goto 80), (53, op_ild 2 1), (54, op_ild 5 2), (56, op_ior), (57, op_ist 2 1), (58, op_iinc 1 1), (61, op_ild 5 2), (63, op_cs M_J6_bitCount_0f7a4 1), (66, op_ild 3 1), (67, op_cs M_J6_bitCount_0f7a4 1), (70, op_icle 78), (73, op_ild 5 2), (75, op_goto 79), (78, op_ild 3 1), (79, op_ist 3 1), (80, op_iinc 4 1), (83, op_goto 14), (86, op_ald 0 1), (87, op_ic 0 1), (88, op_pi 12 6), (91, op_ald 0 1), (92, op_gi 12 1), (95, op_ifle 116), (98, op_ald 0 1), (99, op_ild 3 1), (100, op_cs M_J6_bitCount_0f7a4 1), (103, op_i2l), (104, op_cv M_X12_tell 12 1), (107, op_ald 0 1), (108, op_ild 3 1), (109, op_cs M_J6_numberOfTrailingZeros_0f7a4 1), (112, op_i2l), (113, op_cv M_X12_tell 12 1), (116, op_ild 1 1), (117, op_iret)]
set_option maxRecDepth 20000 in
theorem K_X12_rings : ∀ r ∈ T_X12_rings, OpOK M_X12_rings r.1 r.2 :=
  fc (ok_aldn (q := 0) (by decide +kernel) rfl) <|
  fc (ok_iconst (n := 0) (by decide +kernel) (by decide +kernel)) <|
  fc (ok_pi mk_X12_rings (fo_RX12_103 rfl) to_12_7 rfl (by decide +kernel)) <|
  fc (ok_iconst (n := 0) (by decide +kernel) (by decide +kernel)) <|
  fc (ok_istn (q := 1) (by decide +kernel) rfl (by decide)) <|
  fc (ok_iconst (n := 0) (by decide +kernel) (by decide +kernel)) <|
  fc (ok_istn (q := 2) (by decide +kernel) rfl (by decide)) <|
  fc (ok_iconst (n := 0) (by decide +kernel) (by decide +kernel)) <|
  fc (ok_istn (q := 3) (by decide +kernel) rfl (by decide)) <|
  fc (ok_iconst (n := 0) (by decide +kernel) (by decide +kernel)) <|
  fc (ok_ist (by decide +kernel) (by decide)) <|
  fc (ok_ild (by decide +kernel)) <|
  fc (ok_aldn (q := 0) (by decide +kernel) rfl) <|
  fc (ok_gi mk_X12_rings (fo_RX12_110 rfl) rfl (by decide +kernel)) <|
  fc (ok_icge (off := 66) (by decide +kernel) (by decide)) <|
  fc (ok_aldn (q := 0) (by decide +kernel) rfl) <|
  fc (ok_ild (by decide +kernel)) <|
  fc (ok_cv mk_X12_rings mk_X12_ringOf ⟨uw833, uw834, uw835, uw5, by decide +kernel⟩ (T := TX12) (N := 47) rfl (by decide +kernel)) <|
  fc (ok_ist (by decide +kernel) (by decide)) <|
  fc (ok_ild (by decide +kernel)) <|
  fc (ok_ild (by decide +kernel)) <|
  fc (ok_cs mk_X12_rings mk_X12_has ⟨uw837, uw838, uw5, by decide +kernel⟩ (by decide +kernel)) <|
  fc (ok_ifeq (off := 42) (by decide +kernel) (by decide)) <|
  fc (ok_ildn (q := 2) (by decide +kernel) rfl) <|
  fc (ok_ild (by decide +kernel)) <|
  fc (ok_cs mk_X12_rings mk_X12_has ⟨uw837, uw838, uw5, by decide +kernel⟩ (by decide +kernel)) <|
  fc (ok_ifeq (off := 6) (by decide +kernel) (by decide)) <|
  fc (ok_goto (off := 30) (by decide +kernel) (by decide)) <|
  fc (ok_ildn (q := 2) (by decide +kernel) rfl) <|
  fc (ok_ild (by decide +kernel)) <|
  fc (ok_ior (by decide +kernel)) <|
  fc (ok_istn (q := 2) (by decide +kernel) rfl (by decide)) <|
  fc (ok_iinc (n := 1) (by decide +kernel) (by decide +kernel) (by decide)) <|
  fc (ok_ild (by decide +kernel)) <|
  fc (ok_cs mk_X12_rings mk_J6_bitCount_0f7a4 ⟨uw466, uw429, uw430, by decide +kernel⟩ (by decide +kernel)) <|
  fc (ok_ildn (q := 3) (by decide +kernel) rfl) <|
  fc (ok_cs mk_X12_rings mk_J6_bitCount_0f7a4 ⟨uw466, uw429, uw430, by decide +kernel⟩ (by decide +kernel)) <|
  fc (ok_icle (off := 8) (by decide +kernel) (by decide)) <|
  fc (ok_ild (by decide +kernel)) <|
  fc (ok_goto (off := 4) (by decide +kernel) (by decide)) <|
  fc (ok_ildn (q := 3) (by decide +kernel) rfl) <|
  fc (ok_istn (q := 3) (by decide +kernel) rfl (by decide)) <|
  fc (ok_iinc (n := 1) (by decide +kernel) (by decide +kernel) (by decide)) <|
  fc (ok_goto (off := -69) (by decide +kernel) (by decide)) <|
  fc (ok_aldn (q := 0) (by decide +kernel) rfl) <|
  fc (ok_iconst (n := 0) (by decide +kernel) (by decide +kernel)) <|
  fc (ok_pi mk_X12_rings (fo_RX12_107 rfl) to_12_6 rfl (by decide +kernel)) <|
  fc (ok_aldn (q := 0) (by decide +kernel) rfl) <|
  fc (ok_gi mk_X12_rings (fo_RX12_110 rfl) rfl (by decide +kernel)) <|
  fc (ok_ifle (off := 21) (by decide +kernel) (by decide)) <|
  fc (ok_aldn (q := 0) (by decide +kernel) rfl) <|
  fc (ok_ildn (q := 3) (by decide +kernel) rfl) <|
  fc (ok_cs mk_X12_rings mk_J6_bitCount_0f7a4 ⟨uw466, uw429, uw430, by decide +kernel⟩ (by decide +kernel)) <|
  fc (ok_i2l (by decide +kernel)) <|
  fc (ok_cv mk_X12_rings mk_X12_tell ⟨uw677, uw678, uw679, uw5, by decide +kernel⟩ (T := TX12) (N := 47) rfl (by decide +kernel)) <|
  fc (ok_aldn (q := 0) (by decide +kernel) rfl) <|
  fc (ok_ildn (q := 3) (by decide +kernel) rfl) <|
  fc (ok_cs mk_X12_rings mk_J6_numberOfTrailingZeros_0f7a4 ⟨uw840, uw826, uw430, by decide +kernel⟩ (by decide +kernel)) <|
  fc (ok_i2l (by decide +kernel)) <|
  fc (ok_cv mk_X12_rings mk_X12_tell ⟨uw677, uw678, uw679, uw5, by decide +kernel⟩ (T := TX12) (N := 47) rfl (by decide +kernel)) <|
  fc (ok_ildn (q := 1) (by decide +kernel) rfl) <|
  fc (ok_iret rfl (by decide +kernel)) <| fn
def T_X12_ringOf : List (Nat × Op) := [(0, op_ald 0 1), (1, op_ild 1 1), (2, op_cv M_X12_goLead 12 1), (5, op_pop), (6, op_ic 0 1), (7, op_ist 2 1), (8, op_ald 0 1), (9, op_gf 12 13 5), (12, op_ic 0 1), (13, op_iald), (14, op_ist 3 1), (15, op_ild 2 1), (16, op_ild 3 1), (17, op_cs M_X12_has 2), (20, op_ifne 42), (23, op_ild 2 1), (24, op_ic 1 1), (25, op_ild 3 1), (26, op_ishl), (27, op_ior), (28, op_ist 2 1), (29, op_ald 0 1), (30, op_gf 12 0 1), (33, op_ic 14 2), (35, op_ild 3 1), (36, op_iadd), (37, op_iald), (38, op_ist 3 1), (39, op_goto 15), (42, op_ild 2 1), (43, op_iret)]
set_option maxRecDepth 20000 in
theorem K_X12_ringOf : ∀ r ∈ T_X12_ringOf, OpOK M_X12_ringOf r.1 r.2 :=
  fc (ok_aldn (q := 0) (by decide +kernel) rfl) <|
  fc (ok_ildn (q := 1) (by decide +kernel) rfl) <|
  fc (ok_cv mk_X12_ringOf mk_X12_goLead ⟨uw817, uw818, uw819, uw5, by decide +kernel⟩ (T := TX12) (N := 47) rfl (by decide +kernel)) <|
  fc (ok_pop (by decide +kernel)) <|
  fc (ok_iconst (n := 0) (by decide +kernel) (by decide +kernel)) <|
  fc (ok_istn (q := 2) (by decide +kernel) rfl (by decide)) <|
  fc (ok_aldn (q := 0) (by decide +kernel) rfl) <|
  fc (ok_gf mk_X12_ringOf (fo_RX12_24 rfl) rfl (by decide +kernel)) <|
  fc (ok_iconst (n := 0) (by decide +kernel) (by decide +kernel)) <|
  fc (ok_iald (by decide +kernel)) <|
  fc (ok_istn (q := 3) (by decide +kernel) rfl (by decide)) <|
  fc (ok_ildn (q := 2) (by decide +kernel) rfl) <|
  fc (ok_ildn (q := 3) (by decide +kernel) rfl) <|
  fc (ok_cs mk_X12_ringOf mk_X12_has ⟨uw837, uw838, uw5, by decide +kernel⟩ (by decide +kernel)) <|
  fc (ok_ifne (off := 22) (by decide +kernel) (by decide)) <|
  fc (ok_ildn (q := 2) (by decide +kernel) rfl) <|
  fc (ok_iconst (n := 1) (by decide +kernel) (by decide +kernel)) <|
  fc (ok_ildn (q := 3) (by decide +kernel) rfl) <|
  fc (ok_ishl (by decide +kernel)) <|
  fc (ok_ior (by decide +kernel)) <|
  fc (ok_istn (q := 2) (by decide +kernel) rfl (by decide)) <|
  fc (ok_aldn (q := 0) (by decide +kernel) rfl) <|
  fc (ok_gf mk_X12_ringOf (fo_RX12_9 rfl) rfl (by decide +kernel)) <|
  fc (ok_bipush (n := 14) (by decide +kernel) (by decide +kernel)) <|
  fc (ok_ildn (q := 3) (by decide +kernel) rfl) <|
  fc (ok_iadd (by decide +kernel)) <|
  fc (ok_iald (by decide +kernel)) <|
  fc (ok_istn (q := 3) (by decide +kernel) rfl (by decide)) <|
  fc (ok_goto (off := -24) (by decide +kernel) (by decide)) <|
  fc (ok_ildn (q := 2) (by decide +kernel) rfl) <|
  fc (ok_iret rfl (by decide +kernel)) <| fn
def T_X12_has : List (Nat × Op) := [(0, op_ild 0 1), (1, op_ild 1 1), (2, op_ishr), (3, op_ic 1 1), (4, op_iand), (5, op_ic 1 1), (6, op_icne 13), (9, op_ic 1 1), (10, op_goto 14), (13, op_ic 0 1), (14, op_zret)]
set_option maxRecDepth 20000 in
theorem K_X12_has : ∀ r ∈ T_X12_has, OpOK M_X12_has r.1 r.2 :=
  fc (ok_ildn (q := 0) (by decide +kernel) rfl) <|
  fc (ok_ildn (q := 1) (by decide +kernel) rfl) <|
  fc (ok_ishr (by decide +kernel)) <|
  fc (ok_iconst (n := 1) (by decide +kernel) (by decide +kernel)) <|
  fc (ok_iand (by decide +kernel)) <|
  fc (ok_iconst (n := 1) (by decide +kernel) (by decide +kernel)) <|
  fc (ok_icne (off := 7) (by decide +kernel) (by decide)) <|
  fc (ok_iconst (n := 1) (by decide +kernel) (by decide +kernel)) <|
  fc (ok_goto (off := 4) (by decide +kernel) (by decide)) <|
  fc (ok_iconst (n := 0) (by decide +kernel) (by decide +kernel)) <|
  fc (ok_zret rfl (by decide +kernel)) <| fn
def T_X12_robs : List (Nat × Op) := [(0, op_ald 0 1), (1, op_ic 0 1), (2, op_pi 12 7), (5, op_ald 0 1), (6, op_ild 1 1), (7, op_cv M_X12_isOne 12 1), (10, op_ifne 15), (13, op_ic (-1) 1), (14, op_iret), (15, op_ic 0 1), (16, op_ist 2 1), (17, op_ic (-1) 1), (18, op_ist 3 1), (19, op_ic 0 1), (20, op_ist 4 2), (22, op_ild 4 2), (24, op_ald 0 1), (25, op_gi 12 1), (28, op_icge 107), (31, op_ild 4 2), (33, op_ild 1 1), (34, op_iceq 101), (37, op_ald 0 1), (38, op_gf 12 0 1), (41, op_ic 14 2), (43, op_ild 4 2), (45, op_iadd), (46, op_iald), (47, op_ild 1 1), (48, op_iceq 54), (51, op_goto 101), (54, op_ild 2 1), (55, op_ald 0 1), (56, op_gf 12 0 1), (59, op_ic 7 2), (61, op_ild 4 2), (63, op_iadd), (64, op_iald), (65, op_iadd), (66, op_ist 2 1), (67, op_ild 3 1), (68, op_ic (-1) 1), (69, op_iceq 94), (72, op_ald 0 1), (73, op_gf 12 0 1), (76, op_ic 7 2), (78, op_ild 4 2), (80, op_iadd), (81, op_iald), (82, op_ald 0 1), (83, op_gf 12 0 1), (86, op_ic 7 2), (88, op_ild 3 1), (89, op_iadd), (90, op_iald), (91, op_icle 99), (94, op_ild 4 2), (96, op_goto 100), (99, op_ild 3 1), (100, op_ist 3 1), (101, op_iinc 4 1), (104, op_goto 22), (107, op_ald 0 1), (108, op_ic 0 1), (109, op_pi 12 6), (112, op_ald 0 1), (113, op_ild 3 1), (114, op_i2l), (115, op_cv M_X12_tell 12 1), (118, op_ild 2 1), (119, op_iret)]
set_option maxRecDepth 20000 in
theorem K_X12_robs : ∀ r ∈ T_X12_robs, OpOK M_X12_robs r.1 r.2 :=
  fc (ok_aldn (q := 0) (by decide +kernel) rfl) <|
  fc (ok_iconst (n := 0) (by decide +kernel) (by decide +kernel)) <|
  fc (ok_pi mk_X12_robs (fo_RX12_103 rfl) to_12_7 rfl (by decide +kernel)) <|
  fc (ok_aldn (q := 0) (by decide +kernel) rfl) <|
  fc (ok_ildn (q := 1) (by decide +kernel) rfl) <|
  fc (ok_cv mk_X12_robs mk_X12_isOne ⟨uw442, uw443, uw444, uw5, by decide +kernel⟩ (T := TX12) (N := 47) rfl (by decide +kernel)) <|
  fc (ok_ifne (off := 5) (by decide +kernel) (by decide)) <|
  fc (ok_iconst (n := -1) (by decide +kernel) (by decide +kernel)) <|
  fc (ok_iret rfl (by decide +kernel)) <|
  fc (ok_iconst (n := 0) (by decide +kernel) (by decide +kernel)) <|
  fc (ok_istn (q := 2) (by decide +kernel) rfl (by decide)) <|
  fc (ok_iconst (n := -1) (by decide +kernel) (by decide +kernel)) <|
  fc (ok_istn (q := 3) (by decide +kernel) rfl (by decide)) <|
  fc (ok_iconst (n := 0) (by decide +kernel) (by decide +kernel)) <|
  fc (ok_ist (by decide +kernel) (by decide)) <|
  fc (ok_ild (by decide +kernel)) <|
  fc (ok_aldn (q := 0) (by decide +kernel) rfl) <|
  fc (ok_gi mk_X12_robs (fo_RX12_110 rfl) rfl (by decide +kernel)) <|
  fc (ok_icge (off := 79) (by decide +kernel) (by decide)) <|
  fc (ok_ild (by decide +kernel)) <|
  fc (ok_ildn (q := 1) (by decide +kernel) rfl) <|
  fc (ok_iceq (off := 67) (by decide +kernel) (by decide)) <|
  fc (ok_aldn (q := 0) (by decide +kernel) rfl) <|
  fc (ok_gf mk_X12_robs (fo_RX12_9 rfl) rfl (by decide +kernel)) <|
  fc (ok_bipush (n := 14) (by decide +kernel) (by decide +kernel)) <|
  fc (ok_ild (by decide +kernel)) <|
  fc (ok_iadd (by decide +kernel)) <|
  fc (ok_iald (by decide +kernel)) <|
  fc (ok_ildn (q := 1) (by decide +kernel) rfl) <|
  fc (ok_iceq (off := 6) (by decide +kernel) (by decide)) <|
  fc (ok_goto (off := 50) (by decide +kernel) (by decide)) <|
  fc (ok_ildn (q := 2) (by decide +kernel) rfl) <|
  fc (ok_aldn (q := 0) (by decide +kernel) rfl) <|
  fc (ok_gf mk_X12_robs (fo_RX12_9 rfl) rfl (by decide +kernel)) <|
  fc (ok_bipush (n := 7) (by decide +kernel) (by decide +kernel)) <|
  fc (ok_ild (by decide +kernel)) <|
  fc (ok_iadd (by decide +kernel)) <|
  fc (ok_iald (by decide +kernel)) <|
  fc (ok_iadd (by decide +kernel)) <|
  fc (ok_istn (q := 2) (by decide +kernel) rfl (by decide)) <|
  fc (ok_ildn (q := 3) (by decide +kernel) rfl) <|
  fc (ok_iconst (n := -1) (by decide +kernel) (by decide +kernel)) <|
  fc (ok_iceq (off := 25) (by decide +kernel) (by decide)) <|
  fc (ok_aldn (q := 0) (by decide +kernel) rfl) <|
  fc (ok_gf mk_X12_robs (fo_RX12_9 rfl) rfl (by decide +kernel)) <|
  fc (ok_bipush (n := 7) (by decide +kernel) (by decide +kernel)) <|
  fc (ok_ild (by decide +kernel)) <|
  fc (ok_iadd (by decide +kernel)) <|
  fc (ok_iald (by decide +kernel)) <|
  fc (ok_aldn (q := 0) (by decide +kernel) rfl) <|
  fc (ok_gf mk_X12_robs (fo_RX12_9 rfl) rfl (by decide +kernel)) <|
  fc (ok_bipush (n := 7) (by decide +kernel) (by decide +kernel)) <|
  fc (ok_ildn (q := 3) (by decide +kernel) rfl) <|
  fc (ok_iadd (by decide +kernel)) <|
  fc (ok_iald (by decide +kernel)) <|
  fc (ok_icle (off := 8) (by decide +kernel) (by decide)) <|
  fc (ok_ild (by decide +kernel)) <|
  fc (ok_goto (off := 4) (by decide +kernel) (by decide)) <|
  fc (ok_ildn (q := 3) (by decide +kernel) rfl) <|
  fc (ok_istn (q := 3) (by decide +kernel) rfl (by decide)) <|
  fc (ok_iinc (n := 1) (by decide +kernel) (by decide +kernel) (by decide)) <|
  fc (ok_goto (off := -82) (by decide +kernel) (by decide)) <|
  fc (ok_aldn (q := 0) (by decide +kernel) rfl) <|
  fc (ok_iconst (n := 0) (by decide +kernel) (by decide +kernel)) <|
  fc (ok_pi mk_X12_robs (fo_RX12_107 rfl) to_12_6 rfl (by decide +kernel)) <|
  fc (ok_aldn (q := 0) (by decide +kernel) rfl) <|
  fc (ok_ildn (q := 3) (by decide +kernel) rfl) <|
  fc (ok_i2l (by decide +kernel)) <|
  fc (ok_cv mk_X12_robs mk_X12_tell ⟨uw677, uw678, uw679, uw5, by decide +kernel⟩ (T := TX12) (N := 47) rfl (by decide +kernel)) <|
  fc (ok_ildn (q := 2) (by decide +kernel) rfl) <|
  fc (ok_iret rfl (by decide +kernel)) <| fn
def T_X12_order : List (Nat × Op) := [(0, op_ald 0 1), (1, op_ic 0 1), (2, op_pi 12 7), (5, op_ic 0 1), (6, op_ist 1 1), (7, op_ic 0 1), (8, op_ist 2 1), (9, op_ild 2 1), (10, op_ald 0 1), (11, op_gi 12 1), (14, op_icge 55), (17, op_ild 1 1), (18, op_ic 6 2), (20, op_icge 55), (23, op_ald 0 1), (24, op_gf 12 0 1), (27, op_ic 14 2), (29, op_ild 2 1), (30, op_iadd), (31, op_iald), (32, op_ild 2 1), (33, op_icne 39), (36, op_goto 49), (39, op_ald 0 1), (40, op_gf 12 28 17), (43, op_ild 1 1), (44, op_ild 2 1), (45, op_iast), (46, op_iinc 1 1), (49, op_iinc 2 1), (52, op_goto 9), (55, op_ald 0 1), (56, op_ic (-1) 1), (57, op_pi 12 29), (60, op_ald 0 1), (61, op_ic 0 1), (62, op_ild 1 1), (63, op_ic 0 1), (64, op_cv M_X12_goOrder 12 3), (67, op_ald 0 1), (68, op_ic 0 1), (69, op_pi 12 6), (72, op_ic 0 1), (73, op_ist 2 1), (74, op_ild 2 1), (75, op_ild 1 1), (76, op_icge 96), (79, op_ald 0 1), (80, op_ald 0 1), (81, op_gf 12 27 16), (84, op_ild 2 1), (85, op_iald), (86, op_i2l), (87, op_cv M_X12_tell 12 1), (90, op_iinc 2 1), (93, op_goto 74), (96, op_ald 0 1), (97, op_gi 12 29), (100, op_iret)]
set_option maxRecDepth 20000 in
theorem K_X12_order : ∀ r ∈ T_X12_order, OpOK M_X12_order r.1 r.2 :=
  fc (ok_aldn (q := 0) (by decide +kernel) rfl) <|
  fc (ok_iconst (n := 0) (by decide +kernel) (by decide +kernel)) <|
  fc (ok_pi mk_X12_order (fo_RX12_103 rfl) to_12_7 rfl (by decide +kernel)) <|
  fc (ok_iconst (n := 0) (by decide +kernel) (by decide +kernel)) <|
  fc (ok_istn (q := 1) (by decide +kernel) rfl (by decide)) <|
  fc (ok_iconst (n := 0) (by decide +kernel) (by decide +kernel)) <|
  fc (ok_istn (q := 2) (by decide +kernel) rfl (by decide)) <|
  fc (ok_ildn (q := 2) (by decide +kernel) rfl) <|
  fc (ok_aldn (q := 0) (by decide +kernel) rfl) <|
  fc (ok_gi mk_X12_order (fo_RX12_110 rfl) rfl (by decide +kernel)) <|
  fc (ok_icge (off := 41) (by decide +kernel) (by decide)) <|
  fc (ok_ildn (q := 1) (by decide +kernel) rfl) <|
  fc (ok_bipush (n := 6) (by decide +kernel) (by decide +kernel)) <|
  fc (ok_icge (off := 35) (by decide +kernel) (by decide)) <|
  fc (ok_aldn (q := 0) (by decide +kernel) rfl) <|
  fc (ok_gf mk_X12_order (fo_RX12_9 rfl) rfl (by decide +kernel)) <|
  fc (ok_bipush (n := 14) (by decide +kernel) (by decide +kernel)) <|
  fc (ok_ildn (q := 2) (by decide +kernel) rfl) <|
  fc (ok_iadd (by decide +kernel)) <|
  fc (ok_iald (by decide +kernel)) <|
  fc (ok_ildn (q := 2) (by decide +kernel) rfl) <|
  fc (ok_icne (off := 6) (by decide +kernel) (by decide)) <|
  fc (ok_goto (off := 13) (by decide +kernel) (by decide)) <|
  fc (ok_aldn (q := 0) (by decide +kernel) rfl) <|
  fc (ok_gf mk_X12_order (fo_RX12_60 rfl) rfl (by decide +kernel)) <|
  fc (ok_ildn (q := 1) (by decide +kernel) rfl) <|
  fc (ok_ildn (q := 2) (by decide +kernel) rfl) <|
  fc (ok_iast (by decide +kernel)) <|
  fc (ok_iinc (n := 1) (by decide +kernel) (by decide +kernel) (by decide)) <|
  fc (ok_iinc (n := 1) (by decide +kernel) (by decide +kernel) (by decide)) <|
  fc (ok_goto (off := -43) (by decide +kernel) (by decide)) <|
  fc (ok_aldn (q := 0) (by decide +kernel) rfl) <|
  fc (ok_iconst (n := -1) (by decide +kernel) (by decide +kernel)) <|
  fc (ok_pi mk_X12_order (fo_RX12_320 rfl) to_12_29 rfl (by decide +kernel)) <|
  fc (ok_aldn (q := 0) (by decide +kernel) rfl) <|
  fc (ok_iconst (n := 0) (by decide +kernel) (by decide +kernel)) <|
  fc (ok_ildn (q := 1) (by decide +kernel) rfl) <|
  fc (ok_iconst (n := 0) (by decide +kernel) (by decide +kernel)) <|
  fc (ok_cv mk_X12_order mk_X12_goOrder ⟨uw882, uw883, uw884, uw5, by decide +kernel⟩ (T := TX12) (N := 47) rfl (by decide +kernel)) <|
  fc (ok_aldn (q := 0) (by decide +kernel) rfl) <|
  fc (ok_iconst (n := 0) (by decide +kernel) (by decide +kernel)) <|
  fc (ok_pi mk_X12_order (fo_RX12_107 rfl) to_12_6 rfl (by decide +kernel)) <|
  fc (ok_iconst (n := 0) (by decide +kernel) (by decide +kernel)) <|
  fc (ok_istn (q := 2) (by decide +kernel) rfl (by decide)) <|
  fc (ok_ildn (q := 2) (by decide +kernel) rfl) <|
  fc (ok_ildn (q := 1) (by decide +kernel) rfl) <|
  fc (ok_icge (off := 20) (by decide +kernel) (by decide)) <|
  fc (ok_aldn (q := 0) (by decide +kernel) rfl) <|
  fc (ok_aldn (q := 0) (by decide +kernel) rfl) <|
  fc (ok_gf mk_X12_order (fo_RX12_57 rfl) rfl (by decide +kernel)) <|
  fc (ok_ildn (q := 2) (by decide +kernel) rfl) <|
  fc (ok_iald (by decide +kernel)) <|
  fc (ok_i2l (by decide +kernel)) <|
  fc (ok_cv mk_X12_order mk_X12_tell ⟨uw677, uw678, uw679, uw5, by decide +kernel⟩ (T := TX12) (N := 47) rfl (by decide +kernel)) <|
  fc (ok_iinc (n := 1) (by decide +kernel) (by decide +kernel) (by decide)) <|
  fc (ok_goto (off := -19) (by decide +kernel) (by decide)) <|
  fc (ok_aldn (q := 0) (by decide +kernel) rfl) <|
  fc (ok_gi mk_X12_order (fo_RX12_320 rfl) rfl (by decide +kernel)) <|
  fc (ok_iret rfl (by decide +kernel)) <| fn
def T_X12_goOrder : List (Nat × Op) := [(0, op_ild 1 1), (1, op_ild 2 1), (2, op_icne 137), (5, op_ald 0 1), (6, op_gf 12 0 1), (9, op_ald 0 1), (10, op_gf 12 22 11), (13, op_ic 0 1), (14, op_cs M_X12_lay 3), (17, op_ic 0 1), (18, op_ist 4 2), (20, op_ild 4 2), (22, op_ild 2 1), (23, op_icge 78), (26, op_ald 0 1), (27, op_ald 0 1), (28, op_gf 12 22 11), (31, op_ald 0 1), (32, op_gf 12 25 14), (35, op_ild 4 2), (37, op_iald), (38, op_ald 0 1), (39, op_gf 12 25 14), (42, op_ild 4 2), (44, op_iald), (45, op_cv M_X12_canSay 12 3), (48, op_ifeq 72), (51, op_ald 0 1), (52, op_gf 12 22 11), (55, op_ald 0 1), (56, op_gf 12 25 14), (59, op_ild 4 2), (61, op_iald), (62, op_ald 0 1), (63, op_gf 12 25 14), (66, op_ild 4 2), (68, op_iald), (69, op_cs M_X12_goSaying 3), (72, op_iinc 4 1), (75, op_goto 20), (78, op_ald 0 1), (79, op_ald 0 1), (80, op_gf 12 22 11), (83, op_cv M_X12_atHome 12 1), (86, op_cs M_J6_bitCount_0f7a4 1), (89, op_ist 4 2), (91, op_ild 4 2), (93, op_ald 0 1), (94, op_gi 12 29), (97, op_icgt 101), (100, op_vret), (101, op_ald 0 1), (102, op_ild 4 2), (104, op_pi 12 29), (107, op_ic 0 1), (108, op_ist 5 2), (110, op_ild 5 2), (112, op_ild 2 1), (113, op_icge 136), (116, op_ald 0 1), (117, op_gf 12 27 16), (120, op_ild 5 2), (122, op_ald 0 1), (123, op_gf 12 25 14), (126, op_ild 5 2), (128, op_iald), (129, op_iast), (130, op_iinc 5 1), (133, op_goto 110), (136, op_vret), (137, op_ic 0 1), (138, op_ist 4 2), (140, op_ild 4 2), (142, op_ild 2 1), (143, op_icge 191), (146, op_ild 3 1), (147, op_ild 4 2), (149, op_cs M_X12_has 2), (152, op_ifeq 158), (155, op_goto 185), (158, op_ald 0 1), (159, op_gf 12 25 14), (162, op_ild 1 1), (163, op_ald 0 1), (164, op_gf 12 28 17), (167, op_ild 4 2), (169, op_iald), (170, op_iast), (171, op_ald 0 1), (172, op_ild 1 1), (173, op_ic 1 1), (174, op_iadd), (175, op_ild 2 1), (176, op_ild 3 1), (177, op_ic 1 1), (178, op_ild 4 2), (180, op_ishl), (181, op_ior), (182, op_cv M_X12_goOrder 12 3), (185, op_iinc 4 1), (188, op_goto 140), (191, op_vret)]
set_option maxRecDepth 20000 in
theorem K_X12_goOrder : ∀ r ∈ T_X12_goOrder, OpOK M_X12_goOrder r.1 r.2 :=
  fc (ok_ildn (q := 1) (by decide +kernel) rfl) <|
  fc (ok_ildn (q := 2) (by decide +kernel) rfl) <|
  fc (ok_icne (off := 135) (by decide +kernel) (by decide)) <|
  fc (ok_aldn (q := 0) (by decide +kernel) rfl) <|
  fc (ok_gf mk_X12_goOrder (fo_RX12_9 rfl) rfl (by decide +kernel)) <|
  fc (ok_aldn (q := 0) (by decide +kernel) rfl) <|
  fc (ok_gf mk_X12_goOrder (fo_RX12_42 rfl) rfl (by decide +kernel)) <|
  fc (ok_iconst (n := 0) (by decide +kernel) (by decide +kernel)) <|
  fc (ok_cs mk_X12_goOrder mk_X12_lay ⟨uw576, uw577, uw5, by decide +kernel⟩ (by decide +kernel)) <|
  fc (ok_iconst (n := 0) (by decide +kernel) (by decide +kernel)) <|
  fc (ok_ist (by decide +kernel) (by decide)) <|
  fc (ok_ild (by decide +kernel)) <|
  fc (ok_ildn (q := 2) (by decide +kernel) rfl) <|
  fc (ok_icge (off := 55) (by decide +kernel) (by decide)) <|
  fc (ok_aldn (q := 0) (by decide +kernel) rfl) <|
  fc (ok_aldn (q := 0) (by decide +kernel) rfl) <|
  fc (ok_gf mk_X12_goOrder (fo_RX12_42 rfl) rfl (by decide +kernel)) <|
  fc (ok_aldn (q := 0) (by decide +kernel) rfl) <|
  fc (ok_gf mk_X12_goOrder (fo_RX12_51 rfl) rfl (by decide +kernel)) <|
  fc (ok_ild (by decide +kernel)) <|
  fc (ok_iald (by decide +kernel)) <|
  fc (ok_aldn (q := 0) (by decide +kernel) rfl) <|
  fc (ok_gf mk_X12_goOrder (fo_RX12_51 rfl) rfl (by decide +kernel)) <|
  fc (ok_ild (by decide +kernel)) <|
  fc (ok_iald (by decide +kernel)) <|
  fc (ok_cv mk_X12_goOrder mk_X12_canSay ⟨uw458, uw459, uw460, uw5, by decide +kernel⟩ (T := TX12) (N := 47) rfl (by decide +kernel)) <|
  fc (ok_ifeq (off := 24) (by decide +kernel) (by decide)) <|
  fc (ok_aldn (q := 0) (by decide +kernel) rfl) <|
  fc (ok_gf mk_X12_goOrder (fo_RX12_42 rfl) rfl (by decide +kernel)) <|
  fc (ok_aldn (q := 0) (by decide +kernel) rfl) <|
  fc (ok_gf mk_X12_goOrder (fo_RX12_51 rfl) rfl (by decide +kernel)) <|
  fc (ok_ild (by decide +kernel)) <|
  fc (ok_iald (by decide +kernel)) <|
  fc (ok_aldn (q := 0) (by decide +kernel) rfl) <|
  fc (ok_gf mk_X12_goOrder (fo_RX12_51 rfl) rfl (by decide +kernel)) <|
  fc (ok_ild (by decide +kernel)) <|
  fc (ok_iald (by decide +kernel)) <|
  fc (ok_cs mk_X12_goOrder mk_X12_goSaying ⟨uw579, uw580, uw5, by decide +kernel⟩ (by decide +kernel)) <|
  fc (ok_iinc (n := 1) (by decide +kernel) (by decide +kernel) (by decide)) <|
  fc (ok_goto (off := -55) (by decide +kernel) (by decide)) <|
  fc (ok_aldn (q := 0) (by decide +kernel) rfl) <|
  fc (ok_aldn (q := 0) (by decide +kernel) rfl) <|
  fc (ok_gf mk_X12_goOrder (fo_RX12_42 rfl) rfl (by decide +kernel)) <|
  fc (ok_cv mk_X12_goOrder mk_X12_atHome ⟨uw681, uw682, uw683, uw5, by decide +kernel⟩ (T := TX12) (N := 47) rfl (by decide +kernel)) <|
  fc (ok_cs mk_X12_goOrder mk_J6_bitCount_0f7a4 ⟨uw466, uw429, uw430, by decide +kernel⟩ (by decide +kernel)) <|
  fc (ok_ist (by decide +kernel) (by decide)) <|
  fc (ok_ild (by decide +kernel)) <|
  fc (ok_aldn (q := 0) (by decide +kernel) rfl) <|
  fc (ok_gi mk_X12_goOrder (fo_RX12_320 rfl) rfl (by decide +kernel)) <|
  fc (ok_icgt (off := 4) (by decide +kernel) (by decide)) <|
  fc (ok_vret rfl (by decide +kernel)) <|
  fc (ok_aldn (q := 0) (by decide +kernel) rfl) <|
  fc (ok_ild (by decide +kernel)) <|
  fc (ok_pi mk_X12_goOrder (fo_RX12_320 rfl) to_12_29 rfl (by decide +kernel)) <|
  fc (ok_iconst (n := 0) (by decide +kernel) (by decide +kernel)) <|
  fc (ok_ist (by decide +kernel) (by decide)) <|
  fc (ok_ild (by decide +kernel)) <|
  fc (ok_ildn (q := 2) (by decide +kernel) rfl) <|
  fc (ok_icge (off := 23) (by decide +kernel) (by decide)) <|
  fc (ok_aldn (q := 0) (by decide +kernel) rfl) <|
  fc (ok_gf mk_X12_goOrder (fo_RX12_57 rfl) rfl (by decide +kernel)) <|
  fc (ok_ild (by decide +kernel)) <|
  fc (ok_aldn (q := 0) (by decide +kernel) rfl) <|
  fc (ok_gf mk_X12_goOrder (fo_RX12_51 rfl) rfl (by decide +kernel)) <|
  fc (ok_ild (by decide +kernel)) <|
  fc (ok_iald (by decide +kernel)) <|
  fc (ok_iast (by decide +kernel)) <|
  fc (ok_iinc (n := 1) (by decide +kernel) (by decide +kernel) (by decide)) <|
  fc (ok_goto (off := -23) (by decide +kernel) (by decide)) <|
  fc (ok_vret rfl (by decide +kernel)) <|
  fc (ok_iconst (n := 0) (by decide +kernel) (by decide +kernel)) <|
  fc (ok_ist (by decide +kernel) (by decide)) <|
  fc (ok_ild (by decide +kernel)) <|
  fc (ok_ildn (q := 2) (by decide +kernel) rfl) <|
  fc (ok_icge (off := 48) (by decide +kernel) (by decide)) <|
  fc (ok_ildn (q := 3) (by decide +kernel) rfl) <|
  fc (ok_ild (by decide +kernel)) <|
  fc (ok_cs mk_X12_goOrder mk_X12_has ⟨uw837, uw838, uw5, by decide +kernel⟩ (by decide +kernel)) <|
  fc (ok_ifeq (off := 6) (by decide +kernel) (by decide)) <|
  fc (ok_goto (off := 30) (by decide +kernel) (by decide)) <|
  fc (ok_aldn (q := 0) (by decide +kernel) rfl) <|
  fc (ok_gf mk_X12_goOrder (fo_RX12_51 rfl) rfl (by decide +kernel)) <|
  fc (ok_ildn (q := 1) (by decide +kernel) rfl) <|
  fc (ok_aldn (q := 0) (by decide +kernel) rfl) <|
  fc (ok_gf mk_X12_goOrder (fo_RX12_60 rfl) rfl (by decide +kernel)) <|
  fc (ok_ild (by decide +kernel)) <|
  fc (ok_iald (by decide +kernel)) <|
  fc (ok_iast (by decide +kernel)) <|
  fc (ok_aldn (q := 0) (by decide +kernel) rfl) <|
  fc (ok_ildn (q := 1) (by decide +kernel) rfl) <|
  fc (ok_iconst (n := 1) (by decide +kernel) (by decide +kernel)) <|
  fc (ok_iadd (by decide +kernel)) <|
  fc (ok_ildn (q := 2) (by decide +kernel) rfl) <|
  fc (ok_ildn (q := 3) (by decide +kernel) rfl) <|
  fc (ok_iconst (n := 1) (by decide +kernel) (by decide +kernel)) <|
  fc (ok_ild (by decide +kernel)) <|
  fc (ok_ishl (by decide +kernel)) <|
  fc (ok_ior (by decide +kernel)) <|
  fc (ok_cv mk_X12_goOrder mk_X12_goOrder ⟨uw882, uw883, uw884, uw5, by decide +kernel⟩ (T := TX12) (N := 47) rfl (by decide +kernel)) <|
  fc (ok_iinc (n := 1) (by decide +kernel) (by decide +kernel) (by decide)) <|
  fc (ok_goto (off := -48) (by decide +kernel) (by decide)) <|
  fc (ok_vret rfl (by decide +kernel)) <| fn
def T_X12_silences : List (Nat × Op) := [(0, op_ald 0 1), (1, op_ic 0 1), (2, op_pi 12 7), (5, op_ild 1 1), (6, op_ic 1 1), (7, op_ic 30 2), (9, op_cs M_X12_in 3), (12, op_ifne 17), (15, op_ic (-1) 1), (16, op_iret), (17, op_ald 0 1), (18, op_gi 12 1), (21, op_ifne 27), (24, op_ic (-2) 2), (26, op_iret), (27, op_ic (-1) 1), (28, op_ist 2 1), (29, op_ic (-1) 1), (30, op_ist 3 1), (31, op_ic 0 1), (32, op_ist 4 2), (34, op_ild 4 2), (36, op_ald 0 1), (37, op_gi 12 1), (40, op_icge 73), (43, op_ald 0 1), (44, op_ild 1 1), (45, op_ild 4 2), (47, op_cv M_X12_homeIn 12 2), (50, op_ist 5 2), (52, op_ild 5 2), (54, op_ild 3 1), (55, op_icgt 61), (58, op_goto 67), (61, op_ild 4 2), (63, op_ist 2 1), (64, op_ild 5 2), (66, op_ist 3 1), (67, op_iinc 4 1), (70, op_goto 34), (73, op_ald 0 1), (74, op_ic 0 1), (75, op_pi 12 6), (78, op_ald 0 1), (79, op_ild 3 1), (80, op_i2l), (81, op_cv M_X12_tell 12 1), (84, op_ald 0 1), (85, op_ald 0 1), (86, op_ild 1 1), (87, op_ic (-1) 1), (88, op_cv M_X12_homeIn 12 2), (91, op_i2l), (92, op_cv M_X12_tell 12 1), (95, op_ild 2 1), (96, op_iret)]
set_option maxRecDepth 20000 in
theorem K_X12_silences : ∀ r ∈ T_X12_silences, OpOK M_X12_silences r.1 r.2 :=
  fc (ok_aldn (q := 0) (by decide +kernel) rfl) <|
  fc (ok_iconst (n := 0) (by decide +kernel) (by decide +kernel)) <|
  fc (ok_pi mk_X12_silences (fo_RX12_103 rfl) to_12_7 rfl (by decide +kernel)) <|
  fc (ok_ildn (q := 1) (by decide +kernel) rfl) <|
  fc (ok_iconst (n := 1) (by decide +kernel) (by decide +kernel)) <|
  fc (ok_bipush (n := 30) (by decide +kernel) (by decide +kernel)) <|
  fc (ok_cs mk_X12_silences mk_X12_in ⟨uw199, uw200, uw5, by decide +kernel⟩ (by decide +kernel)) <|
  fc (ok_ifne (off := 5) (by decide +kernel) (by decide)) <|
  fc (ok_iconst (n := -1) (by decide +kernel) (by decide +kernel)) <|
  fc (ok_iret rfl (by decide +kernel)) <|
  fc (ok_aldn (q := 0) (by decide +kernel) rfl) <|
  fc (ok_gi mk_X12_silences (fo_RX12_110 rfl) rfl (by decide +kernel)) <|
  fc (ok_ifne (off := 6) (by decide +kernel) (by decide)) <|
  fc (ok_bipush (n := -2) (by decide +kernel) (by decide +kernel)) <|
  fc (ok_iret rfl (by decide +kernel)) <|
  fc (ok_iconst (n := -1) (by decide +kernel) (by decide +kernel)) <|
  fc (ok_istn (q := 2) (by decide +kernel) rfl (by decide)) <|
  fc (ok_iconst (n := -1) (by decide +kernel) (by decide +kernel)) <|
  fc (ok_istn (q := 3) (by decide +kernel) rfl (by decide)) <|
  fc (ok_iconst (n := 0) (by decide +kernel) (by decide +kernel)) <|
  fc (ok_ist (by decide +kernel) (by decide)) <|
  fc (ok_ild (by decide +kernel)) <|
  fc (ok_aldn (q := 0) (by decide +kernel) rfl) <|
  fc (ok_gi mk_X12_silences (fo_RX12_110 rfl) rfl (by decide +kernel)) <|
  fc (ok_icge (off := 33) (by decide +kernel) (by decide)) <|
  fc (ok_aldn (q := 0) (by decide +kernel) rfl) <|
  fc (ok_ildn (q := 1) (by decide +kernel) rfl) <|
  fc (ok_ild (by decide +kernel)) <|
  fc (ok_cv mk_X12_silences mk_X12_homeIn ⟨uw898, uw899, uw900, uw5, by decide +kernel⟩ (T := TX12) (N := 47) rfl (by decide +kernel)) <|
  fc (ok_ist (by decide +kernel) (by decide)) <|
  fc (ok_ild (by decide +kernel)) <|
  fc (ok_ildn (q := 3) (by decide +kernel) rfl) <|
  fc (ok_icgt (off := 6) (by decide +kernel) (by decide)) <|
  fc (ok_goto (off := 9) (by decide +kernel) (by decide)) <|
  fc (ok_ild (by decide +kernel)) <|
  fc (ok_istn (q := 2) (by decide +kernel) rfl (by decide)) <|
  fc (ok_ild (by decide +kernel)) <|
  fc (ok_istn (q := 3) (by decide +kernel) rfl (by decide)) <|
  fc (ok_iinc (n := 1) (by decide +kernel) (by decide +kernel) (by decide)) <|
  fc (ok_goto (off := -36) (by decide +kernel) (by decide)) <|
  fc (ok_aldn (q := 0) (by decide +kernel) rfl) <|
  fc (ok_iconst (n := 0) (by decide +kernel) (by decide +kernel)) <|
  fc (ok_pi mk_X12_silences (fo_RX12_107 rfl) to_12_6 rfl (by decide +kernel)) <|
  fc (ok_aldn (q := 0) (by decide +kernel) rfl) <|
  fc (ok_ildn (q := 3) (by decide +kernel) rfl) <|
  fc (ok_i2l (by decide +kernel)) <|
  fc (ok_cv mk_X12_silences mk_X12_tell ⟨uw677, uw678, uw679, uw5, by decide +kernel⟩ (T := TX12) (N := 47) rfl (by decide +kernel)) <|
  fc (ok_aldn (q := 0) (by decide +kernel) rfl) <|
  fc (ok_aldn (q := 0) (by decide +kernel) rfl) <|
  fc (ok_ildn (q := 1) (by decide +kernel) rfl) <|
  fc (ok_iconst (n := -1) (by decide +kernel) (by decide +kernel)) <|
  fc (ok_cv mk_X12_silences mk_X12_homeIn ⟨uw898, uw899, uw900, uw5, by decide +kernel⟩ (T := TX12) (N := 47) rfl (by decide +kernel)) <|
  fc (ok_i2l (by decide +kernel)) <|
  fc (ok_cv mk_X12_silences mk_X12_tell ⟨uw677, uw678, uw679, uw5, by decide +kernel⟩ (T := TX12) (N := 47) rfl (by decide +kernel)) <|
  fc (ok_ildn (q := 2) (by decide +kernel) rfl) <|
  fc (ok_iret rfl (by decide +kernel)) <| fn
def T_X12_homeIn : List (Nat × Op) := [(0, op_ald 0 1), (1, op_gf 12 0 1), (4, op_ald 0 1), (5, op_gf 12 22 11), (8, op_ic 0 1), (9, op_cs M_X12_lay 3), (12, op_ald 0 1), (13, op_ald 0 1), (14, op_gf 12 22 11), (17, op_ild 1 1), (18, op_ild 2 1), (19, op_cv M_X12_goDays 12 3), (22, op_ald 0 1), (23, op_ald 0 1), (24, op_gf 12 22 11), (27, op_cv M_X12_atHome 12 1), (30, op_cs M_J6_bitCount_0f7a4 1), (33, op_iret)]
set_option maxRecDepth 20000 in
theorem K_X12_homeIn : ∀ r ∈ T_X12_homeIn, OpOK M_X12_homeIn r.1 r.2 :=
  fc (ok_aldn (q := 0) (by decide +kernel) rfl) <|
  fc (ok_gf mk_X12_homeIn (fo_RX12_9 rfl) rfl (by decide +kernel)) <|
  fc (ok_aldn (q := 0) (by decide +kernel) rfl) <|
  fc (ok_gf mk_X12_homeIn (fo_RX12_42 rfl) rfl (by decide +kernel)) <|
  fc (ok_iconst (n := 0) (by decide +kernel) (by decide +kernel)) <|
  fc (ok_cs mk_X12_homeIn mk_X12_lay ⟨uw576, uw577, uw5, by decide +kernel⟩ (by decide +kernel)) <|
  fc (ok_aldn (q := 0) (by decide +kernel) rfl) <|
  fc (ok_aldn (q := 0) (by decide +kernel) rfl) <|
  fc (ok_gf mk_X12_homeIn (fo_RX12_42 rfl) rfl (by decide +kernel)) <|
  fc (ok_ildn (q := 1) (by decide +kernel) rfl) <|
  fc (ok_ildn (q := 2) (by decide +kernel) rfl) <|
  fc (ok_cv mk_X12_homeIn mk_X12_goDays ⟨uw669, uw670, uw671, uw5, by decide +kernel⟩ (T := TX12) (N := 47) rfl (by decide +kernel)) <|
  fc (ok_aldn (q := 0) (by decide +kernel) rfl) <|
  fc (ok_aldn (q := 0) (by decide +kernel) rfl) <|
  fc (ok_gf mk_X12_homeIn (fo_RX12_42 rfl) rfl (by decide +kernel)) <|
  fc (ok_cv mk_X12_homeIn mk_X12_atHome ⟨uw681, uw682, uw683, uw5, by decide +kernel⟩ (T := TX12) (N := 47) rfl (by decide +kernel)) <|
  fc (ok_cs mk_X12_homeIn mk_J6_bitCount_0f7a4 ⟨uw466, uw429, uw430, by decide +kernel⟩ (by decide +kernel)) <|
  fc (ok_iret rfl (by decide +kernel)) <| fn
def T_X12_goes : List (Nat × Op) := [(0, op_ald 0 1), (1, op_ic 0 1), (2, op_pi 12 7), (5, op_ald 0 1), (6, op_ild 1 1), (7, op_cv M_X12_isOne 12 1), (10, op_ifne 15), (13, op_ic (-1) 1), (14, op_iret), (15, op_ic (-1) 1), (16, op_ist 2 1), (17, op_ic (-1) 1), (18, op_ist 3 1), (19, op_ic 0 1), (20, op_ist 4 2), (22, op_ild 4 2), (24, op_ic 10 2), (26, op_icge 116), (29, op_ald 0 1), (30, op_gf 12 0 1), (33, op_ald 0 1), (34, op_gf 12 22 11), (37, op_ic 0 1), (38, op_cs M_X12_lay 3), (41, op_ald 0 1), (42, op_gf 12 22 11), (45, op_ild 1 1), (46, op_ild 4 2), (48, op_iast), (49, op_ald 0 1), (50, op_ald 0 1), (51, op_gf 12 22 11), (54, op_ild 1 1), (55, op_cv M_X12_sayable 12 2), (58, op_cs M_J6_bitCount_0f7a4 1), (61, op_ist 5 2), (63, op_ild 5 2), (65, op_ild 3 1), (66, op_iclt 110), (69, op_ild 5 2), (71, op_ild 3 1), (72, op_icne 104), (75, op_ild 4 2), (77, op_ald 0 1), (78, op_gf 12 0 1), (81, op_ild 1 1), (82, op_iald), (83, op_isub), (84, op_abs), (87, op_ild 2 1), (88, op_ald 0 1), (89, op_gf 12 0 1), (92, op_ild 1 1), (93, op_iald), (94, op_isub), (95, op_abs), (98, op_iclt 104), (101, op_goto 110), (104, op_ild 4 2), (106, op_ist 2 1), (107, op_ild 5 2), (109, op_ist 3 1), (110, op_iinc 4 1), (113, op_goto 22), (116, op_ald 0 1), (117, op_ic 0 1), (118, op_pi 12 6), (121, op_ald 0 1), (122, op_ild 3 1), (123, op_i2l), (124, op_cv M_X12_tell 12 1), (127, op_ald 0 1), (128, op_ild 2 1), (129, op_ald 0 1), (130, op_gf 12 0 1), (133, op_ild 1 1), (134, op_iald), (135, op_isub), (136, op_abs), (139, op_i2l), (140, op_cv M_X12_tell 12 1), (143, op_ild 2 1), (144, op_iret)]
set_option maxRecDepth 20000 in
theorem K_X12_goes : ∀ r ∈ T_X12_goes, OpOK M_X12_goes r.1 r.2 :=
  fc (ok_aldn (q := 0) (by decide +kernel) rfl) <|
  fc (ok_iconst (n := 0) (by decide +kernel) (by decide +kernel)) <|
  fc (ok_pi mk_X12_goes (fo_RX12_103 rfl) to_12_7 rfl (by decide +kernel)) <|
  fc (ok_aldn (q := 0) (by decide +kernel) rfl) <|
  fc (ok_ildn (q := 1) (by decide +kernel) rfl) <|
  fc (ok_cv mk_X12_goes mk_X12_isOne ⟨uw442, uw443, uw444, uw5, by decide +kernel⟩ (T := TX12) (N := 47) rfl (by decide +kernel)) <|
  fc (ok_ifne (off := 5) (by decide +kernel) (by decide)) <|
  fc (ok_iconst (n := -1) (by decide +kernel) (by decide +kernel)) <|
  fc (ok_iret rfl (by decide +kernel)) <|
  fc (ok_iconst (n := -1) (by decide +kernel) (by decide +kernel)) <|
  fc (ok_istn (q := 2) (by decide +kernel) rfl (by decide)) <|
  fc (ok_iconst (n := -1) (by decide +kernel) (by decide +kernel)) <|
  fc (ok_istn (q := 3) (by decide +kernel) rfl (by decide)) <|
  fc (ok_iconst (n := 0) (by decide +kernel) (by decide +kernel)) <|
  fc (ok_ist (by decide +kernel) (by decide)) <|
  fc (ok_ild (by decide +kernel)) <|
  fc (ok_bipush (n := 10) (by decide +kernel) (by decide +kernel)) <|
  fc (ok_icge (off := 90) (by decide +kernel) (by decide)) <|
  fc (ok_aldn (q := 0) (by decide +kernel) rfl) <|
  fc (ok_gf mk_X12_goes (fo_RX12_9 rfl) rfl (by decide +kernel)) <|
  fc (ok_aldn (q := 0) (by decide +kernel) rfl) <|
  fc (ok_gf mk_X12_goes (fo_RX12_42 rfl) rfl (by decide +kernel)) <|
  fc (ok_iconst (n := 0) (by decide +kernel) (by decide +kernel)) <|
  fc (ok_cs mk_X12_goes mk_X12_lay ⟨uw576, uw577, uw5, by decide +kernel⟩ (by decide +kernel)) <|
  fc (ok_aldn (q := 0) (by decide +kernel) rfl) <|
  fc (ok_gf mk_X12_goes (fo_RX12_42 rfl) rfl (by decide +kernel)) <|
  fc (ok_ildn (q := 1) (by decide +kernel) rfl) <|
  fc (ok_ild (by decide +kernel)) <|
  fc (ok_iast (by decide +kernel)) <|
  fc (ok_aldn (q := 0) (by decide +kernel) rfl) <|
  fc (ok_aldn (q := 0) (by decide +kernel) rfl) <|
  fc (ok_gf mk_X12_goes (fo_RX12_42 rfl) rfl (by decide +kernel)) <|
  fc (ok_ildn (q := 1) (by decide +kernel) rfl) <|
  fc (ok_cv mk_X12_goes mk_X12_sayable ⟨uw454, uw455, uw456, uw5, by decide +kernel⟩ (T := TX12) (N := 47) rfl (by decide +kernel)) <|
  fc (ok_cs mk_X12_goes mk_J6_bitCount_0f7a4 ⟨uw466, uw429, uw430, by decide +kernel⟩ (by decide +kernel)) <|
  fc (ok_ist (by decide +kernel) (by decide)) <|
  fc (ok_ild (by decide +kernel)) <|
  fc (ok_ildn (q := 3) (by decide +kernel) rfl) <|
  fc (ok_iclt (off := 44) (by decide +kernel) (by decide)) <|
  fc (ok_ild (by decide +kernel)) <|
  fc (ok_ildn (q := 3) (by decide +kernel) rfl) <|
  fc (ok_icne (off := 32) (by decide +kernel) (by decide)) <|
  fc (ok_ild (by decide +kernel)) <|
  fc (ok_aldn (q := 0) (by decide +kernel) rfl) <|
  fc (ok_gf mk_X12_goes (fo_RX12_9 rfl) rfl (by decide +kernel)) <|
  fc (ok_ildn (q := 1) (by decide +kernel) rfl) <|
  fc (ok_iald (by decide +kernel)) <|
  fc (ok_isub (by decide +kernel)) <|
  fc (ok_abs mk_X12_goes uw465 uw423 uw212 uw424 (by decide +kernel)) <|
  fc (ok_ildn (q := 2) (by decide +kernel) rfl) <|
  fc (ok_aldn (q := 0) (by decide +kernel) rfl) <|
  fc (ok_gf mk_X12_goes (fo_RX12_9 rfl) rfl (by decide +kernel)) <|
  fc (ok_ildn (q := 1) (by decide +kernel) rfl) <|
  fc (ok_iald (by decide +kernel)) <|
  fc (ok_isub (by decide +kernel)) <|
  fc (ok_abs mk_X12_goes uw465 uw423 uw212 uw424 (by decide +kernel)) <|
  fc (ok_iclt (off := 6) (by decide +kernel) (by decide)) <|
  fc (ok_goto (off := 9) (by decide +kernel) (by decide)) <|
  fc (ok_ild (by decide +kernel)) <|
  fc (ok_istn (q := 2) (by decide +kernel) rfl (by decide)) <|
  fc (ok_ild (by decide +kernel)) <|
  fc (ok_istn (q := 3) (by decide +kernel) rfl (by decide)) <|
  fc (ok_iinc (n := 1) (by decide +kernel) (by decide +kernel) (by decide)) <|
  fc (ok_goto (off := -91) (by decide +kernel) (by decide)) <|
  fc (ok_aldn (q := 0) (by decide +kernel) rfl) <|
  fc (ok_iconst (n := 0) (by decide +kernel) (by decide +kernel)) <|
  fc (ok_pi mk_X12_goes (fo_RX12_107 rfl) to_12_6 rfl (by decide +kernel)) <|
  fc (ok_aldn (q := 0) (by decide +kernel) rfl) <|
  fc (ok_ildn (q := 3) (by decide +kernel) rfl) <|
  fc (ok_i2l (by decide +kernel)) <|
  fc (ok_cv mk_X12_goes mk_X12_tell ⟨uw677, uw678, uw679, uw5, by decide +kernel⟩ (T := TX12) (N := 47) rfl (by decide +kernel)) <|
  fc (ok_aldn (q := 0) (by decide +kernel) rfl) <|
  fc (ok_ildn (q := 2) (by decide +kernel) rfl) <|
  fc (ok_aldn (q := 0) (by decide +kernel) rfl) <|
  fc (ok_gf mk_X12_goes (fo_RX12_9 rfl) rfl (by decide +kernel)) <|
  fc (ok_ildn (q := 1) (by decide +kernel) rfl) <|
  fc (ok_iald (by decide +kernel)) <|
  fc (ok_isub (by decide +kernel)) <|
  fc (ok_abs mk_X12_goes uw465 uw423 uw212 uw424 (by decide +kernel)) <|
  fc (ok_i2l (by decide +kernel)) <|
  fc (ok_cv mk_X12_goes mk_X12_tell ⟨uw677, uw678, uw679, uw5, by decide +kernel⟩ (T := TX12) (N := 47) rfl (by decide +kernel)) <|
  fc (ok_ildn (q := 2) (by decide +kernel) rfl) <|
  fc (ok_iret rfl (by decide +kernel)) <| fn
def T_X12_peace : List (Nat × Op) := [(0, op_ald 0 1), (1, op_ic 0 1), (2, op_pi 12 7), (5, op_ald 0 1), (6, op_gf 12 0 1), (9, op_ald 0 1), (10, op_gf 12 22 11), (13, op_ic 0 1), (14, op_cs M_X12_lay 3), (17, op_ic 0 1), (18, op_ist 1 1), (19, op_ild 1 1), (20, op_ic 99 2), (22, op_icgt 77), (25, op_ald 0 1), (26, op_ald 0 1), (27, op_gf 12 22 11), (30, op_cv M_X12_atHome 12 1), (33, op_ald 0 1), (34, op_cv M_X12_all 12 0), (37, op_icne 62), (40, op_ald 0 1), (41, op_ic 0 1), (42, op_pi 12 6), (45, op_ald 0 1), (46, op_ald 0 1), (47, op_ald 0 1), (48, op_gf 12 22 11), (51, op_ic 7 2), (53, op_cv M_X12_sumOf 12 2), (56, op_i2l), (57, op_cv M_X12_tell 12 1), (60, op_ild 1 1), (61, op_iret), (62, op_ald 0 1), (63, op_ald 0 1), (64, op_gf 12 22 11), (67, op_ic (-1) 1), (68, op_cv M_X12_goDay 12 2), (71, op_iinc 1 1), (74, op_goto 19), (77, op_ic (-2) 2), (79, op_iret)]
set_option maxRecDepth 20000 in
theorem K_X12_peace : ∀ r ∈ T_X12_peace, OpOK M_X12_peace r.1 r.2 :=
  fc (ok_aldn (q := 0) (by decide +kernel) rfl) <|
  fc (ok_iconst (n := 0) (by decide +kernel) (by decide +kernel)) <|
  fc (ok_pi mk_X12_peace (fo_RX12_103 rfl) to_12_7 rfl (by decide +kernel)) <|
  fc (ok_aldn (q := 0) (by decide +kernel) rfl) <|
  fc (ok_gf mk_X12_peace (fo_RX12_9 rfl) rfl (by decide +kernel)) <|
  fc (ok_aldn (q := 0) (by decide +kernel) rfl) <|
  fc (ok_gf mk_X12_peace (fo_RX12_42 rfl) rfl (by decide +kernel)) <|
  fc (ok_iconst (n := 0) (by decide +kernel) (by decide +kernel)) <|
  fc (ok_cs mk_X12_peace mk_X12_lay ⟨uw576, uw577, uw5, by decide +kernel⟩ (by decide +kernel)) <|
  fc (ok_iconst (n := 0) (by decide +kernel) (by decide +kernel)) <|
  fc (ok_istn (q := 1) (by decide +kernel) rfl (by decide)) <|
  fc (ok_ildn (q := 1) (by decide +kernel) rfl) <|
  fc (ok_bipush (n := 99) (by decide +kernel) (by decide +kernel)) <|
  fc (ok_icgt (off := 55) (by decide +kernel) (by decide)) <|
  fc (ok_aldn (q := 0) (by decide +kernel) rfl) <|
  fc (ok_aldn (q := 0) (by decide +kernel) rfl) <|
  fc (ok_gf mk_X12_peace (fo_RX12_42 rfl) rfl (by decide +kernel)) <|
  fc (ok_cv mk_X12_peace mk_X12_atHome ⟨uw681, uw682, uw683, uw5, by decide +kernel⟩ (T := TX12) (N := 47) rfl (by decide +kernel)) <|
  fc (ok_aldn (q := 0) (by decide +kernel) rfl) <|
  fc (ok_cv mk_X12_peace mk_X12_all ⟨uw919, uw920, uw921, uw5, by decide +kernel⟩ (T := TX12) (N := 47) rfl (by decide +kernel)) <|
  fc (ok_icne (off := 25) (by decide +kernel) (by decide)) <|
  fc (ok_aldn (q := 0) (by decide +kernel) rfl) <|
  fc (ok_iconst (n := 0) (by decide +kernel) (by decide +kernel)) <|
  fc (ok_pi mk_X12_peace (fo_RX12_107 rfl) to_12_6 rfl (by decide +kernel)) <|
  fc (ok_aldn (q := 0) (by decide +kernel) rfl) <|
  fc (ok_aldn (q := 0) (by decide +kernel) rfl) <|
  fc (ok_aldn (q := 0) (by decide +kernel) rfl) <|
  fc (ok_gf mk_X12_peace (fo_RX12_42 rfl) rfl (by decide +kernel)) <|
  fc (ok_bipush (n := 7) (by decide +kernel) (by decide +kernel)) <|
  fc (ok_cv mk_X12_peace mk_X12_sumOf ⟨uw522, uw523, uw524, uw5, by decide +kernel⟩ (T := TX12) (N := 47) rfl (by decide +kernel)) <|
  fc (ok_i2l (by decide +kernel)) <|
  fc (ok_cv mk_X12_peace mk_X12_tell ⟨uw677, uw678, uw679, uw5, by decide +kernel⟩ (T := TX12) (N := 47) rfl (by decide +kernel)) <|
  fc (ok_ildn (q := 1) (by decide +kernel) rfl) <|
  fc (ok_iret rfl (by decide +kernel)) <|
  fc (ok_aldn (q := 0) (by decide +kernel) rfl) <|
  fc (ok_aldn (q := 0) (by decide +kernel) rfl) <|
  fc (ok_gf mk_X12_peace (fo_RX12_42 rfl) rfl (by decide +kernel)) <|
  fc (ok_iconst (n := -1) (by decide +kernel) (by decide +kernel)) <|
  fc (ok_cv mk_X12_peace mk_X12_goDay ⟨uw673, uw674, uw675, uw5, by decide +kernel⟩ (T := TX12) (N := 47) rfl (by decide +kernel)) <|
  fc (ok_iinc (n := 1) (by decide +kernel) (by decide +kernel) (by decide)) <|
  fc (ok_goto (off := -55) (by decide +kernel) (by decide)) <|
  fc (ok_bipush (n := -2) (by decide +kernel) (by decide +kernel)) <|
  fc (ok_iret rfl (by decide +kernel)) <| fn
def T_X12_all : List (Nat × Op) := [(0, op_ic 1 1), (1, op_ald 0 1), (2, op_gi 12 1), (5, op_ishl), (6, op_ic 1 1), (7, op_isub), (8, op_iret)]
set_option maxRecDepth 20000 in
theorem K_X12_all : ∀ r ∈ T_X12_all, OpOK M_X12_all r.1 r.2 :=
  fc (ok_iconst (n := 1) (by decide +kernel) (by decide +kernel)) <|
  fc (ok_aldn (q := 0) (by decide +kernel) rfl) <|
  fc (ok_gi mk_X12_all (fo_RX12_110 rfl) rfl (by decide +kernel)) <|
  fc (ok_ishl (by decide +kernel)) <|
  fc (ok_iconst (n := 1) (by decide +kernel) (by decide +kernel)) <|
  fc (ok_isub (by decide +kernel)) <|
  fc (ok_iret rfl (by decide +kernel)) <| fn
def T_X12_wed : List (Nat × Op) := [(0, op_ald 0 1), (1, op_ic 0 1), (2, op_pi 12 7), (5, op_ic 0 1), (6, op_ist 1 1), (7, op_ald 0 1), (8, op_ic 0 1), (9, op_pi 12 6), (12, op_ic 0 1), (13, op_ist 2 1), (14, op_ild 2 1), (15, op_ald 0 1), (16, op_gi 12 1), (19, op_icge 94), (22, op_ild 2 1), (23, op_ic 1 1), (24, op_iadd), (25, op_ist 3 1), (26, op_ild 3 1), (27, op_ald 0 1), (28, op_gi 12 1), (31, op_icge 88), (34, op_ald 0 1), (35, op_gf 12 0 1), (38, op_ic 14 2), (40, op_ild 2 1), (41, op_iadd), (42, op_iald), (43, op_ild 3 1), (44, op_icne 82), (47, op_ald 0 1), (48, op_gf 12 0 1), (51, op_ic 14 2), (53, op_ild 3 1), (54, op_iadd), (55, op_iald), (56, op_ild 2 1), (57, op_iceq 63), (60, op_goto 82), (63, op_ild 1 1), (64, op_ifne 79), (67, op_ald 0 1), (68, op_ild 2 1), (69, op_i2l), (70, op_cv M_X12_tell 12 1), (73, op_ald 0 1), (74, op_ild 3 1), (75, op_i2l), (76, op_cv M_X12_tell 12 1), (79, op_iinc 1 1), (82, op_iinc 3 1), (85, op_goto 26), (88, op_iinc 2 1), (91, op_goto 14), (94, op_ild 1 1), (95, op_iret)]
set_option maxRecDepth 20000 in
theorem K_X12_wed : ∀ r ∈ T_X12_wed, OpOK M_X12_wed r.1 r.2 :=
  fc (ok_aldn (q := 0) (by decide +kernel) rfl) <|
  fc (ok_iconst (n := 0) (by decide +kernel) (by decide +kernel)) <|
  fc (ok_pi mk_X12_wed (fo_RX12_103 rfl) to_12_7 rfl (by decide +kernel)) <|
  fc (ok_iconst (n := 0) (by decide +kernel) (by decide +kernel)) <|
  fc (ok_istn (q := 1) (by decide +kernel) rfl (by decide)) <|
  fc (ok_aldn (q := 0) (by decide +kernel) rfl) <|
  fc (ok_iconst (n := 0) (by decide +kernel) (by decide +kernel)) <|
  fc (ok_pi mk_X12_wed (fo_RX12_107 rfl) to_12_6 rfl (by decide +kernel)) <|
  fc (ok_iconst (n := 0) (by decide +kernel) (by decide +kernel)) <|
  fc (ok_istn (q := 2) (by decide +kernel) rfl (by decide)) <|
  fc (ok_ildn (q := 2) (by decide +kernel) rfl) <|
  fc (ok_aldn (q := 0) (by decide +kernel) rfl) <|
  fc (ok_gi mk_X12_wed (fo_RX12_110 rfl) rfl (by decide +kernel)) <|
  fc (ok_icge (off := 75) (by decide +kernel) (by decide)) <|
  fc (ok_ildn (q := 2) (by decide +kernel) rfl) <|
  fc (ok_iconst (n := 1) (by decide +kernel) (by decide +kernel)) <|
  fc (ok_iadd (by decide +kernel)) <|
  fc (ok_istn (q := 3) (by decide +kernel) rfl (by decide)) <|
  fc (ok_ildn (q := 3) (by decide +kernel) rfl) <|
  fc (ok_aldn (q := 0) (by decide +kernel) rfl) <|
  fc (ok_gi mk_X12_wed (fo_RX12_110 rfl) rfl (by decide +kernel)) <|
  fc (ok_icge (off := 57) (by decide +kernel) (by decide)) <|
  fc (ok_aldn (q := 0) (by decide +kernel) rfl) <|
  fc (ok_gf mk_X12_wed (fo_RX12_9 rfl) rfl (by decide +kernel)) <|
  fc (ok_bipush (n := 14) (by decide +kernel) (by decide +kernel)) <|
  fc (ok_ildn (q := 2) (by decide +kernel) rfl) <|
  fc (ok_iadd (by decide +kernel)) <|
  fc (ok_iald (by decide +kernel)) <|
  fc (ok_ildn (q := 3) (by decide +kernel) rfl) <|
  fc (ok_icne (off := 38) (by decide +kernel) (by decide)) <|
  fc (ok_aldn (q := 0) (by decide +kernel) rfl) <|
  fc (ok_gf mk_X12_wed (fo_RX12_9 rfl) rfl (by decide +kernel)) <|
  fc (ok_bipush (n := 14) (by decide +kernel) (by decide +kernel)) <|
  fc (ok_ildn (q := 3) (by decide +kernel) rfl) <|
  fc (ok_iadd (by decide +kernel)) <|
  fc (ok_iald (by decide +kernel)) <|
  fc (ok_ildn (q := 2) (by decide +kernel) rfl) <|
  fc (ok_iceq (off := 6) (by decide +kernel) (by decide)) <|
  fc (ok_goto (off := 22) (by decide +kernel) (by decide)) <|
  fc (ok_ildn (q := 1) (by decide +kernel) rfl) <|
  fc (ok_ifne (off := 15) (by decide +kernel) (by decide)) <|
  fc (ok_aldn (q := 0) (by decide +kernel) rfl) <|
  fc (ok_ildn (q := 2) (by decide +kernel) rfl) <|
  fc (ok_i2l (by decide +kernel)) <|
  fc (ok_cv mk_X12_wed mk_X12_tell ⟨uw677, uw678, uw679, uw5, by decide +kernel⟩ (T := TX12) (N := 47) rfl (by decide +kernel)) <|
  fc (ok_aldn (q := 0) (by decide +kernel) rfl) <|
  fc (ok_ildn (q := 3) (by decide +kernel) rfl) <|
  fc (ok_i2l (by decide +kernel)) <|
  fc (ok_cv mk_X12_wed mk_X12_tell ⟨uw677, uw678, uw679, uw5, by decide +kernel⟩ (T := TX12) (N := 47) rfl (by decide +kernel)) <|
  fc (ok_iinc (n := 1) (by decide +kernel) (by decide +kernel) (by decide)) <|
  fc (ok_iinc (n := 1) (by decide +kernel) (by decide +kernel) (by decide)) <|
  fc (ok_goto (off := -59) (by decide +kernel) (by decide)) <|
  fc (ok_iinc (n := 1) (by decide +kernel) (by decide +kernel) (by decide)) <|
  fc (ok_goto (off := -77) (by decide +kernel) (by decide)) <|
  fc (ok_ildn (q := 1) (by decide +kernel) rfl) <|
  fc (ok_iret rfl (by decide +kernel)) <| fn
def T_X12_loud : List (Nat × Op) := [(0, op_ald 0 1), (1, op_ic 0 1), (2, op_pi 12 7), (5, op_ald 0 1), (6, op_gi 12 1), (9, op_ifne 15), (12, op_ic (-2) 2), (14, op_iret), (15, op_ic 0 1), (16, op_ist 1 1), (17, op_ic 0 1), (18, op_ist 2 1), (19, op_ic 0 1), (20, op_ist 3 1), (21, op_ild 3 1), (22, op_ald 0 1), (23, op_gi 12 1), (26, op_icge 77), (29, op_ald 0 1), (30, op_ald 0 1), (31, op_gf 12 0 1), (34, op_ild 3 1), (35, op_cv M_X12_sayable 12 2), (38, op_ist 4 2), (40, op_ild 2 1), (41, op_ild 4 2), (43, op_ior), (44, op_ist 2 1), (45, op_ild 4 2), (47, op_cs M_J6_bitCount_0f7a4 1), (50, op_ald 0 1), (51, op_ald 0 1), (52, op_gf 12 0 1), (55, op_ild 1 1), (56, op_cv M_X12_sayable 12 2), (59, op_cs M_J6_bitCount_0f7a4 1), (62, op_icle 69), (65, op_ild 3 1), (66, op_goto 70), (69, op_ild 1 1), (70, op_ist 1 1), (71, op_iinc 3 1), (74, op_goto 21), (77, op_ald 0 1), (78, op_ic 0 1), (79, op_pi 12 6), (82, op_ald 0 1), (83, op_ald 0 1), (84, op_ald 0 1), (85, op_gf 12 0 1), (88, op_ild 1 1), (89, op_cv M_X12_sayable 12 2), (92, op_cs M_J6_bitCount_0f7a4 1), (95, op_i2l), (96, op_cv M_X12_tell 12 1), (99, op_ald 0 1), (100, op_ald 0 1), (101, op_cv M_X12_all 12 0), (104, op_ild 2 1), (105, op_ic (-1) 1), (106, op_ixor), (107, op_iand), (108, op_i2l), (109, op_cv M_X12_tell 12 1), (112, op_ild 1 1), (113, op_iret)]
set_option maxRecDepth 20000 in
theorem K_X12_loud : ∀ r ∈ T_X12_loud, OpOK M_X12_loud r.1 r.2 :=
  fc (ok_aldn (q := 0) (by decide +kernel) rfl) <|
  fc (ok_iconst (n := 0) (by decide +kernel) (by decide +kernel)) <|
  fc (ok_pi mk_X12_loud (fo_RX12_103 rfl) to_12_7 rfl (by decide +kernel)) <|
  fc (ok_aldn (q := 0) (by decide +kernel) rfl) <|
  fc (ok_gi mk_X12_loud (fo_RX12_110 rfl) rfl (by decide +kernel)) <|
  fc (ok_ifne (off := 6) (by decide +kernel) (by decide)) <|
  fc (ok_bipush (n := -2) (by decide +kernel) (by decide +kernel)) <|
  fc (ok_iret rfl (by decide +kernel)) <|
  fc (ok_iconst (n := 0) (by decide +kernel) (by decide +kernel)) <|
  fc (ok_istn (q := 1) (by decide +kernel) rfl (by decide)) <|
  fc (ok_iconst (n := 0) (by decide +kernel) (by decide +kernel)) <|
  fc (ok_istn (q := 2) (by decide +kernel) rfl (by decide)) <|
  fc (ok_iconst (n := 0) (by decide +kernel) (by decide +kernel)) <|
  fc (ok_istn (q := 3) (by decide +kernel) rfl (by decide)) <|
  fc (ok_ildn (q := 3) (by decide +kernel) rfl) <|
  fc (ok_aldn (q := 0) (by decide +kernel) rfl) <|
  fc (ok_gi mk_X12_loud (fo_RX12_110 rfl) rfl (by decide +kernel)) <|
  fc (ok_icge (off := 51) (by decide +kernel) (by decide)) <|
  fc (ok_aldn (q := 0) (by decide +kernel) rfl) <|
  fc (ok_aldn (q := 0) (by decide +kernel) rfl) <|
  fc (ok_gf mk_X12_loud (fo_RX12_9 rfl) rfl (by decide +kernel)) <|
  fc (ok_ildn (q := 3) (by decide +kernel) rfl) <|
  fc (ok_cv mk_X12_loud mk_X12_sayable ⟨uw454, uw455, uw456, uw5, by decide +kernel⟩ (T := TX12) (N := 47) rfl (by decide +kernel)) <|
  fc (ok_ist (by decide +kernel) (by decide)) <|
  fc (ok_ildn (q := 2) (by decide +kernel) rfl) <|
  fc (ok_ild (by decide +kernel)) <|
  fc (ok_ior (by decide +kernel)) <|
  fc (ok_istn (q := 2) (by decide +kernel) rfl (by decide)) <|
  fc (ok_ild (by decide +kernel)) <|
  fc (ok_cs mk_X12_loud mk_J6_bitCount_0f7a4 ⟨uw466, uw429, uw430, by decide +kernel⟩ (by decide +kernel)) <|
  fc (ok_aldn (q := 0) (by decide +kernel) rfl) <|
  fc (ok_aldn (q := 0) (by decide +kernel) rfl) <|
  fc (ok_gf mk_X12_loud (fo_RX12_9 rfl) rfl (by decide +kernel)) <|
  fc (ok_ildn (q := 1) (by decide +kernel) rfl) <|
  fc (ok_cv mk_X12_loud mk_X12_sayable ⟨uw454, uw455, uw456, uw5, by decide +kernel⟩ (T := TX12) (N := 47) rfl (by decide +kernel)) <|
  fc (ok_cs mk_X12_loud mk_J6_bitCount_0f7a4 ⟨uw466, uw429, uw430, by decide +kernel⟩ (by decide +kernel)) <|
  fc (ok_icle (off := 7) (by decide +kernel) (by decide)) <|
  fc (ok_ildn (q := 3) (by decide +kernel) rfl) <|
  fc (ok_goto (off := 4) (by decide +kernel) (by decide)) <|
  fc (ok_ildn (q := 1) (by decide +kernel) rfl) <|
  fc (ok_istn (q := 1) (by decide +kernel) rfl (by decide)) <|
  fc (ok_iinc (n := 1) (by decide +kernel) (by decide +kernel) (by decide)) <|
  fc (ok_goto (off := -53) (by decide +kernel) (by decide)) <|
  fc (ok_aldn (q := 0) (by decide +kernel) rfl) <|
  fc (ok_iconst (n := 0) (by decide +kernel) (by decide +kernel)) <|
  fc (ok_pi mk_X12_loud (fo_RX12_107 rfl) to_12_6 rfl (by decide +kernel)) <|
  fc (ok_aldn (q := 0) (by decide +kernel) rfl) <|
  fc (ok_aldn (q := 0) (by decide +kernel) rfl) <|
  fc (ok_aldn (q := 0) (by decide +kernel) rfl) <|
  fc (ok_gf mk_X12_loud (fo_RX12_9 rfl) rfl (by decide +kernel)) <|
  fc (ok_ildn (q := 1) (by decide +kernel) rfl) <|
  fc (ok_cv mk_X12_loud mk_X12_sayable ⟨uw454, uw455, uw456, uw5, by decide +kernel⟩ (T := TX12) (N := 47) rfl (by decide +kernel)) <|
  fc (ok_cs mk_X12_loud mk_J6_bitCount_0f7a4 ⟨uw466, uw429, uw430, by decide +kernel⟩ (by decide +kernel)) <|
  fc (ok_i2l (by decide +kernel)) <|
  fc (ok_cv mk_X12_loud mk_X12_tell ⟨uw677, uw678, uw679, uw5, by decide +kernel⟩ (T := TX12) (N := 47) rfl (by decide +kernel)) <|
  fc (ok_aldn (q := 0) (by decide +kernel) rfl) <|
  fc (ok_aldn (q := 0) (by decide +kernel) rfl) <|
  fc (ok_cv mk_X12_loud mk_X12_all ⟨uw919, uw920, uw921, uw5, by decide +kernel⟩ (T := TX12) (N := 47) rfl (by decide +kernel)) <|
  fc (ok_ildn (q := 2) (by decide +kernel) rfl) <|
  fc (ok_iconst (n := -1) (by decide +kernel) (by decide +kernel)) <|
  fc (ok_ixor (by decide +kernel)) <|
  fc (ok_iand (by decide +kernel)) <|
  fc (ok_i2l (by decide +kernel)) <|
  fc (ok_cv mk_X12_loud mk_X12_tell ⟨uw677, uw678, uw679, uw5, by decide +kernel⟩ (T := TX12) (N := 47) rfl (by decide +kernel)) <|
  fc (ok_ildn (q := 1) (by decide +kernel) rfl) <|
  fc (ok_iret rfl (by decide +kernel)) <| fn
def T_X12_mouths : List (Nat × Op) := [(0, op_ald 0 1), (1, op_ic 0 1), (2, op_pi 12 7), (5, op_ald 0 1), (6, op_gi 12 1), (9, op_ic 2 1), (10, op_icge 16), (13, op_ic (-2) 2), (15, op_iret), (16, op_ic 0 1), (17, op_ist 1 1), (18, op_ild 1 1), (19, op_ald 0 1), (20, op_cv M_X12_all 12 0), (23, op_icgt 47), (26, op_ald 0 1), (27, op_gf 12 30 18), (30, op_ald 0 1), (31, op_gi 12 1), (34, op_ic 7 2), (36, op_ishl), (37, op_ild 1 1), (38, op_ior), (39, op_ic 0 1), (40, op_iast), (41, op_iinc 1 1), (44, op_goto 18), (47, op_ald 0 1), (48, op_gi 12 1), (51, op_ic 1 1), (52, op_isub), (53, op_ist 1 1), (54, op_ild 1 1), (55, op_iflt 159), (58, op_ic 0 1), (59, op_ist 2 1), (60, op_ild 2 1), (61, op_ald 0 1), (62, op_cv M_X12_all 12 0), (65, op_icgt 153), (68, op_ic (1000000) 3), (71, op_ist 3 1), (72, op_ic 0 1), (73, op_ist 4 2), (75, op_ild 4 2), (77, op_ald 0 1), (78, op_gi 12 1), (81, op_icge 135), (84, op_ald 0 1), (85, op_ild 1 1), (86, op_ild 4 2), (88, op_ild 2 1), (89, op_cv M_X12_canMouth 12 3), (92, op_ifeq 129), (95, op_ild 3 1), (96, op_ald 0 1), (97, op_gf 12 0 1), (100, op_ild 1 1), (101, op_ild 4 2), (103, op_cs M_X12_farOf 3), (106, op_ald 0 1), (107, op_gf 12 30 18), (110, op_ild 1 1), (111, op_ic 1 1), (112, op_iadd), (113, op_ic 7 2), (115, op_ishl), (116, op_ild 2 1), (117, op_ior), (118, op_ic 1 1), (119, op_ild 4 2), (121, op_ishl), (122, op_ior), (123, op_iald), (124, op_iadd), (125, op_min), (128, op_ist 3 1), (129, op_iinc 4 1), (132, op_goto 75), (135, op_ald 0 1), (136, op_gf 12 30 18), (139, op_ild 1 1), (140, op_ic 7 2), (142, op_ishl), (143, op_ild 2 1), (144, op_ior), (145, op_ild 3 1), (146, op_iast), (147, op_iinc 2 1), (150, op_goto 60), (153, op_iinc 1 (-1)), (156, op_goto 54), (159, op_ic 0 1), (160, op_ist 1 1), (161, op_ald 0 1), (162, op_ic 0 1), (163, op_pi 12 6), (166, op_ic 0 1), (167, op_ist 2 1), (168, op_ild 2 1), (169, op_ald 0 1), (170, op_gi 12 1), (173, op_icge 253), (176, op_ic 0 1), (177, op_ist 3 1), (178, op_ald 0 1), (179, op_ild 2 1), (180, op_ild 3 1), (181, op_ild 1 1), (182, op_cv M_X12_canMouth 12 3), (185, op_ifeq 229), (188, op_ald 0 1), (189, op_gf 12 0 1), (192, op_ild 2 1), (193, op_ild 3 1), (194, op_cs M_X12_farOf 3), (197, op_ald 0 1), (198, op_gf 12 30 18), (201, op_ild 2 1), (202, op_ic 1 1), (203, op_iadd), (204, op_ic 7 2), (206, op_ishl), (207, op_ild 1 1), (208, op_ior), (209, op_ic 1 1), (210, op_ild 3 1), (211, op_ishl), (212, op_ior), (213, op_iald), (214, op_iadd), (215, op_ald 0 1), (216, op_gf 12 30 18), (219, op_ild 2 1), (220, op_ic 7 2), (222, op_ishl), (223, op_ild 1 1), (224, op_ior), (225, op_iald), (226, op_iceq 235), (229, op_iinc 3 1), (232, op_goto 178), (235, op_ild 1 1), (236, op_ic 1 1), (237, op_ild 3 1), (238, op_ishl), (239, op_ior), (240, op_ist 1 1), (241, op_ald 0 1), (242, op_ild 3 1), (243, op_i2l), (244, op_cv M_X12_tell 12 1), (247, op_iinc 2 1), (250, op_goto 168), (253, op_ald 0 1), (254, op_gf 12 30 18), (257, op_ic 0 1), (258, op_iald), (259, op_iret)]
set_option maxRecDepth 20000 in
theorem K_X12_mouths : ∀ r ∈ T_X12_mouths, OpOK M_X12_mouths r.1 r.2 :=
  fc (ok_aldn (q := 0) (by decide +kernel) rfl) <|
  fc (ok_iconst (n := 0) (by decide +kernel) (by decide +kernel)) <|
  fc (ok_pi mk_X12_mouths (fo_RX12_103 rfl) to_12_7 rfl (by decide +kernel)) <|
  fc (ok_aldn (q := 0) (by decide +kernel) rfl) <|
  fc (ok_gi mk_X12_mouths (fo_RX12_110 rfl) rfl (by decide +kernel)) <|
  fc (ok_iconst (n := 2) (by decide +kernel) (by decide +kernel)) <|
  fc (ok_icge (off := 6) (by decide +kernel) (by decide)) <|
  fc (ok_bipush (n := -2) (by decide +kernel) (by decide +kernel)) <|
  fc (ok_iret rfl (by decide +kernel)) <|
  fc (ok_iconst (n := 0) (by decide +kernel) (by decide +kernel)) <|
  fc (ok_istn (q := 1) (by decide +kernel) rfl (by decide)) <|
  fc (ok_ildn (q := 1) (by decide +kernel) rfl) <|
  fc (ok_aldn (q := 0) (by decide +kernel) rfl) <|
  fc (ok_cv mk_X12_mouths mk_X12_all ⟨uw919, uw920, uw921, uw5, by decide +kernel⟩ (T := TX12) (N := 47) rfl (by decide +kernel)) <|
  fc (ok_icgt (off := 24) (by decide +kernel) (by decide)) <|
  fc (ok_aldn (q := 0) (by decide +kernel) rfl) <|
  fc (ok_gf mk_X12_mouths (fo_RX12_63 rfl) rfl (by decide +kernel)) <|
  fc (ok_aldn (q := 0) (by decide +kernel) rfl) <|
  fc (ok_gi mk_X12_mouths (fo_RX12_110 rfl) rfl (by decide +kernel)) <|
  fc (ok_bipush (n := 7) (by decide +kernel) (by decide +kernel)) <|
  fc (ok_ishl (by decide +kernel)) <|
  fc (ok_ildn (q := 1) (by decide +kernel) rfl) <|
  fc (ok_ior (by decide +kernel)) <|
  fc (ok_iconst (n := 0) (by decide +kernel) (by decide +kernel)) <|
  fc (ok_iast (by decide +kernel)) <|
  fc (ok_iinc (n := 1) (by decide +kernel) (by decide +kernel) (by decide)) <|
  fc (ok_goto (off := -26) (by decide +kernel) (by decide)) <|
  fc (ok_aldn (q := 0) (by decide +kernel) rfl) <|
  fc (ok_gi mk_X12_mouths (fo_RX12_110 rfl) rfl (by decide +kernel)) <|
  fc (ok_iconst (n := 1) (by decide +kernel) (by decide +kernel)) <|
  fc (ok_isub (by decide +kernel)) <|
  fc (ok_istn (q := 1) (by decide +kernel) rfl (by decide)) <|
  fc (ok_ildn (q := 1) (by decide +kernel) rfl) <|
  fc (ok_iflt (off := 104) (by decide +kernel) (by decide)) <|
  fc (ok_iconst (n := 0) (by decide +kernel) (by decide +kernel)) <|
  fc (ok_istn (q := 2) (by decide +kernel) rfl (by decide)) <|
  fc (ok_ildn (q := 2) (by decide +kernel) rfl) <|
  fc (ok_aldn (q := 0) (by decide +kernel) rfl) <|
  fc (ok_cv mk_X12_mouths mk_X12_all ⟨uw919, uw920, uw921, uw5, by decide +kernel⟩ (T := TX12) (N := 47) rfl (by decide +kernel)) <|
  fc (ok_icgt (off := 88) (by decide +kernel) (by decide)) <|
  fc (ok_ldcw mk_X12_mouths uw964 (by decide +kernel)) <|
  fc (ok_istn (q := 3) (by decide +kernel) rfl (by decide)) <|
  fc (ok_iconst (n := 0) (by decide +kernel) (by decide +kernel)) <|
  fc (ok_ist (by decide +kernel) (by decide)) <|
  fc (ok_ild (by decide +kernel)) <|
  fc (ok_aldn (q := 0) (by decide +kernel) rfl) <|
  fc (ok_gi mk_X12_mouths (fo_RX12_110 rfl) rfl (by decide +kernel)) <|
  fc (ok_icge (off := 54) (by decide +kernel) (by decide)) <|
  fc (ok_aldn (q := 0) (by decide +kernel) rfl) <|
  fc (ok_ildn (q := 1) (by decide +kernel) rfl) <|
  fc (ok_ild (by decide +kernel)) <|
  fc (ok_ildn (q := 2) (by decide +kernel) rfl) <|
  fc (ok_cv mk_X12_mouths mk_X12_canMouth ⟨uw965, uw966, uw967, uw5, by decide +kernel⟩ (T := TX12) (N := 47) rfl (by decide +kernel)) <|
  fc (ok_ifeq (off := 37) (by decide +kernel) (by decide)) <|
  fc (ok_ildn (q := 3) (by decide +kernel) rfl) <|
  fc (ok_aldn (q := 0) (by decide +kernel) rfl) <|
  fc (ok_gf mk_X12_mouths (fo_RX12_9 rfl) rfl (by decide +kernel)) <|
  fc (ok_ildn (q := 1) (by decide +kernel) rfl) <|
  fc (ok_ild (by decide +kernel)) <|
  fc (ok_cs mk_X12_mouths mk_X12_farOf ⟨uw462, uw463, uw5, by decide +kernel⟩ (by decide +kernel)) <|
  fc (ok_aldn (q := 0) (by decide +kernel) rfl) <|
  fc (ok_gf mk_X12_mouths (fo_RX12_63 rfl) rfl (by decide +kernel)) <|
  fc (ok_ildn (q := 1) (by decide +kernel) rfl) <|
  fc (ok_iconst (n := 1) (by decide +kernel) (by decide +kernel)) <|
  fc (ok_iadd (by decide +kernel)) <|
  fc (ok_bipush (n := 7) (by decide +kernel) (by decide +kernel)) <|
  fc (ok_ishl (by decide +kernel)) <|
  fc (ok_ildn (q := 2) (by decide +kernel) rfl) <|
  fc (ok_ior (by decide +kernel)) <|
  fc (ok_iconst (n := 1) (by decide +kernel) (by decide +kernel)) <|
  fc (ok_ild (by decide +kernel)) <|
  fc (ok_ishl (by decide +kernel)) <|
  fc (ok_ior (by decide +kernel)) <|
  fc (ok_iald (by decide +kernel)) <|
  fc (ok_iadd (by decide +kernel)) <|
  fc (ok_min mk_X12_mouths uw520 uw211 uw212 uw213 (by decide +kernel)) <|
  fc (ok_istn (q := 3) (by decide +kernel) rfl (by decide)) <|
  fc (ok_iinc (n := 1) (by decide +kernel) (by decide +kernel) (by decide)) <|
  fc (ok_goto (off := -57) (by decide +kernel) (by decide)) <|
  fc (ok_aldn (q := 0) (by decide +kernel) rfl) <|
  fc (ok_gf mk_X12_mouths (fo_RX12_63 rfl) rfl (by decide +kernel)) <|
  fc (ok_ildn (q := 1) (by decide +kernel) rfl) <|
  fc (ok_bipush (n := 7) (by decide +kernel) (by decide +kernel)) <|
  fc (ok_ishl (by decide +kernel)) <|
  fc (ok_ildn (q := 2) (by decide +kernel) rfl) <|
  fc (ok_ior (by decide +kernel)) <|
  fc (ok_ildn (q := 3) (by decide +kernel) rfl) <|
  fc (ok_iast (by decide +kernel)) <|
  fc (ok_iinc (n := 1) (by decide +kernel) (by decide +kernel) (by decide)) <|
  fc (ok_goto (off := -90) (by decide +kernel) (by decide)) <|
  fc (ok_iinc (n := -1) (by decide +kernel) (by decide +kernel) (by decide)) <|
  fc (ok_goto (off := -102) (by decide +kernel) (by decide)) <|
  fc (ok_iconst (n := 0) (by decide +kernel) (by decide +kernel)) <|
  fc (ok_istn (q := 1) (by decide +kernel) rfl (by decide)) <|
  fc (ok_aldn (q := 0) (by decide +kernel) rfl) <|
  fc (ok_iconst (n := 0) (by decide +kernel) (by decide +kernel)) <|
  fc (ok_pi mk_X12_mouths (fo_RX12_107 rfl) to_12_6 rfl (by decide +kernel)) <|
  fc (ok_iconst (n := 0) (by decide +kernel) (by decide +kernel)) <|
  fc (ok_istn (q := 2) (by decide +kernel) rfl (by decide)) <|
  fc (ok_ildn (q := 2) (by decide +kernel) rfl) <|
  fc (ok_aldn (q := 0) (by decide +kernel) rfl) <|
  fc (ok_gi mk_X12_mouths (fo_RX12_110 rfl) rfl (by decide +kernel)) <|
  fc (ok_icge (off := 80) (by decide +kernel) (by decide)) <|
  fc (ok_iconst (n := 0) (by decide +kernel) (by decide +kernel)) <|
  fc (ok_istn (q := 3) (by decide +kernel) rfl (by decide)) <|
  fc (ok_aldn (q := 0) (by decide +kernel) rfl) <|
  fc (ok_ildn (q := 2) (by decide +kernel) rfl) <|
  fc (ok_ildn (q := 3) (by decide +kernel) rfl) <|
  fc (ok_ildn (q := 1) (by decide +kernel) rfl) <|
  fc (ok_cv mk_X12_mouths mk_X12_canMouth ⟨uw965, uw966, uw967, uw5, by decide +kernel⟩ (T := TX12) (N := 47) rfl (by decide +kernel)) <|
  fc (ok_ifeq (off := 44) (by decide +kernel) (by decide)) <|
  fc (ok_aldn (q := 0) (by decide +kernel) rfl) <|
  fc (ok_gf mk_X12_mouths (fo_RX12_9 rfl) rfl (by decide +kernel)) <|
  fc (ok_ildn (q := 2) (by decide +kernel) rfl) <|
  fc (ok_ildn (q := 3) (by decide +kernel) rfl) <|
  fc (ok_cs mk_X12_mouths mk_X12_farOf ⟨uw462, uw463, uw5, by decide +kernel⟩ (by decide +kernel)) <|
  fc (ok_aldn (q := 0) (by decide +kernel) rfl) <|
  fc (ok_gf mk_X12_mouths (fo_RX12_63 rfl) rfl (by decide +kernel)) <|
  fc (ok_ildn (q := 2) (by decide +kernel) rfl) <|
  fc (ok_iconst (n := 1) (by decide +kernel) (by decide +kernel)) <|
  fc (ok_iadd (by decide +kernel)) <|
  fc (ok_bipush (n := 7) (by decide +kernel) (by decide +kernel)) <|
  fc (ok_ishl (by decide +kernel)) <|
  fc (ok_ildn (q := 1) (by decide +kernel) rfl) <|
  fc (ok_ior (by decide +kernel)) <|
  fc (ok_iconst (n := 1) (by decide +kernel) (by decide +kernel)) <|
  fc (ok_ildn (q := 3) (by decide +kernel) rfl) <|
  fc (ok_ishl (by decide +kernel)) <|
  fc (ok_ior (by decide +kernel)) <|
  fc (ok_iald (by decide +kernel)) <|
  fc (ok_iadd (by decide +kernel)) <|
  fc (ok_aldn (q := 0) (by decide +kernel) rfl) <|
  fc (ok_gf mk_X12_mouths (fo_RX12_63 rfl) rfl (by decide +kernel)) <|
  fc (ok_ildn (q := 2) (by decide +kernel) rfl) <|
  fc (ok_bipush (n := 7) (by decide +kernel) (by decide +kernel)) <|
  fc (ok_ishl (by decide +kernel)) <|
  fc (ok_ildn (q := 1) (by decide +kernel) rfl) <|
  fc (ok_ior (by decide +kernel)) <|
  fc (ok_iald (by decide +kernel)) <|
  fc (ok_iceq (off := 9) (by decide +kernel) (by decide)) <|
  fc (ok_iinc (n := 1) (by decide +kernel) (by decide +kernel) (by decide)) <|
  fc (ok_goto (off := -54) (by decide +kernel) (by decide)) <|
  fc (ok_ildn (q := 1) (by decide +kernel) rfl) <|
  fc (ok_iconst (n := 1) (by decide +kernel) (by decide +kernel)) <|
  fc (ok_ildn (q := 3) (by decide +kernel) rfl) <|
  fc (ok_ishl (by decide +kernel)) <|
  fc (ok_ior (by decide +kernel)) <|
  fc (ok_istn (q := 1) (by decide +kernel) rfl (by decide)) <|
  fc (ok_aldn (q := 0) (by decide +kernel) rfl) <|
  fc (ok_ildn (q := 3) (by decide +kernel) rfl) <|
  fc (ok_i2l (by decide +kernel)) <|
  fc (ok_cv mk_X12_mouths mk_X12_tell ⟨uw677, uw678, uw679, uw5, by decide +kernel⟩ (T := TX12) (N := 47) rfl (by decide +kernel)) <|
  fc (ok_iinc (n := 1) (by decide +kernel) (by decide +kernel) (by decide)) <|
  fc (ok_goto (off := -82) (by decide +kernel) (by decide)) <|
  fc (ok_aldn (q := 0) (by decide +kernel) rfl) <|
  fc (ok_gf mk_X12_mouths (fo_RX12_63 rfl) rfl (by decide +kernel)) <|
  fc (ok_iconst (n := 0) (by decide +kernel) (by decide +kernel)) <|
  fc (ok_iald (by decide +kernel)) <|
  fc (ok_iret rfl (by decide +kernel)) <| fn
def T_X12_canMouth : List (Nat × Op) := [(0, op_ild 2 1), (1, op_ild 1 1), (2, op_iceq 17), (5, op_ild 3 1), (6, op_ild 2 1), (7, op_cs M_X12_has 2), (10, op_ifne 17), (13, op_ic 1 1), (14, op_goto 18), (17, op_ic 0 1), (18, op_zret)]
set_option maxRecDepth 20000 in
theorem K_X12_canMouth : ∀ r ∈ T_X12_canMouth, OpOK M_X12_canMouth r.1 r.2 :=
  fc (ok_ildn (q := 2) (by decide +kernel) rfl) <|
  fc (ok_ildn (q := 1) (by decide +kernel) rfl) <|
  fc (ok_iceq (off := 15) (by decide +kernel) (by decide)) <|
  fc (ok_ildn (q := 3) (by decide +kernel) rfl) <|
  fc (ok_ildn (q := 2) (by decide +kernel) rfl) <|
  fc (ok_cs mk_X12_canMouth mk_X12_has ⟨uw837, uw838, uw5, by decide +kernel⟩ (by decide +kernel)) <|
  fc (ok_ifne (off := 7) (by decide +kernel) (by decide)) <|
  fc (ok_iconst (n := 1) (by decide +kernel) (by decide +kernel)) <|
  fc (ok_goto (off := 4) (by decide +kernel) (by decide)) <|
  fc (ok_iconst (n := 0) (by decide +kernel) (by decide +kernel)) <|
  fc (ok_zret rfl (by decide +kernel)) <| fn
def T_X12_criers : List (Nat × Op) := [(0, op_ald 0 1), (1, op_ic 0 1), (2, op_pi 12 7), (5, op_ild 1 1), (6, op_ic 0 1), (7, op_ic 9 2), (9, op_cs M_X12_in 3), (12, op_ifne 17), (15, op_ic (-1) 1), (16, op_iret), (17, op_ald 0 1), (18, op_cv M_X12_all 12 0), (21, op_ist 2 1), (22, op_ald 0 1), (23, op_cv M_X12_all 12 0), (26, op_ist 3 1), (27, op_ild 3 1), (28, op_iflt 146), (31, op_ild 3 1), (32, op_cs M_J6_bitCount_0f7a4 1), (35, op_ild 2 1), (36, op_cs M_J6_bitCount_0f7a4 1), (39, op_icgt 46), (42, op_ic 1 1), (43, op_goto 47), (46, op_ic 0 1), (47, op_ist 4 2), (49, op_ic 0 1), (50, op_ist 5 2), (52, op_ild 5 2), (54, op_ald 0 1), (55, op_gi 12 1), (58, op_icge 133), (61, op_ild 4 2), (63, op_ifeq 133), (66, op_ic 0 1), (67, op_ist 6 2), (69, op_ic 0 1), (70, op_ist 7 2), (72, op_ild 7 2), (74, op_ald 0 1), (75, op_gi 12 1), (78, op_icge 123), (81, op_ild 6 2), (83, op_ifne 110), (86, op_ild 3 1), (87, op_ild 7 2), (89, op_cs M_X12_has 2), (92, op_ifeq 114), (95, op_ald 0 1), (96, op_gf 12 0 1), (99, op_ild 5 2), (101, op_ild 7 2), (103, op_cs M_X12_farOf 3), (106, op_ild 1 1), (107, op_icgt 114), (110, op_ic 1 1), (111, op_goto 115), (114, op_ic 0 1), (115, op_ist 6 2), (117, op_iinc 7 1), (120, op_goto 72), (123, op_ild 6 2), (125, op_ist 4 2), (127, op_iinc 5 1), (130, op_goto 52), (133, op_ild 4 2), (135, op_ifeq 140), (138, op_ild 3 1), (139, op_ist 2 1), (140, op_iinc 3 (-1)), (143, op_goto 27), (146, op_ald 0 1), (147, op_ic 0 1), (148, op_pi 12 6), (151, op_ald 0 1), (152, op_ild 2 1), (153, op_i2l), (154, op_cv M_X12_tell 12 1), (157, op_ild 2 1), (158, op_cs M_J6_bitCount_0f7a4 1), (161, op_iret)]
set_option maxRecDepth 20000 in
theorem K_X12_criers : ∀ r ∈ T_X12_criers, OpOK M_X12_criers r.1 r.2 :=
  fc (ok_aldn (q := 0) (by decide +kernel) rfl) <|
  fc (ok_iconst (n := 0) (by decide +kernel) (by decide +kernel)) <|
  fc (ok_pi mk_X12_criers (fo_RX12_103 rfl) to_12_7 rfl (by decide +kernel)) <|
  fc (ok_ildn (q := 1) (by decide +kernel) rfl) <|
  fc (ok_iconst (n := 0) (by decide +kernel) (by decide +kernel)) <|
  fc (ok_bipush (n := 9) (by decide +kernel) (by decide +kernel)) <|
  fc (ok_cs mk_X12_criers mk_X12_in ⟨uw199, uw200, uw5, by decide +kernel⟩ (by decide +kernel)) <|
  fc (ok_ifne (off := 5) (by decide +kernel) (by decide)) <|
  fc (ok_iconst (n := -1) (by decide +kernel) (by decide +kernel)) <|
  fc (ok_iret rfl (by decide +kernel)) <|
  fc (ok_aldn (q := 0) (by decide +kernel) rfl) <|
  fc (ok_cv mk_X12_criers mk_X12_all ⟨uw919, uw920, uw921, uw5, by decide +kernel⟩ (T := TX12) (N := 47) rfl (by decide +kernel)) <|
  fc (ok_istn (q := 2) (by decide +kernel) rfl (by decide)) <|
  fc (ok_aldn (q := 0) (by decide +kernel) rfl) <|
  fc (ok_cv mk_X12_criers mk_X12_all ⟨uw919, uw920, uw921, uw5, by decide +kernel⟩ (T := TX12) (N := 47) rfl (by decide +kernel)) <|
  fc (ok_istn (q := 3) (by decide +kernel) rfl (by decide)) <|
  fc (ok_ildn (q := 3) (by decide +kernel) rfl) <|
  fc (ok_iflt (off := 118) (by decide +kernel) (by decide)) <|
  fc (ok_ildn (q := 3) (by decide +kernel) rfl) <|
  fc (ok_cs mk_X12_criers mk_J6_bitCount_0f7a4 ⟨uw466, uw429, uw430, by decide +kernel⟩ (by decide +kernel)) <|
  fc (ok_ildn (q := 2) (by decide +kernel) rfl) <|
  fc (ok_cs mk_X12_criers mk_J6_bitCount_0f7a4 ⟨uw466, uw429, uw430, by decide +kernel⟩ (by decide +kernel)) <|
  fc (ok_icgt (off := 7) (by decide +kernel) (by decide)) <|
  fc (ok_iconst (n := 1) (by decide +kernel) (by decide +kernel)) <|
  fc (ok_goto (off := 4) (by decide +kernel) (by decide)) <|
  fc (ok_iconst (n := 0) (by decide +kernel) (by decide +kernel)) <|
  fc (ok_ist (by decide +kernel) (by decide)) <|
  fc (ok_iconst (n := 0) (by decide +kernel) (by decide +kernel)) <|
  fc (ok_ist (by decide +kernel) (by decide)) <|
  fc (ok_ild (by decide +kernel)) <|
  fc (ok_aldn (q := 0) (by decide +kernel) rfl) <|
  fc (ok_gi mk_X12_criers (fo_RX12_110 rfl) rfl (by decide +kernel)) <|
  fc (ok_icge (off := 75) (by decide +kernel) (by decide)) <|
  fc (ok_ild (by decide +kernel)) <|
  fc (ok_ifeq (off := 70) (by decide +kernel) (by decide)) <|
  fc (ok_iconst (n := 0) (by decide +kernel) (by decide +kernel)) <|
  fc (ok_ist (by decide +kernel) (by decide)) <|
  fc (ok_iconst (n := 0) (by decide +kernel) (by decide +kernel)) <|
  fc (ok_ist (by decide +kernel) (by decide)) <|
  fc (ok_ild (by decide +kernel)) <|
  fc (ok_aldn (q := 0) (by decide +kernel) rfl) <|
  fc (ok_gi mk_X12_criers (fo_RX12_110 rfl) rfl (by decide +kernel)) <|
  fc (ok_icge (off := 45) (by decide +kernel) (by decide)) <|
  fc (ok_ild (by decide +kernel)) <|
  fc (ok_ifne (off := 27) (by decide +kernel) (by decide)) <|
  fc (ok_ildn (q := 3) (by decide +kernel) rfl) <|
  fc (ok_ild (by decide +kernel)) <|
  fc (ok_cs mk_X12_criers mk_X12_has ⟨uw837, uw838, uw5, by decide +kernel⟩ (by decide +kernel)) <|
  fc (ok_ifeq (off := 22) (by decide +kernel) (by decide)) <|
  fc (ok_aldn (q := 0) (by decide +kernel) rfl) <|
  fc (ok_gf mk_X12_criers (fo_RX12_9 rfl) rfl (by decide +kernel)) <|
  fc (ok_ild (by decide +kernel)) <|
  fc (ok_ild (by decide +kernel)) <|
  fc (ok_cs mk_X12_criers mk_X12_farOf ⟨uw462, uw463, uw5, by decide +kernel⟩ (by decide +kernel)) <|
  fc (ok_ildn (q := 1) (by decide +kernel) rfl) <|
  fc (ok_icgt (off := 7) (by decide +kernel) (by decide)) <|
  fc (ok_iconst (n := 1) (by decide +kernel) (by decide +kernel)) <|
  fc (ok_goto (off := 4) (by decide +kernel) (by decide)) <|
  fc (ok_iconst (n := 0) (by decide +kernel) (by decide +kernel)) <|
  fc (ok_ist (by decide +kernel) (by decide)) <|
  fc (ok_iinc (n := 1) (by decide +kernel) (by decide +kernel) (by decide)) <|
  fc (ok_goto (off := -48) (by decide +kernel) (by decide)) <|
  fc (ok_ild (by decide +kernel)) <|
  fc (ok_ist (by decide +kernel) (by decide)) <|
  fc (ok_iinc (n := 1) (by decide +kernel) (by decide +kernel) (by decide)) <|
  fc (ok_goto (off := -78) (by decide +kernel) (by decide)) <|
  fc (ok_ild (by decide +kernel)) <|
  fc (ok_ifeq (off := 5) (by decide +kernel) (by decide)) <|
  fc (ok_ildn (q := 3) (by decide +kernel) rfl) <|
  fc (ok_istn (q := 2) (by decide +kernel) rfl (by decide)) <|
  fc (ok_iinc (n := -1) (by decide +kernel) (by decide +kernel) (by decide)) <|
  fc (ok_goto (off := -116) (by decide +kernel) (by decide)) <|
  fc (ok_aldn (q := 0) (by decide +kernel) rfl) <|
  fc (ok_iconst (n := 0) (by decide +kernel) (by decide +kernel)) <|
  fc (ok_pi mk_X12_criers (fo_RX12_107 rfl) to_12_6 rfl (by decide +kernel)) <|
  fc (ok_aldn (q := 0) (by decide +kernel) rfl) <|
  fc (ok_ildn (q := 2) (by decide +kernel) rfl) <|
  fc (ok_i2l (by decide +kernel)) <|
  fc (ok_cv mk_X12_criers mk_X12_tell ⟨uw677, uw678, uw679, uw5, by decide +kernel⟩ (T := TX12) (N := 47) rfl (by decide +kernel)) <|
  fc (ok_ildn (q := 2) (by decide +kernel) rfl) <|
  fc (ok_cs mk_X12_criers mk_J6_bitCount_0f7a4 ⟨uw466, uw429, uw430, by decide +kernel⟩ (by decide +kernel)) <|
  fc (ok_iret rfl (by decide +kernel)) <| fn
def T_X12_line : List (Nat × Op) := [(0, op_ald 0 1), (1, op_ic 0 1), (2, op_pi 12 7), (5, op_ald 0 1), (6, op_cv M_X12_layDyke 12 0), (9, op_ald 0 1), (10, op_ic 0 1), (11, op_pi 12 6), (14, op_ic 0 1), (15, op_ist 1 1), (16, op_ild 1 1), (17, op_ald 0 1), (18, op_gi 12 1), (21, op_icge 41), (24, op_ald 0 1), (25, op_ald 0 1), (26, op_gf 12 31 19), (29, op_ild 1 1), (30, op_iald), (31, op_i2l), (32, op_cv M_X12_tell 12 1), (35, op_iinc 1 1), (38, op_goto 16), (41, op_ald 0 1), (42, op_gi 12 1), (45, op_iret)]
set_option maxRecDepth 20000 in
theorem K_X12_line : ∀ r ∈ T_X12_line, OpOK M_X12_line r.1 r.2 :=
  fc (ok_aldn (q := 0) (by decide +kernel) rfl) <|
  fc (ok_iconst (n := 0) (by decide +kernel) (by decide +kernel)) <|
  fc (ok_pi mk_X12_line (fo_RX12_103 rfl) to_12_7 rfl (by decide +kernel)) <|
  fc (ok_aldn (q := 0) (by decide +kernel) rfl) <|
  fc (ok_cv mk_X12_line mk_X12_layDyke ⟨uw1001, uw1002, uw1003, uw5, by decide +kernel⟩ (T := TX12) (N := 47) rfl (by decide +kernel)) <|
  fc (ok_aldn (q := 0) (by decide +kernel) rfl) <|
  fc (ok_iconst (n := 0) (by decide +kernel) (by decide +kernel)) <|
  fc (ok_pi mk_X12_line (fo_RX12_107 rfl) to_12_6 rfl (by decide +kernel)) <|
  fc (ok_iconst (n := 0) (by decide +kernel) (by decide +kernel)) <|
  fc (ok_istn (q := 1) (by decide +kernel) rfl (by decide)) <|
  fc (ok_ildn (q := 1) (by decide +kernel) rfl) <|
  fc (ok_aldn (q := 0) (by decide +kernel) rfl) <|
  fc (ok_gi mk_X12_line (fo_RX12_110 rfl) rfl (by decide +kernel)) <|
  fc (ok_icge (off := 20) (by decide +kernel) (by decide)) <|
  fc (ok_aldn (q := 0) (by decide +kernel) rfl) <|
  fc (ok_aldn (q := 0) (by decide +kernel) rfl) <|
  fc (ok_gf mk_X12_line (fo_RX12_66 rfl) rfl (by decide +kernel)) <|
  fc (ok_ildn (q := 1) (by decide +kernel) rfl) <|
  fc (ok_iald (by decide +kernel)) <|
  fc (ok_i2l (by decide +kernel)) <|
  fc (ok_cv mk_X12_line mk_X12_tell ⟨uw677, uw678, uw679, uw5, by decide +kernel⟩ (T := TX12) (N := 47) rfl (by decide +kernel)) <|
  fc (ok_iinc (n := 1) (by decide +kernel) (by decide +kernel) (by decide)) <|
  fc (ok_goto (off := -22) (by decide +kernel) (by decide)) <|
  fc (ok_aldn (q := 0) (by decide +kernel) rfl) <|
  fc (ok_gi mk_X12_line (fo_RX12_110 rfl) rfl (by decide +kernel)) <|
  fc (ok_iret rfl (by decide +kernel)) <| fn
def T_X12_layDyke : List (Nat × Op) := [(0, op_ic 0 1), (1, op_ist 1 1), (2, op_ild 1 1), (3, op_ald 0 1), (4, op_gi 12 1), (7, op_icge 71), (10, op_ild 1 1), (11, op_ist 2 1), (12, op_ild 2 1), (13, op_ifle 58), (16, op_ald 0 1), (17, op_gf 12 0 1), (20, op_ald 0 1), (21, op_gf 12 31 19), (24, op_ild 2 1), (25, op_ic 1 1), (26, op_isub), (27, op_iald), (28, op_iald), (29, op_ald 0 1), (30, op_gf 12 0 1), (33, op_ild 1 1), (34, op_iald), (35, op_icle 58), (38, op_ald 0 1), (39, op_gf 12 31 19), (42, op_ild 2 1), (43, op_ald 0 1), (44, op_gf 12 31 19), (47, op_ild 2 1), (48, op_ic 1 1), (49, op_isub), (50, op_iald), (51, op_iast), (52, op_iinc 2 (-1)), (55, op_goto 12), (58, op_ald 0 1), (59, op_gf 12 31 19), (62, op_ild 2 1), (63, op_ild 1 1), (64, op_iast), (65, op_iinc 1 1), (68, op_goto 2), (71, op_vret)]
set_option maxRecDepth 20000 in
theorem K_X12_layDyke : ∀ r ∈ T_X12_layDyke, OpOK M_X12_layDyke r.1 r.2 :=
  fc (ok_iconst (n := 0) (by decide +kernel) (by decide +kernel)) <|
  fc (ok_istn (q := 1) (by decide +kernel) rfl (by decide)) <|
  fc (ok_ildn (q := 1) (by decide +kernel) rfl) <|
  fc (ok_aldn (q := 0) (by decide +kernel) rfl) <|
  fc (ok_gi mk_X12_layDyke (fo_RX12_110 rfl) rfl (by decide +kernel)) <|
  fc (ok_icge (off := 64) (by decide +kernel) (by decide)) <|
  fc (ok_ildn (q := 1) (by decide +kernel) rfl) <|
  fc (ok_istn (q := 2) (by decide +kernel) rfl (by decide)) <|
  fc (ok_ildn (q := 2) (by decide +kernel) rfl) <|
  fc (ok_ifle (off := 45) (by decide +kernel) (by decide)) <|
  fc (ok_aldn (q := 0) (by decide +kernel) rfl) <|
  fc (ok_gf mk_X12_layDyke (fo_RX12_9 rfl) rfl (by decide +kernel)) <|
  fc (ok_aldn (q := 0) (by decide +kernel) rfl) <|
  fc (ok_gf mk_X12_layDyke (fo_RX12_66 rfl) rfl (by decide +kernel)) <|
  fc (ok_ildn (q := 2) (by decide +kernel) rfl) <|
  fc (ok_iconst (n := 1) (by decide +kernel) (by decide +kernel)) <|
  fc (ok_isub (by decide +kernel)) <|
  fc (ok_iald (by decide +kernel)) <|
  fc (ok_iald (by decide +kernel)) <|
  fc (ok_aldn (q := 0) (by decide +kernel) rfl) <|
  fc (ok_gf mk_X12_layDyke (fo_RX12_9 rfl) rfl (by decide +kernel)) <|
  fc (ok_ildn (q := 1) (by decide +kernel) rfl) <|
  fc (ok_iald (by decide +kernel)) <|
  fc (ok_icle (off := 23) (by decide +kernel) (by decide)) <|
  fc (ok_aldn (q := 0) (by decide +kernel) rfl) <|
  fc (ok_gf mk_X12_layDyke (fo_RX12_66 rfl) rfl (by decide +kernel)) <|
  fc (ok_ildn (q := 2) (by decide +kernel) rfl) <|
  fc (ok_aldn (q := 0) (by decide +kernel) rfl) <|
  fc (ok_gf mk_X12_layDyke (fo_RX12_66 rfl) rfl (by decide +kernel)) <|
  fc (ok_ildn (q := 2) (by decide +kernel) rfl) <|
  fc (ok_iconst (n := 1) (by decide +kernel) (by decide +kernel)) <|
  fc (ok_isub (by decide +kernel)) <|
  fc (ok_iald (by decide +kernel)) <|
  fc (ok_iast (by decide +kernel)) <|
  fc (ok_iinc (n := -1) (by decide +kernel) (by decide +kernel) (by decide)) <|
  fc (ok_goto (off := -43) (by decide +kernel) (by decide)) <|
  fc (ok_aldn (q := 0) (by decide +kernel) rfl) <|
  fc (ok_gf mk_X12_layDyke (fo_RX12_66 rfl) rfl (by decide +kernel)) <|
  fc (ok_ildn (q := 2) (by decide +kernel) rfl) <|
  fc (ok_ildn (q := 1) (by decide +kernel) rfl) <|
  fc (ok_iast (by decide +kernel)) <|
  fc (ok_iinc (n := 1) (by decide +kernel) (by decide +kernel) (by decide)) <|
  fc (ok_goto (off := -66) (by decide +kernel) (by decide)) <|
  fc (ok_vret rfl (by decide +kernel)) <| fn
def T_X12_rich : List (Nat × Op) := [(0, op_ald 0 1), (1, op_ic 0 1), (2, op_pi 12 7), (5, op_ald 0 1), (6, op_cv M_X12_layDyke 12 0), (9, op_ic 0 1), (10, op_ist 1 1), (11, op_ald 0 1), (12, op_gi 12 1), (15, op_ic 1 1), (16, op_isub), (17, op_ist 2 1), (18, op_ild 2 1), (19, op_iflt 118), (22, op_ald 0 1), (23, op_gf 12 32 20), (26, op_ild 2 1), (27, op_ic 1 1), (28, op_iast), (29, op_ild 2 1), (30, op_ic 1 1), (31, op_iadd), (32, op_ist 3 1), (33, op_ild 3 1), (34, op_ald 0 1), (35, op_gi 12 1), (38, op_icge 101), (41, op_ald 0 1), (42, op_gf 12 0 1), (45, op_ic 7 2), (47, op_ald 0 1), (48, op_gf 12 31 19), (51, op_ild 3 1), (52, op_iald), (53, op_iadd), (54, op_iald), (55, op_ald 0 1), (56, op_gf 12 0 1), (59, op_ic 7 2), (61, op_ald 0 1), (62, op_gf 12 31 19), (65, op_ild 2 1), (66, op_iald), (67, op_iadd), (68, op_iald), (69, op_icle 95), (72, op_ald 0 1), (73, op_gf 12 32 20), (76, op_ild 2 1), (77, op_ald 0 1), (78, op_gf 12 32 20), (81, op_ild 2 1), (82, op_iald), (83, op_ic 1 1), (84, op_ald 0 1), (85, op_gf 12 32 20), (88, op_ild 3 1), (89, op_iald), (90, op_iadd), (91, op_max), (94, op_iast), (95, op_iinc 3 1), (98, op_goto 33), (101, op_ild 1 1), (102, op_ald 0 1), (103, op_gf 12 32 20), (106, op_ild 2 1), (107, op_iald), (108, op_max), (111, op_ist 1 1), (112, op_iinc 2 (-1)), (115, op_goto 18), (118, op_ic (-1) 1), (119, op_ist 2 1), (120, op_ald 0 1), (121, op_ic 0 1), (122, op_pi 12 6), (125, op_ic 0 1), (126, op_ist 3 1), (127, op_ild 3 1), (128, op_ald 0 1), (129, op_gi 12 1), (132, op_icge 211), (135, op_ald 0 1), (136, op_gi 12 6), (139, op_ild 1 1), (140, op_icge 211), (143, op_ald 0 1), (144, op_gf 12 32 20), (147, op_ild 3 1), (148, op_iald), (149, op_ild 1 1), (150, op_ald 0 1), (151, op_gi 12 6), (154, op_isub), (155, op_icne 205), (158, op_ald 0 1), (159, op_gf 12 0 1), (162, op_ic 7 2), (164, op_ald 0 1), (165, op_gf 12 31 19), (168, op_ild 3 1), (169, op_iald), (170, op_iadd), (171, op_iald), (172, op_ild 2 1), (173, op_icgt 179), (176, op_goto 205), (179, op_ald 0 1), (180, op_gf 12 0 1), (183, op_ic 7 2), (185, op_ald 0 1), (186, op_gf 12 31 19), (189, op_ild 3 1), (190, op_iald), (191, op_iadd), (192, op_iald), (193, op_ist 2 1), (194, op_ald 0 1), (195, op_ald 0 1), (196, op_gf 12 31 19), (199, op_ild 3 1), (200, op_iald), (201, op_i2l), (202, op_cv M_X12_tell 12 1), (205, op_iinc 3 1), (208, op_goto 127), (211, op_ild 1 1), (212, op_iret)]
set_option maxRecDepth 20000 in
theorem K_X12_rich : ∀ r ∈ T_X12_rich, OpOK M_X12_rich r.1 r.2 :=
  fc (ok_aldn (q := 0) (by decide +kernel) rfl) <|
  fc (ok_iconst (n := 0) (by decide +kernel) (by decide +kernel)) <|
  fc (ok_pi mk_X12_rich (fo_RX12_103 rfl) to_12_7 rfl (by decide +kernel)) <|
  fc (ok_aldn (q := 0) (by decide +kernel) rfl) <|
  fc (ok_cv mk_X12_rich mk_X12_layDyke ⟨uw1001, uw1002, uw1003, uw5, by decide +kernel⟩ (T := TX12) (N := 47) rfl (by decide +kernel)) <|
  fc (ok_iconst (n := 0) (by decide +kernel) (by decide +kernel)) <|
  fc (ok_istn (q := 1) (by decide +kernel) rfl (by decide)) <|
  fc (ok_aldn (q := 0) (by decide +kernel) rfl) <|
  fc (ok_gi mk_X12_rich (fo_RX12_110 rfl) rfl (by decide +kernel)) <|
  fc (ok_iconst (n := 1) (by decide +kernel) (by decide +kernel)) <|
  fc (ok_isub (by decide +kernel)) <|
  fc (ok_istn (q := 2) (by decide +kernel) rfl (by decide)) <|
  fc (ok_ildn (q := 2) (by decide +kernel) rfl) <|
  fc (ok_iflt (off := 99) (by decide +kernel) (by decide)) <|
  fc (ok_aldn (q := 0) (by decide +kernel) rfl) <|
  fc (ok_gf mk_X12_rich (fo_RX12_69 rfl) rfl (by decide +kernel)) <|
  fc (ok_ildn (q := 2) (by decide +kernel) rfl) <|
  fc (ok_iconst (n := 1) (by decide +kernel) (by decide +kernel)) <|
  fc (ok_iast (by decide +kernel)) <|
  fc (ok_ildn (q := 2) (by decide +kernel) rfl) <|
  fc (ok_iconst (n := 1) (by decide +kernel) (by decide +kernel)) <|
  fc (ok_iadd (by decide +kernel)) <|
  fc (ok_istn (q := 3) (by decide +kernel) rfl (by decide)) <|
  fc (ok_ildn (q := 3) (by decide +kernel) rfl) <|
  fc (ok_aldn (q := 0) (by decide +kernel) rfl) <|
  fc (ok_gi mk_X12_rich (fo_RX12_110 rfl) rfl (by decide +kernel)) <|
  fc (ok_icge (off := 63) (by decide +kernel) (by decide)) <|
  fc (ok_aldn (q := 0) (by decide +kernel) rfl) <|
  fc (ok_gf mk_X12_rich (fo_RX12_9 rfl) rfl (by decide +kernel)) <|
  fc (ok_bipush (n := 7) (by decide +kernel) (by decide +kernel)) <|
  fc (ok_aldn (q := 0) (by decide +kernel) rfl) <|
  fc (ok_gf mk_X12_rich (fo_RX12_66 rfl) rfl (by decide +kernel)) <|
  fc (ok_ildn (q := 3) (by decide +kernel) rfl) <|
  fc (ok_iald (by decide +kernel)) <|
  fc (ok_iadd (by decide +kernel)) <|
  fc (ok_iald (by decide +kernel)) <|
  fc (ok_aldn (q := 0) (by decide +kernel) rfl) <|
  fc (ok_gf mk_X12_rich (fo_RX12_9 rfl) rfl (by decide +kernel)) <|
  fc (ok_bipush (n := 7) (by decide +kernel) (by decide +kernel)) <|
  fc (ok_aldn (q := 0) (by decide +kernel) rfl) <|
  fc (ok_gf mk_X12_rich (fo_RX12_66 rfl) rfl (by decide +kernel)) <|
  fc (ok_ildn (q := 2) (by decide +kernel) rfl) <|
  fc (ok_iald (by decide +kernel)) <|
  fc (ok_iadd (by decide +kernel)) <|
  fc (ok_iald (by decide +kernel)) <|
  fc (ok_icle (off := 26) (by decide +kernel) (by decide)) <|
  fc (ok_aldn (q := 0) (by decide +kernel) rfl) <|
  fc (ok_gf mk_X12_rich (fo_RX12_69 rfl) rfl (by decide +kernel)) <|
  fc (ok_ildn (q := 2) (by decide +kernel) rfl) <|
  fc (ok_aldn (q := 0) (by decide +kernel) rfl) <|
  fc (ok_gf mk_X12_rich (fo_RX12_69 rfl) rfl (by decide +kernel)) <|
  fc (ok_ildn (q := 2) (by decide +kernel) rfl) <|
  fc (ok_iald (by decide +kernel)) <|
  fc (ok_iconst (n := 1) (by decide +kernel) (by decide +kernel)) <|
  fc (ok_aldn (q := 0) (by decide +kernel) rfl) <|
  fc (ok_gf mk_X12_rich (fo_RX12_69 rfl) rfl (by decide +kernel)) <|
  fc (ok_ildn (q := 3) (by decide +kernel) rfl) <|
  fc (ok_iald (by decide +kernel)) <|
  fc (ok_iadd (by decide +kernel)) <|
  fc (ok_max mk_X12_rich uw521 uw506 uw212 uw507 (by decide +kernel)) <|
  fc (ok_iast (by decide +kernel)) <|
  fc (ok_iinc (n := 1) (by decide +kernel) (by decide +kernel) (by decide)) <|
  fc (ok_goto (off := -65) (by decide +kernel) (by decide)) <|
  fc (ok_ildn (q := 1) (by decide +kernel) rfl) <|
  fc (ok_aldn (q := 0) (by decide +kernel) rfl) <|
  fc (ok_gf mk_X12_rich (fo_RX12_69 rfl) rfl (by decide +kernel)) <|
  fc (ok_ildn (q := 2) (by decide +kernel) rfl) <|
  fc (ok_iald (by decide +kernel)) <|
  fc (ok_max mk_X12_rich uw521 uw506 uw212 uw507 (by decide +kernel)) <|
  fc (ok_istn (q := 1) (by decide +kernel) rfl (by decide)) <|
  fc (ok_iinc (n := -1) (by decide +kernel) (by decide +kernel) (by decide)) <|
  fc (ok_goto (off := -97) (by decide +kernel) (by decide)) <|
  fc (ok_iconst (n := -1) (by decide +kernel) (by decide +kernel)) <|
  fc (ok_istn (q := 2) (by decide +kernel) rfl (by decide)) <|
  fc (ok_aldn (q := 0) (by decide +kernel) rfl) <|
  fc (ok_iconst (n := 0) (by decide +kernel) (by decide +kernel)) <|
  fc (ok_pi mk_X12_rich (fo_RX12_107 rfl) to_12_6 rfl (by decide +kernel)) <|
  fc (ok_iconst (n := 0) (by decide +kernel) (by decide +kernel)) <|
  fc (ok_istn (q := 3) (by decide +kernel) rfl (by decide)) <|
  fc (ok_ildn (q := 3) (by decide +kernel) rfl) <|
  fc (ok_aldn (q := 0) (by decide +kernel) rfl) <|
  fc (ok_gi mk_X12_rich (fo_RX12_110 rfl) rfl (by decide +kernel)) <|
  fc (ok_icge (off := 79) (by decide +kernel) (by decide)) <|
  fc (ok_aldn (q := 0) (by decide +kernel) rfl) <|
  fc (ok_gi mk_X12_rich (fo_RX12_107 rfl) rfl (by decide +kernel)) <|
  fc (ok_ildn (q := 1) (by decide +kernel) rfl) <|
  fc (ok_icge (off := 71) (by decide +kernel) (by decide)) <|
  fc (ok_aldn (q := 0) (by decide +kernel) rfl) <|
  fc (ok_gf mk_X12_rich (fo_RX12_69 rfl) rfl (by decide +kernel)) <|
  fc (ok_ildn (q := 3) (by decide +kernel) rfl) <|
  fc (ok_iald (by decide +kernel)) <|
  fc (ok_ildn (q := 1) (by decide +kernel) rfl) <|
  fc (ok_aldn (q := 0) (by decide +kernel) rfl) <|
  fc (ok_gi mk_X12_rich (fo_RX12_107 rfl) rfl (by decide +kernel)) <|
  fc (ok_isub (by decide +kernel)) <|
  fc (ok_icne (off := 50) (by decide +kernel) (by decide)) <|
  fc (ok_aldn (q := 0) (by decide +kernel) rfl) <|
  fc (ok_gf mk_X12_rich (fo_RX12_9 rfl) rfl (by decide +kernel)) <|
  fc (ok_bipush (n := 7) (by decide +kernel) (by decide +kernel)) <|
  fc (ok_aldn (q := 0) (by decide +kernel) rfl) <|
  fc (ok_gf mk_X12_rich (fo_RX12_66 rfl) rfl (by decide +kernel)) <|
  fc (ok_ildn (q := 3) (by decide +kernel) rfl) <|
  fc (ok_iald (by decide +kernel)) <|
  fc (ok_iadd (by decide +kernel)) <|
  fc (ok_iald (by decide +kernel)) <|
  fc (ok_ildn (q := 2) (by decide +kernel) rfl) <|
  fc (ok_icgt (off := 6) (by decide +kernel) (by decide)) <|
  fc (ok_goto (off := 29) (by decide +kernel) (by decide)) <|
  fc (ok_aldn (q := 0) (by decide +kernel) rfl) <|
  fc (ok_gf mk_X12_rich (fo_RX12_9 rfl) rfl (by decide +kernel)) <|
  fc (ok_bipush (n := 7) (by decide +kernel) (by decide +kernel)) <|
  fc (ok_aldn (q := 0) (by decide +kernel) rfl) <|
  fc (ok_gf mk_X12_rich (fo_RX12_66 rfl) rfl (by decide +kernel)) <|
  fc (ok_ildn (q := 3) (by decide +kernel) rfl) <|
  fc (ok_iald (by decide +kernel)) <|
  fc (ok_iadd (by decide +kernel)) <|
  fc (ok_iald (by decide +kernel)) <|
  fc (ok_istn (q := 2) (by decide +kernel) rfl (by decide)) <|
  fc (ok_aldn (q := 0) (by decide +kernel) rfl) <|
  fc (ok_aldn (q := 0) (by decide +kernel) rfl) <|
  fc (ok_gf mk_X12_rich (fo_RX12_66 rfl) rfl (by decide +kernel)) <|
  fc (ok_ildn (q := 3) (by decide +kernel) rfl) <|
  fc (ok_iald (by decide +kernel)) <|
  fc (ok_i2l (by decide +kernel)) <|
  fc (ok_cv mk_X12_rich mk_X12_tell ⟨uw677, uw678, uw679, uw5, by decide +kernel⟩ (T := TX12) (N := 47) rfl (by decide +kernel)) <|
  fc (ok_iinc (n := 1) (by decide +kernel) (by decide +kernel) (by decide)) <|
  fc (ok_goto (off := -81) (by decide +kernel) (by decide)) <|
  fc (ok_ildn (q := 1) (by decide +kernel) rfl) <|
  fc (ok_iret rfl (by decide +kernel)) <| fn
def T_X12_heard : List (Nat × Op) := [(0, op_ald 0 1), (1, op_ic 0 1), (2, op_pi 12 7), (5, op_ild 1 1), (6, op_ic 1 1), (7, op_iceq 15), (10, op_ild 1 1), (11, op_ic 2 1), (12, op_icne 20), (15, op_ic 99 2), (17, op_goto 32), (20, op_ild 1 1), (21, op_ic 3 1), (22, op_icne 30), (25, op_ic 9 2), (27, op_goto 32), (30, op_ic 6 2), (32, op_ist 3 1), (33, op_ild 1 1), (34, op_ic 0 1), (35, op_ic 4 1), (36, op_cs M_X12_in 3), (39, op_ifeq 60), (42, op_ild 2 1), (43, op_ic 0 1), (44, op_ild 3 1), (45, op_cs M_X12_in 3), (48, op_ifeq 60), (51, op_ald 0 1), (52, op_gi 12 35), (55, op_ic 12 2), (57, op_icne 62), (60, op_ic (-1) 1), (61, op_iret), (62, op_ald 0 1), (63, op_gf 12 33 21), (66, op_ald 0 1), (67, op_gi 12 35), (70, op_ild 1 1), (71, op_iast), (72, op_ald 0 1), (73, op_gf 12 34 22), (76, op_ald 0 1), (77, op_gi 12 35), (80, op_ild 2 1), (81, op_iast), (82, op_ald 0 1), (83, op_dup), (84, op_gi 12 35), (87, op_ic 1 1), (88, op_iadd), (89, op_pi 12 35), (92, op_ald 0 1), (93, op_gi 12 35), (96, op_iret)]
set_option maxRecDepth 20000 in
theorem K_X12_heard : ∀ r ∈ T_X12_heard, OpOK M_X12_heard r.1 r.2 :=
  fc (ok_aldn (q := 0) (by decide +kernel) rfl) <|
  fc (ok_iconst (n := 0) (by decide +kernel) (by decide +kernel)) <|
  fc (ok_pi mk_X12_heard (fo_RX12_103 rfl) to_12_7 rfl (by decide +kernel)) <|
  fc (ok_ildn (q := 1) (by decide +kernel) rfl) <|
  fc (ok_iconst (n := 1) (by decide +kernel) (by decide +kernel)) <|
  fc (ok_iceq (off := 8) (by decide +kernel) (by decide)) <|
  fc (ok_ildn (q := 1) (by decide +kernel) rfl) <|
  fc (ok_iconst (n := 2) (by decide +kernel) (by decide +kernel)) <|
  fc (ok_icne (off := 8) (by decide +kernel) (by decide)) <|
  fc (ok_bipush (n := 99) (by decide +kernel) (by decide +kernel)) <|
  fc (ok_goto (off := 15) (by decide +kernel) (by decide)) <|
  fc (ok_ildn (q := 1) (by decide +kernel) rfl) <|
  fc (ok_iconst (n := 3) (by decide +kernel) (by decide +kernel)) <|
  fc (ok_icne (off := 8) (by decide +kernel) (by decide)) <|
  fc (ok_bipush (n := 9) (by decide +kernel) (by decide +kernel)) <|
  fc (ok_goto (off := 5) (by decide +kernel) (by decide)) <|
  fc (ok_bipush (n := 6) (by decide +kernel) (by decide +kernel)) <|
  fc (ok_istn (q := 3) (by decide +kernel) rfl (by decide)) <|
  fc (ok_ildn (q := 1) (by decide +kernel) rfl) <|
  fc (ok_iconst (n := 0) (by decide +kernel) (by decide +kernel)) <|
  fc (ok_iconst (n := 4) (by decide +kernel) (by decide +kernel)) <|
  fc (ok_cs mk_X12_heard mk_X12_in ⟨uw199, uw200, uw5, by decide +kernel⟩ (by decide +kernel)) <|
  fc (ok_ifeq (off := 21) (by decide +kernel) (by decide)) <|
  fc (ok_ildn (q := 2) (by decide +kernel) rfl) <|
  fc (ok_iconst (n := 0) (by decide +kernel) (by decide +kernel)) <|
  fc (ok_ildn (q := 3) (by decide +kernel) rfl) <|
  fc (ok_cs mk_X12_heard mk_X12_in ⟨uw199, uw200, uw5, by decide +kernel⟩ (by decide +kernel)) <|
  fc (ok_ifeq (off := 12) (by decide +kernel) (by decide)) <|
  fc (ok_aldn (q := 0) (by decide +kernel) rfl) <|
  fc (ok_gi mk_X12_heard (fo_RX12_337 rfl) rfl (by decide +kernel)) <|
  fc (ok_bipush (n := 12) (by decide +kernel) (by decide +kernel)) <|
  fc (ok_icne (off := 5) (by decide +kernel) (by decide)) <|
  fc (ok_iconst (n := -1) (by decide +kernel) (by decide +kernel)) <|
  fc (ok_iret rfl (by decide +kernel)) <|
  fc (ok_aldn (q := 0) (by decide +kernel) rfl) <|
  fc (ok_gf mk_X12_heard (fo_RX12_72 rfl) rfl (by decide +kernel)) <|
  fc (ok_aldn (q := 0) (by decide +kernel) rfl) <|
  fc (ok_gi mk_X12_heard (fo_RX12_337 rfl) rfl (by decide +kernel)) <|
  fc (ok_ildn (q := 1) (by decide +kernel) rfl) <|
  fc (ok_iast (by decide +kernel)) <|
  fc (ok_aldn (q := 0) (by decide +kernel) rfl) <|
  fc (ok_gf mk_X12_heard (fo_RX12_75 rfl) rfl (by decide +kernel)) <|
  fc (ok_aldn (q := 0) (by decide +kernel) rfl) <|
  fc (ok_gi mk_X12_heard (fo_RX12_337 rfl) rfl (by decide +kernel)) <|
  fc (ok_ildn (q := 2) (by decide +kernel) rfl) <|
  fc (ok_iast (by decide +kernel)) <|
  fc (ok_aldn (q := 0) (by decide +kernel) rfl) <|
  fc (ok_dup (by decide +kernel)) <|
  fc (ok_gi mk_X12_heard (fo_RX12_337 rfl) rfl (by decide +kernel)) <|
  fc (ok_iconst (n := 1) (by decide +kernel) (by decide +kernel)) <|
  fc (ok_iadd (by decide +kernel)) <|
  fc (ok_pi mk_X12_heard (fo_RX12_337 rfl) to_12_35 rfl (by decide +kernel)) <|
  fc (ok_aldn (q := 0) (by decide +kernel) rfl) <|
  fc (ok_gi mk_X12_heard (fo_RX12_337 rfl) rfl (by decide +kernel)) <|
  fc (ok_iret rfl (by decide +kernel)) <| fn
def T_X12_forget : List (Nat × Op) := [(0, op_ald 0 1), (1, op_ic 0 1), (2, op_pi 12 7), (5, op_ald 0 1), (6, op_gi 12 35), (9, op_ist 1 1), (10, op_ald 0 1), (11, op_ic 0 1), (12, op_pi 12 35), (15, op_ild 1 1), (16, op_iret)]
set_option maxRecDepth 20000 in
theorem K_X12_forget : ∀ r ∈ T_X12_forget, OpOK M_X12_forget r.1 r.2 :=
  fc (ok_aldn (q := 0) (by decide +kernel) rfl) <|
  fc (ok_iconst (n := 0) (by decide +kernel) (by decide +kernel)) <|
  fc (ok_pi mk_X12_forget (fo_RX12_103 rfl) to_12_7 rfl (by decide +kernel)) <|
  fc (ok_aldn (q := 0) (by decide +kernel) rfl) <|
  fc (ok_gi mk_X12_forget (fo_RX12_337 rfl) rfl (by decide +kernel)) <|
  fc (ok_istn (q := 1) (by decide +kernel) rfl (by decide)) <|
  fc (ok_aldn (q := 0) (by decide +kernel) rfl) <|
  fc (ok_iconst (n := 0) (by decide +kernel) (by decide +kernel)) <|
  fc (ok_pi mk_X12_forget (fo_RX12_337 rfl) to_12_35 rfl (by decide +kernel)) <|
  fc (ok_ildn (q := 1) (by decide +kernel) rfl) <|
  fc (ok_iret rfl (by decide +kernel)) <| fn
def T_X12_fits_ : List (Nat × Op) := [(0, op_ald 0 1), (1, op_ic 0 1), (2, op_pi 12 7), (5, op_ald 0 1), (6, op_cv M_X12_fitting 12 0), (9, op_ist 1 1), (10, op_ald 0 1), (11, op_ic 0 1), (12, op_pi 12 6), (15, op_ald 0 1), (16, op_ild 1 1), (17, op_cs M_J6_bitCount_0f7a4 1), (20, op_i2l), (21, op_cv M_X12_tell 12 1), (24, op_ild 1 1), (25, op_iret)]
set_option maxRecDepth 20000 in
theorem K_X12_fits_ : ∀ r ∈ T_X12_fits_, OpOK M_X12_fits_ r.1 r.2 :=
  fc (ok_aldn (q := 0) (by decide +kernel) rfl) <|
  fc (ok_iconst (n := 0) (by decide +kernel) (by decide +kernel)) <|
  fc (ok_pi mk_X12_fits_ (fo_RX12_103 rfl) to_12_7 rfl (by decide +kernel)) <|
  fc (ok_aldn (q := 0) (by decide +kernel) rfl) <|
  fc (ok_cv mk_X12_fits_ mk_X12_fitting ⟨uw1068, uw1069, uw1070, uw5, by decide +kernel⟩ (T := TX12) (N := 47) rfl (by decide +kernel)) <|
  fc (ok_istn (q := 1) (by decide +kernel) rfl (by decide)) <|
  fc (ok_aldn (q := 0) (by decide +kernel) rfl) <|
  fc (ok_iconst (n := 0) (by decide +kernel) (by decide +kernel)) <|
  fc (ok_pi mk_X12_fits_ (fo_RX12_107 rfl) to_12_6 rfl (by decide +kernel)) <|
  fc (ok_aldn (q := 0) (by decide +kernel) rfl) <|
  fc (ok_ildn (q := 1) (by decide +kernel) rfl) <|
  fc (ok_cs mk_X12_fits_ mk_J6_bitCount_0f7a4 ⟨uw466, uw429, uw430, by decide +kernel⟩ (by decide +kernel)) <|
  fc (ok_i2l (by decide +kernel)) <|
  fc (ok_cv mk_X12_fits_ mk_X12_tell ⟨uw677, uw678, uw679, uw5, by decide +kernel⟩ (T := TX12) (N := 47) rfl (by decide +kernel)) <|
  fc (ok_ildn (q := 1) (by decide +kernel) rfl) <|
  fc (ok_iret rfl (by decide +kernel)) <| fn
def T_X12_fitting : List (Nat × Op) := [(0, op_ic 0 1), (1, op_ist 1 1), (2, op_ic 0 1), (3, op_ist 2 1), (4, op_ild 2 1), (5, op_ald 0 1), (6, op_gi 12 1), (9, op_icge 84), (12, op_ic 1 1), (13, op_ist 3 1), (14, op_ic 0 1), (15, op_ist 4 2), (17, op_ild 4 2), (19, op_ald 0 1), (20, op_gi 12 35), (23, op_icge 64), (26, op_ild 3 1), (27, op_ifeq 56), (30, op_ald 0 1), (31, op_ild 2 1), (32, op_ald 0 1), (33, op_gf 12 33 21), (36, op_ild 4 2), (38, op_iald), (39, op_ald 0 1), (40, op_gf 12 34 22), (43, op_ild 4 2), (45, op_iald), (46, op_cv M_X12_fits 12 3), (49, op_ifeq 56), (52, op_ic 1 1), (53, op_goto 57), (56, op_ic 0 1), (57, op_ist 3 1), (58, op_iinc 4 1), (61, op_goto 17), (64, op_ild 1 1), (65, op_ild 3 1), (66, op_ifeq 75), (69, op_ic 1 1), (70, op_ild 2 1), (71, op_ishl), (72, op_goto 76), (75, op_ic 0 1), (76, op_ior), (77, op_ist 1 1), (78, op_iinc 2 1), (81, op_goto 4), (84, op_ild 1 1), (85, op_iret)]
set_option maxRecDepth 20000 in
theorem K_X12_fitting : ∀ r ∈ T_X12_fitting, OpOK M_X12_fitting r.1 r.2 :=
  fc (ok_iconst (n := 0) (by decide +kernel) (by decide +kernel)) <|
  fc (ok_istn (q := 1) (by decide +kernel) rfl (by decide)) <|
  fc (ok_iconst (n := 0) (by decide +kernel) (by decide +kernel)) <|
  fc (ok_istn (q := 2) (by decide +kernel) rfl (by decide)) <|
  fc (ok_ildn (q := 2) (by decide +kernel) rfl) <|
  fc (ok_aldn (q := 0) (by decide +kernel) rfl) <|
  fc (ok_gi mk_X12_fitting (fo_RX12_110 rfl) rfl (by decide +kernel)) <|
  fc (ok_icge (off := 75) (by decide +kernel) (by decide)) <|
  fc (ok_iconst (n := 1) (by decide +kernel) (by decide +kernel)) <|
  fc (ok_istn (q := 3) (by decide +kernel) rfl (by decide)) <|
  fc (ok_iconst (n := 0) (by decide +kernel) (by decide +kernel)) <|
  fc (ok_ist (by decide +kernel) (by decide)) <|
  fc (ok_ild (by decide +kernel)) <|
  fc (ok_aldn (q := 0) (by decide +kernel) rfl) <|
  fc (ok_gi mk_X12_fitting (fo_RX12_337 rfl) rfl (by decide +kernel)) <|
  fc (ok_icge (off := 41) (by decide +kernel) (by decide)) <|
  fc (ok_ildn (q := 3) (by decide +kernel) rfl) <|
  fc (ok_ifeq (off := 29) (by decide +kernel) (by decide)) <|
  fc (ok_aldn (q := 0) (by decide +kernel) rfl) <|
  fc (ok_ildn (q := 2) (by decide +kernel) rfl) <|
  fc (ok_aldn (q := 0) (by decide +kernel) rfl) <|
  fc (ok_gf mk_X12_fitting (fo_RX12_72 rfl) rfl (by decide +kernel)) <|
  fc (ok_ild (by decide +kernel)) <|
  fc (ok_iald (by decide +kernel)) <|
  fc (ok_aldn (q := 0) (by decide +kernel) rfl) <|
  fc (ok_gf mk_X12_fitting (fo_RX12_75 rfl) rfl (by decide +kernel)) <|
  fc (ok_ild (by decide +kernel)) <|
  fc (ok_iald (by decide +kernel)) <|
  fc (ok_cv mk_X12_fitting mk_X12_fits ⟨uw1072, uw1073, uw1074, uw5, by decide +kernel⟩ (T := TX12) (N := 47) rfl (by decide +kernel)) <|
  fc (ok_ifeq (off := 7) (by decide +kernel) (by decide)) <|
  fc (ok_iconst (n := 1) (by decide +kernel) (by decide +kernel)) <|
  fc (ok_goto (off := 4) (by decide +kernel) (by decide)) <|
  fc (ok_iconst (n := 0) (by decide +kernel) (by decide +kernel)) <|
  fc (ok_istn (q := 3) (by decide +kernel) rfl (by decide)) <|
  fc (ok_iinc (n := 1) (by decide +kernel) (by decide +kernel) (by decide)) <|
  fc (ok_goto (off := -44) (by decide +kernel) (by decide)) <|
  fc (ok_ildn (q := 1) (by decide +kernel) rfl) <|
  fc (ok_ildn (q := 3) (by decide +kernel) rfl) <|
  fc (ok_ifeq (off := 9) (by decide +kernel) (by decide)) <|
  fc (ok_iconst (n := 1) (by decide +kernel) (by decide +kernel)) <|
  fc (ok_ildn (q := 2) (by decide +kernel) rfl) <|
  fc (ok_ishl (by decide +kernel)) <|
  fc (ok_goto (off := 4) (by decide +kernel) (by decide)) <|
  fc (ok_iconst (n := 0) (by decide +kernel) (by decide +kernel)) <|
  fc (ok_ior (by decide +kernel)) <|
  fc (ok_istn (q := 1) (by decide +kernel) rfl (by decide)) <|
  fc (ok_iinc (n := 1) (by decide +kernel) (by decide +kernel) (by decide)) <|
  fc (ok_goto (off := -77) (by decide +kernel) (by decide)) <|
  fc (ok_ildn (q := 1) (by decide +kernel) rfl) <|
  fc (ok_iret rfl (by decide +kernel)) <| fn
def T_X12_fits : List (Nat × Op) := [(0, op_ild 2 1), (1, op_sw 113 [(0, 32), (1, 51), (2, 70), (3, 89)]), (32, op_ald 0 1), (33, op_gf 12 0 1), (36, op_ic 14 2), (38, op_ild 1 1), (39, op_iadd), (40, op_iald), (41, op_ild 3 1), (42, op_icne 49), (45, op_ic 1 1), (46, op_goto 50), (49, op_ic 0 1), (50, op_zret), (51, op_ald 0 1), (52, op_gf 12 0 1), (55, op_ic 21 2), (57, op_ild 1 1), (58, op_iadd), (59, op_iald), (60, op_ild 3 1), (61, op_iclt 68), (64, op_ic 1 1), (65, op_goto 69), (68, op_ic 0 1), (69, op_zret), (70, op_ald 0 1), (71, op_gf 12 0 1), (74, op_ic 7 2), (76, op_ild 1 1), (77, op_iadd), (78, op_iald), (79, op_ild 3 1), (80, op_iclt 87), (83, op_ic 1 1), (84, op_goto 88), (87, op_ic 0 1), (88, op_zret), (89, op_ald 0 1), (90, op_gf 12 0 1), (93, op_ald 0 1), (94, op_gf 12 0 1), (97, op_ic 14 2), (99, op_ild 1 1), (100, op_iadd), (101, op_iald), (102, op_iald), (103, op_ild 3 1), (104, op_icne 111), (107, op_ic 1 1), (108, op_goto 112), (111, op_ic 0 1), (112, op_zret), (113, op_ald 0 1), (114, op_ild 3 1), (115, op_cv M_X12_isOne 12 1), (118, op_ifeq 138), (121, op_ald 0 1), (122, op_ald 0 1), (123, op_gf 12 0 1), (126, op_ild 3 1), (127, op_ild 1 1), (128, op_cv M_X12_canSay 12 3), (131, op_ifeq 138), (134, op_ic 1 1), (135, op_goto 139), (138, op_ic 0 1), (139, op_zret)]
set_option maxRecDepth 20000 in
theorem K_X12_fits : ∀ r ∈ T_X12_fits, OpOK M_X12_fits r.1 r.2 :=
  fc (ok_ildn (q := 2) (by decide +kernel) rfl) <|
  fc (ok_tsw (dflt := 112) (lo := 0) (hi := 3) (offs := #[31, 50, 69, 88]) (len := 31) (by decide +kernel) (by decide +kernel) (by decide +kernel) (by decide) (by decide)) <|
  fc (ok_aldn (q := 0) (by decide +kernel) rfl) <|
  fc (ok_gf mk_X12_fits (fo_RX12_9 rfl) rfl (by decide +kernel)) <|
  fc (ok_bipush (n := 14) (by decide +kernel) (by decide +kernel)) <|
  fc (ok_ildn (q := 1) (by decide +kernel) rfl) <|
  fc (ok_iadd (by decide +kernel)) <|
  fc (ok_iald (by decide +kernel)) <|
  fc (ok_ildn (q := 3) (by decide +kernel) rfl) <|
  fc (ok_icne (off := 7) (by decide +kernel) (by decide)) <|
  fc (ok_iconst (n := 1) (by decide +kernel) (by decide +kernel)) <|
  fc (ok_goto (off := 4) (by decide +kernel) (by decide)) <|
  fc (ok_iconst (n := 0) (by decide +kernel) (by decide +kernel)) <|
  fc (ok_zret rfl (by decide +kernel)) <|
  fc (ok_aldn (q := 0) (by decide +kernel) rfl) <|
  fc (ok_gf mk_X12_fits (fo_RX12_9 rfl) rfl (by decide +kernel)) <|
  fc (ok_bipush (n := 21) (by decide +kernel) (by decide +kernel)) <|
  fc (ok_ildn (q := 1) (by decide +kernel) rfl) <|
  fc (ok_iadd (by decide +kernel)) <|
  fc (ok_iald (by decide +kernel)) <|
  fc (ok_ildn (q := 3) (by decide +kernel) rfl) <|
  fc (ok_iclt (off := 7) (by decide +kernel) (by decide)) <|
  fc (ok_iconst (n := 1) (by decide +kernel) (by decide +kernel)) <|
  fc (ok_goto (off := 4) (by decide +kernel) (by decide)) <|
  fc (ok_iconst (n := 0) (by decide +kernel) (by decide +kernel)) <|
  fc (ok_zret rfl (by decide +kernel)) <|
  fc (ok_aldn (q := 0) (by decide +kernel) rfl) <|
  fc (ok_gf mk_X12_fits (fo_RX12_9 rfl) rfl (by decide +kernel)) <|
  fc (ok_bipush (n := 7) (by decide +kernel) (by decide +kernel)) <|
  fc (ok_ildn (q := 1) (by decide +kernel) rfl) <|
  fc (ok_iadd (by decide +kernel)) <|
  fc (ok_iald (by decide +kernel)) <|
  fc (ok_ildn (q := 3) (by decide +kernel) rfl) <|
  fc (ok_iclt (off := 7) (by decide +kernel) (by decide)) <|
  fc (ok_iconst (n := 1) (by decide +kernel) (by decide +kernel)) <|
  fc (ok_goto (off := 4) (by decide +kernel) (by decide)) <|
  fc (ok_iconst (n := 0) (by decide +kernel) (by decide +kernel)) <|
  fc (ok_zret rfl (by decide +kernel)) <|
  fc (ok_aldn (q := 0) (by decide +kernel) rfl) <|
  fc (ok_gf mk_X12_fits (fo_RX12_9 rfl) rfl (by decide +kernel)) <|
  fc (ok_aldn (q := 0) (by decide +kernel) rfl) <|
  fc (ok_gf mk_X12_fits (fo_RX12_9 rfl) rfl (by decide +kernel)) <|
  fc (ok_bipush (n := 14) (by decide +kernel) (by decide +kernel)) <|
  fc (ok_ildn (q := 1) (by decide +kernel) rfl) <|
  fc (ok_iadd (by decide +kernel)) <|
  fc (ok_iald (by decide +kernel)) <|
  fc (ok_iald (by decide +kernel)) <|
  fc (ok_ildn (q := 3) (by decide +kernel) rfl) <|
  fc (ok_icne (off := 7) (by decide +kernel) (by decide)) <|
  fc (ok_iconst (n := 1) (by decide +kernel) (by decide +kernel)) <|
  fc (ok_goto (off := 4) (by decide +kernel) (by decide)) <|
  fc (ok_iconst (n := 0) (by decide +kernel) (by decide +kernel)) <|
  fc (ok_zret rfl (by decide +kernel)) <|
  fc (ok_aldn (q := 0) (by decide +kernel) rfl) <|
  fc (ok_ildn (q := 3) (by decide +kernel) rfl) <|
  fc (ok_cv mk_X12_fits mk_X12_isOne ⟨uw442, uw443, uw444, uw5, by decide +kernel⟩ (T := TX12) (N := 47) rfl (by decide +kernel)) <|
  fc (ok_ifeq (off := 20) (by decide +kernel) (by decide)) <|
  fc (ok_aldn (q := 0) (by decide +kernel) rfl) <|
  fc (ok_aldn (q := 0) (by decide +kernel) rfl) <|
  fc (ok_gf mk_X12_fits (fo_RX12_9 rfl) rfl (by decide +kernel)) <|
  fc (ok_ildn (q := 3) (by decide +kernel) rfl) <|
  fc (ok_ildn (q := 1) (by decide +kernel) rfl) <|
  fc (ok_cv mk_X12_fits mk_X12_canSay ⟨uw458, uw459, uw460, uw5, by decide +kernel⟩ (T := TX12) (N := 47) rfl (by decide +kernel)) <|
  fc (ok_ifeq (off := 7) (by decide +kernel) (by decide)) <|
  fc (ok_iconst (n := 1) (by decide +kernel) (by decide +kernel)) <|
  fc (ok_goto (off := 4) (by decide +kernel) (by decide)) <|
  fc (ok_iconst (n := 0) (by decide +kernel) (by decide +kernel)) <|
  fc (ok_zret rfl (by decide +kernel)) <| fn
def T_X12_asks : List (Nat × Op) := [(0, op_ald 0 1), (1, op_ic 0 1), (2, op_pi 12 7), (5, op_ald 0 1), (6, op_cv M_X12_fitting 12 0), (9, op_ist 1 1), (10, op_ild 1 1), (11, op_ifne 17), (14, op_ic (-2) 2), (16, op_iret), (17, op_ic (-1) 1), (18, op_ist 2 1), (19, op_ic (1000000) 3), (22, op_ist 3 1), (23, op_ic 0 1), (24, op_ist 4 2), (26, op_ild 4 2), (28, op_ic 47 2), (30, op_icge 142), (33, op_ild 4 2), (35, op_ic 7 2), (37, op_ic 29 2), (39, op_cs M_X12_in 3), (42, op_ifeq 48), (45, op_goto 136), (48, op_ic 0 1), (49, op_ist 5 2), (51, op_ic 0 1), (52, op_ist 6 2), (54, op_ild 6 2), (56, op_ald 0 1), (57, op_gi 12 1), (60, op_icge 107), (63, op_ild 5 2), (65, op_ild 1 1), (66, op_ild 6 2), (68, op_cs M_X12_has 2), (71, op_ifeq 97), (74, op_ald 0 1), (75, op_ild 6 2), (77, op_ild 4 2), (79, op_ic 10 2), (81, op_idiv), (82, op_ild 4 2), (84, op_ic 10 2), (86, op_irem), (87, op_cv M_X12_fits 12 3), (90, op_ifeq 97), (93, op_ic 1 1), (94, op_goto 98), (97, op_ic 0 1), (98, op_iadd), (99, op_ist 5 2), (101, op_iinc 6 1), (104, op_goto 54), (107, op_ild 5 2), (109, op_ild 1 1), (110, op_cs M_J6_bitCount_0f7a4 1), (113, op_ild 5 2), (115, op_isub), (116, op_max), (119, op_ist 6 2), (121, op_ild 6 2), (123, op_ild 3 1), (124, op_iclt 130), (127, op_goto 136), (130, op_ild 4 2), (132, op_ist 2 1), (133, op_ild 6 2), (135, op_ist 3 1), (136, op_iinc 4 1), (139, op_goto 26), (142, op_ald 0 1), (143, op_ic 0 1), (144, op_pi 12 6), (147, op_ald 0 1), (148, op_ild 3 1), (149, op_i2l), (150, op_cv M_X12_tell 12 1), (153, op_ild 2 1), (154, op_iret)]
set_option maxRecDepth 20000 in
theorem K_X12_asks : ∀ r ∈ T_X12_asks, OpOK M_X12_asks r.1 r.2 :=
  fc (ok_aldn (q := 0) (by decide +kernel) rfl) <|
  fc (ok_iconst (n := 0) (by decide +kernel) (by decide +kernel)) <|
  fc (ok_pi mk_X12_asks (fo_RX12_103 rfl) to_12_7 rfl (by decide +kernel)) <|
  fc (ok_aldn (q := 0) (by decide +kernel) rfl) <|
  fc (ok_cv mk_X12_asks mk_X12_fitting ⟨uw1068, uw1069, uw1070, uw5, by decide +kernel⟩ (T := TX12) (N := 47) rfl (by decide +kernel)) <|
  fc (ok_istn (q := 1) (by decide +kernel) rfl (by decide)) <|
  fc (ok_ildn (q := 1) (by decide +kernel) rfl) <|
  fc (ok_ifne (off := 6) (by decide +kernel) (by decide)) <|
  fc (ok_bipush (n := -2) (by decide +kernel) (by decide +kernel)) <|
  fc (ok_iret rfl (by decide +kernel)) <|
  fc (ok_iconst (n := -1) (by decide +kernel) (by decide +kernel)) <|
  fc (ok_istn (q := 2) (by decide +kernel) rfl (by decide)) <|
  fc (ok_ldcw mk_X12_asks uw964 (by decide +kernel)) <|
  fc (ok_istn (q := 3) (by decide +kernel) rfl (by decide)) <|
  fc (ok_iconst (n := 0) (by decide +kernel) (by decide +kernel)) <|
  fc (ok_ist (by decide +kernel) (by decide)) <|
  fc (ok_ild (by decide +kernel)) <|
  fc (ok_bipush (n := 47) (by decide +kernel) (by decide +kernel)) <|
  fc (ok_icge (off := 112) (by decide +kernel) (by decide)) <|
  fc (ok_ild (by decide +kernel)) <|
  fc (ok_bipush (n := 7) (by decide +kernel) (by decide +kernel)) <|
  fc (ok_bipush (n := 29) (by decide +kernel) (by decide +kernel)) <|
  fc (ok_cs mk_X12_asks mk_X12_in ⟨uw199, uw200, uw5, by decide +kernel⟩ (by decide +kernel)) <|
  fc (ok_ifeq (off := 6) (by decide +kernel) (by decide)) <|
  fc (ok_goto (off := 91) (by decide +kernel) (by decide)) <|
  fc (ok_iconst (n := 0) (by decide +kernel) (by decide +kernel)) <|
  fc (ok_ist (by decide +kernel) (by decide)) <|
  fc (ok_iconst (n := 0) (by decide +kernel) (by decide +kernel)) <|
  fc (ok_ist (by decide +kernel) (by decide)) <|
  fc (ok_ild (by decide +kernel)) <|
  fc (ok_aldn (q := 0) (by decide +kernel) rfl) <|
  fc (ok_gi mk_X12_asks (fo_RX12_110 rfl) rfl (by decide +kernel)) <|
  fc (ok_icge (off := 47) (by decide +kernel) (by decide)) <|
  fc (ok_ild (by decide +kernel)) <|
  fc (ok_ildn (q := 1) (by decide +kernel) rfl) <|
  fc (ok_ild (by decide +kernel)) <|
  fc (ok_cs mk_X12_asks mk_X12_has ⟨uw837, uw838, uw5, by decide +kernel⟩ (by decide +kernel)) <|
  fc (ok_ifeq (off := 26) (by decide +kernel) (by decide)) <|
  fc (ok_aldn (q := 0) (by decide +kernel) rfl) <|
  fc (ok_ild (by decide +kernel)) <|
  fc (ok_ild (by decide +kernel)) <|
  fc (ok_bipush (n := 10) (by decide +kernel) (by decide +kernel)) <|
  fc (ok_idiv (by decide +kernel)) <|
  fc (ok_ild (by decide +kernel)) <|
  fc (ok_bipush (n := 10) (by decide +kernel) (by decide +kernel)) <|
  fc (ok_irem (by decide +kernel)) <|
  fc (ok_cv mk_X12_asks mk_X12_fits ⟨uw1072, uw1073, uw1074, uw5, by decide +kernel⟩ (T := TX12) (N := 47) rfl (by decide +kernel)) <|
  fc (ok_ifeq (off := 7) (by decide +kernel) (by decide)) <|
  fc (ok_iconst (n := 1) (by decide +kernel) (by decide +kernel)) <|
  fc (ok_goto (off := 4) (by decide +kernel) (by decide)) <|
  fc (ok_iconst (n := 0) (by decide +kernel) (by decide +kernel)) <|
  fc (ok_iadd (by decide +kernel)) <|
  fc (ok_ist (by decide +kernel) (by decide)) <|
  fc (ok_iinc (n := 1) (by decide +kernel) (by decide +kernel) (by decide)) <|
  fc (ok_goto (off := -50) (by decide +kernel) (by decide)) <|
  fc (ok_ild (by decide +kernel)) <|
  fc (ok_ildn (q := 1) (by decide +kernel) rfl) <|
  fc (ok_cs mk_X12_asks mk_J6_bitCount_0f7a4 ⟨uw466, uw429, uw430, by decide +kernel⟩ (by decide +kernel)) <|
  fc (ok_ild (by decide +kernel)) <|
  fc (ok_isub (by decide +kernel)) <|
  fc (ok_max mk_X12_asks uw521 uw506 uw212 uw507 (by decide +kernel)) <|
  fc (ok_ist (by decide +kernel) (by decide)) <|
  fc (ok_ild (by decide +kernel)) <|
  fc (ok_ildn (q := 3) (by decide +kernel) rfl) <|
  fc (ok_iclt (off := 6) (by decide +kernel) (by decide)) <|
  fc (ok_goto (off := 9) (by decide +kernel) (by decide)) <|
  fc (ok_ild (by decide +kernel)) <|
  fc (ok_istn (q := 2) (by decide +kernel) rfl (by decide)) <|
  fc (ok_ild (by decide +kernel)) <|
  fc (ok_istn (q := 3) (by decide +kernel) rfl (by decide)) <|
  fc (ok_iinc (n := 1) (by decide +kernel) (by decide +kernel) (by decide)) <|
  fc (ok_goto (off := -113) (by decide +kernel) (by decide)) <|
  fc (ok_aldn (q := 0) (by decide +kernel) rfl) <|
  fc (ok_iconst (n := 0) (by decide +kernel) (by decide +kernel)) <|
  fc (ok_pi mk_X12_asks (fo_RX12_107 rfl) to_12_6 rfl (by decide +kernel)) <|
  fc (ok_aldn (q := 0) (by decide +kernel) rfl) <|
  fc (ok_ildn (q := 3) (by decide +kernel) rfl) <|
  fc (ok_i2l (by decide +kernel)) <|
  fc (ok_cv mk_X12_asks mk_X12_tell ⟨uw677, uw678, uw679, uw5, by decide +kernel⟩ (T := TX12) (N := 47) rfl (by decide +kernel)) <|
  fc (ok_ildn (q := 2) (by decide +kernel) rfl) <|
  fc (ok_iret rfl (by decide +kernel)) <| fn
def T_X12_saw : List (Nat × Op) := [(0, op_ald 0 1), (1, op_ic 0 1), (2, op_pi 12 7), (5, op_ild 1 1), (6, op_ic 0 1), (7, op_ic 9 2), (9, op_cs M_X12_in 3), (12, op_ifeq 43), (15, op_ild 2 1), (16, op_ic 0 1), (17, op_ic 9 2), (19, op_cs M_X12_in 3), (22, op_ifeq 43), (25, op_ild 3 1), (26, op_ic 0 1), (27, op_ic 1 1), (28, op_cs M_X12_in 3), (31, op_ifeq 43), (34, op_ald 0 1), (35, op_gi 12 38), (38, op_ic 10 2), (40, op_icne 45), (43, op_ic (-1) 1), (44, op_iret), (45, op_ald 0 1), (46, op_gf 12 36 23), (49, op_ald 0 1), (50, op_gi 12 38), (53, op_ic 10 2), (55, op_ild 1 1), (56, op_imul), (57, op_ild 2 1), (58, op_iadd), (59, op_iast), (60, op_ald 0 1), (61, op_gf 12 37 24), (64, op_ald 0 1), (65, op_gi 12 38), (68, op_ild 3 1), (69, op_iast), (70, op_ald 0 1), (71, op_dup), (72, op_gi 12 38), (75, op_ic 1 1), (76, op_iadd), (77, op_pi 12 38), (80, op_ald 0 1), (81, op_gi 12 38), (84, op_iret)]
set_option maxRecDepth 20000 in
theorem K_X12_saw : ∀ r ∈ T_X12_saw, OpOK M_X12_saw r.1 r.2 :=
  fc (ok_aldn (q := 0) (by decide +kernel) rfl) <|
  fc (ok_iconst (n := 0) (by decide +kernel) (by decide +kernel)) <|
  fc (ok_pi mk_X12_saw (fo_RX12_103 rfl) to_12_7 rfl (by decide +kernel)) <|
  fc (ok_ildn (q := 1) (by decide +kernel) rfl) <|
  fc (ok_iconst (n := 0) (by decide +kernel) (by decide +kernel)) <|
  fc (ok_bipush (n := 9) (by decide +kernel) (by decide +kernel)) <|
  fc (ok_cs mk_X12_saw mk_X12_in ⟨uw199, uw200, uw5, by decide +kernel⟩ (by decide +kernel)) <|
  fc (ok_ifeq (off := 31) (by decide +kernel) (by decide)) <|
  fc (ok_ildn (q := 2) (by decide +kernel) rfl) <|
  fc (ok_iconst (n := 0) (by decide +kernel) (by decide +kernel)) <|
  fc (ok_bipush (n := 9) (by decide +kernel) (by decide +kernel)) <|
  fc (ok_cs mk_X12_saw mk_X12_in ⟨uw199, uw200, uw5, by decide +kernel⟩ (by decide +kernel)) <|
  fc (ok_ifeq (off := 21) (by decide +kernel) (by decide)) <|
  fc (ok_ildn (q := 3) (by decide +kernel) rfl) <|
  fc (ok_iconst (n := 0) (by decide +kernel) (by decide +kernel)) <|
  fc (ok_iconst (n := 1) (by decide +kernel) (by decide +kernel)) <|
  fc (ok_cs mk_X12_saw mk_X12_in ⟨uw199, uw200, uw5, by decide +kernel⟩ (by decide +kernel)) <|
  fc (ok_ifeq (off := 12) (by decide +kernel) (by decide)) <|
  fc (ok_aldn (q := 0) (by decide +kernel) rfl) <|
  fc (ok_gi mk_X12_saw (fo_RX12_346 rfl) rfl (by decide +kernel)) <|
  fc (ok_bipush (n := 10) (by decide +kernel) (by decide +kernel)) <|
  fc (ok_icne (off := 5) (by decide +kernel) (by decide)) <|
  fc (ok_iconst (n := -1) (by decide +kernel) (by decide +kernel)) <|
  fc (ok_iret rfl (by decide +kernel)) <|
  fc (ok_aldn (q := 0) (by decide +kernel) rfl) <|
  fc (ok_gf mk_X12_saw (fo_RX12_78 rfl) rfl (by decide +kernel)) <|
  fc (ok_aldn (q := 0) (by decide +kernel) rfl) <|
  fc (ok_gi mk_X12_saw (fo_RX12_346 rfl) rfl (by decide +kernel)) <|
  fc (ok_bipush (n := 10) (by decide +kernel) (by decide +kernel)) <|
  fc (ok_ildn (q := 1) (by decide +kernel) rfl) <|
  fc (ok_imul (by decide +kernel)) <|
  fc (ok_ildn (q := 2) (by decide +kernel) rfl) <|
  fc (ok_iadd (by decide +kernel)) <|
  fc (ok_iast (by decide +kernel)) <|
  fc (ok_aldn (q := 0) (by decide +kernel) rfl) <|
  fc (ok_gf mk_X12_saw (fo_RX12_81 rfl) rfl (by decide +kernel)) <|
  fc (ok_aldn (q := 0) (by decide +kernel) rfl) <|
  fc (ok_gi mk_X12_saw (fo_RX12_346 rfl) rfl (by decide +kernel)) <|
  fc (ok_ildn (q := 3) (by decide +kernel) rfl) <|
  fc (ok_iast (by decide +kernel)) <|
  fc (ok_aldn (q := 0) (by decide +kernel) rfl) <|
  fc (ok_dup (by decide +kernel)) <|
  fc (ok_gi mk_X12_saw (fo_RX12_346 rfl) rfl (by decide +kernel)) <|
  fc (ok_iconst (n := 1) (by decide +kernel) (by decide +kernel)) <|
  fc (ok_iadd (by decide +kernel)) <|
  fc (ok_pi mk_X12_saw (fo_RX12_346 rfl) to_12_38 rfl (by decide +kernel)) <|
  fc (ok_aldn (q := 0) (by decide +kernel) rfl) <|
  fc (ok_gi mk_X12_saw (fo_RX12_346 rfl) rfl (by decide +kernel)) <|
  fc (ok_iret rfl (by decide +kernel)) <| fn
def T_X12_denies : List (Nat × Op) := [(0, op_ald 0 1), (1, op_ic 0 1), (2, op_pi 12 7), (5, op_ald 0 1), (6, op_gi 12 38), (9, op_ist 1 1), (10, op_ald 0 1), (11, op_ic 0 1), (12, op_pi 12 38), (15, op_ild 1 1), (16, op_iret)]
set_option maxRecDepth 20000 in
theorem K_X12_denies : ∀ r ∈ T_X12_denies, OpOK M_X12_denies r.1 r.2 :=
  fc (ok_aldn (q := 0) (by decide +kernel) rfl) <|
  fc (ok_iconst (n := 0) (by decide +kernel) (by decide +kernel)) <|
  fc (ok_pi mk_X12_denies (fo_RX12_103 rfl) to_12_7 rfl (by decide +kernel)) <|
  fc (ok_aldn (q := 0) (by decide +kernel) rfl) <|
  fc (ok_gi mk_X12_denies (fo_RX12_346 rfl) rfl (by decide +kernel)) <|
  fc (ok_istn (q := 1) (by decide +kernel) rfl (by decide)) <|
  fc (ok_aldn (q := 0) (by decide +kernel) rfl) <|
  fc (ok_iconst (n := 0) (by decide +kernel) (by decide +kernel)) <|
  fc (ok_pi mk_X12_denies (fo_RX12_346 rfl) to_12_38 rfl (by decide +kernel)) <|
  fc (ok_ildn (q := 1) (by decide +kernel) rfl) <|
  fc (ok_iret rfl (by decide +kernel)) <| fn
def T_X12_laws : List (Nat × Op) := [(0, op_ald 0 1), (1, op_ic 0 1), (2, op_pi 12 7), (5, op_ic 0 1), (6, op_ist 1 1), (7, op_ald 0 1), (8, op_ic 0 1), (9, op_pi 12 6), (12, op_ic 0 1), (13, op_ist 2 1), (14, op_ild 2 1), (15, op_ic 160 3), (18, op_icge 74), (21, op_ald 0 1), (22, op_ild 2 1), (23, op_cv M_X12_isLaw 12 1), (26, op_ifne 32), (29, op_goto 68), (32, op_ild 1 1), (33, op_ifne 65), (36, op_ald 0 1), (37, op_ild 2 1), (38, op_ic 40 2), (40, op_idiv), (41, op_i2l), (42, op_cv M_X12_tell 12 1), (45, op_ald 0 1), (46, op_ild 2 1), (47, op_ic 10 2), (49, op_idiv), (50, op_ic 4 1), (51, op_irem), (52, op_i2l), (53, op_cv M_X12_tell 12 1), (56, op_ald 0 1), (57, op_ild 2 1), (58, op_ic 10 2), (60, op_irem), (61, op_i2l), (62, op_cv M_X12_tell 12 1), (65, op_iinc 1 1), (68, op_iinc 2 1), (71, op_goto 14), (74, op_ild 1 1), (75, op_iret)]
set_option maxRecDepth 20000 in
theorem K_X12_laws : ∀ r ∈ T_X12_laws, OpOK M_X12_laws r.1 r.2 :=
  fc (ok_aldn (q := 0) (by decide +kernel) rfl) <|
  fc (ok_iconst (n := 0) (by decide +kernel) (by decide +kernel)) <|
  fc (ok_pi mk_X12_laws (fo_RX12_103 rfl) to_12_7 rfl (by decide +kernel)) <|
  fc (ok_iconst (n := 0) (by decide +kernel) (by decide +kernel)) <|
  fc (ok_istn (q := 1) (by decide +kernel) rfl (by decide)) <|
  fc (ok_aldn (q := 0) (by decide +kernel) rfl) <|
  fc (ok_iconst (n := 0) (by decide +kernel) (by decide +kernel)) <|
  fc (ok_pi mk_X12_laws (fo_RX12_107 rfl) to_12_6 rfl (by decide +kernel)) <|
  fc (ok_iconst (n := 0) (by decide +kernel) (by decide +kernel)) <|
  fc (ok_istn (q := 2) (by decide +kernel) rfl (by decide)) <|
  fc (ok_ildn (q := 2) (by decide +kernel) rfl) <|
  fc (ok_sipush (n := 160) (by decide +kernel) (by decide +kernel)) <|
  fc (ok_icge (off := 56) (by decide +kernel) (by decide)) <|
  fc (ok_aldn (q := 0) (by decide +kernel) rfl) <|
  fc (ok_ildn (q := 2) (by decide +kernel) rfl) <|
  fc (ok_cv mk_X12_laws mk_X12_isLaw ⟨uw1137, uw1138, uw1139, uw5, by decide +kernel⟩ (T := TX12) (N := 47) rfl (by decide +kernel)) <|
  fc (ok_ifne (off := 6) (by decide +kernel) (by decide)) <|
  fc (ok_goto (off := 39) (by decide +kernel) (by decide)) <|
  fc (ok_ildn (q := 1) (by decide +kernel) rfl) <|
  fc (ok_ifne (off := 32) (by decide +kernel) (by decide)) <|
  fc (ok_aldn (q := 0) (by decide +kernel) rfl) <|
  fc (ok_ildn (q := 2) (by decide +kernel) rfl) <|
  fc (ok_bipush (n := 40) (by decide +kernel) (by decide +kernel)) <|
  fc (ok_idiv (by decide +kernel)) <|
  fc (ok_i2l (by decide +kernel)) <|
  fc (ok_cv mk_X12_laws mk_X12_tell ⟨uw677, uw678, uw679, uw5, by decide +kernel⟩ (T := TX12) (N := 47) rfl (by decide +kernel)) <|
  fc (ok_aldn (q := 0) (by decide +kernel) rfl) <|
  fc (ok_ildn (q := 2) (by decide +kernel) rfl) <|
  fc (ok_bipush (n := 10) (by decide +kernel) (by decide +kernel)) <|
  fc (ok_idiv (by decide +kernel)) <|
  fc (ok_iconst (n := 4) (by decide +kernel) (by decide +kernel)) <|
  fc (ok_irem (by decide +kernel)) <|
  fc (ok_i2l (by decide +kernel)) <|
  fc (ok_cv mk_X12_laws mk_X12_tell ⟨uw677, uw678, uw679, uw5, by decide +kernel⟩ (T := TX12) (N := 47) rfl (by decide +kernel)) <|
  fc (ok_aldn (q := 0) (by decide +kernel) rfl) <|
  fc (ok_ildn (q := 2) (by decide +kernel) rfl) <|
  fc (ok_bipush (n := 10) (by decide +kernel) (by decide +kernel)) <|
  fc (ok_irem (by decide +kernel)) <|
  fc (ok_i2l (by decide +kernel)) <|
  fc (ok_cv mk_X12_laws mk_X12_tell ⟨uw677, uw678, uw679, uw5, by decide +kernel⟩ (T := TX12) (N := 47) rfl (by decide +kernel)) <|
  fc (ok_iinc (n := 1) (by decide +kernel) (by decide +kernel) (by decide)) <|
  fc (ok_iinc (n := 1) (by decide +kernel) (by decide +kernel) (by decide)) <|
  fc (ok_goto (off := -57) (by decide +kernel) (by decide)) <|
  fc (ok_ildn (q := 1) (by decide +kernel) rfl) <|
  fc (ok_iret rfl (by decide +kernel)) <| fn
def T_X12_isLaw : List (Nat × Op) := [(0, op_ic 0 1), (1, op_ist 2 1), (2, op_ild 2 1), (3, op_ald 0 1), (4, op_gi 12 38), (7, op_icge 46), (10, op_ild 1 1), (11, op_ald 0 1), (12, op_gf 12 36 23), (15, op_ild 2 1), (16, op_iald), (17, op_ald 0 1), (18, op_gf 12 37 24), (21, op_ild 2 1), (22, op_iald), (23, op_ic 1 1), (24, op_icne 31), (27, op_ic 1 1), (28, op_goto 32), (31, op_ic 0 1), (32, op_cs M_X12_says_ 3), (35, op_ifne 40), (38, op_ic 0 1), (39, op_zret), (40, op_iinc 2 1), (43, op_goto 2), (46, op_ic 1 1), (47, op_zret)]
set_option maxRecDepth 20000 in
theorem K_X12_isLaw : ∀ r ∈ T_X12_isLaw, OpOK M_X12_isLaw r.1 r.2 :=
  fc (ok_iconst (n := 0) (by decide +kernel) (by decide +kernel)) <|
  fc (ok_istn (q := 2) (by decide +kernel) rfl (by decide)) <|
  fc (ok_ildn (q := 2) (by decide +kernel) rfl) <|
  fc (ok_aldn (q := 0) (by decide +kernel) rfl) <|
  fc (ok_gi mk_X12_isLaw (fo_RX12_346 rfl) rfl (by decide +kernel)) <|
  fc (ok_icge (off := 39) (by decide +kernel) (by decide)) <|
  fc (ok_ildn (q := 1) (by decide +kernel) rfl) <|
  fc (ok_aldn (q := 0) (by decide +kernel) rfl) <|
  fc (ok_gf mk_X12_isLaw (fo_RX12_78 rfl) rfl (by decide +kernel)) <|
  fc (ok_ildn (q := 2) (by decide +kernel) rfl) <|
  fc (ok_iald (by decide +kernel)) <|
  fc (ok_aldn (q := 0) (by decide +kernel) rfl) <|
  fc (ok_gf mk_X12_isLaw (fo_RX12_81 rfl) rfl (by decide +kernel)) <|
  fc (ok_ildn (q := 2) (by decide +kernel) rfl) <|
  fc (ok_iald (by decide +kernel)) <|
  fc (ok_iconst (n := 1) (by decide +kernel) (by decide +kernel)) <|
  fc (ok_icne (off := 7) (by decide +kernel) (by decide)) <|
  fc (ok_iconst (n := 1) (by decide +kernel) (by decide +kernel)) <|
  fc (ok_goto (off := 4) (by decide +kernel) (by decide)) <|
  fc (ok_iconst (n := 0) (by decide +kernel) (by decide +kernel)) <|
  fc (ok_cs mk_X12_isLaw mk_X12_says_ ⟨uw1141, uw1142, uw5, by decide +kernel⟩ (by decide +kernel)) <|
  fc (ok_ifne (off := 5) (by decide +kernel) (by decide)) <|
  fc (ok_iconst (n := 0) (by decide +kernel) (by decide +kernel)) <|
  fc (ok_zret rfl (by decide +kernel)) <|
  fc (ok_iinc (n := 1) (by decide +kernel) (by decide +kernel) (by decide)) <|
  fc (ok_goto (off := -41) (by decide +kernel) (by decide)) <|
  fc (ok_iconst (n := 1) (by decide +kernel) (by decide +kernel)) <|
  fc (ok_zret rfl (by decide +kernel)) <| fn
