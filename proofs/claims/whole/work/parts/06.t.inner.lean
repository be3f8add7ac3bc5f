def T_X5_becomesNone : List (Nat × Op) := [(0, op_ald 0 1), (1, op_ic 0 1), (2, op_pi 5 2), (5, op_ald 0 1), (6, op_ic 1118 3), (9, op_cv M_X5_puts 5 1), (12, op_ald 0 1), (13, op_ic 1102 3), (16, op_cv M_X5_puts 5 1), (19, op_ald 0 1), (20, op_ic 1045 3), (23, op_cv M_X5_puts 5 1), (26, op_vret)]
set_option maxRecDepth 20000 in
theorem K_X5_becomesNone : ∀ r ∈ T_X5_becomesNone, OpOK M_X5_becomesNone r.1 r.2 :=
  fc (ok_aldn (q := 0) (by decide +kernel) rfl) <|
  fc (ok_iconst (n := 0) (by decide +kernel) (by decide +kernel)) <|
  fc (ok_pi mk_X5_becomesNone (fo_RX5_21 rfl) to_5_2 rfl (by decide +kernel)) <|
  fc (ok_aldn (q := 0) (by decide +kernel) rfl) <|
  fc (ok_sipush (n := 1118) (by decide +kernel) (by decide +kernel)) <|
  fc (ok_cv mk_X5_becomesNone mk_X5_puts ⟨uw131, uw132, uw133, uw56, by decide +kernel⟩ (T := TX5) (N := 3) rfl (by decide +kernel)) <|
  fc (ok_aldn (q := 0) (by decide +kernel) rfl) <|
  fc (ok_sipush (n := 1102) (by decide +kernel) (by decide +kernel)) <|
  fc (ok_cv mk_X5_becomesNone mk_X5_puts ⟨uw131, uw132, uw133, uw56, by decide +kernel⟩ (T := TX5) (N := 3) rfl (by decide +kernel)) <|
  fc (ok_aldn (q := 0) (by decide +kernel) rfl) <|
  fc (ok_sipush (n := 1045) (by decide +kernel) (by decide +kernel)) <|
  fc (ok_cv mk_X5_becomesNone mk_X5_puts ⟨uw131, uw132, uw133, uw56, by decide +kernel⟩ (T := TX5) (N := 3) rfl (by decide +kernel)) <|
  fc (ok_vret rfl (by decide +kernel)) <| fn
def T_X5_puts : List (Nat × Op) := [(0, op_ald 0 1), (1, op_gi 5 2), (4, op_iflt 36), (7, op_ald 0 1), (8, op_gi 5 2), (11, op_ic 40 2), (13, op_icge 36), (16, op_ald 0 1), (17, op_gf 5 0 1), (20, op_ald 0 1), (21, op_gi 5 2), (24, op_ild 1 1), (25, op_iast), (26, op_ald 0 1), (27, op_dup), (28, op_gi 5 2), (31, op_ic 1 1), (32, op_iadd), (33, op_pi 5 2), (36, op_vret)]
set_option maxRecDepth 20000 in
theorem K_X5_puts : ∀ r ∈ T_X5_puts, OpOK M_X5_puts r.1 r.2 :=
  fc (ok_aldn (q := 0) (by decide +kernel) rfl) <|
  fc (ok_gi mk_X5_puts (fo_RX5_21 rfl) rfl (by decide +kernel)) <|
  fc (ok_iflt (off := 32) (by decide +kernel) (by decide)) <|
  fc (ok_aldn (q := 0) (by decide +kernel) rfl) <|
  fc (ok_gi mk_X5_puts (fo_RX5_21 rfl) rfl (by decide +kernel)) <|
  fc (ok_bipush (n := 40) (by decide +kernel) (by decide +kernel)) <|
  fc (ok_icge (off := 23) (by decide +kernel) (by decide)) <|
  fc (ok_aldn (q := 0) (by decide +kernel) rfl) <|
  fc (ok_gf mk_X5_puts (fo_RX5_9 rfl) rfl (by decide +kernel)) <|
  fc (ok_aldn (q := 0) (by decide +kernel) rfl) <|
  fc (ok_gi mk_X5_puts (fo_RX5_21 rfl) rfl (by decide +kernel)) <|
  fc (ok_ildn (q := 1) (by decide +kernel) rfl) <|
  fc (ok_iast (by decide +kernel)) <|
  fc (ok_aldn (q := 0) (by decide +kernel) rfl) <|
  fc (ok_dup (by decide +kernel)) <|
  fc (ok_gi mk_X5_puts (fo_RX5_21 rfl) rfl (by decide +kernel)) <|
  fc (ok_iconst (n := 1) (by decide +kernel) (by decide +kernel)) <|
  fc (ok_iadd (by decide +kernel)) <|
  fc (ok_pi mk_X5_puts (fo_RX5_21 rfl) to_5_2 rfl (by decide +kernel)) <|
  fc (ok_vret rfl (by decide +kernel)) <| fn
def T_X5_worth : List (Nat × Op) := [(0, op_ic 0 1), (1, op_ist 4 2), (3, op_ic 0 1), (4, op_ist 5 2), (6, op_ild 5 2), (8, op_ald 0 1), (9, op_gi 5 2), (12, op_icge 177), (15, op_ild 5 2), (17, op_ic 40 2), (19, op_icge 177), (22, op_ald 0 1), (23, op_gf 5 0 1), (26, op_ild 5 2), (28, op_iald), (29, op_ic 1000 3), (32, op_isub), (33, op_ist 6 2), (35, op_ild 6 2), (37, op_iflt 54), (40, op_ild 6 2), (42, op_ic 97 2), (44, op_iclt 97), (47, op_ild 6 2), (49, op_ic 126 2), (51, op_iceq 97), (54, op_ild 4 2), (56, op_ic 40 2), (58, op_icge 171), (61, op_ald 0 1), (62, op_gf 5 1 2), (65, op_ild 4 2), (67, op_ild 6 2), (69, op_ifge 82), (72, op_ald 0 1), (73, op_gf 5 0 1), (76, op_ild 5 2), (78, op_iald), (79, op_goto 90), (82, op_ild 6 2), (84, op_ald 1 1), (85, op_ild 2 1), (86, op_ild 3 1), (87, op_cs M_X5_thing 4), (90, op_iast), (91, op_iinc 4 1), (94, op_goto 171), (97, op_ild 6 2), (99, op_ic 126 2), (101, op_icne 132), (104, op_ild 4 2), (106, op_ic 1 1), (107, op_iclt 171), (110, op_ald 0 1), (111, op_gf 5 1 2), (114, op_ild 4 2), (116, op_ic 1 1), (117, op_isub), (118, op_ald 0 1), (119, op_gf 5 1 2), (122, op_ild 4 2), (124, op_ic 1 1), (125, op_isub), (126, op_iald), (127, op_ineg), (128, op_iast), (129, op_goto 171), (132, op_ild 4 2), (134, op_ic 2 1), (135, op_iclt 171), (138, op_iinc 4 (-1)), (141, op_ald 0 1), (142, op_gf 5 1 2), (145, op_ild 4 2), (147, op_ic 1 1), (148, op_isub), (149, op_ild 6 2), (151, op_ald 0 1), (152, op_gf 5 1 2), (155, op_ild 4 2), (157, op_ic 1 1), (158, op_isub), (159, op_iald), (160, op_ald 0 1), (161, op_gf 5 1 2), (164, op_ild 4 2), (166, op_iald), (167, op_cs M_X5_joined 3), (170, op_iast), (171, op_iinc 5 1), (174, op_goto 6), (177, op_ald 0 1), (178, op_gf 5 1 2), (181, op_ic 0 1), (182, op_iald), (183, op_iret)]
set_option maxRecDepth 20000 in
theorem K_X5_worth : ∀ r ∈ T_X5_worth, OpOK M_X5_worth r.1 r.2 :=
  fc (ok_iconst (n := 0) (by decide +kernel) (by decide +kernel)) <|
  fc (ok_ist (by decide +kernel) (by decide)) <|
  fc (ok_iconst (n := 0) (by decide +kernel) (by decide +kernel)) <|
  fc (ok_ist (by decide +kernel) (by decide)) <|
  fc (ok_ild (by decide +kernel)) <|
  fc (ok_aldn (q := 0) (by decide +kernel) rfl) <|
  fc (ok_gi mk_X5_worth (fo_RX5_21 rfl) rfl (by decide +kernel)) <|
  fc (ok_icge (off := 165) (by decide +kernel) (by decide)) <|
  fc (ok_ild (by decide +kernel)) <|
  fc (ok_bipush (n := 40) (by decide +kernel) (by decide +kernel)) <|
  fc (ok_icge (off := 158) (by decide +kernel) (by decide)) <|
  fc (ok_aldn (q := 0) (by decide +kernel) rfl) <|
  fc (ok_gf mk_X5_worth (fo_RX5_9 rfl) rfl (by decide +kernel)) <|
  fc (ok_ild (by decide +kernel)) <|
  fc (ok_iald (by decide +kernel)) <|
  fc (ok_sipush (n := 1000) (by decide +kernel) (by decide +kernel)) <|
  fc (ok_isub (by decide +kernel)) <|
  fc (ok_ist (by decide +kernel) (by decide)) <|
  fc (ok_ild (by decide +kernel)) <|
  fc (ok_iflt (off := 17) (by decide +kernel) (by decide)) <|
  fc (ok_ild (by decide +kernel)) <|
  fc (ok_bipush (n := 97) (by decide +kernel) (by decide +kernel)) <|
  fc (ok_iclt (off := 53) (by decide +kernel) (by decide)) <|
  fc (ok_ild (by decide +kernel)) <|
  fc (ok_bipush (n := 126) (by decide +kernel) (by decide +kernel)) <|
  fc (ok_iceq (off := 46) (by decide +kernel) (by decide)) <|
  fc (ok_ild (by decide +kernel)) <|
  fc (ok_bipush (n := 40) (by decide +kernel) (by decide +kernel)) <|
  fc (ok_icge (off := 113) (by decide +kernel) (by decide)) <|
  fc (ok_aldn (q := 0) (by decide +kernel) rfl) <|
  fc (ok_gf mk_X5_worth (fo_RX5_15 rfl) rfl (by decide +kernel)) <|
  fc (ok_ild (by decide +kernel)) <|
  fc (ok_ild (by decide +kernel)) <|
  fc (ok_ifge (off := 13) (by decide +kernel) (by decide)) <|
  fc (ok_aldn (q := 0) (by decide +kernel) rfl) <|
  fc (ok_gf mk_X5_worth (fo_RX5_9 rfl) rfl (by decide +kernel)) <|
  fc (ok_ild (by decide +kernel)) <|
  fc (ok_iald (by decide +kernel)) <|
  fc (ok_goto (off := 11) (by decide +kernel) (by decide)) <|
  fc (ok_ild (by decide +kernel)) <|
  fc (ok_aldn (q := 1) (by decide +kernel) rfl) <|
  fc (ok_ildn (q := 2) (by decide +kernel) rfl) <|
  fc (ok_ildn (q := 3) (by decide +kernel) rfl) <|
  fc (ok_cs mk_X5_worth mk_X5_thing ⟨uw416, uw417, uw56, by decide +kernel⟩ (by decide +kernel)) <|
  fc (ok_iast (by decide +kernel)) <|
  fc (ok_iinc (n := 1) (by decide +kernel) (by decide +kernel) (by decide)) <|
  fc (ok_goto (off := 77) (by decide +kernel) (by decide)) <|
  fc (ok_ild (by decide +kernel)) <|
  fc (ok_bipush (n := 126) (by decide +kernel) (by decide +kernel)) <|
  fc (ok_icne (off := 31) (by decide +kernel) (by decide)) <|
  fc (ok_ild (by decide +kernel)) <|
  fc (ok_iconst (n := 1) (by decide +kernel) (by decide +kernel)) <|
  fc (ok_iclt (off := 64) (by decide +kernel) (by decide)) <|
  fc (ok_aldn (q := 0) (by decide +kernel) rfl) <|
  fc (ok_gf mk_X5_worth (fo_RX5_15 rfl) rfl (by decide +kernel)) <|
  fc (ok_ild (by decide +kernel)) <|
  fc (ok_iconst (n := 1) (by decide +kernel) (by decide +kernel)) <|
  fc (ok_isub (by decide +kernel)) <|
  fc (ok_aldn (q := 0) (by decide +kernel) rfl) <|
  fc (ok_gf mk_X5_worth (fo_RX5_15 rfl) rfl (by decide +kernel)) <|
  fc (ok_ild (by decide +kernel)) <|
  fc (ok_iconst (n := 1) (by decide +kernel) (by decide +kernel)) <|
  fc (ok_isub (by decide +kernel)) <|
  fc (ok_iald (by decide +kernel)) <|
  fc (ok_ineg (by decide +kernel)) <|
  fc (ok_iast (by decide +kernel)) <|
  fc (ok_goto (off := 42) (by decide +kernel) (by decide)) <|
  fc (ok_ild (by decide +kernel)) <|
  fc (ok_iconst (n := 2) (by decide +kernel) (by decide +kernel)) <|
  fc (ok_iclt (off := 36) (by decide +kernel) (by decide)) <|
  fc (ok_iinc (n := -1) (by decide +kernel) (by decide +kernel) (by decide)) <|
  fc (ok_aldn (q := 0) (by decide +kernel) rfl) <|
  fc (ok_gf mk_X5_worth (fo_RX5_15 rfl) rfl (by decide +kernel)) <|
  fc (ok_ild (by decide +kernel)) <|
  fc (ok_iconst (n := 1) (by decide +kernel) (by decide +kernel)) <|
  fc (ok_isub (by decide +kernel)) <|
  fc (ok_ild (by decide +kernel)) <|
  fc (ok_aldn (q := 0) (by decide +kernel) rfl) <|
  fc (ok_gf mk_X5_worth (fo_RX5_15 rfl) rfl (by decide +kernel)) <|
  fc (ok_ild (by decide +kernel)) <|
  fc (ok_iconst (n := 1) (by decide +kernel) (by decide +kernel)) <|
  fc (ok_isub (by decide +kernel)) <|
  fc (ok_iald (by decide +kernel)) <|
  fc (ok_aldn (q := 0) (by decide +kernel) rfl) <|
  fc (ok_gf mk_X5_worth (fo_RX5_15 rfl) rfl (by decide +kernel)) <|
  fc (ok_ild (by decide +kernel)) <|
  fc (ok_iald (by decide +kernel)) <|
  fc (ok_cs mk_X5_worth mk_X5_joined ⟨uw435, uw436, uw56, by decide +kernel⟩ (by decide +kernel)) <|
  fc (ok_iast (by decide +kernel)) <|
  fc (ok_iinc (n := 1) (by decide +kernel) (by decide +kernel) (by decide)) <|
  fc (ok_goto (off := -168) (by decide +kernel) (by decide)) <|
  fc (ok_aldn (q := 0) (by decide +kernel) rfl) <|
  fc (ok_gf mk_X5_worth (fo_RX5_15 rfl) rfl (by decide +kernel)) <|
  fc (ok_iconst (n := 0) (by decide +kernel) (by decide +kernel)) <|
  fc (ok_iald (by decide +kernel)) <|
  fc (ok_iret rfl (by decide +kernel)) <| fn
def T_X5_thing : List (Nat × Op) := [(0, op_ald 1 1), (1, op_gf 2 3 4), (4, op_ild 3 1), (5, op_iald), (6, op_ist 4 2), (8, op_ild 0 1), (9, op_sw 128 [(97, 110), (102, 83), (104, 101), (111, 117), (117, 75), (118, 68)]), (68, op_ald 1 1), (69, op_gf 2 1 2), (72, op_ild 2 1), (73, op_iald), (74, op_iret), (75, op_ald 1 1), (76, op_gf 2 1 2), (79, op_ild 4 2), (81, op_iald), (82, op_iret), (83, op_ald 1 1), (84, op_gf 2 0 1), (87, op_ild 2 1), (88, op_iald), (89, op_ald 1 1), (90, op_gf 2 0 1), (93, op_ild 4 2), (95, op_iald), (96, op_isub), (97, op_abs), (100, op_iret), (101, op_ald 1 1), (102, op_ild 2 1), (103, op_cv M_X2_held 2 1), (106, op_cs M_J6_bitCount_0f7a4 1), (109, op_iret), (110, op_ald 1 1), (111, op_gf 2 4 5), (114, op_ild 3 1), (115, op_iald), (116, op_iret), (117, op_ild 2 1), (118, op_ild 3 1), (119, op_icne 126), (122, op_ic 1 1), (123, op_goto 127), (126, op_ic 0 1), (127, op_iret), (128, op_ald 1 1), (129, op_gi 2 6), (132, op_ic 7 2), (134, op_irem), (135, op_iret)]
set_option maxRecDepth 20000 in
theorem K_X5_thing : ∀ r ∈ T_X5_thing, OpOK M_X5_thing r.1 r.2 :=
  fc (ok_aldn (q := 1) (by decide +kernel) rfl) <|
  fc (ok_gf mk_X5_thing (fo_RX5_37 rfl) rfl (by decide +kernel)) <|
  fc (ok_ildn (q := 3) (by decide +kernel) rfl) <|
  fc (ok_iald (by decide +kernel)) <|
  fc (ok_ist (by decide +kernel) (by decide)) <|
  fc (ok_ildn (q := 0) (by decide +kernel) rfl) <|
  fc (ok_lsw (dflt := 119) (pp := #[(97, 101), (102, 74), (104, 92), (111, 108), (117, 66), (118, 59)]) (len := 59) (by decide +kernel) (by decide +kernel) (by decide +kernel) (by decide)) <|
  fc (ok_aldn (q := 1) (by decide +kernel) rfl) <|
  fc (ok_gf mk_X5_thing (fo_RX5_42 rfl) rfl (by decide +kernel)) <|
  fc (ok_ildn (q := 2) (by decide +kernel) rfl) <|
  fc (ok_iald (by decide +kernel)) <|
  fc (ok_iret rfl (by decide +kernel)) <|
  fc (ok_aldn (q := 1) (by decide +kernel) rfl) <|
  fc (ok_gf mk_X5_thing (fo_RX5_42 rfl) rfl (by decide +kernel)) <|
  fc (ok_ild (by decide +kernel)) <|
  fc (ok_iald (by decide +kernel)) <|
  fc (ok_iret rfl (by decide +kernel)) <|
  fc (ok_aldn (q := 1) (by decide +kernel) rfl) <|
  fc (ok_gf mk_X5_thing (fo_RX5_45 rfl) rfl (by decide +kernel)) <|
  fc (ok_ildn (q := 2) (by decide +kernel) rfl) <|
  fc (ok_iald (by decide +kernel)) <|
  fc (ok_aldn (q := 1) (by decide +kernel) rfl) <|
  fc (ok_gf mk_X5_thing (fo_RX5_45 rfl) rfl (by decide +kernel)) <|
  fc (ok_ild (by decide +kernel)) <|
  fc (ok_iald (by decide +kernel)) <|
  fc (ok_isub (by decide +kernel)) <|
  fc (ok_abs mk_X5_thing uw422 uw423 uw212 uw424 (by decide +kernel)) <|
  fc (ok_iret rfl (by decide +kernel)) <|
  fc (ok_aldn (q := 1) (by decide +kernel) rfl) <|
  fc (ok_ildn (q := 2) (by decide +kernel) rfl) <|
  fc (ok_cv mk_X5_thing mk_X2_held ⟨uw427, uw401, uw402, uw23, by decide +kernel⟩ (T := TX2) (N := 8) rfl (by decide +kernel)) <|
  fc (ok_cs mk_X5_thing mk_J6_bitCount_0f7a4 ⟨uw428, uw429, uw430, by decide +kernel⟩ (by decide +kernel)) <|
  fc (ok_iret rfl (by decide +kernel)) <|
  fc (ok_aldn (q := 1) (by decide +kernel) rfl) <|
  fc (ok_gf mk_X5_thing (fo_RX5_62 rfl) rfl (by decide +kernel)) <|
  fc (ok_ildn (q := 3) (by decide +kernel) rfl) <|
  fc (ok_iald (by decide +kernel)) <|
  fc (ok_iret rfl (by decide +kernel)) <|
  fc (ok_ildn (q := 2) (by decide +kernel) rfl) <|
  fc (ok_ildn (q := 3) (by decide +kernel) rfl) <|
  fc (ok_icne (off := 7) (by decide +kernel) (by decide)) <|
  fc (ok_iconst (n := 1) (by decide +kernel) (by decide +kernel)) <|
  fc (ok_goto (off := 4) (by decide +kernel) (by decide)) <|
  fc (ok_iconst (n := 0) (by decide +kernel) (by decide +kernel)) <|
  fc (ok_iret rfl (by decide +kernel)) <|
  fc (ok_aldn (q := 1) (by decide +kernel) rfl) <|
  fc (ok_gi mk_X5_thing (fo_RX5_65 rfl) rfl (by decide +kernel)) <|
  fc (ok_bipush (n := 7) (by decide +kernel) (by decide +kernel)) <|
  fc (ok_irem (by decide +kernel)) <|
  fc (ok_iret rfl (by decide +kernel)) <| fn
def T_X5_joined : List (Nat × Op) := [(0, op_ild 0 1), (1, op_sw 105 [(42, 101), (43, 93), (45, 97), (60, 60), (61, 82), (62, 71)]), (60, op_ild 1 1), (61, op_ild 2 1), (62, op_icge 69), (65, op_ic 1 1), (66, op_goto 70), (69, op_ic 0 1), (70, op_iret), (71, op_ild 1 1), (72, op_ild 2 1), (73, op_icle 80), (76, op_ic 1 1), (77, op_goto 81), (80, op_ic 0 1), (81, op_iret), (82, op_ild 1 1), (83, op_ild 2 1), (84, op_icne 91), (87, op_ic 1 1), (88, op_goto 92), (91, op_ic 0 1), (92, op_iret), (93, op_ild 1 1), (94, op_ild 2 1), (95, op_iadd), (96, op_iret), (97, op_ild 1 1), (98, op_ild 2 1), (99, op_isub), (100, op_iret), (101, op_ild 1 1), (102, op_ild 2 1), (103, op_imul), (104, op_iret), (105, op_ild 2 1), (106, op_ifne 113), (109, op_ic 0 1), (110, op_goto 116), (113, op_ild 1 1), (114, op_ild 2 1), (115, op_idiv), (116, op_iret)]
set_option maxRecDepth 20000 in
theorem K_X5_joined : ∀ r ∈ T_X5_joined, OpOK M_X5_joined r.1 r.2 :=
  fc (ok_ildn (q := 0) (by decide +kernel) rfl) <|
  fc (ok_lsw (dflt := 104) (pp := #[(42, 100), (43, 92), (45, 96), (60, 59), (61, 81), (62, 70)]) (len := 59) (by decide +kernel) (by decide +kernel) (by decide +kernel) (by decide)) <|
  fc (ok_ildn (q := 1) (by decide +kernel) rfl) <|
  fc (ok_ildn (q := 2) (by decide +kernel) rfl) <|
  fc (ok_icge (off := 7) (by decide +kernel) (by decide)) <|
  fc (ok_iconst (n := 1) (by decide +kernel) (by decide +kernel)) <|
  fc (ok_goto (off := 4) (by decide +kernel) (by decide)) <|
  fc (ok_iconst (n := 0) (by decide +kernel) (by decide +kernel)) <|
  fc (ok_iret rfl (by decide +kernel)) <|
  fc (ok_ildn (q := 1) (by decide +kernel) rfl) <|
  fc (ok_ildn (q := 2) (by decide +kernel) rfl) <|
  fc (ok_icle (off := 7) (by decide +kernel) (by decide)) <|
  fc (ok_iconst (n := 1) (by decide +kernel) (by decide +kernel)) <|
  fc (ok_goto (off := 4) (by decide +kernel) (by decide)) <|
  fc (ok_iconst (n := 0) (by decide +kernel) (by decide +kernel)) <|
  fc (ok_iret rfl (by decide +kernel)) <|
  fc (ok_ildn (q := 1) (by decide +kernel) rfl) <|
  fc (ok_ildn (q := 2) (by decide +kernel) rfl) <|
  fc (ok_icne (off := 7) (by decide +kernel) (by decide)) <|
  fc (ok_iconst (n := 1) (by decide +kernel) (by decide +kernel)) <|
  fc (ok_goto (off := 4) (by decide +kernel) (by decide)) <|
  fc (ok_iconst (n := 0) (by decide +kernel) (by decide +kernel)) <|
  fc (ok_iret rfl (by decide +kernel)) <|
  fc (ok_ildn (q := 1) (by decide +kernel) rfl) <|
  fc (ok_ildn (q := 2) (by decide +kernel) rfl) <|
  fc (ok_iadd (by decide +kernel)) <|
  fc (ok_iret rfl (by decide +kernel)) <|
  fc (ok_ildn (q := 1) (by decide +kernel) rfl) <|
  fc (ok_ildn (q := 2) (by decide +kernel) rfl) <|
  fc (ok_isub (by decide +kernel)) <|
  fc (ok_iret rfl (by decide +kernel)) <|
  fc (ok_ildn (q := 1) (by decide +kernel) rfl) <|
  fc (ok_ildn (q := 2) (by decide +kernel) rfl) <|
  fc (ok_imul (by decide +kernel)) <|
  fc (ok_iret rfl (by decide +kernel)) <|
  fc (ok_ildn (q := 2) (by decide +kernel) rfl) <|
  fc (ok_ifne (off := 7) (by decide +kernel) (by decide)) <|
  fc (ok_iconst (n := 0) (by decide +kernel) (by decide +kernel)) <|
  fc (ok_goto (off := 6) (by decide +kernel) (by decide)) <|
  fc (ok_ildn (q := 1) (by decide +kernel) rfl) <|
  fc (ok_ildn (q := 2) (by decide +kernel) rfl) <|
  fc (ok_idiv (by decide +kernel)) <|
  fc (ok_iret rfl (by decide +kernel)) <| fn
def T_X11_rests : List (Nat × Op) := [(0, op_ild 1 1), (1, op_iflt 10), (4, op_ild 1 1), (5, op_ic 20 2), (7, op_icle 12), (10, op_ic (-1) 1), (11, op_iret), (12, op_ald 0 1), (13, op_gf 11 10 41), (16, op_ild 1 1), (17, op_cv M_X4_readiesRests 4 1), (20, op_ald 0 1), (21, op_gf 11 1 3), (24, op_cv M_X9_clears 9 0), (27, op_ic 0 1), (28, op_ist 2 1), (29, op_ic 0 1), (30, op_ist 3 1), (31, op_ild 3 1), (32, op_ic 10 2), (34, op_icge 92), (37, op_ic 0 1), (38, op_ist 4 2), (40, op_ild 4 2), (42, op_ic 10 2), (44, op_icge 86), (47, op_ald 0 1), (48, op_gf 11 10 41), (51, op_ild 3 1), (52, op_ild 4 2), (54, op_ild 1 1), (55, op_cv M_X4_isRest 4 3), (58, op_ifeq 80), (61, op_ild 2 1), (62, op_ifne 77), (65, op_ald 0 1), (66, op_gf 11 1 3), (69, op_ild 3 1), (70, op_i2l), (71, op_ild 4 2), (73, op_i2l), (74, op_cv M_X9_tells_ 9 2), (77, op_iinc 2 1), (80, op_iinc 4 1), (83, op_goto 40), (86, op_iinc 3 1), (89, op_goto 31), (92, op_ild 2 1), (93, op_iret)]
set_option maxRecDepth 20000 in
theorem K_X11_rests : ∀ r ∈ T_X11_rests, OpOK M_X11_rests r.1 r.2 :=
  fc (ok_ildn (q := 1) (by decide +kernel) rfl) <|
  fc (ok_iflt (off := 9) (by decide +kernel) (by decide)) <|
  fc (ok_ildn (q := 1) (by decide +kernel) rfl) <|
  fc (ok_bipush (n := 20) (by decide +kernel) (by decide +kernel)) <|
  fc (ok_icle (off := 5) (by decide +kernel) (by decide)) <|
  fc (ok_iconst (n := -1) (by decide +kernel) (by decide +kernel)) <|
  fc (ok_iret rfl (by decide +kernel)) <|
  fc (ok_aldn (q := 0) (by decide +kernel) rfl) <|
  fc (ok_gf mk_X11_rests (fo_RX11_78 rfl) rfl (by decide +kernel)) <|
  fc (ok_ildn (q := 1) (by decide +kernel) rfl) <|
  fc (ok_cv mk_X11_rests mk_X4_readiesRests ⟨uw1210, uw1211, uw1212, uw52, by decide +kernel⟩ (T := TX4) (N := 6) rfl (by decide +kernel)) <|
  fc (ok_aldn (q := 0) (by decide +kernel) rfl) <|
  fc (ok_gf mk_X11_rests (fo_RX11_19 rfl) rfl (by decide +kernel)) <|
  fc (ok_cv mk_X11_rests mk_X9_clears ⟨uw754, uw755, uw756, uw19, by decide +kernel⟩ (T := TX9) (N := 2) rfl (by decide +kernel)) <|
  fc (ok_iconst (n := 0) (by decide +kernel) (by decide +kernel)) <|
  fc (ok_istn (q := 2) (by decide +kernel) rfl (by decide)) <|
  fc (ok_iconst (n := 0) (by decide +kernel) (by decide +kernel)) <|
  fc (ok_istn (q := 3) (by decide +kernel) rfl (by decide)) <|
  fc (ok_ildn (q := 3) (by decide +kernel) rfl) <|
  fc (ok_bipush (n := 10) (by decide +kernel) (by decide +kernel)) <|
  fc (ok_icge (off := 58) (by decide +kernel) (by decide)) <|
  fc (ok_iconst (n := 0) (by decide +kernel) (by decide +kernel)) <|
  fc (ok_ist (by decide +kernel) (by decide)) <|
  fc (ok_ild (by decide +kernel)) <|
  fc (ok_bipush (n := 10) (by decide +kernel) (by decide +kernel)) <|
  fc (ok_icge (off := 42) (by decide +kernel) (by decide)) <|
  fc (ok_aldn (q := 0) (by decide +kernel) rfl) <|
  fc (ok_gf mk_X11_rests (fo_RX11_78 rfl) rfl (by decide +kernel)) <|
  fc (ok_ildn (q := 3) (by decide +kernel) rfl) <|
  fc (ok_ild (by decide +kernel)) <|
  fc (ok_ildn (q := 1) (by decide +kernel) rfl) <|
  fc (ok_cv mk_X11_rests mk_X4_isRest ⟨uw1217, uw1218, uw1219, uw52, by decide +kernel⟩ (T := TX4) (N := 6) rfl (by decide +kernel)) <|
  fc (ok_ifeq (off := 22) (by decide +kernel) (by decide)) <|
  fc (ok_ildn (q := 2) (by decide +kernel) rfl) <|
  fc (ok_ifne (off := 15) (by decide +kernel) (by decide)) <|
  fc (ok_aldn (q := 0) (by decide +kernel) rfl) <|
  fc (ok_gf mk_X11_rests (fo_RX11_19 rfl) rfl (by decide +kernel)) <|
  fc (ok_ildn (q := 3) (by decide +kernel) rfl) <|
  fc (ok_i2l (by decide +kernel)) <|
  fc (ok_ild (by decide +kernel)) <|
  fc (ok_i2l (by decide +kernel)) <|
  fc (ok_cv mk_X11_rests mk_X9_tells_ ⟨uw651, uw652, uw653, uw19, by decide +kernel⟩ (T := TX9) (N := 2) rfl (by decide +kernel)) <|
  fc (ok_iinc (n := 1) (by decide +kernel) (by decide +kernel) (by decide)) <|
  fc (ok_iinc (n := 1) (by decide +kernel) (by decide +kernel) (by decide)) <|
  fc (ok_goto (off := -43) (by decide +kernel) (by decide)) <|
  fc (ok_iinc (n := 1) (by decide +kernel) (by decide +kernel) (by decide)) <|
  fc (ok_goto (off := -58) (by decide +kernel) (by decide)) <|
  fc (ok_ildn (q := 2) (by decide +kernel) rfl) <|
  fc (ok_iret rfl (by decide +kernel)) <| fn
def T_X11_law : List (Nat × Op) := [(0, op_ald 0 1), (1, op_gf 11 4 17), (4, op_ald 0 1), (5, op_gf 11 0 1), (8, op_ald 0 1), (9, op_gr 11 12), (12, op_cv M_X6_reads 6 2), (15, op_ist 1 1), (16, op_ald 0 1), (17, op_gf 11 0 1), (20, op_ic 0 1), (21, op_pi 8 1), (24, op_ild 1 1), (25, op_ic (-1) 1), (26, op_iceq 35), (29, op_ic (-10000) 3), (32, op_ild 1 1), (33, op_isub), (34, op_iret), (35, op_ald 0 1), (36, op_gf 11 2 5), (39, op_ald 0 1), (40, op_gr 11 12), (43, op_cv M_X2_pairs 2 1), (46, op_ist 2 1), (47, op_ald 0 1), (48, op_gf 11 2 5), (51, op_ald 0 1), (52, op_gr 11 11), (55, op_cv M_X2_pairs 2 1), (58, op_ist 3 1), (59, op_ald 0 1), (60, op_gf 11 1 3), (63, op_ild 2 1), (64, op_i2l), (65, op_ild 3 1), (66, op_i2l), (67, op_cv M_X9_tells_ 9 2), (70, op_ic 0 1), (71, op_ist 4 2), (73, op_ild 4 2), (75, op_ald 0 1), (76, op_gf 11 2 5), (79, op_gi 2 5), (82, op_icge 112), (85, op_ald 0 1), (86, op_gf 11 1 3), (89, op_ald 0 1), (90, op_gf 11 2 5), (93, op_ald 0 1), (94, op_gr 11 12), (97, op_ild 4 2), (99, op_cv M_X2_sayable 2 2), (102, op_i2l), (103, op_cv M_X9_adds 9 1), (106, op_iinc 4 1), (109, op_goto 73), (112, op_ild 2 1), (113, op_ild 3 1), (114, op_isub), (115, op_iret)]
set_option maxRecDepth 20000 in
theorem K_X11_law : ∀ r ∈ T_X11_law, OpOK M_X11_law r.1 r.2 :=
  fc (ok_aldn (q := 0) (by decide +kernel) rfl) <|
  fc (ok_gf mk_X11_law (fo_RX11_36 rfl) rfl (by decide +kernel)) <|
  fc (ok_aldn (q := 0) (by decide +kernel) rfl) <|
  fc (ok_gf mk_X11_law (fo_RX11_10 rfl) rfl (by decide +kernel)) <|
  fc (ok_aldn (q := 0) (by decide +kernel) rfl) <|
  fc (ok_gr mk_X11_law (fo_RX11_89 rfl) rfl (by decide +kernel)) <|
  fc (ok_cv mk_X11_law mk_X6_reads ⟨uw301, uw302, uw303, uw28, by decide +kernel⟩ (T := TX6) (N := 3) rfl (by decide +kernel)) <|
  fc (ok_istn (q := 1) (by decide +kernel) rfl (by decide)) <|
  fc (ok_aldn (q := 0) (by decide +kernel) rfl) <|
  fc (ok_gf mk_X11_law (fo_RX11_10 rfl) rfl (by decide +kernel)) <|
  fc (ok_iconst (n := 0) (by decide +kernel) (by decide +kernel)) <|
  fc (ok_pi mk_X11_law (fo_RX11_96 rfl) to_8_1 rfl (by decide +kernel)) <|
  fc (ok_ildn (q := 1) (by decide +kernel) rfl) <|
  fc (ok_iconst (n := -1) (by decide +kernel) (by decide +kernel)) <|
  fc (ok_iceq (off := 9) (by decide +kernel) (by decide)) <|
  fc (ok_sipush (n := -10000) (by decide +kernel) (by decide +kernel)) <|
  fc (ok_ildn (q := 1) (by decide +kernel) rfl) <|
  fc (ok_isub (by decide +kernel)) <|
  fc (ok_iret rfl (by decide +kernel)) <|
  fc (ok_aldn (q := 0) (by decide +kernel) rfl) <|
  fc (ok_gf mk_X11_law (fo_RX11_26 rfl) rfl (by decide +kernel)) <|
  fc (ok_aldn (q := 0) (by decide +kernel) rfl) <|
  fc (ok_gr mk_X11_law (fo_RX11_89 rfl) rfl (by decide +kernel)) <|
  fc (ok_cv mk_X11_law mk_X2_pairs ⟨uw1235, uw1236, uw1237, uw23, by decide +kernel⟩ (T := TX2) (N := 8) rfl (by decide +kernel)) <|
  fc (ok_istn (q := 2) (by decide +kernel) rfl (by decide)) <|
  fc (ok_aldn (q := 0) (by decide +kernel) rfl) <|
  fc (ok_gf mk_X11_law (fo_RX11_26 rfl) rfl (by decide +kernel)) <|
  fc (ok_aldn (q := 0) (by decide +kernel) rfl) <|
  fc (ok_gr mk_X11_law (fo_RX11_85 rfl) rfl (by decide +kernel)) <|
  fc (ok_cv mk_X11_law mk_X2_pairs ⟨uw1235, uw1236, uw1237, uw23, by decide +kernel⟩ (T := TX2) (N := 8) rfl (by decide +kernel)) <|
  fc (ok_istn (q := 3) (by decide +kernel) rfl (by decide)) <|
  fc (ok_aldn (q := 0) (by decide +kernel) rfl) <|
  fc (ok_gf mk_X11_law (fo_RX11_19 rfl) rfl (by decide +kernel)) <|
  fc (ok_ildn (q := 2) (by decide +kernel) rfl) <|
  fc (ok_i2l (by decide +kernel)) <|
  fc (ok_ildn (q := 3) (by decide +kernel) rfl) <|
  fc (ok_i2l (by decide +kernel)) <|
  fc (ok_cv mk_X11_law mk_X9_tells_ ⟨uw651, uw652, uw653, uw19, by decide +kernel⟩ (T := TX9) (N := 2) rfl (by decide +kernel)) <|
  fc (ok_iconst (n := 0) (by decide +kernel) (by decide +kernel)) <|
  fc (ok_ist (by decide +kernel) (by decide)) <|
  fc (ok_ild (by decide +kernel)) <|
  fc (ok_aldn (q := 0) (by decide +kernel) rfl) <|
  fc (ok_gf mk_X11_law (fo_RX11_26 rfl) rfl (by decide +kernel)) <|
  fc (ok_gi mk_X11_law (fo_RX11_250 rfl) rfl (by decide +kernel)) <|
  fc (ok_icge (off := 30) (by decide +kernel) (by decide)) <|
  fc (ok_aldn (q := 0) (by decide +kernel) rfl) <|
  fc (ok_gf mk_X11_law (fo_RX11_19 rfl) rfl (by decide +kernel)) <|
  fc (ok_aldn (q := 0) (by decide +kernel) rfl) <|
  fc (ok_gf mk_X11_law (fo_RX11_26 rfl) rfl (by decide +kernel)) <|
  fc (ok_aldn (q := 0) (by decide +kernel) rfl) <|
  fc (ok_gr mk_X11_law (fo_RX11_89 rfl) rfl (by decide +kernel)) <|
  fc (ok_ild (by decide +kernel)) <|
  fc (ok_cv mk_X11_law mk_X2_sayable ⟨uw404, uw405, uw406, uw23, by decide +kernel⟩ (T := TX2) (N := 8) rfl (by decide +kernel)) <|
  fc (ok_i2l (by decide +kernel)) <|
  fc (ok_cv mk_X11_law mk_X9_adds ⟨uw762, uw657, uw658, uw19, by decide +kernel⟩ (T := TX9) (N := 2) rfl (by decide +kernel)) <|
  fc (ok_iinc (n := 1) (by decide +kernel) (by decide +kernel) (by decide)) <|
  fc (ok_goto (off := -36) (by decide +kernel) (by decide)) <|
  fc (ok_ildn (q := 2) (by decide +kernel) rfl) <|
  fc (ok_ildn (q := 3) (by decide +kernel) rfl) <|
  fc (ok_isub (by decide +kernel)) <|
  fc (ok_iret rfl (by decide +kernel)) <| fn
def T_X11_years : List (Nat × Op) := [(0, op_ild 2 1), (1, op_ic 1 1), (2, op_iclt 11), (5, op_ild 2 1), (6, op_ic 60 2), (8, op_icle 13), (11, op_ic (-1) 1), (12, op_iret), (13, op_ald 0 1), (14, op_gf 11 10 41), (17, op_ild 1 1), (18, op_pi 4 5), (21, op_ald 0 1), (22, op_gf 11 3 11), (25, op_ald 0 1), (26, op_gf 11 2 5), (29, op_cv M_X2_takes 2 1), (32, op_ic 0 1), (33, op_ist 3 1), (34, op_ild 3 1), (35, op_ild 2 1), (36, op_icge 57), (39, op_ald 0 1), (40, op_ald 0 1), (41, op_gf 11 10 41), (44, op_ic 4 1), (45, op_cv M_X4_draw 4 1), (48, op_cv M_X11_triesDrawn 11 1), (51, op_iinc 3 1), (54, op_goto 34), (57, op_ald 0 1), (58, op_gf 11 1 3), (61, op_ald 0 1), (62, op_gf 11 3 11), (65, op_gi 2 7), (68, op_ald 0 1), (69, op_gf 11 2 5), (72, op_gi 2 7), (75, op_isub), (76, op_i2l), (77, op_ald 0 1), (78, op_gf 11 3 11), (81, op_cv M_X2_purses 2 0), (84, op_i2l), (85, op_cv M_X9_tells_ 9 2), (88, op_ald 0 1), (89, op_gf 11 3 11), (92, op_cv M_X2_homes 2 0), (95, op_iret)]
set_option maxRecDepth 20000 in
theorem K_X11_years : ∀ r ∈ T_X11_years, OpOK M_X11_years r.1 r.2 :=
  fc (ok_ildn (q := 2) (by decide +kernel) rfl) <|
  fc (ok_iconst (n := 1) (by decide +kernel) (by decide +kernel)) <|
  fc (ok_iclt (off := 9) (by decide +kernel) (by decide)) <|
  fc (ok_ildn (q := 2) (by decide +kernel) rfl) <|
  fc (ok_bipush (n := 60) (by decide +kernel) (by decide +kernel)) <|
  fc (ok_icle (off := 5) (by decide +kernel) (by decide)) <|
  fc (ok_iconst (n := -1) (by decide +kernel) (by decide +kernel)) <|
  fc (ok_iret rfl (by decide +kernel)) <|
  fc (ok_aldn (q := 0) (by decide +kernel) rfl) <|
  fc (ok_gf mk_X11_years (fo_RX11_78 rfl) rfl (by decide +kernel)) <|
  fc (ok_ildn (q := 1) (by decide +kernel) rfl) <|
  fc (ok_pi mk_X11_years (fo_RX11_360 rfl) to_4_5 rfl (by decide +kernel)) <|
  fc (ok_aldn (q := 0) (by decide +kernel) rfl) <|
  fc (ok_gf mk_X11_years (fo_RX11_30 rfl) rfl (by decide +kernel)) <|
  fc (ok_aldn (q := 0) (by decide +kernel) rfl) <|
  fc (ok_gf mk_X11_years (fo_RX11_26 rfl) rfl (by decide +kernel)) <|
  fc (ok_cv mk_X11_years mk_X2_takes ⟨uw733, uw734, uw735, uw23, by decide +kernel⟩ (T := TX2) (N := 8) rfl (by decide +kernel)) <|
  fc (ok_iconst (n := 0) (by decide +kernel) (by decide +kernel)) <|
  fc (ok_istn (q := 3) (by decide +kernel) rfl (by decide)) <|
  fc (ok_ildn (q := 3) (by decide +kernel) rfl) <|
  fc (ok_ildn (q := 2) (by decide +kernel) rfl) <|
  fc (ok_icge (off := 21) (by decide +kernel) (by decide)) <|
  fc (ok_aldn (q := 0) (by decide +kernel) rfl) <|
  fc (ok_aldn (q := 0) (by decide +kernel) rfl) <|
  fc (ok_gf mk_X11_years (fo_RX11_78 rfl) rfl (by decide +kernel)) <|
  fc (ok_iconst (n := 4) (by decide +kernel) (by decide +kernel)) <|
  fc (ok_cv mk_X11_years mk_X4_draw ⟨uw1254, uw1255, uw1256, uw52, by decide +kernel⟩ (T := TX4) (N := 6) rfl (by decide +kernel)) <|
  fc (ok_cv mk_X11_years mk_X11_triesDrawn ⟨uw1260, uw1261, uw1262, uw2, by decide +kernel⟩ (T := TX11) (N := 13) rfl (by decide +kernel)) <|
  fc (ok_iinc (n := 1) (by decide +kernel) (by decide +kernel) (by decide)) <|
  fc (ok_goto (off := -20) (by decide +kernel) (by decide)) <|
  fc (ok_aldn (q := 0) (by decide +kernel) rfl) <|
  fc (ok_gf mk_X11_years (fo_RX11_19 rfl) rfl (by decide +kernel)) <|
  fc (ok_aldn (q := 0) (by decide +kernel) rfl) <|
  fc (ok_gf mk_X11_years (fo_RX11_30 rfl) rfl (by decide +kernel)) <|
  fc (ok_gi mk_X11_years (fo_RX11_181 rfl) rfl (by decide +kernel)) <|
  fc (ok_aldn (q := 0) (by decide +kernel) rfl) <|
  fc (ok_gf mk_X11_years (fo_RX11_26 rfl) rfl (by decide +kernel)) <|
  fc (ok_gi mk_X11_years (fo_RX11_181 rfl) rfl (by decide +kernel)) <|
  fc (ok_isub (by decide +kernel)) <|
  fc (ok_i2l (by decide +kernel)) <|
  fc (ok_aldn (q := 0) (by decide +kernel) rfl) <|
  fc (ok_gf mk_X11_years (fo_RX11_30 rfl) rfl (by decide +kernel)) <|
  fc (ok_cv mk_X11_years mk_X2_purses ⟨uw508, uw509, uw510, uw23, by decide +kernel⟩ (T := TX2) (N := 8) rfl (by decide +kernel)) <|
  fc (ok_i2l (by decide +kernel)) <|
  fc (ok_cv mk_X11_years mk_X9_tells_ ⟨uw651, uw652, uw653, uw19, by decide +kernel⟩ (T := TX9) (N := 2) rfl (by decide +kernel)) <|
  fc (ok_aldn (q := 0) (by decide +kernel) rfl) <|
  fc (ok_gf mk_X11_years (fo_RX11_30 rfl) rfl (by decide +kernel)) <|
  fc (ok_cv mk_X11_years mk_X2_homes ⟨uw660, uw661, uw662, uw23, by decide +kernel⟩ (T := TX2) (N := 8) rfl (by decide +kernel)) <|
  fc (ok_iret rfl (by decide +kernel)) <| fn
def T_X11_triesDrawn : List (Nat × Op) := [(0, op_ild 1 1), (1, op_ifne 19), (4, op_ald 0 1), (5, op_gf 11 3 11), (8, op_ald 0 1), (9, op_gr 11 11), (12, op_ic (-1) 1), (13, op_cv M_X2_passDay 2 2), (16, op_goto 97), (19, op_ald 0 1), (20, op_gf 11 3 11), (23, op_gi 2 5), (26, op_ifle 97), (29, op_ald 0 1), (30, op_gf 11 10 41), (33, op_ald 0 1), (34, op_gf 11 3 11), (37, op_gi 2 5), (40, op_cv M_X4_draw 4 1), (43, op_ist 2 1), (44, op_ild 1 1), (45, op_ic 3 1), (46, op_icne 70), (49, op_ald 0 1), (50, op_gf 11 3 11), (53, op_ild 2 1), (54, op_ald 0 1), (55, op_gf 11 10 41), (58, op_ic 10 2), (60, op_cv M_X4_draw 4 1), (63, op_cv M_X2_movedTo 2 2), (66, op_pop), (67, op_goto 97), (70, op_ald 0 1), (71, op_gf 11 3 11), (74, op_ald 0 1), (75, op_gr 11 11), (78, op_ild 2 1), (79, op_ald 0 1), (80, op_gf 11 10 41), (83, op_ald 0 1), (84, op_gf 11 3 11), (87, op_gi 2 5), (90, op_cv M_X4_draw 4 1), (93, op_cv M_X2_saidBy 2 3), (96, op_pop), (97, op_vret)]
set_option maxRecDepth 20000 in
theorem K_X11_triesDrawn : ∀ r ∈ T_X11_triesDrawn, OpOK M_X11_triesDrawn r.1 r.2 :=
  fc (ok_ildn (q := 1) (by decide +kernel) rfl) <|
  fc (ok_ifne (off := 18) (by decide +kernel) (by decide)) <|
  fc (ok_aldn (q := 0) (by decide +kernel) rfl) <|
  fc (ok_gf mk_X11_triesDrawn (fo_RX11_30 rfl) rfl (by decide +kernel)) <|
  fc (ok_aldn (q := 0) (by decide +kernel) rfl) <|
  fc (ok_gr mk_X11_triesDrawn (fo_RX11_85 rfl) rfl (by decide +kernel)) <|
  fc (ok_iconst (n := -1) (by decide +kernel) (by decide +kernel)) <|
  fc (ok_cv mk_X11_triesDrawn mk_X2_passDay ⟨uw787, uw648, uw649, uw23, by decide +kernel⟩ (T := TX2) (N := 8) rfl (by decide +kernel)) <|
  fc (ok_goto (off := 81) (by decide +kernel) (by decide)) <|
  fc (ok_aldn (q := 0) (by decide +kernel) rfl) <|
  fc (ok_gf mk_X11_triesDrawn (fo_RX11_30 rfl) rfl (by decide +kernel)) <|
  fc (ok_gi mk_X11_triesDrawn (fo_RX11_250 rfl) rfl (by decide +kernel)) <|
  fc (ok_ifle (off := 71) (by decide +kernel) (by decide)) <|
  fc (ok_aldn (q := 0) (by decide +kernel) rfl) <|
  fc (ok_gf mk_X11_triesDrawn (fo_RX11_78 rfl) rfl (by decide +kernel)) <|
  fc (ok_aldn (q := 0) (by decide +kernel) rfl) <|
  fc (ok_gf mk_X11_triesDrawn (fo_RX11_30 rfl) rfl (by decide +kernel)) <|
  fc (ok_gi mk_X11_triesDrawn (fo_RX11_250 rfl) rfl (by decide +kernel)) <|
  fc (ok_cv mk_X11_triesDrawn mk_X4_draw ⟨uw1254, uw1255, uw1256, uw52, by decide +kernel⟩ (T := TX4) (N := 6) rfl (by decide +kernel)) <|
  fc (ok_istn (q := 2) (by decide +kernel) rfl (by decide)) <|
  fc (ok_ildn (q := 1) (by decide +kernel) rfl) <|
  fc (ok_iconst (n := 3) (by decide +kernel) (by decide +kernel)) <|
  fc (ok_icne (off := 24) (by decide +kernel) (by decide)) <|
  fc (ok_aldn (q := 0) (by decide +kernel) rfl) <|
  fc (ok_gf mk_X11_triesDrawn (fo_RX11_30 rfl) rfl (by decide +kernel)) <|
  fc (ok_ildn (q := 2) (by decide +kernel) rfl) <|
  fc (ok_aldn (q := 0) (by decide +kernel) rfl) <|
  fc (ok_gf mk_X11_triesDrawn (fo_RX11_78 rfl) rfl (by decide +kernel)) <|
  fc (ok_bipush (n := 10) (by decide +kernel) (by decide +kernel)) <|
  fc (ok_cv mk_X11_triesDrawn mk_X4_draw ⟨uw1254, uw1255, uw1256, uw52, by decide +kernel⟩ (T := TX4) (N := 6) rfl (by decide +kernel)) <|
  fc (ok_cv mk_X11_triesDrawn mk_X2_movedTo ⟨uw606, uw607, uw608, uw23, by decide +kernel⟩ (T := TX2) (N := 8) rfl (by decide +kernel)) <|
  fc (ok_pop (by decide +kernel)) <|
  fc (ok_goto (off := 30) (by decide +kernel) (by decide)) <|
  fc (ok_aldn (q := 0) (by decide +kernel) rfl) <|
  fc (ok_gf mk_X11_triesDrawn (fo_RX11_30 rfl) rfl (by decide +kernel)) <|
  fc (ok_aldn (q := 0) (by decide +kernel) rfl) <|
  fc (ok_gr mk_X11_triesDrawn (fo_RX11_85 rfl) rfl (by decide +kernel)) <|
  fc (ok_ildn (q := 2) (by decide +kernel) rfl) <|
  fc (ok_aldn (q := 0) (by decide +kernel) rfl) <|
  fc (ok_gf mk_X11_triesDrawn (fo_RX11_78 rfl) rfl (by decide +kernel)) <|
  fc (ok_aldn (q := 0) (by decide +kernel) rfl) <|
  fc (ok_gf mk_X11_triesDrawn (fo_RX11_30 rfl) rfl (by decide +kernel)) <|
  fc (ok_gi mk_X11_triesDrawn (fo_RX11_250 rfl) rfl (by decide +kernel)) <|
  fc (ok_cv mk_X11_triesDrawn mk_X4_draw ⟨uw1254, uw1255, uw1256, uw52, by decide +kernel⟩ (T := TX4) (N := 6) rfl (by decide +kernel)) <|
  fc (ok_cv mk_X11_triesDrawn mk_X2_saidBy ⟨uw545, uw546, uw547, uw23, by decide +kernel⟩ (T := TX2) (N := 8) rfl (by decide +kernel)) <|
  fc (ok_pop (by decide +kernel)) <|
  fc (ok_vret rfl (by decide +kernel)) <| fn
def T_X11_keep : List (Nat × Op) := [(0, op_ald 0 1), (1, op_gf 11 5 18), (4, op_ild 1 1), (5, op_ald 0 1), (6, op_gf 11 2 5), (9, op_cv M_X3_shelves 3 2), (12, op_zret)]
set_option maxRecDepth 20000 in
theorem K_X11_keep : ∀ r ∈ T_X11_keep, OpOK M_X11_keep r.1 r.2 :=
  fc (ok_aldn (q := 0) (by decide +kernel) rfl) <|
  fc (ok_gf mk_X11_keep (fo_RX11_43 rfl) rfl (by decide +kernel)) <|
  fc (ok_ildn (q := 1) (by decide +kernel) rfl) <|
  fc (ok_aldn (q := 0) (by decide +kernel) rfl) <|
  fc (ok_gf mk_X11_keep (fo_RX11_26 rfl) rfl (by decide +kernel)) <|
  fc (ok_cv mk_X11_keep mk_X3_shelves ⟨uw1278, uw1279, uw1280, uw32, by decide +kernel⟩ (T := TX3) (N := 4) rfl (by decide +kernel)) <|
  fc (ok_zret rfl (by decide +kernel)) <| fn
def T_X11_again : List (Nat × Op) := [(0, op_ald 0 1), (1, op_gf 11 5 18), (4, op_ild 1 1), (5, op_ald 0 1), (6, op_gf 11 2 5), (9, op_cv M_X3_unshelves 3 2), (12, op_zret)]
set_option maxRecDepth 20000 in
theorem K_X11_again : ∀ r ∈ T_X11_again, OpOK M_X11_again r.1 r.2 :=
  fc (ok_aldn (q := 0) (by decide +kernel) rfl) <|
  fc (ok_gf mk_X11_again (fo_RX11_43 rfl) rfl (by decide +kernel)) <|
  fc (ok_ildn (q := 1) (by decide +kernel) rfl) <|
  fc (ok_aldn (q := 0) (by decide +kernel) rfl) <|
  fc (ok_gf mk_X11_again (fo_RX11_26 rfl) rfl (by decide +kernel)) <|
  fc (ok_cv mk_X11_again mk_X3_unshelves ⟨uw1290, uw1291, uw1292, uw32, by decide +kernel⟩ (T := TX3) (N := 4) rfl (by decide +kernel)) <|
  fc (ok_zret rfl (by decide +kernel)) <| fn
def T_X11_count : List (Nat × Op) := [(0, op_ild 1 1), (1, op_sw 174 [(0, 64), (1, 72), (2, 80), (3, 88), (4, 96), (5, 104), (6, 119), (7, 134), (8, 142), (9, 150), (10, 158), (11, 166)]), (64, op_ald 0 1), (65, op_gf 11 2 5), (68, op_gi 2 5), (71, op_iret), (72, op_ald 0 1), (73, op_gf 11 2 5), (76, op_gi 2 6), (79, op_iret), (80, op_ald 0 1), (81, op_gf 11 2 5), (84, op_gi 2 7), (87, op_iret), (88, op_ald 0 1), (89, op_gf 11 2 5), (92, op_cv M_X2_homes 2 0), (95, op_iret), (96, op_ald 0 1), (97, op_gf 11 2 5), (100, op_cv M_X2_purses 2 0), (103, op_iret), (104, op_ald 0 1), (105, op_gf 11 2 5), (108, op_ald 0 1), (109, op_gf 11 2 5), (112, op_gf 2 4 5), (115, op_cv M_X2_sum 2 1), (118, op_iret), (119, op_ald 0 1), (120, op_gf 11 2 5), (123, op_ald 0 1), (124, op_gf 11 2 5), (127, op_gf 2 1 2), (130, op_cv M_X2_sum 2 1), (133, op_iret), (134, op_ald 0 1), (135, op_gf 11 8 32), (138, op_gi 1 2), (141, op_iret), (142, op_ald 0 1), (143, op_gf 11 9 35), (146, op_gi 7 5), (149, op_iret), (150, op_ald 0 1), (151, op_gf 11 5 18), (154, op_gi 3 3), (157, op_iret), (158, op_ald 0 1), (159, op_gf 11 1 3), (162, op_gi 9 1), (165, op_iret), (166, op_ald 0 1), (167, op_gf 11 0 1), (170, op_gi 8 1), (173, op_iret), (174, op_ic (-1) 1), (175, op_iret)]
set_option maxRecDepth 20000 in
theorem K_X11_count : ∀ r ∈ T_X11_count, OpOK M_X11_count r.1 r.2 :=
  fc (ok_ildn (q := 1) (by decide +kernel) rfl) <|
  fc (ok_tsw (dflt := 173) (lo := 0) (hi := 11) (offs := #[63, 71, 79, 87, 95, 103, 118, 133, 141, 149, 157, 165]) (len := 63) (by decide +kernel) (by decide +kernel) (by decide +kernel) (by decide) (by decide)) <|
  fc (ok_aldn (q := 0) (by decide +kernel) rfl) <|
  fc (ok_gf mk_X11_count (fo_RX11_26 rfl) rfl (by decide +kernel)) <|
  fc (ok_gi mk_X11_count (fo_RX11_250 rfl) rfl (by decide +kernel)) <|
  fc (ok_iret rfl (by decide +kernel)) <|
  fc (ok_aldn (q := 0) (by decide +kernel) rfl) <|
  fc (ok_gf mk_X11_count (fo_RX11_26 rfl) rfl (by decide +kernel)) <|
  fc (ok_gi mk_X11_count (fo_RX11_376 rfl) rfl (by decide +kernel)) <|
  fc (ok_iret rfl (by decide +kernel)) <|
  fc (ok_aldn (q := 0) (by decide +kernel) rfl) <|
  fc (ok_gf mk_X11_count (fo_RX11_26 rfl) rfl (by decide +kernel)) <|
  fc (ok_gi mk_X11_count (fo_RX11_181 rfl) rfl (by decide +kernel)) <|
  fc (ok_iret rfl (by decide +kernel)) <|
  fc (ok_aldn (q := 0) (by decide +kernel) rfl) <|
  fc (ok_gf mk_X11_count (fo_RX11_26 rfl) rfl (by decide +kernel)) <|
  fc (ok_cv mk_X11_count mk_X2_homes ⟨uw660, uw661, uw662, uw23, by decide +kernel⟩ (T := TX2) (N := 8) rfl (by decide +kernel)) <|
  fc (ok_iret rfl (by decide +kernel)) <|
  fc (ok_aldn (q := 0) (by decide +kernel) rfl) <|
  fc (ok_gf mk_X11_count (fo_RX11_26 rfl) rfl (by decide +kernel)) <|
  fc (ok_cv mk_X11_count mk_X2_purses ⟨uw508, uw509, uw510, uw23, by decide +kernel⟩ (T := TX2) (N := 8) rfl (by decide +kernel)) <|
  fc (ok_iret rfl (by decide +kernel)) <|
  fc (ok_aldn (q := 0) (by decide +kernel) rfl) <|
  fc (ok_gf mk_X11_count (fo_RX11_26 rfl) rfl (by decide +kernel)) <|
  fc (ok_aldn (q := 0) (by decide +kernel) rfl) <|
  fc (ok_gf mk_X11_count (fo_RX11_26 rfl) rfl (by decide +kernel)) <|
  fc (ok_gf mk_X11_count (fo_RX11_144 rfl) rfl (by decide +kernel)) <|
  fc (ok_cv mk_X11_count mk_X2_sum ⟨uw1304, uw513, uw514, uw23, by decide +kernel⟩ (T := TX2) (N := 8) rfl (by decide +kernel)) <|
  fc (ok_iret rfl (by decide +kernel)) <|
  fc (ok_aldn (q := 0) (by decide +kernel) rfl) <|
  fc (ok_gf mk_X11_count (fo_RX11_26 rfl) rfl (by decide +kernel)) <|
  fc (ok_aldn (q := 0) (by decide +kernel) rfl) <|
  fc (ok_gf mk_X11_count (fo_RX11_26 rfl) rfl (by decide +kernel)) <|
  fc (ok_gf mk_X11_count (fo_RX11_127 rfl) rfl (by decide +kernel)) <|
  fc (ok_cv mk_X11_count mk_X2_sum ⟨uw1304, uw513, uw514, uw23, by decide +kernel⟩ (T := TX2) (N := 8) rfl (by decide +kernel)) <|
  fc (ok_iret rfl (by decide +kernel)) <|
  fc (ok_aldn (q := 0) (by decide +kernel) rfl) <|
  fc (ok_gf mk_X11_count (fo_RX11_64 rfl) rfl (by decide +kernel)) <|
  fc (ok_gi mk_X11_count (fo_RX11_296 rfl) rfl (by decide +kernel)) <|
  fc (ok_iret rfl (by decide +kernel)) <|
  fc (ok_aldn (q := 0) (by decide +kernel) rfl) <|
  fc (ok_gf mk_X11_count (fo_RX11_71 rfl) rfl (by decide +kernel)) <|
  fc (ok_gi mk_X11_count (fo_RX11_314 rfl) rfl (by decide +kernel)) <|
  fc (ok_iret rfl (by decide +kernel)) <|
  fc (ok_aldn (q := 0) (by decide +kernel) rfl) <|
  fc (ok_gf mk_X11_count (fo_RX11_43 rfl) rfl (by decide +kernel)) <|
  fc (ok_gi mk_X11_count (fo_RX11_214 rfl) rfl (by decide +kernel)) <|
  fc (ok_iret rfl (by decide +kernel)) <|
  fc (ok_aldn (q := 0) (by decide +kernel) rfl) <|
  fc (ok_gf mk_X11_count (fo_RX11_19 rfl) rfl (by decide +kernel)) <|
  fc (ok_gi mk_X11_count (fo_RX11_383 rfl) rfl (by decide +kernel)) <|
  fc (ok_iret rfl (by decide +kernel)) <|
  fc (ok_aldn (q := 0) (by decide +kernel) rfl) <|
  fc (ok_gf mk_X11_count (fo_RX11_10 rfl) rfl (by decide +kernel)) <|
  fc (ok_gi mk_X11_count (fo_RX11_96 rfl) rfl (by decide +kernel)) <|
  fc (ok_iret rfl (by decide +kernel)) <|
  fc (ok_iconst (n := -1) (by decide +kernel) (by decide +kernel)) <|
  fc (ok_iret rfl (by decide +kernel)) <| fn
def T_X11_row : List (Nat × Op) := [(0, op_ild 1 1), (1, op_iflt 15), (4, op_ild 1 1), (5, op_ald 0 1), (6, op_gf 11 1 3), (9, op_gi 9 1), (12, op_iclt 23), (18, op_dup), (23, op_ald 0 1), (24, op_gf 11 1 3), (27, op_gf 9 0 1), (30, op_ild 1 1), (31, op_lald), (32, op_lret)]
set_option maxRecDepth 20000 in
theorem K_X11_row : ∀ r ∈ T_X11_row, OpOK M_X11_row r.1 r.2 :=
  fc (ok_ildn (q := 1) (by decide +kernel) rfl) <|
  fc (ok_iflt (off := 14) (by decide +kernel) (by decide)) <|
  fc (ok_ildn (q := 1) (by decide +kernel) rfl) <|
  fc (ok_aldn (q := 0) (by decide +kernel) rfl) <|
  fc (ok_gf mk_X11_row (fo_RX11_19 rfl) rfl (by decide +kernel)) <|
  fc (ok_gi mk_X11_row (fo_RX11_383 rfl) rfl (by decide +kernel)) <|
  fc (ok_iclt (off := 11) (by decide +kernel) (by decide)) <|
  fc (ok_dup (by decide +kernel)) <|
  fc (ok_aldn (q := 0) (by decide +kernel) rfl) <|
  fc (ok_gf mk_X11_row (fo_RX11_19 rfl) rfl (by decide +kernel)) <|
  fc (ok_gf mk_X11_row (fo_RX11_384 rfl) rfl (by decide +kernel)) <|
  fc (ok_ildn (q := 1) (by decide +kernel) rfl) <|
  fc (ok_lald (by decide +kernel)) <|
  fc (ok_lret rfl (by decide +kernel)) <| fn
def T_X8_adds : List (Nat × Op) := [(0, op_ald 0 1), (1, op_gi 8 1), (4, op_iflt 16), (7, op_ald 0 1), (8, op_gi 8 1), (11, op_ic 76 2), (13, op_icle 18), (16, op_ic 0 1), (17, op_zret), (18, op_ic 24 2), (20, op_ist 2 1), (21, op_ild 2 1), (22, op_iflt 58), (25, op_ald 0 1), (26, op_gf 8 0 1), (29, op_ald 0 1), (30, op_gi 8 1), (33, op_ild 1 1), (34, op_ild 2 1), (35, op_iushr), (36, op_ic 255 3), (39, op_iand), (40, op_i2c), (41, op_cast), (42, op_ald 0 1), (43, op_dup), (44, op_gi 8 1), (47, op_ic 1 1), (48, op_iadd), (49, op_pi 8 1), (52, op_iinc 2 (-8)), (55, op_goto 21), (58, op_ic 1 1), (59, op_zret)]
set_option maxRecDepth 20000 in
theorem K_X8_adds : ∀ r ∈ T_X8_adds, OpOK M_X8_adds r.1 r.2 :=
  fc (ok_aldn (q := 0) (by decide +kernel) rfl) <|
  fc (ok_gi mk_X8_adds (fo_RX8_13 rfl) rfl (by decide +kernel)) <|
  fc (ok_iflt (off := 12) (by decide +kernel) (by decide)) <|
  fc (ok_aldn (q := 0) (by decide +kernel) rfl) <|
  fc (ok_gi mk_X8_adds (fo_RX8_13 rfl) rfl (by decide +kernel)) <|
  fc (ok_bipush (n := 76) (by decide +kernel) (by decide +kernel)) <|
  fc (ok_icle (off := 5) (by decide +kernel) (by decide)) <|
  fc (ok_iconst (n := 0) (by decide +kernel) (by decide +kernel)) <|
  fc (ok_zret rfl (by decide +kernel)) <|
  fc (ok_bipush (n := 24) (by decide +kernel) (by decide +kernel)) <|
  fc (ok_istn (q := 2) (by decide +kernel) rfl (by decide)) <|
  fc (ok_ildn (q := 2) (by decide +kernel) rfl) <|
  fc (ok_iflt (off := 36) (by decide +kernel) (by decide)) <|
  fc (ok_aldn (q := 0) (by decide +kernel) rfl) <|
  fc (ok_gf mk_X8_adds (fo_RX8_9 rfl) rfl (by decide +kernel)) <|
  fc (ok_aldn (q := 0) (by decide +kernel) rfl) <|
  fc (ok_gi mk_X8_adds (fo_RX8_13 rfl) rfl (by decide +kernel)) <|
  fc (ok_ildn (q := 1) (by decide +kernel) rfl) <|
  fc (ok_ildn (q := 2) (by decide +kernel) rfl) <|
  fc (ok_iushr (by decide +kernel)) <|
  fc (ok_sipush (n := 255) (by decide +kernel) (by decide +kernel)) <|
  fc (ok_iand (by decide +kernel)) <|
  fc (ok_i2c (by decide +kernel)) <|
  fc (ok_cast (by decide +kernel)) <|
  fc (ok_aldn (q := 0) (by decide +kernel) rfl) <|
  fc (ok_dup (by decide +kernel)) <|
  fc (ok_gi mk_X8_adds (fo_RX8_13 rfl) rfl (by decide +kernel)) <|
  fc (ok_iconst (n := 1) (by decide +kernel) (by decide +kernel)) <|
  fc (ok_iadd (by decide +kernel)) <|
  fc (ok_pi mk_X8_adds (fo_RX8_13 rfl) to_8_1 rfl (by decide +kernel)) <|
  fc (ok_iinc (n := -8) (by decide +kernel) (by decide +kernel) (by decide)) <|
  fc (ok_goto (off := -34) (by decide +kernel) (by decide)) <|
  fc (ok_iconst (n := 1) (by decide +kernel) (by decide +kernel)) <|
  fc (ok_zret rfl (by decide +kernel)) <| fn
def T_X8_cuts : List (Nat × Op) := [(0, op_ild 1 1), (1, op_iflt 12), (4, op_ild 1 1), (5, op_ald 0 1), (6, op_gi 8 1), (9, op_icle 14), (12, op_ic 0 1), (13, op_zret), (14, op_ald 0 1), (15, op_ild 1 1), (16, op_pi 8 1), (19, op_ic 1 1), (20, op_zret)]
set_option maxRecDepth 20000 in
theorem K_X8_cuts : ∀ r ∈ T_X8_cuts, OpOK M_X8_cuts r.1 r.2 :=
  fc (ok_ildn (q := 1) (by decide +kernel) rfl) <|
  fc (ok_iflt (off := 11) (by decide +kernel) (by decide)) <|
  fc (ok_ildn (q := 1) (by decide +kernel) rfl) <|
  fc (ok_aldn (q := 0) (by decide +kernel) rfl) <|
  fc (ok_gi mk_X8_cuts (fo_RX8_13 rfl) rfl (by decide +kernel)) <|
  fc (ok_icle (off := 5) (by decide +kernel) (by decide)) <|
  fc (ok_iconst (n := 0) (by decide +kernel) (by decide +kernel)) <|
  fc (ok_zret rfl (by decide +kernel)) <|
  fc (ok_aldn (q := 0) (by decide +kernel) rfl) <|
  fc (ok_ildn (q := 1) (by decide +kernel) rfl) <|
  fc (ok_pi mk_X8_cuts (fo_RX8_13 rfl) to_8_1 rfl (by decide +kernel)) <|
  fc (ok_iconst (n := 1) (by decide +kernel) (by decide +kernel)) <|
  fc (ok_zret rfl (by decide +kernel)) <| fn
def T_X8_at : List (Nat × Op) := [(0, op_ild 1 1), (1, op_iflt 27), (4, op_ild 1 1), (5, op_ald 0 1), (6, op_gi 8 1), (9, op_icge 27), (12, op_ild 1 1), (13, op_ic 80 2), (15, op_icge 27), (18, op_ald 0 1), (19, op_gf 8 0 1), (22, op_ild 1 1), (23, op_cald), (24, op_goto 28), (27, op_ic (-1) 1), (28, op_iret)]
set_option maxRecDepth 20000 in
theorem K_X8_at : ∀ r ∈ T_X8_at, OpOK M_X8_at r.1 r.2 :=
  fc (ok_ildn (q := 1) (by decide +kernel) rfl) <|
  fc (ok_iflt (off := 26) (by decide +kernel) (by decide)) <|
  fc (ok_ildn (q := 1) (by decide +kernel) rfl) <|
  fc (ok_aldn (q := 0) (by decide +kernel) rfl) <|
  fc (ok_gi mk_X8_at (fo_RX8_13 rfl) rfl (by decide +kernel)) <|
  fc (ok_icge (off := 18) (by decide +kernel) (by decide)) <|
  fc (ok_ildn (q := 1) (by decide +kernel) rfl) <|
  fc (ok_bipush (n := 80) (by decide +kernel) (by decide +kernel)) <|
  fc (ok_icge (off := 12) (by decide +kernel) (by decide)) <|
  fc (ok_aldn (q := 0) (by decide +kernel) rfl) <|
  fc (ok_gf mk_X8_at (fo_RX8_9 rfl) rfl (by decide +kernel)) <|
  fc (ok_ildn (q := 1) (by decide +kernel) rfl) <|
  fc (ok_cald (by decide +kernel)) <|
  fc (ok_goto (off := 4) (by decide +kernel) (by decide)) <|
  fc (ok_iconst (n := -1) (by decide +kernel) (by decide +kernel)) <|
  fc (ok_iret rfl (by decide +kernel)) <| fn
def T_X8_isDigit : List (Nat × Op) := [(0, op_ald 0 1), (1, op_ild 1 1), (2, op_cv M_X8_at 8 1), (5, op_ist 2 1), (6, op_ild 2 1), (7, op_ic 48 2), (9, op_iclt 22), (12, op_ild 2 1), (13, op_ic 57 2), (15, op_icgt 22), (18, op_ic 1 1), (19, op_goto 23), (22, op_ic 0 1), (23, op_zret)]
set_option maxRecDepth 20000 in
theorem K_X8_isDigit : ∀ r ∈ T_X8_isDigit, OpOK M_X8_isDigit r.1 r.2 :=
  fc (ok_aldn (q := 0) (by decide +kernel) rfl) <|
  fc (ok_ildn (q := 1) (by decide +kernel) rfl) <|
  fc (ok_cv mk_X8_isDigit mk_X8_at ⟨uw227, uw220, uw221, uw15, by decide +kernel⟩ (T := TX8) (N := 2) rfl (by decide +kernel)) <|
  fc (ok_istn (q := 2) (by decide +kernel) rfl (by decide)) <|
  fc (ok_ildn (q := 2) (by decide +kernel) rfl) <|
  fc (ok_bipush (n := 48) (by decide +kernel) (by decide +kernel)) <|
  fc (ok_iclt (off := 13) (by decide +kernel) (by decide)) <|
  fc (ok_ildn (q := 2) (by decide +kernel) rfl) <|
  fc (ok_bipush (n := 57) (by decide +kernel) (by decide +kernel)) <|
  fc (ok_icgt (off := 7) (by decide +kernel) (by decide)) <|
  fc (ok_iconst (n := 1) (by decide +kernel) (by decide +kernel)) <|
  fc (ok_goto (off := 4) (by decide +kernel) (by decide)) <|
  fc (ok_iconst (n := 0) (by decide +kernel) (by decide +kernel)) <|
  fc (ok_zret rfl (by decide +kernel)) <| fn
def T_X8_digit : List (Nat × Op) := [(0, op_ald 0 1), (1, op_ild 1 1), (2, op_cv M_X8_isDigit 8 1), (5, op_ifeq 19), (8, op_ald 0 1), (9, op_ild 1 1), (10, op_cv M_X8_at 8 1), (13, op_ic 48 2), (15, op_isub), (16, op_goto 20), (19, op_ic 0 1), (20, op_iret)]
set_option maxRecDepth 20000 in
theorem K_X8_digit : ∀ r ∈ T_X8_digit, OpOK M_X8_digit r.1 r.2 :=
  fc (ok_aldn (q := 0) (by decide +kernel) rfl) <|
  fc (ok_ildn (q := 1) (by decide +kernel) rfl) <|
  fc (ok_cv mk_X8_digit mk_X8_isDigit ⟨uw236, uw224, uw225, uw15, by decide +kernel⟩ (T := TX8) (N := 2) rfl (by decide +kernel)) <|
  fc (ok_ifeq (off := 14) (by decide +kernel) (by decide)) <|
  fc (ok_aldn (q := 0) (by decide +kernel) rfl) <|
  fc (ok_ildn (q := 1) (by decide +kernel) rfl) <|
  fc (ok_cv mk_X8_digit mk_X8_at ⟨uw227, uw220, uw221, uw15, by decide +kernel⟩ (T := TX8) (N := 2) rfl (by decide +kernel)) <|
  fc (ok_bipush (n := 48) (by decide +kernel) (by decide +kernel)) <|
  fc (ok_isub (by decide +kernel)) <|
  fc (ok_goto (off := 4) (by decide +kernel) (by decide)) <|
  fc (ok_iconst (n := 0) (by decide +kernel) (by decide +kernel)) <|
  fc (ok_iret rfl (by decide +kernel)) <| fn
def T_X8_twoDigits : List (Nat × Op) := [(0, op_ic 10 2), (2, op_ald 0 1), (3, op_ild 1 1), (4, op_cv M_X8_digit 8 1), (7, op_imul), (8, op_ald 0 1), (9, op_ild 1 1), (10, op_ic 1 1), (11, op_iadd), (12, op_cv M_X8_digit 8 1), (15, op_iadd), (16, op_iret)]
set_option maxRecDepth 20000 in
theorem K_X8_twoDigits : ∀ r ∈ T_X8_twoDigits, OpOK M_X8_twoDigits r.1 r.2 :=
  fc (ok_bipush (n := 10) (by decide +kernel) (by decide +kernel)) <|
  fc (ok_aldn (q := 0) (by decide +kernel) rfl) <|
  fc (ok_ildn (q := 1) (by decide +kernel) rfl) <|
  fc (ok_cv mk_X8_twoDigits mk_X8_digit ⟨uw241, uw233, uw234, uw15, by decide +kernel⟩ (T := TX8) (N := 2) rfl (by decide +kernel)) <|
  fc (ok_imul (by decide +kernel)) <|
  fc (ok_aldn (q := 0) (by decide +kernel) rfl) <|
  fc (ok_ildn (q := 1) (by decide +kernel) rfl) <|
  fc (ok_iconst (n := 1) (by decide +kernel) (by decide +kernel)) <|
  fc (ok_iadd (by decide +kernel)) <|
  fc (ok_cv mk_X8_twoDigits mk_X8_digit ⟨uw241, uw233, uw234, uw15, by decide +kernel⟩ (T := TX8) (N := 2) rfl (by decide +kernel)) <|
  fc (ok_iadd (by decide +kernel)) <|
  fc (ok_iret rfl (by decide +kernel)) <| fn
def T_X2_adds : List (Nat × Op) := [(0, op_ald 0 1), (1, op_gi 2 5), (4, op_iflt 16), (7, op_ald 0 1), (8, op_gi 2 5), (11, op_ic 7 2), (13, op_iclt 17), (16, op_vret), (17, op_ald 0 1), (18, op_gf 2 0 1), (21, op_ald 0 1), (22, op_gi 2 5), (25, op_ild 1 1), (26, op_iast), (27, op_ald 0 1), (28, op_gf 2 1 2), (31, op_ald 0 1), (32, op_gi 2 5), (35, op_ild 2 1), (36, op_iast), (37, op_ald 0 1), (38, op_gf 2 2 3), (41, op_ald 0 1), (42, op_gi 2 5), (45, op_ild 3 1), (46, op_iast), (47, op_ald 0 1), (48, op_gf 2 3 4), (51, op_ald 0 1), (52, op_gi 2 5), (55, op_ald 0 1), (56, op_gi 2 5), (59, op_iast), (60, op_ald 0 1), (61, op_gf 2 4 5), (64, op_ald 0 1), (65, op_gi 2 5), (68, op_ic 0 1), (69, op_iast), (70, op_ald 0 1), (71, op_dup), (72, op_gi 2 5), (75, op_ic 1 1), (76, op_iadd), (77, op_pi 2 5), (80, op_vret)]
set_option maxRecDepth 20000 in
theorem K_X2_adds : ∀ r ∈ T_X2_adds, OpOK M_X2_adds r.1 r.2 :=
  fc (ok_aldn (q := 0) (by decide +kernel) rfl) <|
  fc (ok_gi mk_X2_adds (fo_RX2_27 rfl) rfl (by decide +kernel)) <|
  fc (ok_iflt (off := 12) (by decide +kernel) (by decide)) <|
  fc (ok_aldn (q := 0) (by decide +kernel) rfl) <|
  fc (ok_gi mk_X2_adds (fo_RX2_27 rfl) rfl (by decide +kernel)) <|
  fc (ok_bipush (n := 7) (by decide +kernel) (by decide +kernel)) <|
  fc (ok_iclt (off := 4) (by decide +kernel) (by decide)) <|
  fc (ok_vret rfl (by decide +kernel)) <|
  fc (ok_aldn (q := 0) (by decide +kernel) rfl) <|
  fc (ok_gf mk_X2_adds (fo_RX2_9 rfl) rfl (by decide +kernel)) <|
  fc (ok_aldn (q := 0) (by decide +kernel) rfl) <|
  fc (ok_gi mk_X2_adds (fo_RX2_27 rfl) rfl (by decide +kernel)) <|
  fc (ok_ildn (q := 1) (by decide +kernel) rfl) <|
  fc (ok_iast (by decide +kernel)) <|
  fc (ok_aldn (q := 0) (by decide +kernel) rfl) <|
  fc (ok_gf mk_X2_adds (fo_RX2_15 rfl) rfl (by decide +kernel)) <|
  fc (ok_aldn (q := 0) (by decide +kernel) rfl) <|
  fc (ok_gi mk_X2_adds (fo_RX2_27 rfl) rfl (by decide +kernel)) <|
  fc (ok_ildn (q := 2) (by decide +kernel) rfl) <|
  fc (ok_iast (by decide +kernel)) <|
  fc (ok_aldn (q := 0) (by decide +kernel) rfl) <|
  fc (ok_gf mk_X2_adds (fo_RX2_18 rfl) rfl (by decide +kernel)) <|
  fc (ok_aldn (q := 0) (by decide +kernel) rfl) <|
  fc (ok_gi mk_X2_adds (fo_RX2_27 rfl) rfl (by decide +kernel)) <|
  fc (ok_ildn (q := 3) (by decide +kernel) rfl) <|
  fc (ok_iast (by decide +kernel)) <|
  fc (ok_aldn (q := 0) (by decide +kernel) rfl) <|
  fc (ok_gf mk_X2_adds (fo_RX2_21 rfl) rfl (by decide +kernel)) <|
  fc (ok_aldn (q := 0) (by decide +kernel) rfl) <|
  fc (ok_gi mk_X2_adds (fo_RX2_27 rfl) rfl (by decide +kernel)) <|
  fc (ok_aldn (q := 0) (by decide +kernel) rfl) <|
  fc (ok_gi mk_X2_adds (fo_RX2_27 rfl) rfl (by decide +kernel)) <|
  fc (ok_iast (by decide +kernel)) <|
  fc (ok_aldn (q := 0) (by decide +kernel) rfl) <|
  fc (ok_gf mk_X2_adds (fo_RX2_24 rfl) rfl (by decide +kernel)) <|
  fc (ok_aldn (q := 0) (by decide +kernel) rfl) <|
  fc (ok_gi mk_X2_adds (fo_RX2_27 rfl) rfl (by decide +kernel)) <|
  fc (ok_iconst (n := 0) (by decide +kernel) (by decide +kernel)) <|
  fc (ok_iast (by decide +kernel)) <|
  fc (ok_aldn (q := 0) (by decide +kernel) rfl) <|
  fc (ok_dup (by decide +kernel)) <|
  fc (ok_gi mk_X2_adds (fo_RX2_27 rfl) rfl (by decide +kernel)) <|
  fc (ok_iconst (n := 1) (by decide +kernel) (by decide +kernel)) <|
  fc (ok_iadd (by decide +kernel)) <|
  fc (ok_pi mk_X2_adds (fo_RX2_27 rfl) to_2_5 rfl (by decide +kernel)) <|
  fc (ok_vret rfl (by decide +kernel)) <| fn
def T_X2_has : List (Nat × Op) := [(0, op_ild 1 1), (1, op_iflt 22), (4, op_ild 1 1), (5, op_ald 0 1), (6, op_gi 2 5), (9, op_icge 22), (12, op_ild 1 1), (13, op_ic 7 2), (15, op_icge 22), (18, op_ic 1 1), (19, op_goto 23), (22, op_ic 0 1), (23, op_zret)]
set_option maxRecDepth 20000 in
theorem K_X2_has : ∀ r ∈ T_X2_has, OpOK M_X2_has r.1 r.2 :=
  fc (ok_ildn (q := 1) (by decide +kernel) rfl) <|
  fc (ok_iflt (off := 21) (by decide +kernel) (by decide)) <|
  fc (ok_ildn (q := 1) (by decide +kernel) rfl) <|
  fc (ok_aldn (q := 0) (by decide +kernel) rfl) <|
  fc (ok_gi mk_X2_has (fo_RX2_27 rfl) rfl (by decide +kernel)) <|
  fc (ok_icge (off := 13) (by decide +kernel) (by decide)) <|
  fc (ok_ildn (q := 1) (by decide +kernel) rfl) <|
  fc (ok_bipush (n := 7) (by decide +kernel) (by decide +kernel)) <|
  fc (ok_icge (off := 7) (by decide +kernel) (by decide)) <|
  fc (ok_iconst (n := 1) (by decide +kernel) (by decide +kernel)) <|
  fc (ok_goto (off := 4) (by decide +kernel) (by decide)) <|
  fc (ok_iconst (n := 0) (by decide +kernel) (by decide +kernel)) <|
  fc (ok_zret rfl (by decide +kernel)) <| fn
def T_X2_held : List (Nat × Op) := [(0, op_ic 0 1), (1, op_ist 2 1), (2, op_ic 0 1), (3, op_ist 3 1), (4, op_ild 3 1), (5, op_ald 0 1), (6, op_gi 2 5), (9, op_icge 34), (12, op_ald 0 1), (13, op_gf 2 3 4), (16, op_ild 3 1), (17, op_iald), (18, op_ild 1 1), (19, op_icne 28), (22, op_ild 2 1), (23, op_ic 1 1), (24, op_ild 3 1), (25, op_ishl), (26, op_ior), (27, op_ist 2 1), (28, op_iinc 3 1), (31, op_goto 4), (34, op_ild 2 1), (35, op_iret)]
set_option maxRecDepth 20000 in
theorem K_X2_held : ∀ r ∈ T_X2_held, OpOK M_X2_held r.1 r.2 :=
  fc (ok_iconst (n := 0) (by decide +kernel) (by decide +kernel)) <|
  fc (ok_istn (q := 2) (by decide +kernel) rfl (by decide)) <|
  fc (ok_iconst (n := 0) (by decide +kernel) (by decide +kernel)) <|
  fc (ok_istn (q := 3) (by decide +kernel) rfl (by decide)) <|
  fc (ok_ildn (q := 3) (by decide +kernel) rfl) <|
  fc (ok_aldn (q := 0) (by decide +kernel) rfl) <|
  fc (ok_gi mk_X2_held (fo_RX2_27 rfl) rfl (by decide +kernel)) <|
  fc (ok_icge (off := 25) (by decide +kernel) (by decide)) <|
  fc (ok_aldn (q := 0) (by decide +kernel) rfl) <|
  fc (ok_gf mk_X2_held (fo_RX2_21 rfl) rfl (by decide +kernel)) <|
  fc (ok_ildn (q := 3) (by decide +kernel) rfl) <|
  fc (ok_iald (by decide +kernel)) <|
  fc (ok_ildn (q := 1) (by decide +kernel) rfl) <|
  fc (ok_icne (off := 9) (by decide +kernel) (by decide)) <|
  fc (ok_ildn (q := 2) (by decide +kernel) rfl) <|
  fc (ok_iconst (n := 1) (by decide +kernel) (by decide +kernel)) <|
  fc (ok_ildn (q := 3) (by decide +kernel) rfl) <|
  fc (ok_ishl (by decide +kernel)) <|
  fc (ok_ior (by decide +kernel)) <|
  fc (ok_istn (q := 2) (by decide +kernel) rfl (by decide)) <|
  fc (ok_iinc (n := 1) (by decide +kernel) (by decide +kernel) (by decide)) <|
  fc (ok_goto (off := -27) (by decide +kernel) (by decide)) <|
  fc (ok_ildn (q := 2) (by decide +kernel) rfl) <|
  fc (ok_iret rfl (by decide +kernel)) <| fn
def T_X2_sayable : List (Nat × Op) := [(0, op_ic 0 1), (1, op_ist 3 1), (2, op_ic 0 1), (3, op_ist 4 2), (5, op_ild 4 2), (7, op_ald 0 1), (8, op_gi 2 5), (11, op_icge 38), (14, op_ald 0 1), (15, op_ald 1 1), (16, op_ild 2 1), (17, op_ild 4 2), (19, op_cv M_X2_can 2 3), (22, op_ifeq 32), (25, op_ild 3 1), (26, op_ic 1 1), (27, op_ild 4 2), (29, op_ishl), (30, op_ior), (31, op_ist 3 1), (32, op_iinc 4 1), (35, op_goto 5), (38, op_ild 3 1), (39, op_iret)]
set_option maxRecDepth 20000 in
theorem K_X2_sayable : ∀ r ∈ T_X2_sayable, OpOK M_X2_sayable r.1 r.2 :=
  fc (ok_iconst (n := 0) (by decide +kernel) (by decide +kernel)) <|
  fc (ok_istn (q := 3) (by decide +kernel) rfl (by decide)) <|
  fc (ok_iconst (n := 0) (by decide +kernel) (by decide +kernel)) <|
  fc (ok_ist (by decide +kernel) (by decide)) <|
  fc (ok_ild (by decide +kernel)) <|
  fc (ok_aldn (q := 0) (by decide +kernel) rfl) <|
  fc (ok_gi mk_X2_sayable (fo_RX2_27 rfl) rfl (by decide +kernel)) <|
  fc (ok_icge (off := 27) (by decide +kernel) (by decide)) <|
  fc (ok_aldn (q := 0) (by decide +kernel) rfl) <|
  fc (ok_aldn (q := 1) (by decide +kernel) rfl) <|
  fc (ok_ildn (q := 2) (by decide +kernel) rfl) <|
  fc (ok_ild (by decide +kernel)) <|
  fc (ok_cv mk_X2_sayable mk_X2_can ⟨uw408, uw409, uw410, uw23, by decide +kernel⟩ (T := TX2) (N := 8) rfl (by decide +kernel)) <|
  fc (ok_ifeq (off := 10) (by decide +kernel) (by decide)) <|
  fc (ok_ildn (q := 3) (by decide +kernel) rfl) <|
  fc (ok_iconst (n := 1) (by decide +kernel) (by decide +kernel)) <|
  fc (ok_ild (by decide +kernel)) <|
  fc (ok_ishl (by decide +kernel)) <|
  fc (ok_ior (by decide +kernel)) <|
  fc (ok_istn (q := 3) (by decide +kernel) rfl (by decide)) <|
  fc (ok_iinc (n := 1) (by decide +kernel) (by decide +kernel) (by decide)) <|
  fc (ok_goto (off := -30) (by decide +kernel) (by decide)) <|
  fc (ok_ildn (q := 3) (by decide +kernel) rfl) <|
  fc (ok_iret rfl (by decide +kernel)) <| fn
def T_X2_can : List (Nat × Op) := [(0, op_ald 0 1), (1, op_gf 2 3 4), (4, op_ild 3 1), (5, op_iald), (6, op_ild 2 1), (7, op_iceq 24), (10, op_ald 1 1), (11, op_ald 0 1), (12, op_ild 2 1), (13, op_ild 3 1), (14, op_cv M_X5_worth 5 3), (17, op_iflt 24), (20, op_ic 1 1), (21, op_goto 25), (24, op_ic 0 1), (25, op_zret)]
set_option maxRecDepth 20000 in
theorem K_X2_can : ∀ r ∈ T_X2_can, OpOK M_X2_can r.1 r.2 :=
  fc (ok_aldn (q := 0) (by decide +kernel) rfl) <|
  fc (ok_gf mk_X2_can (fo_RX2_21 rfl) rfl (by decide +kernel)) <|
  fc (ok_ildn (q := 3) (by decide +kernel) rfl) <|
  fc (ok_iald (by decide +kernel)) <|
  fc (ok_ildn (q := 2) (by decide +kernel) rfl) <|
  fc (ok_iceq (off := 17) (by decide +kernel) (by decide)) <|
  fc (ok_aldn (q := 1) (by decide +kernel) rfl) <|
  fc (ok_aldn (q := 0) (by decide +kernel) rfl) <|
  fc (ok_ildn (q := 2) (by decide +kernel) rfl) <|
  fc (ok_ildn (q := 3) (by decide +kernel) rfl) <|
  fc (ok_cv mk_X2_can mk_X5_worth ⟨uw412, uw413, uw414, uw56, by decide +kernel⟩ (T := TX5) (N := 3) rfl (by decide +kernel)) <|
  fc (ok_iflt (off := 7) (by decide +kernel) (by decide)) <|
  fc (ok_iconst (n := 1) (by decide +kernel) (by decide +kernel)) <|
  fc (ok_goto (off := 4) (by decide +kernel) (by decide)) <|
  fc (ok_iconst (n := 0) (by decide +kernel) (by decide +kernel)) <|
  fc (ok_zret rfl (by decide +kernel)) <| fn
def T_X2_sayers : List (Nat × Op) := [(0, op_ic 0 1), (1, op_ist 3 1), (2, op_ic 0 1), (3, op_ist 4 2), (5, op_ild 4 2), (7, op_ald 0 1), (8, op_gi 2 5), (11, op_icge 38), (14, op_ald 0 1), (15, op_ald 1 1), (16, op_ild 4 2), (18, op_ild 2 1), (19, op_cv M_X2_can 2 3), (22, op_ifeq 32), (25, op_ild 3 1), (26, op_ic 1 1), (27, op_ild 4 2), (29, op_ishl), (30, op_ior), (31, op_ist 3 1), (32, op_iinc 4 1), (35, op_goto 5), (38, op_ild 3 1), (39, op_iret)]
set_option maxRecDepth 20000 in
theorem K_X2_sayers : ∀ r ∈ T_X2_sayers, OpOK M_X2_sayers r.1 r.2 :=
  fc (ok_iconst (n := 0) (by decide +kernel) (by decide +kernel)) <|
  fc (ok_istn (q := 3) (by decide +kernel) rfl (by decide)) <|
  fc (ok_iconst (n := 0) (by decide +kernel) (by decide +kernel)) <|
  fc (ok_ist (by decide +kernel) (by decide)) <|
  fc (ok_ild (by decide +kernel)) <|
  fc (ok_aldn (q := 0) (by decide +kernel) rfl) <|
  fc (ok_gi mk_X2_sayers (fo_RX2_27 rfl) rfl (by decide +kernel)) <|
  fc (ok_icge (off := 27) (by decide +kernel) (by decide)) <|
  fc (ok_aldn (q := 0) (by decide +kernel) rfl) <|
  fc (ok_aldn (q := 1) (by decide +kernel) rfl) <|
  fc (ok_ild (by decide +kernel)) <|
  fc (ok_ildn (q := 2) (by decide +kernel) rfl) <|
  fc (ok_cv mk_X2_sayers mk_X2_can ⟨uw408, uw409, uw410, uw23, by decide +kernel⟩ (T := TX2) (N := 8) rfl (by decide +kernel)) <|
  fc (ok_ifeq (off := 10) (by decide +kernel) (by decide)) <|
  fc (ok_ildn (q := 3) (by decide +kernel) rfl) <|
  fc (ok_iconst (n := 1) (by decide +kernel) (by decide +kernel)) <|
  fc (ok_ild (by decide +kernel)) <|
  fc (ok_ishl (by decide +kernel)) <|
  fc (ok_ior (by decide +kernel)) <|
  fc (ok_istn (q := 3) (by decide +kernel) rfl (by decide)) <|
  fc (ok_iinc (n := 1) (by decide +kernel) (by decide +kernel) (by decide)) <|
  fc (ok_goto (off := -30) (by decide +kernel) (by decide)) <|
  fc (ok_ildn (q := 3) (by decide +kernel) rfl) <|
  fc (ok_iret rfl (by decide +kernel)) <| fn
def T_X2_far : List (Nat × Op) := [(0, op_ald 0 1), (1, op_gf 2 0 1), (4, op_ild 1 1), (5, op_iald), (6, op_ald 0 1), (7, op_gf 2 0 1), (10, op_ild 2 1), (11, op_iald), (12, op_isub), (13, op_abs), (16, op_iret)]
set_option maxRecDepth 20000 in
theorem K_X2_far : ∀ r ∈ T_X2_far, OpOK M_X2_far r.1 r.2 :=
  fc (ok_aldn (q := 0) (by decide +kernel) rfl) <|
  fc (ok_gf mk_X2_far (fo_RX2_9 rfl) rfl (by decide +kernel)) <|
  fc (ok_ildn (q := 1) (by decide +kernel) rfl) <|
  fc (ok_iald (by decide +kernel)) <|
  fc (ok_aldn (q := 0) (by decide +kernel) rfl) <|
  fc (ok_gf mk_X2_far (fo_RX2_9 rfl) rfl (by decide +kernel)) <|
  fc (ok_ildn (q := 2) (by decide +kernel) rfl) <|
  fc (ok_iald (by decide +kernel)) <|
  fc (ok_isub (by decide +kernel)) <|
  fc (ok_abs mk_X2_far uw488 uw423 uw212 uw424 (by decide +kernel)) <|
  fc (ok_iret rfl (by decide +kernel)) <| fn
def T_X2_purses : List (Nat × Op) := [(0, op_ald 0 1), (1, op_ald 0 1), (2, op_gf 2 2 3), (5, op_cv M_X2_sum 2 1), (8, op_iret)]
set_option maxRecDepth 20000 in
theorem K_X2_purses : ∀ r ∈ T_X2_purses, OpOK M_X2_purses r.1 r.2 :=
  fc (ok_aldn (q := 0) (by decide +kernel) rfl) <|
  fc (ok_aldn (q := 0) (by decide +kernel) rfl) <|
  fc (ok_gf mk_X2_purses (fo_RX2_18 rfl) rfl (by decide +kernel)) <|
  fc (ok_cv mk_X2_purses mk_X2_sum ⟨uw512, uw513, uw514, uw23, by decide +kernel⟩ (T := TX2) (N := 8) rfl (by decide +kernel)) <|
  fc (ok_iret rfl (by decide +kernel)) <| fn
def T_X2_sum : List (Nat × Op) := [(0, op_ic 0 1), (1, op_ist 2 1), (2, op_ic 0 1), (3, op_ist 3 1), (4, op_ild 3 1), (5, op_ald 0 1), (6, op_gi 2 5), (9, op_icge 30), (12, op_ild 3 1), (13, op_ald 1 1), (14, op_alen), (15, op_icge 30), (18, op_ild 2 1), (19, op_ald 1 1), (20, op_ild 3 1), (21, op_iald), (22, op_iadd), (23, op_ist 2 1), (24, op_iinc 3 1), (27, op_goto 4), (30, op_ild 2 1), (31, op_iret)]
set_option maxRecDepth 20000 in
theorem K_X2_sum : ∀ r ∈ T_X2_sum, OpOK M_X2_sum r.1 r.2 :=
  fc (ok_iconst (n := 0) (by decide +kernel) (by decide +kernel)) <|
  fc (ok_istn (q := 2) (by decide +kernel) rfl (by decide)) <|
  fc (ok_iconst (n := 0) (by decide +kernel) (by decide +kernel)) <|
  fc (ok_istn (q := 3) (by decide +kernel) rfl (by decide)) <|
  fc (ok_ildn (q := 3) (by decide +kernel) rfl) <|
  fc (ok_aldn (q := 0) (by decide +kernel) rfl) <|
  fc (ok_gi mk_X2_sum (fo_RX2_27 rfl) rfl (by decide +kernel)) <|
  fc (ok_icge (off := 21) (by decide +kernel) (by decide)) <|
  fc (ok_ildn (q := 3) (by decide +kernel) rfl) <|
  fc (ok_aldn (q := 1) (by decide +kernel) rfl) <|
  fc (ok_alen (by decide +kernel)) <|
  fc (ok_icge (off := 15) (by decide +kernel) (by decide)) <|
  fc (ok_ildn (q := 2) (by decide +kernel) rfl) <|
  fc (ok_aldn (q := 1) (by decide +kernel) rfl) <|
  fc (ok_ildn (q := 3) (by decide +kernel) rfl) <|
  fc (ok_iald (by decide +kernel)) <|
  fc (ok_iadd (by decide +kernel)) <|
  fc (ok_istn (q := 2) (by decide +kernel) rfl (by decide)) <|
  fc (ok_iinc (n := 1) (by decide +kernel) (by decide +kernel) (by decide)) <|
  fc (ok_goto (off := -23) (by decide +kernel) (by decide)) <|
  fc (ok_ildn (q := 2) (by decide +kernel) rfl) <|
  fc (ok_iret rfl (by decide +kernel)) <| fn
def T_X2_writes : List (Nat × Op) := [(0, op_ild 2 1), (1, op_iflt 13), (4, op_ild 2 1), (5, op_ald 1 1), (6, op_alen), (7, op_ic 30 2), (9, op_isub), (10, op_icle 14), (13, op_vret), (14, op_ald 0 1), (15, op_gf 2 0 1), (18, op_ic 0 1), (19, op_ald 1 1), (20, op_ild 2 1), (21, op_ic 7 2), (23, op_cpi), (26, op_ald 0 1), (27, op_gf 2 2 3), (30, op_ic 0 1), (31, op_ald 1 1), (32, op_ild 2 1), (33, op_ic 7 2), (35, op_iadd), (36, op_ic 7 2), (38, op_cpi), (41, op_ald 0 1), (42, op_gf 2 3 4), (45, op_ic 0 1), (46, op_ald 1 1), (47, op_ild 2 1), (48, op_ic 14 2), (50, op_iadd), (51, op_ic 7 2), (53, op_cpi), (56, op_ald 0 1), (57, op_gf 2 4 5), (60, op_ic 0 1), (61, op_ald 1 1), (62, op_ild 2 1), (63, op_ic 21 2), (65, op_iadd), (66, op_ic 7 2), (68, op_cpi), (71, op_ald 1 1), (72, op_ild 2 1), (73, op_ic 28 2), (75, op_iadd), (76, op_ald 0 1), (77, op_gi 2 6), (80, op_iast), (81, op_ald 1 1), (82, op_ild 2 1), (83, op_ic 28 2), (85, op_iadd), (86, op_ic 1 1), (87, op_iadd), (88, op_ald 0 1), (89, op_gi 2 7), (92, op_iast), (93, op_vret)]
set_option maxRecDepth 20000 in
theorem K_X2_writes : ∀ r ∈ T_X2_writes, OpOK M_X2_writes r.1 r.2 :=
  fc (ok_ildn (q := 2) (by decide +kernel) rfl) <|
  fc (ok_iflt (off := 12) (by decide +kernel) (by decide)) <|
  fc (ok_ildn (q := 2) (by decide +kernel) rfl) <|
  fc (ok_aldn (q := 1) (by decide +kernel) rfl) <|
  fc (ok_alen (by decide +kernel)) <|
  fc (ok_bipush (n := 30) (by decide +kernel) (by decide +kernel)) <|
  fc (ok_isub (by decide +kernel)) <|
  fc (ok_icle (off := 4) (by decide +kernel) (by decide)) <|
  fc (ok_vret rfl (by decide +kernel)) <|
  fc (ok_aldn (q := 0) (by decide +kernel) rfl) <|
  fc (ok_gf mk_X2_writes (fo_RX2_9 rfl) rfl (by decide +kernel)) <|
  fc (ok_iconst (n := 0) (by decide +kernel) (by decide +kernel)) <|
  fc (ok_aldn (q := 1) (by decide +kernel) rfl) <|
  fc (ok_ildn (q := 2) (by decide +kernel) rfl) <|
  fc (ok_bipush (n := 7) (by decide +kernel) (by decide +kernel)) <|
  fc (ok_cpi mk_X2_writes uw539 uw540 uw541 uw542 (by decide +kernel)) <|
  fc (ok_aldn (q := 0) (by decide +kernel) rfl) <|
  fc (ok_gf mk_X2_writes (fo_RX2_18 rfl) rfl (by decide +kernel)) <|
  fc (ok_iconst (n := 0) (by decide +kernel) (by decide +kernel)) <|
  fc (ok_aldn (q := 1) (by decide +kernel) rfl) <|
  fc (ok_ildn (q := 2) (by decide +kernel) rfl) <|
  fc (ok_bipush (n := 7) (by decide +kernel) (by decide +kernel)) <|
  fc (ok_iadd (by decide +kernel)) <|
  fc (ok_bipush (n := 7) (by decide +kernel) (by decide +kernel)) <|
  fc (ok_cpi mk_X2_writes uw539 uw540 uw541 uw542 (by decide +kernel)) <|
  fc (ok_aldn (q := 0) (by decide +kernel) rfl) <|
  fc (ok_gf mk_X2_writes (fo_RX2_21 rfl) rfl (by decide +kernel)) <|
  fc (ok_iconst (n := 0) (by decide +kernel) (by decide +kernel)) <|
  fc (ok_aldn (q := 1) (by decide +kernel) rfl) <|
  fc (ok_ildn (q := 2) (by decide +kernel) rfl) <|
  fc (ok_bipush (n := 14) (by decide +kernel) (by decide +kernel)) <|
  fc (ok_iadd (by decide +kernel)) <|
  fc (ok_bipush (n := 7) (by decide +kernel) (by decide +kernel)) <|
  fc (ok_cpi mk_X2_writes uw539 uw540 uw541 uw542 (by decide +kernel)) <|
  fc (ok_aldn (q := 0) (by decide +kernel) rfl) <|
  fc (ok_gf mk_X2_writes (fo_RX2_24 rfl) rfl (by decide +kernel)) <|
  fc (ok_iconst (n := 0) (by decide +kernel) (by decide +kernel)) <|
  fc (ok_aldn (q := 1) (by decide +kernel) rfl) <|
  fc (ok_ildn (q := 2) (by decide +kernel) rfl) <|
  fc (ok_bipush (n := 21) (by decide +kernel) (by decide +kernel)) <|
  fc (ok_iadd (by decide +kernel)) <|
  fc (ok_bipush (n := 7) (by decide +kernel) (by decide +kernel)) <|
  fc (ok_cpi mk_X2_writes uw539 uw540 uw541 uw542 (by decide +kernel)) <|
  fc (ok_aldn (q := 1) (by decide +kernel) rfl) <|
  fc (ok_ildn (q := 2) (by decide +kernel) rfl) <|
  fc (ok_bipush (n := 28) (by decide +kernel) (by decide +kernel)) <|
  fc (ok_iadd (by decide +kernel)) <|
  fc (ok_aldn (q := 0) (by decide +kernel) rfl) <|
  fc (ok_gi mk_X2_writes (fo_RX2_37 rfl) rfl (by decide +kernel)) <|
  fc (ok_iast (by decide +kernel)) <|
  fc (ok_aldn (q := 1) (by decide +kernel) rfl) <|
  fc (ok_ildn (q := 2) (by decide +kernel) rfl) <|
  fc (ok_bipush (n := 28) (by decide +kernel) (by decide +kernel)) <|
  fc (ok_iadd (by decide +kernel)) <|
  fc (ok_iconst (n := 1) (by decide +kernel) (by decide +kernel)) <|
  fc (ok_iadd (by decide +kernel)) <|
  fc (ok_aldn (q := 0) (by decide +kernel) rfl) <|
  fc (ok_gi mk_X2_writes (fo_RX2_40 rfl) rfl (by decide +kernel)) <|
  fc (ok_iast (by decide +kernel)) <|
  fc (ok_vret rfl (by decide +kernel)) <| fn
def T_X2_saidBy : List (Nat × Op) := [(0, op_ald 0 1), (1, op_ild 2 1), (2, op_cv M_X2_has 2 1), (5, op_ifeq 16), (8, op_ald 0 1), (9, op_ild 3 1), (10, op_cv M_X2_has 2 1), (13, op_ifne 18), (16, op_ic (-1) 1), (17, op_iret), (18, op_ald 0 1), (19, op_gf 2 3 4), (22, op_ild 3 1), (23, op_iald), (24, op_ist 4 2), (26, op_ild 4 2), (28, op_ild 2 1), (29, op_icne 35), (32, op_ic (-2) 2), (34, op_iret), (35, op_ald 0 1), (36, op_ald 1 1), (37, op_ild 2 1), (38, op_ild 3 1), (39, op_cv M_X2_can 2 3), (42, op_ifne 48), (45, op_ic (-3) 2), (47, op_iret), (48, op_ald 0 1), (49, op_ild 2 1), (50, op_ild 3 1), (51, op_cv M_X2_say 2 2), (54, op_ild 4 2), (56, op_iret)]
set_option maxRecDepth 20000 in
theorem K_X2_saidBy : ∀ r ∈ T_X2_saidBy, OpOK M_X2_saidBy r.1 r.2 :=
  fc (ok_aldn (q := 0) (by decide +kernel) rfl) <|
  fc (ok_ildn (q := 2) (by decide +kernel) rfl) <|
  fc (ok_cv mk_X2_saidBy mk_X2_has ⟨uw549, uw397, uw398, uw23, by decide +kernel⟩ (T := TX2) (N := 8) rfl (by decide +kernel)) <|
  fc (ok_ifeq (off := 11) (by decide +kernel) (by decide)) <|
  fc (ok_aldn (q := 0) (by decide +kernel) rfl) <|
  fc (ok_ildn (q := 3) (by decide +kernel) rfl) <|
  fc (ok_cv mk_X2_saidBy mk_X2_has ⟨uw549, uw397, uw398, uw23, by decide +kernel⟩ (T := TX2) (N := 8) rfl (by decide +kernel)) <|
  fc (ok_ifne (off := 5) (by decide +kernel) (by decide)) <|
  fc (ok_iconst (n := -1) (by decide +kernel) (by decide +kernel)) <|
  fc (ok_iret rfl (by decide +kernel)) <|
  fc (ok_aldn (q := 0) (by decide +kernel) rfl) <|
  fc (ok_gf mk_X2_saidBy (fo_RX2_21 rfl) rfl (by decide +kernel)) <|
  fc (ok_ildn (q := 3) (by decide +kernel) rfl) <|
  fc (ok_iald (by decide +kernel)) <|
  fc (ok_ist (by decide +kernel) (by decide)) <|
  fc (ok_ild (by decide +kernel)) <|
  fc (ok_ildn (q := 2) (by decide +kernel) rfl) <|
  fc (ok_icne (off := 6) (by decide +kernel) (by decide)) <|
  fc (ok_bipush (n := -2) (by decide +kernel) (by decide +kernel)) <|
  fc (ok_iret rfl (by decide +kernel)) <|
  fc (ok_aldn (q := 0) (by decide +kernel) rfl) <|
  fc (ok_aldn (q := 1) (by decide +kernel) rfl) <|
  fc (ok_ildn (q := 2) (by decide +kernel) rfl) <|
  fc (ok_ildn (q := 3) (by decide +kernel) rfl) <|
  fc (ok_cv mk_X2_saidBy mk_X2_can ⟨uw408, uw409, uw410, uw23, by decide +kernel⟩ (T := TX2) (N := 8) rfl (by decide +kernel)) <|
  fc (ok_ifne (off := 6) (by decide +kernel) (by decide)) <|
  fc (ok_bipush (n := -3) (by decide +kernel) (by decide +kernel)) <|
  fc (ok_iret rfl (by decide +kernel)) <|
  fc (ok_aldn (q := 0) (by decide +kernel) rfl) <|
  fc (ok_ildn (q := 2) (by decide +kernel) rfl) <|
  fc (ok_ildn (q := 3) (by decide +kernel) rfl) <|
  fc (ok_cv mk_X2_saidBy mk_X2_say ⟨uw550, uw551, uw552, uw23, by decide +kernel⟩ (T := TX2) (N := 8) rfl (by decide +kernel)) <|
  fc (ok_ild (by decide +kernel)) <|
  fc (ok_iret rfl (by decide +kernel)) <| fn
def T_X2_say : List (Nat × Op) := [(0, op_ald 0 1), (1, op_gf 2 3 4), (4, op_ild 2 1), (5, op_ild 1 1), (6, op_iast), (7, op_ald 0 1), (8, op_gf 2 4 5), (11, op_ild 2 1), (12, op_ic 0 1), (13, op_iast), (14, op_ald 0 1), (15, op_ic 9999 3), (18, op_ald 0 1), (19, op_gi 2 7), (22, op_ic 1 1), (23, op_iadd), (24, op_min), (27, op_pi 2 7), (30, op_vret)]
set_option maxRecDepth 20000 in
theorem K_X2_say : ∀ r ∈ T_X2_say, OpOK M_X2_say r.1 r.2 :=
  fc (ok_aldn (q := 0) (by decide +kernel) rfl) <|
  fc (ok_gf mk_X2_say (fo_RX2_21 rfl) rfl (by decide +kernel)) <|
  fc (ok_ildn (q := 2) (by decide +kernel) rfl) <|
  fc (ok_ildn (q := 1) (by decide +kernel) rfl) <|
  fc (ok_iast (by decide +kernel)) <|
  fc (ok_aldn (q := 0) (by decide +kernel) rfl) <|
  fc (ok_gf mk_X2_say (fo_RX2_24 rfl) rfl (by decide +kernel)) <|
  fc (ok_ildn (q := 2) (by decide +kernel) rfl) <|
  fc (ok_iconst (n := 0) (by decide +kernel) (by decide +kernel)) <|
  fc (ok_iast (by decide +kernel)) <|
  fc (ok_aldn (q := 0) (by decide +kernel) rfl) <|
  fc (ok_sipush (n := 9999) (by decide +kernel) (by decide +kernel)) <|
  fc (ok_aldn (q := 0) (by decide +kernel) rfl) <|
  fc (ok_gi mk_X2_say (fo_RX2_40 rfl) rfl (by decide +kernel)) <|
  fc (ok_iconst (n := 1) (by decide +kernel) (by decide +kernel)) <|
  fc (ok_iadd (by decide +kernel)) <|
  fc (ok_min mk_X2_say uw554 uw211 uw212 uw213 (by decide +kernel)) <|
  fc (ok_pi mk_X2_say (fo_RX2_40 rfl) to_2_7 rfl (by decide +kernel)) <|
  fc (ok_vret rfl (by decide +kernel)) <| fn
def T_X2_signedFor : List (Nat × Op) := [(0, op_ald 0 1), (1, op_ild 1 1), (2, op_cv M_X2_has 2 1), (5, op_ifeq 19), (8, op_ild 2 1), (9, op_ic 1 1), (10, op_iclt 19), (13, op_ild 2 1), (14, op_ic 99 2), (16, op_icle 21), (19, op_ic (-1) 1), (20, op_iret), (21, op_ald 0 1), (22, op_gf 2 3 4), (25, op_ild 1 1), (26, op_iald), (27, op_ist 3 1), (28, op_ild 3 1), (29, op_ild 1 1), (30, op_icne 36), (33, op_ic (-2) 2), (35, op_iret), (36, op_ald 0 1), (37, op_gf 2 2 3), (40, op_ild 1 1), (41, op_iald), (42, op_ild 2 1), (43, op_iclt 59), (46, op_ald 0 1), (47, op_gf 2 2 3), (50, op_ild 3 1), (51, op_iald), (52, op_ild 2 1), (53, op_iadd), (54, op_ic 99 2), (56, op_icle 62), (59, op_ic (-3) 2), (61, op_iret), (62, op_ald 0 1), (63, op_gf 2 2 3), (66, op_ild 1 1), (67, op_dup2), (68, op_iald), (69, op_ild 2 1), (70, op_isub), (71, op_iast), (72, op_ald 0 1), (73, op_gf 2 2 3), (76, op_ild 3 1), (77, op_dup2), (78, op_iald), (79, op_ild 2 1), (80, op_iadd), (81, op_iast), (82, op_ald 0 1), (83, op_gf 2 2 3), (86, op_ild 3 1), (87, op_iald), (88, op_iret)]
set_option maxRecDepth 20000 in
theorem K_X2_signedFor : ∀ r ∈ T_X2_signedFor, OpOK M_X2_signedFor r.1 r.2 :=
  fc (ok_aldn (q := 0) (by decide +kernel) rfl) <|
  fc (ok_ildn (q := 1) (by decide +kernel) rfl) <|
  fc (ok_cv mk_X2_signedFor mk_X2_has ⟨uw549, uw397, uw398, uw23, by decide +kernel⟩ (T := TX2) (N := 8) rfl (by decide +kernel)) <|
  fc (ok_ifeq (off := 14) (by decide +kernel) (by decide)) <|
  fc (ok_ildn (q := 2) (by decide +kernel) rfl) <|
  fc (ok_iconst (n := 1) (by decide +kernel) (by decide +kernel)) <|
  fc (ok_iclt (off := 9) (by decide +kernel) (by decide)) <|
  fc (ok_ildn (q := 2) (by decide +kernel) rfl) <|
  fc (ok_bipush (n := 99) (by decide +kernel) (by decide +kernel)) <|
  fc (ok_icle (off := 5) (by decide +kernel) (by decide)) <|
  fc (ok_iconst (n := -1) (by decide +kernel) (by decide +kernel)) <|
  fc (ok_iret rfl (by decide +kernel)) <|
  fc (ok_aldn (q := 0) (by decide +kernel) rfl) <|
  fc (ok_gf mk_X2_signedFor (fo_RX2_21 rfl) rfl (by decide +kernel)) <|
  fc (ok_ildn (q := 1) (by decide +kernel) rfl) <|
  fc (ok_iald (by decide +kernel)) <|
  fc (ok_istn (q := 3) (by decide +kernel) rfl (by decide)) <|
  fc (ok_ildn (q := 3) (by decide +kernel) rfl) <|
  fc (ok_ildn (q := 1) (by decide +kernel) rfl) <|
  fc (ok_icne (off := 6) (by decide +kernel) (by decide)) <|
  fc (ok_bipush (n := -2) (by decide +kernel) (by decide +kernel)) <|
  fc (ok_iret rfl (by decide +kernel)) <|
  fc (ok_aldn (q := 0) (by decide +kernel) rfl) <|
  fc (ok_gf mk_X2_signedFor (fo_RX2_18 rfl) rfl (by decide +kernel)) <|
  fc (ok_ildn (q := 1) (by decide +kernel) rfl) <|
  fc (ok_iald (by decide +kernel)) <|
  fc (ok_ildn (q := 2) (by decide +kernel) rfl) <|
  fc (ok_iclt (off := 16) (by decide +kernel) (by decide)) <|
  fc (ok_aldn (q := 0) (by decide +kernel) rfl) <|
  fc (ok_gf mk_X2_signedFor (fo_RX2_18 rfl) rfl (by decide +kernel)) <|
  fc (ok_ildn (q := 3) (by decide +kernel) rfl) <|
  fc (ok_iald (by decide +kernel)) <|
  fc (ok_ildn (q := 2) (by decide +kernel) rfl) <|
  fc (ok_iadd (by decide +kernel)) <|
  fc (ok_bipush (n := 99) (by decide +kernel) (by decide +kernel)) <|
  fc (ok_icle (off := 6) (by decide +kernel) (by decide)) <|
  fc (ok_bipush (n := -3) (by decide +kernel) (by decide +kernel)) <|
  fc (ok_iret rfl (by decide +kernel)) <|
  fc (ok_aldn (q := 0) (by decide +kernel) rfl) <|
  fc (ok_gf mk_X2_signedFor (fo_RX2_18 rfl) rfl (by decide +kernel)) <|
  fc (ok_ildn (q := 1) (by decide +kernel) rfl) <|
  fc (ok_dup2 (by decide +kernel)) <|
  fc (ok_iald (by decide +kernel)) <|
  fc (ok_ildn (q := 2) (by decide +kernel) rfl) <|
  fc (ok_isub (by decide +kernel)) <|
  fc (ok_iast (by decide +kernel)) <|
  fc (ok_aldn (q := 0) (by decide +kernel) rfl) <|
  fc (ok_gf mk_X2_signedFor (fo_RX2_18 rfl) rfl (by decide +kernel)) <|
  fc (ok_ildn (q := 3) (by decide +kernel) rfl) <|
  fc (ok_dup2 (by decide +kernel)) <|
  fc (ok_iald (by decide +kernel)) <|
  fc (ok_ildn (q := 2) (by decide +kernel) rfl) <|
  fc (ok_iadd (by decide +kernel)) <|
  fc (ok_iast (by decide +kernel)) <|
  fc (ok_aldn (q := 0) (by decide +kernel) rfl) <|
  fc (ok_gf mk_X2_signedFor (fo_RX2_18 rfl) rfl (by decide +kernel)) <|
  fc (ok_ildn (q := 3) (by decide +kernel) rfl) <|
  fc (ok_iald (by decide +kernel)) <|
  fc (ok_iret rfl (by decide +kernel)) <| fn
def T_X2_movedTo : List (Nat × Op) := [(0, op_ald 0 1), (1, op_ild 1 1), (2, op_cv M_X2_has 2 1), (5, op_ifeq 18), (8, op_ild 2 1), (9, op_iflt 18), (12, op_ild 2 1), (13, op_ic 10 2), (15, op_iclt 20), (18, op_ic (-1) 1), (19, op_iret), (20, op_ald 0 1), (21, op_gf 2 0 1), (24, op_ild 1 1), (25, op_iald), (26, op_ild 2 1), (27, op_isub), (28, op_abs), (31, op_ist 3 1), (32, op_ild 3 1), (33, op_ifne 39), (36, op_ic (-2) 2), (38, op_iret), (39, op_ald 0 1), (40, op_gf 2 0 1), (43, op_ild 1 1), (44, op_ild 2 1), (45, op_iast), (46, op_ild 3 1), (47, op_iret)]
set_option maxRecDepth 20000 in
theorem K_X2_movedTo : ∀ r ∈ T_X2_movedTo, OpOK M_X2_movedTo r.1 r.2 :=
  fc (ok_aldn (q := 0) (by decide +kernel) rfl) <|
  fc (ok_ildn (q := 1) (by decide +kernel) rfl) <|
  fc (ok_cv mk_X2_movedTo mk_X2_has ⟨uw549, uw397, uw398, uw23, by decide +kernel⟩ (T := TX2) (N := 8) rfl (by decide +kernel)) <|
  fc (ok_ifeq (off := 13) (by decide +kernel) (by decide)) <|
  fc (ok_ildn (q := 2) (by decide +kernel) rfl) <|
  fc (ok_iflt (off := 9) (by decide +kernel) (by decide)) <|
  fc (ok_ildn (q := 2) (by decide +kernel) rfl) <|
  fc (ok_bipush (n := 10) (by decide +kernel) (by decide +kernel)) <|
  fc (ok_iclt (off := 5) (by decide +kernel) (by decide)) <|
  fc (ok_iconst (n := -1) (by decide +kernel) (by decide +kernel)) <|
  fc (ok_iret rfl (by decide +kernel)) <|
  fc (ok_aldn (q := 0) (by decide +kernel) rfl) <|
  fc (ok_gf mk_X2_movedTo (fo_RX2_9 rfl) rfl (by decide +kernel)) <|
  fc (ok_ildn (q := 1) (by decide +kernel) rfl) <|
  fc (ok_iald (by decide +kernel)) <|
  fc (ok_ildn (q := 2) (by decide +kernel) rfl) <|
  fc (ok_isub (by decide +kernel)) <|
  fc (ok_abs mk_X2_movedTo uw488 uw423 uw212 uw424 (by decide +kernel)) <|
  fc (ok_istn (q := 3) (by decide +kernel) rfl (by decide)) <|
  fc (ok_ildn (q := 3) (by decide +kernel) rfl) <|
  fc (ok_ifne (off := 6) (by decide +kernel) (by decide)) <|
  fc (ok_bipush (n := -2) (by decide +kernel) (by decide +kernel)) <|
  fc (ok_iret rfl (by decide +kernel)) <|
  fc (ok_aldn (q := 0) (by decide +kernel) rfl) <|
  fc (ok_gf mk_X2_movedTo (fo_RX2_9 rfl) rfl (by decide +kernel)) <|
  fc (ok_ildn (q := 1) (by decide +kernel) rfl) <|
  fc (ok_ildn (q := 2) (by decide +kernel) rfl) <|
  fc (ok_iast (by decide +kernel)) <|
  fc (ok_ildn (q := 3) (by decide +kernel) rfl) <|
  fc (ok_iret rfl (by decide +kernel)) <| fn
def T_X2_rollCalled : List (Nat × Op) := [(0, op_ald 0 1), (1, op_ild 2 1), (2, op_cv M_X2_has 2 1), (5, op_ifne 10), (8, op_ic (-1) 1), (9, op_iret), (10, op_ic 0 1), (11, op_ist 3 1), (12, op_ic 0 1), (13, op_ist 4 2), (15, op_ild 4 2), (17, op_ald 0 1), (18, op_gi 2 5), (21, op_icge 51), (24, op_ald 0 1), (25, op_ald 1 1), (26, op_ild 2 1), (27, op_ild 4 2), (29, op_cv M_X2_can 2 3), (32, op_ifeq 45), (35, op_ald 0 1), (36, op_ild 2 1), (37, op_ild 4 2), (39, op_cv M_X2_say 2 2), (42, op_iinc 3 1), (45, op_iinc 4 1), (48, op_goto 15), (51, op_ild 3 1), (52, op_ifle 59), (55, op_ild 3 1), (56, op_goto 61), (59, op_ic (-2) 2), (61, op_iret)]
set_option maxRecDepth 20000 in
theorem K_X2_rollCalled : ∀ r ∈ T_X2_rollCalled, OpOK M_X2_rollCalled r.1 r.2 :=
  fc (ok_aldn (q := 0) (by decide +kernel) rfl) <|
  fc (ok_ildn (q := 2) (by decide +kernel) rfl) <|
  fc (ok_cv mk_X2_rollCalled mk_X2_has ⟨uw549, uw397, uw398, uw23, by decide +kernel⟩ (T := TX2) (N := 8) rfl (by decide +kernel)) <|
  fc (ok_ifne (off := 5) (by decide +kernel) (by decide)) <|
  fc (ok_iconst (n := -1) (by decide +kernel) (by decide +kernel)) <|
  fc (ok_iret rfl (by decide +kernel)) <|
  fc (ok_iconst (n := 0) (by decide +kernel) (by decide +kernel)) <|
  fc (ok_istn (q := 3) (by decide +kernel) rfl (by decide)) <|
  fc (ok_iconst (n := 0) (by decide +kernel) (by decide +kernel)) <|
  fc (ok_ist (by decide +kernel) (by decide)) <|
  fc (ok_ild (by decide +kernel)) <|
  fc (ok_aldn (q := 0) (by decide +kernel) rfl) <|
  fc (ok_gi mk_X2_rollCalled (fo_RX2_27 rfl) rfl (by decide +kernel)) <|
  fc (ok_icge (off := 30) (by decide +kernel) (by decide)) <|
  fc (ok_aldn (q := 0) (by decide +kernel) rfl) <|
  fc (ok_aldn (q := 1) (by decide +kernel) rfl) <|
  fc (ok_ildn (q := 2) (by decide +kernel) rfl) <|
  fc (ok_ild (by decide +kernel)) <|
  fc (ok_cv mk_X2_rollCalled mk_X2_can ⟨uw408, uw409, uw410, uw23, by decide +kernel⟩ (T := TX2) (N := 8) rfl (by decide +kernel)) <|
  fc (ok_ifeq (off := 13) (by decide +kernel) (by decide)) <|
  fc (ok_aldn (q := 0) (by decide +kernel) rfl) <|
  fc (ok_ildn (q := 2) (by decide +kernel) rfl) <|
  fc (ok_ild (by decide +kernel)) <|
  fc (ok_cv mk_X2_rollCalled mk_X2_say ⟨uw550, uw551, uw552, uw23, by decide +kernel⟩ (T := TX2) (N := 8) rfl (by decide +kernel)) <|
  fc (ok_iinc (n := 1) (by decide +kernel) (by decide +kernel) (by decide)) <|
  fc (ok_iinc (n := 1) (by decide +kernel) (by decide +kernel) (by decide)) <|
  fc (ok_goto (off := -33) (by decide +kernel) (by decide)) <|
  fc (ok_ildn (q := 3) (by decide +kernel) rfl) <|
  fc (ok_ifle (off := 7) (by decide +kernel) (by decide)) <|
  fc (ok_ildn (q := 3) (by decide +kernel) rfl) <|
  fc (ok_goto (off := 5) (by decide +kernel) (by decide)) <|
  fc (ok_bipush (n := -2) (by decide +kernel) (by decide +kernel)) <|
  fc (ok_iret rfl (by decide +kernel)) <| fn
def T_X2_passDays : List (Nat × Op) := [(0, op_ic 0 1), (1, op_ist 4 2), (3, op_ild 4 2), (5, op_ild 2 1), (6, op_icge 21), (9, op_ald 0 1), (10, op_ald 1 1), (11, op_ild 3 1), (12, op_cv M_X2_passDay 2 2), (15, op_iinc 4 1), (18, op_goto 3), (21, op_vret)]
set_option maxRecDepth 20000 in
theorem K_X2_passDays : ∀ r ∈ T_X2_passDays, OpOK M_X2_passDays r.1 r.2 :=
  fc (ok_iconst (n := 0) (by decide +kernel) (by decide +kernel)) <|
  fc (ok_ist (by decide +kernel) (by decide)) <|
  fc (ok_ild (by decide +kernel)) <|
  fc (ok_ildn (q := 2) (by decide +kernel) rfl) <|
  fc (ok_icge (off := 15) (by decide +kernel) (by decide)) <|
  fc (ok_aldn (q := 0) (by decide +kernel) rfl) <|
  fc (ok_aldn (q := 1) (by decide +kernel) rfl) <|
  fc (ok_ildn (q := 3) (by decide +kernel) rfl) <|
  fc (ok_cv mk_X2_passDays mk_X2_passDay ⟨uw647, uw648, uw649, uw23, by decide +kernel⟩ (T := TX2) (N := 8) rfl (by decide +kernel)) <|
  fc (ok_iinc (n := 1) (by decide +kernel) (by decide +kernel) (by decide)) <|
  fc (ok_goto (off := -15) (by decide +kernel) (by decide)) <|
  fc (ok_vret rfl (by decide +kernel)) <| fn
def T_X2_passDay : List (Nat × Op) := [(0, op_ic 0 1), (1, op_ist 3 1), (2, op_ild 3 1), (3, op_ald 0 1), (4, op_gi 2 5), (7, op_icge 37), (10, op_ild 3 1), (11, op_ild 2 1), (12, op_iceq 31), (15, op_ald 0 1), (16, op_ald 1 1), (17, op_ild 3 1), (18, op_ild 3 1), (19, op_cv M_X2_can 2 3), (22, op_ifeq 31), (25, op_ald 0 1), (26, op_ild 3 1), (27, op_ild 3 1), (28, op_cv M_X2_say 2 2), (31, op_iinc 3 1), (34, op_goto 2), (37, op_ic 0 1), (38, op_ist 3 1), (39, op_ild 3 1), (40, op_ald 0 1), (41, op_gi 2 5), (44, op_icge 109), (47, op_ald 0 1), (48, op_gf 2 3 4), (51, op_ild 3 1), (52, op_iald), (53, op_ist 4 2), (55, op_ild 4 2), (57, op_ild 3 1), (58, op_iceq 103), (61, op_ald 0 1), (62, op_gf 2 2 3), (65, op_ild 3 1), (66, op_iald), (67, op_ifle 103), (70, op_ald 0 1), (71, op_gf 2 2 3), (74, op_ild 4 2), (76, op_iald), (77, op_ic 99 2), (79, op_icge 103), (82, op_ald 0 1), (83, op_gf 2 2 3), (86, op_ild 3 1), (87, op_dup2), (88, op_iald), (89, op_ic 1 1), (90, op_isub), (91, op_iast), (92, op_ald 0 1), (93, op_gf 2 2 3), (96, op_ild 4 2), (98, op_dup2), (99, op_iald), (100, op_ic 1 1), (101, op_iadd), (102, op_iast), (103, op_iinc 3 1), (106, op_goto 39), (109, op_ic 0 1), (110, op_ist 3 1), (111, op_ild 3 1), (112, op_ald 0 1), (113, op_gi 2 5), (116, op_icge 144), (119, op_ald 0 1), (120, op_gf 2 4 5), (123, op_ild 3 1), (124, op_ic 99 2), (126, op_ald 0 1), (127, op_gf 2 4 5), (130, op_ild 3 1), (131, op_iald), (132, op_ic 1 1), (133, op_iadd), (134, op_min), (137, op_iast), (138, op_iinc 3 1), (141, op_goto 111), (144, op_ald 0 1), (145, op_dup), (146, op_gi 2 6), (149, op_ic 1 1), (150, op_iadd), (151, op_pi 2 6), (154, op_vret)]
set_option maxRecDepth 20000 in
theorem K_X2_passDay : ∀ r ∈ T_X2_passDay, OpOK M_X2_passDay r.1 r.2 :=
  fc (ok_iconst (n := 0) (by decide +kernel) (by decide +kernel)) <|
  fc (ok_istn (q := 3) (by decide +kernel) rfl (by decide)) <|
  fc (ok_ildn (q := 3) (by decide +kernel) rfl) <|
  fc (ok_aldn (q := 0) (by decide +kernel) rfl) <|
  fc (ok_gi mk_X2_passDay (fo_RX2_27 rfl) rfl (by decide +kernel)) <|
  fc (ok_icge (off := 30) (by decide +kernel) (by decide)) <|
  fc (ok_ildn (q := 3) (by decide +kernel) rfl) <|
  fc (ok_ildn (q := 2) (by decide +kernel) rfl) <|
  fc (ok_iceq (off := 19) (by decide +kernel) (by decide)) <|
  fc (ok_aldn (q := 0) (by decide +kernel) rfl) <|
  fc (ok_aldn (q := 1) (by decide +kernel) rfl) <|
  fc (ok_ildn (q := 3) (by decide +kernel) rfl) <|
  fc (ok_ildn (q := 3) (by decide +kernel) rfl) <|
  fc (ok_cv mk_X2_passDay mk_X2_can ⟨uw408, uw409, uw410, uw23, by decide +kernel⟩ (T := TX2) (N := 8) rfl (by decide +kernel)) <|
  fc (ok_ifeq (off := 9) (by decide +kernel) (by decide)) <|
  fc (ok_aldn (q := 0) (by decide +kernel) rfl) <|
  fc (ok_ildn (q := 3) (by decide +kernel) rfl) <|
  fc (ok_ildn (q := 3) (by decide +kernel) rfl) <|
  fc (ok_cv mk_X2_passDay mk_X2_say ⟨uw550, uw551, uw552, uw23, by decide +kernel⟩ (T := TX2) (N := 8) rfl (by decide +kernel)) <|
  fc (ok_iinc (n := 1) (by decide +kernel) (by decide +kernel) (by decide)) <|
  fc (ok_goto (off := -32) (by decide +kernel) (by decide)) <|
  fc (ok_iconst (n := 0) (by decide +kernel) (by decide +kernel)) <|
  fc (ok_istn (q := 3) (by decide +kernel) rfl (by decide)) <|
  fc (ok_ildn (q := 3) (by decide +kernel) rfl) <|
  fc (ok_aldn (q := 0) (by decide +kernel) rfl) <|
  fc (ok_gi mk_X2_passDay (fo_RX2_27 rfl) rfl (by decide +kernel)) <|
  fc (ok_icge (off := 65) (by decide +kernel) (by decide)) <|
  fc (ok_aldn (q := 0) (by decide +kernel) rfl) <|
  fc (ok_gf mk_X2_passDay (fo_RX2_21 rfl) rfl (by decide +kernel)) <|
  fc (ok_ildn (q := 3) (by decide +kernel) rfl) <|
  fc (ok_iald (by decide +kernel)) <|
  fc (ok_ist (by decide +kernel) (by decide)) <|
  fc (ok_ild (by decide +kernel)) <|
  fc (ok_ildn (q := 3) (by decide +kernel) rfl) <|
  fc (ok_iceq (off := 45) (by decide +kernel) (by decide)) <|
  fc (ok_aldn (q := 0) (by decide +kernel) rfl) <|
  fc (ok_gf mk_X2_passDay (fo_RX2_18 rfl) rfl (by decide +kernel)) <|
  fc (ok_ildn (q := 3) (by decide +kernel) rfl) <|
  fc (ok_iald (by decide +kernel)) <|
  fc (ok_ifle (off := 36) (by decide +kernel) (by decide)) <|
  fc (ok_aldn (q := 0) (by decide +kernel) rfl) <|
  fc (ok_gf mk_X2_passDay (fo_RX2_18 rfl) rfl (by decide +kernel)) <|
  fc (ok_ild (by decide +kernel)) <|
  fc (ok_iald (by decide +kernel)) <|
  fc (ok_bipush (n := 99) (by decide +kernel) (by decide +kernel)) <|
  fc (ok_icge (off := 24) (by decide +kernel) (by decide)) <|
  fc (ok_aldn (q := 0) (by decide +kernel) rfl) <|
  fc (ok_gf mk_X2_passDay (fo_RX2_18 rfl) rfl (by decide +kernel)) <|
  fc (ok_ildn (q := 3) (by decide +kernel) rfl) <|
  fc (ok_dup2 (by decide +kernel)) <|
  fc (ok_iald (by decide +kernel)) <|
  fc (ok_iconst (n := 1) (by decide +kernel) (by decide +kernel)) <|
  fc (ok_isub (by decide +kernel)) <|
  fc (ok_iast (by decide +kernel)) <|
  fc (ok_aldn (q := 0) (by decide +kernel) rfl) <|
  fc (ok_gf mk_X2_passDay (fo_RX2_18 rfl) rfl (by decide +kernel)) <|
  fc (ok_ild (by decide +kernel)) <|
  fc (ok_dup2 (by decide +kernel)) <|
  fc (ok_iald (by decide +kernel)) <|
  fc (ok_iconst (n := 1) (by decide +kernel) (by decide +kernel)) <|
  fc (ok_iadd (by decide +kernel)) <|
  fc (ok_iast (by decide +kernel)) <|
  fc (ok_iinc (n := 1) (by decide +kernel) (by decide +kernel) (by decide)) <|
  fc (ok_goto (off := -67) (by decide +kernel) (by decide)) <|
  fc (ok_iconst (n := 0) (by decide +kernel) (by decide +kernel)) <|
  fc (ok_istn (q := 3) (by decide +kernel) rfl (by decide)) <|
  fc (ok_ildn (q := 3) (by decide +kernel) rfl) <|
  fc (ok_aldn (q := 0) (by decide +kernel) rfl) <|
  fc (ok_gi mk_X2_passDay (fo_RX2_27 rfl) rfl (by decide +kernel)) <|
  fc (ok_icge (off := 28) (by decide +kernel) (by decide)) <|
  fc (ok_aldn (q := 0) (by decide +kernel) rfl) <|
  fc (ok_gf mk_X2_passDay (fo_RX2_24 rfl) rfl (by decide +kernel)) <|
  fc (ok_ildn (q := 3) (by decide +kernel) rfl) <|
  fc (ok_bipush (n := 99) (by decide +kernel) (by decide +kernel)) <|
  fc (ok_aldn (q := 0) (by decide +kernel) rfl) <|
  fc (ok_gf mk_X2_passDay (fo_RX2_24 rfl) rfl (by decide +kernel)) <|
  fc (ok_ildn (q := 3) (by decide +kernel) rfl) <|
  fc (ok_iald (by decide +kernel)) <|
  fc (ok_iconst (n := 1) (by decide +kernel) (by decide +kernel)) <|
  fc (ok_iadd (by decide +kernel)) <|
  fc (ok_min mk_X2_passDay uw554 uw211 uw212 uw213 (by decide +kernel)) <|
  fc (ok_iast (by decide +kernel)) <|
  fc (ok_iinc (n := 1) (by decide +kernel) (by decide +kernel) (by decide)) <|
  fc (ok_goto (off := -30) (by decide +kernel) (by decide)) <|
  fc (ok_aldn (q := 0) (by decide +kernel) rfl) <|
  fc (ok_dup (by decide +kernel)) <|
  fc (ok_gi mk_X2_passDay (fo_RX2_37 rfl) rfl (by decide +kernel)) <|
  fc (ok_iconst (n := 1) (by decide +kernel) (by decide +kernel)) <|
  fc (ok_iadd (by decide +kernel)) <|
  fc (ok_pi mk_X2_passDay (fo_RX2_37 rfl) to_2_6 rfl (by decide +kernel)) <|
  fc (ok_vret rfl (by decide +kernel)) <| fn
def T_X2_homes : List (Nat × Op) := [(0, op_ic 0 1), (1, op_ist 1 1), (2, op_ic 0 1), (3, op_ist 2 1), (4, op_ild 2 1), (5, op_ald 0 1), (6, op_gi 2 5), (9, op_icge 34), (12, op_ald 0 1), (13, op_gf 2 3 4), (16, op_ild 2 1), (17, op_iald), (18, op_ild 2 1), (19, op_icne 28), (22, op_ild 1 1), (23, op_ic 1 1), (24, op_ild 2 1), (25, op_ishl), (26, op_ior), (27, op_ist 1 1), (28, op_iinc 2 1), (31, op_goto 4), (34, op_ild 1 1), (35, op_iret)]
set_option maxRecDepth 20000 in
theorem K_X2_homes : ∀ r ∈ T_X2_homes, OpOK M_X2_homes r.1 r.2 :=
  fc (ok_iconst (n := 0) (by decide +kernel) (by decide +kernel)) <|
  fc (ok_istn (q := 1) (by decide +kernel) rfl (by decide)) <|
  fc (ok_iconst (n := 0) (by decide +kernel) (by decide +kernel)) <|
  fc (ok_istn (q := 2) (by decide +kernel) rfl (by decide)) <|
  fc (ok_ildn (q := 2) (by decide +kernel) rfl) <|
  fc (ok_aldn (q := 0) (by decide +kernel) rfl) <|
  fc (ok_gi mk_X2_homes (fo_RX2_27 rfl) rfl (by decide +kernel)) <|
  fc (ok_icge (off := 25) (by decide +kernel) (by decide)) <|
  fc (ok_aldn (q := 0) (by decide +kernel) rfl) <|
  fc (ok_gf mk_X2_homes (fo_RX2_21 rfl) rfl (by decide +kernel)) <|
  fc (ok_ildn (q := 2) (by decide +kernel) rfl) <|
  fc (ok_iald (by decide +kernel)) <|
  fc (ok_ildn (q := 2) (by decide +kernel) rfl) <|
  fc (ok_icne (off := 9) (by decide +kernel) (by decide)) <|
  fc (ok_ildn (q := 1) (by decide +kernel) rfl) <|
  fc (ok_iconst (n := 1) (by decide +kernel) (by decide +kernel)) <|
  fc (ok_ildn (q := 2) (by decide +kernel) rfl) <|
  fc (ok_ishl (by decide +kernel)) <|
  fc (ok_ior (by decide +kernel)) <|
  fc (ok_istn (q := 1) (by decide +kernel) rfl (by decide)) <|
  fc (ok_iinc (n := 1) (by decide +kernel) (by decide +kernel) (by decide)) <|
  fc (ok_goto (off := -27) (by decide +kernel) (by decide)) <|
  fc (ok_ildn (q := 1) (by decide +kernel) rfl) <|
  fc (ok_iret rfl (by decide +kernel)) <| fn
def T_X2_readsBack : List (Nat × Op) := [(0, op_ild 2 1), (1, op_iflt 13), (4, op_ild 2 1), (5, op_ald 1 1), (6, op_alen), (7, op_ic 30 2), (9, op_isub), (10, op_icle 14), (13, op_vret), (14, op_ald 1 1), (15, op_ild 2 1), (16, op_ald 0 1), (17, op_gf 2 0 1), (20, op_ic 0 1), (21, op_ic 7 2), (23, op_cpi), (26, op_ald 1 1), (27, op_ild 2 1), (28, op_ic 7 2), (30, op_iadd), (31, op_ald 0 1), (32, op_gf 2 2 3), (35, op_ic 0 1), (36, op_ic 7 2), (38, op_cpi), (41, op_ald 1 1), (42, op_ild 2 1), (43, op_ic 14 2), (45, op_iadd), (46, op_ald 0 1), (47, op_gf 2 3 4), (50, op_ic 0 1), (51, op_ic 7 2), (53, op_cpi), (56, op_ald 1 1), (57, op_ild 2 1), (58, op_ic 21 2), (60, op_iadd), (61, op_ald 0 1), (62, op_gf 2 4 5), (65, op_ic 0 1), (66, op_ic 7 2), (68, op_cpi), (71, op_ald 0 1), (72, op_ald 1 1), (73, op_ild 2 1), (74, op_ic 28 2), (76, op_iadd), (77, op_iald), (78, op_pi 2 6), (81, op_ald 0 1), (82, op_ald 1 1), (83, op_ild 2 1), (84, op_ic 28 2), (86, op_iadd), (87, op_ic 1 1), (88, op_iadd), (89, op_iald), (90, op_pi 2 7), (93, op_vret)]
set_option maxRecDepth 20000 in
theorem K_X2_readsBack : ∀ r ∈ T_X2_readsBack, OpOK M_X2_readsBack r.1 r.2 :=
  fc (ok_ildn (q := 2) (by decide +kernel) rfl) <|
  fc (ok_iflt (off := 12) (by decide +kernel) (by decide)) <|
  fc (ok_ildn (q := 2) (by decide +kernel) rfl) <|
  fc (ok_aldn (q := 1) (by decide +kernel) rfl) <|
  fc (ok_alen (by decide +kernel)) <|
  fc (ok_bipush (n := 30) (by decide +kernel) (by decide +kernel)) <|
  fc (ok_isub (by decide +kernel)) <|
  fc (ok_icle (off := 4) (by decide +kernel) (by decide)) <|
  fc (ok_vret rfl (by decide +kernel)) <|
  fc (ok_aldn (q := 1) (by decide +kernel) rfl) <|
  fc (ok_ildn (q := 2) (by decide +kernel) rfl) <|
  fc (ok_aldn (q := 0) (by decide +kernel) rfl) <|
  fc (ok_gf mk_X2_readsBack (fo_RX2_9 rfl) rfl (by decide +kernel)) <|
  fc (ok_iconst (n := 0) (by decide +kernel) (by decide +kernel)) <|
  fc (ok_bipush (n := 7) (by decide +kernel) (by decide +kernel)) <|
  fc (ok_cpi mk_X2_readsBack uw539 uw540 uw541 uw542 (by decide +kernel)) <|
  fc (ok_aldn (q := 1) (by decide +kernel) rfl) <|
  fc (ok_ildn (q := 2) (by decide +kernel) rfl) <|
  fc (ok_bipush (n := 7) (by decide +kernel) (by decide +kernel)) <|
  fc (ok_iadd (by decide +kernel)) <|
  fc (ok_aldn (q := 0) (by decide +kernel) rfl) <|
  fc (ok_gf mk_X2_readsBack (fo_RX2_18 rfl) rfl (by decide +kernel)) <|
  fc (ok_iconst (n := 0) (by decide +kernel) (by decide +kernel)) <|
  fc (ok_bipush (n := 7) (by decide +kernel) (by decide +kernel)) <|
  fc (ok_cpi mk_X2_readsBack uw539 uw540 uw541 uw542 (by decide +kernel)) <|
  fc (ok_aldn (q := 1) (by decide +kernel) rfl) <|
  fc (ok_ildn (q := 2) (by decide +kernel) rfl) <|
  fc (ok_bipush (n := 14) (by decide +kernel) (by decide +kernel)) <|
  fc (ok_iadd (by decide +kernel)) <|
  fc (ok_aldn (q := 0) (by decide +kernel) rfl) <|
  fc (ok_gf mk_X2_readsBack (fo_RX2_21 rfl) rfl (by decide +kernel)) <|
  fc (ok_iconst (n := 0) (by decide +kernel) (by decide +kernel)) <|
  fc (ok_bipush (n := 7) (by decide +kernel) (by decide +kernel)) <|
  fc (ok_cpi mk_X2_readsBack uw539 uw540 uw541 uw542 (by decide +kernel)) <|
  fc (ok_aldn (q := 1) (by decide +kernel) rfl) <|
  fc (ok_ildn (q := 2) (by decide +kernel) rfl) <|
  fc (ok_bipush (n := 21) (by decide +kernel) (by decide +kernel)) <|
  fc (ok_iadd (by decide +kernel)) <|
  fc (ok_aldn (q := 0) (by decide +kernel) rfl) <|
  fc (ok_gf mk_X2_readsBack (fo_RX2_24 rfl) rfl (by decide +kernel)) <|
  fc (ok_iconst (n := 0) (by decide +kernel) (by decide +kernel)) <|
  fc (ok_bipush (n := 7) (by decide +kernel) (by decide +kernel)) <|
  fc (ok_cpi mk_X2_readsBack uw539 uw540 uw541 uw542 (by decide +kernel)) <|
  fc (ok_aldn (q := 0) (by decide +kernel) rfl) <|
  fc (ok_aldn (q := 1) (by decide +kernel) rfl) <|
  fc (ok_ildn (q := 2) (by decide +kernel) rfl) <|
  fc (ok_bipush (n := 28) (by decide +kernel) (by decide +kernel)) <|
  fc (ok_iadd (by decide +kernel)) <|
  fc (ok_iald (by decide +kernel)) <|
  fc (ok_pi mk_X2_readsBack (fo_RX2_37 rfl) to_2_6 rfl (by decide +kernel)) <|
  fc (ok_aldn (q := 0) (by decide +kernel) rfl) <|
  fc (ok_aldn (q := 1) (by decide +kernel) rfl) <|
  fc (ok_ildn (q := 2) (by decide +kernel) rfl) <|
  fc (ok_bipush (n := 28) (by decide +kernel) (by decide +kernel)) <|
  fc (ok_iadd (by decide +kernel)) <|
  fc (ok_iconst (n := 1) (by decide +kernel) (by decide +kernel)) <|
  fc (ok_iadd (by decide +kernel)) <|
  fc (ok_iald (by decide +kernel)) <|
  fc (ok_pi mk_X2_readsBack (fo_RX2_40 rfl) to_2_7 rfl (by decide +kernel)) <|
  fc (ok_vret rfl (by decide +kernel)) <| fn
def T_X2_takes : List (Nat × Op) := [(0, op_ald 1 1), (1, op_gf 2 0 1), (4, op_ic 0 1), (5, op_ald 0 1), (6, op_gf 2 0 1), (9, op_ic 0 1), (10, op_ic 7 2), (12, op_cpi), (15, op_ald 1 1), (16, op_gf 2 1 2), (19, op_ic 0 1), (20, op_ald 0 1), (21, op_gf 2 1 2), (24, op_ic 0 1), (25, op_ic 7 2), (27, op_cpi), (30, op_ald 1 1), (31, op_gf 2 2 3), (34, op_ic 0 1), (35, op_ald 0 1), (36, op_gf 2 2 3), (39, op_ic 0 1), (40, op_ic 7 2), (42, op_cpi), (45, op_ald 1 1), (46, op_gf 2 3 4), (49, op_ic 0 1), (50, op_ald 0 1), (51, op_gf 2 3 4), (54, op_ic 0 1), (55, op_ic 7 2), (57, op_cpi), (60, op_ald 1 1), (61, op_gf 2 4 5), (64, op_ic 0 1), (65, op_ald 0 1), (66, op_gf 2 4 5), (69, op_ic 0 1), (70, op_ic 7 2), (72, op_cpi), (75, op_ald 0 1), (76, op_ald 1 1), (77, op_gi 2 5), (80, op_pi 2 5), (83, op_ald 0 1), (84, op_ald 1 1), (85, op_gi 2 6), (88, op_pi 2 6), (91, op_ald 0 1), (92, op_ald 1 1), (93, op_gi 2 7), (96, op_pi 2 7), (99, op_vret)]
set_option maxRecDepth 20000 in
theorem K_X2_takes : ∀ r ∈ T_X2_takes, OpOK M_X2_takes r.1 r.2 :=
  fc (ok_aldn (q := 1) (by decide +kernel) rfl) <|
  fc (ok_gf mk_X2_takes (fo_RX2_9 rfl) rfl (by decide +kernel)) <|
  fc (ok_iconst (n := 0) (by decide +kernel) (by decide +kernel)) <|
  fc (ok_aldn (q := 0) (by decide +kernel) rfl) <|
  fc (ok_gf mk_X2_takes (fo_RX2_9 rfl) rfl (by decide +kernel)) <|
  fc (ok_iconst (n := 0) (by decide +kernel) (by decide +kernel)) <|
  fc (ok_bipush (n := 7) (by decide +kernel) (by decide +kernel)) <|
  fc (ok_cpi mk_X2_takes uw539 uw540 uw541 uw542 (by decide +kernel)) <|
  fc (ok_aldn (q := 1) (by decide +kernel) rfl) <|
  fc (ok_gf mk_X2_takes (fo_RX2_15 rfl) rfl (by decide +kernel)) <|
  fc (ok_iconst (n := 0) (by decide +kernel) (by decide +kernel)) <|
  fc (ok_aldn (q := 0) (by decide +kernel) rfl) <|
  fc (ok_gf mk_X2_takes (fo_RX2_15 rfl) rfl (by decide +kernel)) <|
  fc (ok_iconst (n := 0) (by decide +kernel) (by decide +kernel)) <|
  fc (ok_bipush (n := 7) (by decide +kernel) (by decide +kernel)) <|
  fc (ok_cpi mk_X2_takes uw539 uw540 uw541 uw542 (by decide +kernel)) <|
  fc (ok_aldn (q := 1) (by decide +kernel) rfl) <|
  fc (ok_gf mk_X2_takes (fo_RX2_18 rfl) rfl (by decide +kernel)) <|
  fc (ok_iconst (n := 0) (by decide +kernel) (by decide +kernel)) <|
  fc (ok_aldn (q := 0) (by decide +kernel) rfl) <|
  fc (ok_gf mk_X2_takes (fo_RX2_18 rfl) rfl (by decide +kernel)) <|
  fc (ok_iconst (n := 0) (by decide +kernel) (by decide +kernel)) <|
  fc (ok_bipush (n := 7) (by decide +kernel) (by decide +kernel)) <|
  fc (ok_cpi mk_X2_takes uw539 uw540 uw541 uw542 (by decide +kernel)) <|
  fc (ok_aldn (q := 1) (by decide +kernel) rfl) <|
  fc (ok_gf mk_X2_takes (fo_RX2_21 rfl) rfl (by decide +kernel)) <|
  fc (ok_iconst (n := 0) (by decide +kernel) (by decide +kernel)) <|
  fc (ok_aldn (q := 0) (by decide +kernel) rfl) <|
  fc (ok_gf mk_X2_takes (fo_RX2_21 rfl) rfl (by decide +kernel)) <|
  fc (ok_iconst (n := 0) (by decide +kernel) (by decide +kernel)) <|
  fc (ok_bipush (n := 7) (by decide +kernel) (by decide +kernel)) <|
  fc (ok_cpi mk_X2_takes uw539 uw540 uw541 uw542 (by decide +kernel)) <|
  fc (ok_aldn (q := 1) (by decide +kernel) rfl) <|
  fc (ok_gf mk_X2_takes (fo_RX2_24 rfl) rfl (by decide +kernel)) <|
  fc (ok_iconst (n := 0) (by decide +kernel) (by decide +kernel)) <|
  fc (ok_aldn (q := 0) (by decide +kernel) rfl) <|
  fc (ok_gf mk_X2_takes (fo_RX2_24 rfl) rfl (by decide +kernel)) <|
  fc (ok_iconst (n := 0) (by decide +kernel) (by decide +kernel)) <|
  fc (ok_bipush (n := 7) (by decide +kernel) (by decide +kernel)) <|
  fc (ok_cpi mk_X2_takes uw539 uw540 uw541 uw542 (by decide +kernel)) <|
  fc (ok_aldn (q := 0) (by decide +kernel) rfl) <|
  fc (ok_aldn (q := 1) (by decide +kernel) rfl) <|
  fc (ok_gi mk_X2_takes (fo_RX2_27 rfl) rfl (by decide +kernel)) <|
  fc (ok_pi mk_X2_takes (fo_RX2_27 rfl) to_2_5 rfl (by decide +kernel)) <|
  fc (ok_aldn (q := 0) (by decide +kernel) rfl) <|
  fc (ok_aldn (q := 1) (by decide +kernel) rfl) <|
  fc (ok_gi mk_X2_takes (fo_RX2_37 rfl) rfl (by decide +kernel)) <|
  fc (ok_pi mk_X2_takes (fo_RX2_37 rfl) to_2_6 rfl (by decide +kernel)) <|
  fc (ok_aldn (q := 0) (by decide +kernel) rfl) <|
  fc (ok_aldn (q := 1) (by decide +kernel) rfl) <|
  fc (ok_gi mk_X2_takes (fo_RX2_40 rfl) rfl (by decide +kernel)) <|
  fc (ok_pi mk_X2_takes (fo_RX2_40 rfl) to_2_7 rfl (by decide +kernel)) <|
  fc (ok_vret rfl (by decide +kernel)) <| fn
def T_X2_ring : List (Nat × Op) := [(0, op_ic 0 1), (1, op_ist 2 1), (2, op_ild 1 1), (3, op_ist 3 1), (4, op_ic 0 1), (5, op_ist 4 2), (7, op_ild 4 2), (9, op_ald 0 1), (10, op_gi 2 5), (13, op_icge 42), (16, op_ild 2 1), (17, op_ic 1 1), (18, op_ild 3 1), (19, op_ishl), (20, op_ior), (21, op_ist 2 1), (22, op_ald 0 1), (23, op_gf 2 3 4), (26, op_ild 3 1), (27, op_iald), (28, op_ist 3 1), (29, op_ild 3 1), (30, op_ild 1 1), (31, op_icne 36), (34, op_ild 2 1), (35, op_iret), (36, op_iinc 4 1), (39, op_goto 7), (42, op_ic 0 1), (43, op_iret)]
set_option maxRecDepth 20000 in
theorem K_X2_ring : ∀ r ∈ T_X2_ring, OpOK M_X2_ring r.1 r.2 :=
  fc (ok_iconst (n := 0) (by decide +kernel) (by decide +kernel)) <|
  fc (ok_istn (q := 2) (by decide +kernel) rfl (by decide)) <|
  fc (ok_ildn (q := 1) (by decide +kernel) rfl) <|
  fc (ok_istn (q := 3) (by decide +kernel) rfl (by decide)) <|
  fc (ok_iconst (n := 0) (by decide +kernel) (by decide +kernel)) <|
  fc (ok_ist (by decide +kernel) (by decide)) <|
  fc (ok_ild (by decide +kernel)) <|
  fc (ok_aldn (q := 0) (by decide +kernel) rfl) <|
  fc (ok_gi mk_X2_ring (fo_RX2_27 rfl) rfl (by decide +kernel)) <|
  fc (ok_icge (off := 29) (by decide +kernel) (by decide)) <|
  fc (ok_ildn (q := 2) (by decide +kernel) rfl) <|
  fc (ok_iconst (n := 1) (by decide +kernel) (by decide +kernel)) <|
  fc (ok_ildn (q := 3) (by decide +kernel) rfl) <|
  fc (ok_ishl (by decide +kernel)) <|
  fc (ok_ior (by decide +kernel)) <|
  fc (ok_istn (q := 2) (by decide +kernel) rfl (by decide)) <|
  fc (ok_aldn (q := 0) (by decide +kernel) rfl) <|
  fc (ok_gf mk_X2_ring (fo_RX2_21 rfl) rfl (by decide +kernel)) <|
  fc (ok_ildn (q := 3) (by decide +kernel) rfl) <|
  fc (ok_iald (by decide +kernel)) <|
  fc (ok_istn (q := 3) (by decide +kernel) rfl (by decide)) <|
  fc (ok_ildn (q := 3) (by decide +kernel) rfl) <|
  fc (ok_ildn (q := 1) (by decide +kernel) rfl) <|
  fc (ok_icne (off := 5) (by decide +kernel) (by decide)) <|
  fc (ok_ildn (q := 2) (by decide +kernel) rfl) <|
  fc (ok_iret rfl (by decide +kernel)) <|
  fc (ok_iinc (n := 1) (by decide +kernel) (by decide +kernel) (by decide)) <|
  fc (ok_goto (off := -32) (by decide +kernel) (by decide)) <|
  fc (ok_iconst (n := 0) (by decide +kernel) (by decide +kernel)) <|
  fc (ok_iret rfl (by decide +kernel)) <| fn
def T_X2_pairs : List (Nat × Op) := [(0, op_ic 0 1), (1, op_ist 2 1), (2, op_ic 0 1), (3, op_ist 3 1), (4, op_ild 3 1), (5, op_ald 0 1), (6, op_gi 2 5), (9, op_icge 30), (12, op_ild 2 1), (13, op_ald 0 1), (14, op_ald 1 1), (15, op_ild 3 1), (16, op_cv M_X2_sayable 2 2), (19, op_cs M_J6_bitCount_0f7a4 1), (22, op_iadd), (23, op_ist 2 1), (24, op_iinc 3 1), (27, op_goto 4), (30, op_ild 2 1), (31, op_iret)]
set_option maxRecDepth 20000 in
theorem K_X2_pairs : ∀ r ∈ T_X2_pairs, OpOK M_X2_pairs r.1 r.2 :=
  fc (ok_iconst (n := 0) (by decide +kernel) (by decide +kernel)) <|
  fc (ok_istn (q := 2) (by decide +kernel) rfl (by decide)) <|
  fc (ok_iconst (n := 0) (by decide +kernel) (by decide +kernel)) <|
  fc (ok_istn (q := 3) (by decide +kernel) rfl (by decide)) <|
  fc (ok_ildn (q := 3) (by decide +kernel) rfl) <|
  fc (ok_aldn (q := 0) (by decide +kernel) rfl) <|
  fc (ok_gi mk_X2_pairs (fo_RX2_27 rfl) rfl (by decide +kernel)) <|
  fc (ok_icge (off := 21) (by decide +kernel) (by decide)) <|
  fc (ok_ildn (q := 2) (by decide +kernel) rfl) <|
  fc (ok_aldn (q := 0) (by decide +kernel) rfl) <|
  fc (ok_aldn (q := 1) (by decide +kernel) rfl) <|
  fc (ok_ildn (q := 3) (by decide +kernel) rfl) <|
  fc (ok_cv mk_X2_pairs mk_X2_sayable ⟨uw1239, uw405, uw406, uw23, by decide +kernel⟩ (T := TX2) (N := 8) rfl (by decide +kernel)) <|
  fc (ok_cs mk_X2_pairs mk_J6_bitCount_0f7a4 ⟨uw1240, uw429, uw430, by decide +kernel⟩ (by decide +kernel)) <|
  fc (ok_iadd (by decide +kernel)) <|
  fc (ok_istn (q := 2) (by decide +kernel) rfl (by decide)) <|
  fc (ok_iinc (n := 1) (by decide +kernel) (by decide +kernel) (by decide)) <|
  fc (ok_goto (off := -23) (by decide +kernel) (by decide)) <|
  fc (ok_ildn (q := 2) (by decide +kernel) rfl) <|
  fc (ok_iret rfl (by decide +kernel)) <| fn
def T_X3_forgetsAll : List (Nat × Op) := [(0, op_ald 0 1), (1, op_ic 0 1), (2, op_pi 3 3), (5, op_ald 0 1), (6, op_ic 0 1), (7, op_pi 3 2), (10, op_vret)]
set_option maxRecDepth 20000 in
theorem K_X3_forgetsAll : ∀ r ∈ T_X3_forgetsAll, OpOK M_X3_forgetsAll r.1 r.2 :=
  fc (ok_aldn (q := 0) (by decide +kernel) rfl) <|
  fc (ok_iconst (n := 0) (by decide +kernel) (by decide +kernel)) <|
  fc (ok_pi mk_X3_forgetsAll (fo_RX3_23 rfl) to_3_3 rfl (by decide +kernel)) <|
  fc (ok_aldn (q := 0) (by decide +kernel) rfl) <|
  fc (ok_iconst (n := 0) (by decide +kernel) (by decide +kernel)) <|
  fc (ok_pi mk_X3_forgetsAll (fo_RX3_35 rfl) to_3_2 rfl (by decide +kernel)) <|
  fc (ok_vret rfl (by decide +kernel)) <| fn
def T_X3_marks : List (Nat × Op) := [(0, op_ald 1 1), (1, op_ald 0 1), (2, op_gf 3 0 1), (5, op_ald 0 1), (6, op_gi 3 1), (9, op_ic 30 2), (11, op_imul), (12, op_cv M_X2_writes 2 2), (15, op_vret)]
set_option maxRecDepth 20000 in
theorem K_X3_marks : ∀ r ∈ T_X3_marks, OpOK M_X3_marks r.1 r.2 :=
  fc (ok_aldn (q := 1) (by decide +kernel) rfl) <|
  fc (ok_aldn (q := 0) (by decide +kernel) rfl) <|
  fc (ok_gf mk_X3_marks (fo_RX3_11 rfl) rfl (by decide +kernel)) <|
  fc (ok_aldn (q := 0) (by decide +kernel) rfl) <|
  fc (ok_gi mk_X3_marks (fo_RX3_15 rfl) rfl (by decide +kernel)) <|
  fc (ok_bipush (n := 30) (by decide +kernel) (by decide +kernel)) <|
  fc (ok_imul (by decide +kernel)) <|
  fc (ok_cv mk_X3_marks mk_X2_writes ⟨uw535, uw536, uw537, uw23, by decide +kernel⟩ (T := TX2) (N := 8) rfl (by decide +kernel)) <|
  fc (ok_vret rfl (by decide +kernel)) <| fn
def T_X3_keepMarked : List (Nat × Op) := [(0, op_ald 0 1), (1, op_ald 0 1), (2, op_gi 3 1), (5, op_ic 1 1), (6, op_iadd), (7, op_ic 13 2), (9, op_irem), (10, op_pi 3 1), (13, op_ald 0 1), (14, op_ic 12 2), (16, op_ald 0 1), (17, op_gi 3 3), (20, op_ic 1 1), (21, op_iadd), (22, op_min), (25, op_pi 3 3), (28, op_vret)]
set_option maxRecDepth 20000 in
theorem K_X3_keepMarked : ∀ r ∈ T_X3_keepMarked, OpOK M_X3_keepMarked r.1 r.2 :=
  fc (ok_aldn (q := 0) (by decide +kernel) rfl) <|
  fc (ok_aldn (q := 0) (by decide +kernel) rfl) <|
  fc (ok_gi mk_X3_keepMarked (fo_RX3_15 rfl) rfl (by decide +kernel)) <|
  fc (ok_iconst (n := 1) (by decide +kernel) (by decide +kernel)) <|
  fc (ok_iadd (by decide +kernel)) <|
  fc (ok_bipush (n := 13) (by decide +kernel) (by decide +kernel)) <|
  fc (ok_irem (by decide +kernel)) <|
  fc (ok_pi mk_X3_keepMarked (fo_RX3_15 rfl) to_3_1 rfl (by decide +kernel)) <|
  fc (ok_aldn (q := 0) (by decide +kernel) rfl) <|
  fc (ok_bipush (n := 12) (by decide +kernel) (by decide +kernel)) <|
  fc (ok_aldn (q := 0) (by decide +kernel) rfl) <|
  fc (ok_gi mk_X3_keepMarked (fo_RX3_23 rfl) rfl (by decide +kernel)) <|
  fc (ok_iconst (n := 1) (by decide +kernel) (by decide +kernel)) <|
  fc (ok_iadd (by decide +kernel)) <|
  fc (ok_min mk_X3_keepMarked uw563 uw211 uw212 uw213 (by decide +kernel)) <|
  fc (ok_pi mk_X3_keepMarked (fo_RX3_23 rfl) to_3_3 rfl (by decide +kernel)) <|
  fc (ok_vret rfl (by decide +kernel)) <| fn
def T_X3_bringsBack : List (Nat × Op) := [(0, op_ald 0 1), (1, op_gi 3 3), (4, op_ifgt 9), (7, op_ic 0 1), (8, op_zret), (9, op_ald 0 1), (10, op_dup), (11, op_gi 3 3), (14, op_ic 1 1), (15, op_isub), (16, op_pi 3 3), (19, op_ald 0 1), (20, op_ald 0 1), (21, op_gi 3 1), (24, op_ic 13 2), (26, op_iadd), (27, op_ic 1 1), (28, op_isub), (29, op_ic 13 2), (31, op_irem), (32, op_pi 3 1), (35, op_ald 1 1), (36, op_ald 0 1), (37, op_gf 3 0 1), (40, op_ald 0 1), (41, op_gi 3 1), (44, op_ic 30 2), (46, op_imul), (47, op_cv M_X2_readsBack 2 2), (50, op_ic 1 1), (51, op_zret)]
set_option maxRecDepth 20000 in
theorem K_X3_bringsBack : ∀ r ∈ T_X3_bringsBack, OpOK M_X3_bringsBack r.1 r.2 :=
  fc (ok_aldn (q := 0) (by decide +kernel) rfl) <|
  fc (ok_gi mk_X3_bringsBack (fo_RX3_23 rfl) rfl (by decide +kernel)) <|
  fc (ok_ifgt (off := 5) (by decide +kernel) (by decide)) <|
  fc (ok_iconst (n := 0) (by decide +kernel) (by decide +kernel)) <|
  fc (ok_zret rfl (by decide +kernel)) <|
  fc (ok_aldn (q := 0) (by decide +kernel) rfl) <|
  fc (ok_dup (by decide +kernel)) <|
  fc (ok_gi mk_X3_bringsBack (fo_RX3_23 rfl) rfl (by decide +kernel)) <|
  fc (ok_iconst (n := 1) (by decide +kernel) (by decide +kernel)) <|
  fc (ok_isub (by decide +kernel)) <|
  fc (ok_pi mk_X3_bringsBack (fo_RX3_23 rfl) to_3_3 rfl (by decide +kernel)) <|
  fc (ok_aldn (q := 0) (by decide +kernel) rfl) <|
  fc (ok_aldn (q := 0) (by decide +kernel) rfl) <|
  fc (ok_gi mk_X3_bringsBack (fo_RX3_15 rfl) rfl (by decide +kernel)) <|
  fc (ok_bipush (n := 13) (by decide +kernel) (by decide +kernel)) <|
  fc (ok_iadd (by decide +kernel)) <|
  fc (ok_iconst (n := 1) (by decide +kernel) (by decide +kernel)) <|
  fc (ok_isub (by decide +kernel)) <|
  fc (ok_bipush (n := 13) (by decide +kernel) (by decide +kernel)) <|
  fc (ok_irem (by decide +kernel)) <|
  fc (ok_pi mk_X3_bringsBack (fo_RX3_15 rfl) to_3_1 rfl (by decide +kernel)) <|
  fc (ok_aldn (q := 1) (by decide +kernel) rfl) <|
  fc (ok_aldn (q := 0) (by decide +kernel) rfl) <|
  fc (ok_gf mk_X3_bringsBack (fo_RX3_11 rfl) rfl (by decide +kernel)) <|
  fc (ok_aldn (q := 0) (by decide +kernel) rfl) <|
  fc (ok_gi mk_X3_bringsBack (fo_RX3_15 rfl) rfl (by decide +kernel)) <|
  fc (ok_bipush (n := 30) (by decide +kernel) (by decide +kernel)) <|
  fc (ok_imul (by decide +kernel)) <|
  fc (ok_cv mk_X3_bringsBack mk_X2_readsBack ⟨uw721, uw722, uw723, uw23, by decide +kernel⟩ (T := TX2) (N := 8) rfl (by decide +kernel)) <|
  fc (ok_iconst (n := 1) (by decide +kernel) (by decide +kernel)) <|
  fc (ok_zret rfl (by decide +kernel)) <| fn
def T_X3_shelves : List (Nat × Op) := [(0, op_ild 1 1), (1, op_iflt 9), (4, op_ild 1 1), (5, op_ic 2 1), (6, op_iclt 11), (9, op_ic 0 1), (10, op_zret), (11, op_ald 2 1), (12, op_ald 0 1), (13, op_gf 3 0 1), (16, op_ic 13 2), (18, op_ild 1 1), (19, op_iadd), (20, op_ic 30 2), (22, op_imul), (23, op_cv M_X2_writes 2 2), (26, op_ald 0 1), (27, op_dup), (28, op_gi 3 2), (31, op_ic 1 1), (32, op_ild 1 1), (33, op_ishl), (34, op_ior), (35, op_pi 3 2), (38, op_ic 1 1), (39, op_zret)]
set_option maxRecDepth 20000 in
theorem K_X3_shelves : ∀ r ∈ T_X3_shelves, OpOK M_X3_shelves r.1 r.2 :=
  fc (ok_ildn (q := 1) (by decide +kernel) rfl) <|
  fc (ok_iflt (off := 8) (by decide +kernel) (by decide)) <|
  fc (ok_ildn (q := 1) (by decide +kernel) rfl) <|
  fc (ok_iconst (n := 2) (by decide +kernel) (by decide +kernel)) <|
  fc (ok_iclt (off := 5) (by decide +kernel) (by decide)) <|
  fc (ok_iconst (n := 0) (by decide +kernel) (by decide +kernel)) <|
  fc (ok_zret rfl (by decide +kernel)) <|
  fc (ok_aldn (q := 2) (by decide +kernel) rfl) <|
  fc (ok_aldn (q := 0) (by decide +kernel) rfl) <|
  fc (ok_gf mk_X3_shelves (fo_RX3_11 rfl) rfl (by decide +kernel)) <|
  fc (ok_bipush (n := 13) (by decide +kernel) (by decide +kernel)) <|
  fc (ok_ildn (q := 1) (by decide +kernel) rfl) <|
  fc (ok_iadd (by decide +kernel)) <|
  fc (ok_bipush (n := 30) (by decide +kernel) (by decide +kernel)) <|
  fc (ok_imul (by decide +kernel)) <|
  fc (ok_cv mk_X3_shelves mk_X2_writes ⟨uw535, uw536, uw537, uw23, by decide +kernel⟩ (T := TX2) (N := 8) rfl (by decide +kernel)) <|
  fc (ok_aldn (q := 0) (by decide +kernel) rfl) <|
  fc (ok_dup (by decide +kernel)) <|
  fc (ok_gi mk_X3_shelves (fo_RX3_35 rfl) rfl (by decide +kernel)) <|
  fc (ok_iconst (n := 1) (by decide +kernel) (by decide +kernel)) <|
  fc (ok_ildn (q := 1) (by decide +kernel) rfl) <|
  fc (ok_ishl (by decide +kernel)) <|
  fc (ok_ior (by decide +kernel)) <|
  fc (ok_pi mk_X3_shelves (fo_RX3_35 rfl) to_3_2 rfl (by decide +kernel)) <|
  fc (ok_iconst (n := 1) (by decide +kernel) (by decide +kernel)) <|
  fc (ok_zret rfl (by decide +kernel)) <| fn
def T_X3_unshelves : List (Nat × Op) := [(0, op_ild 1 1), (1, op_iflt 20), (4, op_ild 1 1), (5, op_ic 2 1), (6, op_icge 20), (9, op_ald 0 1), (10, op_gi 3 2), (13, op_ild 1 1), (14, op_ishr), (15, op_ic 1 1), (16, op_iand), (17, op_ifne 22), (20, op_ic 0 1), (21, op_zret), (22, op_ald 2 1), (23, op_ald 0 1), (24, op_gf 3 0 1), (27, op_ic 13 2), (29, op_ild 1 1), (30, op_iadd), (31, op_ic 30 2), (33, op_imul), (34, op_cv M_X2_readsBack 2 2), (37, op_ald 0 1), (38, op_ic 0 1), (39, op_pi 3 3), (42, op_ic 1 1), (43, op_zret)]
set_option maxRecDepth 20000 in
theorem K_X3_unshelves : ∀ r ∈ T_X3_unshelves, OpOK M_X3_unshelves r.1 r.2 :=
  fc (ok_ildn (q := 1) (by decide +kernel) rfl) <|
  fc (ok_iflt (off := 19) (by decide +kernel) (by decide)) <|
  fc (ok_ildn (q := 1) (by decide +kernel) rfl) <|
  fc (ok_iconst (n := 2) (by decide +kernel) (by decide +kernel)) <|
  fc (ok_icge (off := 14) (by decide +kernel) (by decide)) <|
  fc (ok_aldn (q := 0) (by decide +kernel) rfl) <|
  fc (ok_gi mk_X3_unshelves (fo_RX3_35 rfl) rfl (by decide +kernel)) <|
  fc (ok_ildn (q := 1) (by decide +kernel) rfl) <|
  fc (ok_ishr (by decide +kernel)) <|
  fc (ok_iconst (n := 1) (by decide +kernel) (by decide +kernel)) <|
  fc (ok_iand (by decide +kernel)) <|
  fc (ok_ifne (off := 5) (by decide +kernel) (by decide)) <|
  fc (ok_iconst (n := 0) (by decide +kernel) (by decide +kernel)) <|
  fc (ok_zret rfl (by decide +kernel)) <|
  fc (ok_aldn (q := 2) (by decide +kernel) rfl) <|
  fc (ok_aldn (q := 0) (by decide +kernel) rfl) <|
  fc (ok_gf mk_X3_unshelves (fo_RX3_11 rfl) rfl (by decide +kernel)) <|
  fc (ok_bipush (n := 13) (by decide +kernel) (by decide +kernel)) <|
  fc (ok_ildn (q := 1) (by decide +kernel) rfl) <|
  fc (ok_iadd (by decide +kernel)) <|
  fc (ok_bipush (n := 30) (by decide +kernel) (by decide +kernel)) <|
  fc (ok_imul (by decide +kernel)) <|
  fc (ok_cv mk_X3_unshelves mk_X2_readsBack ⟨uw721, uw722, uw723, uw23, by decide +kernel⟩ (T := TX2) (N := 8) rfl (by decide +kernel)) <|
  fc (ok_aldn (q := 0) (by decide +kernel) rfl) <|
  fc (ok_iconst (n := 0) (by decide +kernel) (by decide +kernel)) <|
  fc (ok_pi mk_X3_unshelves (fo_RX3_23 rfl) to_3_3 rfl (by decide +kernel)) <|
  fc (ok_iconst (n := 1) (by decide +kernel) (by decide +kernel)) <|
  fc (ok_zret rfl (by decide +kernel)) <| fn
def T_X6_reads : List (Nat × Op) := [(0, op_ald 1 1), (1, op_gi 8 1), (4, op_ifne 13), (7, op_ald 2 1), (8, op_cv M_X5_becomesNone 5 0), (11, op_ic (-1) 1), (12, op_iret), (13, op_ald 0 1), (14, op_ald 1 1), (15, op_pr 6 0), (18, op_ald 0 1), (19, op_ald 2 1), (20, op_pr 6 1), (23, op_ald 0 1), (24, op_ic 0 1), (25, op_pi 6 2), (28, op_ald 2 1), (29, op_ic 0 1), (30, op_pi 5 2), (33, op_ald 0 1), (34, op_ic 0 1), (35, op_cv M_X6_readsComparison 6 1), (38, op_ist 3 1), (39, op_ild 3 1), (40, op_ifeq 58), (43, op_ald 0 1), (44, op_gi 6 2), (47, op_ald 1 1), (48, op_gi 8 1), (51, op_icne 58), (54, op_ic (-1) 1), (55, op_goto 62), (58, op_ald 0 1), (59, op_gi 6 2), (62, op_iret)]
set_option maxRecDepth 20000 in
theorem K_X6_reads : ∀ r ∈ T_X6_reads, OpOK M_X6_reads r.1 r.2 :=
  fc (ok_aldn (q := 1) (by decide +kernel) rfl) <|
  fc (ok_gi mk_X6_reads (fo_RX6_9 rfl) rfl (by decide +kernel)) <|
  fc (ok_ifne (off := 9) (by decide +kernel) (by decide)) <|
  fc (ok_aldn (q := 2) (by decide +kernel) rfl) <|
  fc (ok_cv mk_X6_reads mk_X5_becomesNone ⟨uw310, uw127, uw128, uw56, by decide +kernel⟩ (T := TX5) (N := 3) rfl (by decide +kernel)) <|
  fc (ok_iconst (n := -1) (by decide +kernel) (by decide +kernel)) <|
  fc (ok_iret rfl (by decide +kernel)) <|
  fc (ok_aldn (q := 0) (by decide +kernel) rfl) <|
  fc (ok_aldn (q := 1) (by decide +kernel) rfl) <|
  fc (ok_pr mk_X6_reads (fo_RX6_20 rfl) to_6_0 (fun _ => rfl) (fun _ => rfl) rfl (by decide +kernel)) <|
  fc (ok_aldn (q := 0) (by decide +kernel) rfl) <|
  fc (ok_aldn (q := 2) (by decide +kernel) rfl) <|
  fc (ok_pr mk_X6_reads (fo_RX6_26 rfl) to_6_1 (fun _ => rfl) (fun _ => rfl) rfl (by decide +kernel)) <|
  fc (ok_aldn (q := 0) (by decide +kernel) rfl) <|
  fc (ok_iconst (n := 0) (by decide +kernel) (by decide +kernel)) <|
  fc (ok_pi mk_X6_reads (fo_RX6_30 rfl) to_6_2 rfl (by decide +kernel)) <|
  fc (ok_aldn (q := 2) (by decide +kernel) rfl) <|
  fc (ok_iconst (n := 0) (by decide +kernel) (by decide +kernel)) <|
  fc (ok_pi mk_X6_reads (fo_RX6_33 rfl) to_5_2 rfl (by decide +kernel)) <|
  fc (ok_aldn (q := 0) (by decide +kernel) rfl) <|
  fc (ok_iconst (n := 0) (by decide +kernel) (by decide +kernel)) <|
  fc (ok_cv mk_X6_reads mk_X6_readsComparison ⟨uw311, uw312, uw313, uw28, by decide +kernel⟩ (T := TX6) (N := 3) rfl (by decide +kernel)) <|
  fc (ok_istn (q := 3) (by decide +kernel) rfl (by decide)) <|
  fc (ok_ildn (q := 3) (by decide +kernel) rfl) <|
  fc (ok_ifeq (off := 18) (by decide +kernel) (by decide)) <|
  fc (ok_aldn (q := 0) (by decide +kernel) rfl) <|
  fc (ok_gi mk_X6_reads (fo_RX6_30 rfl) rfl (by decide +kernel)) <|
  fc (ok_aldn (q := 1) (by decide +kernel) rfl) <|
  fc (ok_gi mk_X6_reads (fo_RX6_9 rfl) rfl (by decide +kernel)) <|
  fc (ok_icne (off := 7) (by decide +kernel) (by decide)) <|
  fc (ok_iconst (n := -1) (by decide +kernel) (by decide +kernel)) <|
  fc (ok_goto (off := 7) (by decide +kernel) (by decide)) <|
  fc (ok_aldn (q := 0) (by decide +kernel) rfl) <|
  fc (ok_gi mk_X6_reads (fo_RX6_30 rfl) rfl (by decide +kernel)) <|
  fc (ok_iret rfl (by decide +kernel)) <| fn
def T_X6_readsComparison : List (Nat × Op) := [(0, op_ald 0 1), (1, op_ild 1 1), (2, op_cv M_X6_readsSum 6 1), (5, op_ifne 10), (8, op_ic 0 1), (9, op_zret), (10, op_ald 0 1), (11, op_cv M_X6_next 6 0), (14, op_ist 2 1), (15, op_ild 2 1), (16, op_ic 60 2), (18, op_iceq 35), (21, op_ild 2 1), (22, op_ic 62 2), (24, op_iceq 35), (27, op_ild 2 1), (28, op_ic 61 2), (30, op_iceq 35), (33, op_ic 1 1), (34, op_zret), (35, op_ald 0 1), (36, op_dup), (37, op_gi 6 2), (40, op_ic 1 1), (41, op_iadd), (42, op_pi 6 2), (45, op_ald 0 1), (46, op_ild 1 1), (47, op_cv M_X6_readsSum 6 1), (50, op_ifne 55), (53, op_ic 0 1), (54, op_zret), (55, op_ald 0 1), (56, op_gr 6 1), (59, op_ic 1000 3), (62, op_ild 2 1), (63, op_iadd), (64, op_cv M_X5_puts 5 1), (67, op_ic 1 1), (68, op_zret)]
set_option maxRecDepth 20000 in
theorem K_X6_readsComparison : ∀ r ∈ T_X6_readsComparison, OpOK M_X6_readsComparison r.1 r.2 :=
  fc (ok_aldn (q := 0) (by decide +kernel) rfl) <|
  fc (ok_ildn (q := 1) (by decide +kernel) rfl) <|
  fc (ok_cv mk_X6_readsComparison mk_X6_readsSum ⟨uw315, uw316, uw317, uw28, by decide +kernel⟩ (T := TX6) (N := 3) rfl (by decide +kernel)) <|
  fc (ok_ifne (off := 5) (by decide +kernel) (by decide)) <|
  fc (ok_iconst (n := 0) (by decide +kernel) (by decide +kernel)) <|
  fc (ok_zret rfl (by decide +kernel)) <|
  fc (ok_aldn (q := 0) (by decide +kernel) rfl) <|
  fc (ok_cv mk_X6_readsComparison mk_X6_next ⟨uw318, uw319, uw320, uw28, by decide +kernel⟩ (T := TX6) (N := 3) rfl (by decide +kernel)) <|
  fc (ok_istn (q := 2) (by decide +kernel) rfl (by decide)) <|
  fc (ok_ildn (q := 2) (by decide +kernel) rfl) <|
  fc (ok_bipush (n := 60) (by decide +kernel) (by decide +kernel)) <|
  fc (ok_iceq (off := 17) (by decide +kernel) (by decide)) <|
  fc (ok_ildn (q := 2) (by decide +kernel) rfl) <|
  fc (ok_bipush (n := 62) (by decide +kernel) (by decide +kernel)) <|
  fc (ok_iceq (off := 11) (by decide +kernel) (by decide)) <|
  fc (ok_ildn (q := 2) (by decide +kernel) rfl) <|
  fc (ok_bipush (n := 61) (by decide +kernel) (by decide +kernel)) <|
  fc (ok_iceq (off := 5) (by decide +kernel) (by decide)) <|
  fc (ok_iconst (n := 1) (by decide +kernel) (by decide +kernel)) <|
  fc (ok_zret rfl (by decide +kernel)) <|
  fc (ok_aldn (q := 0) (by decide +kernel) rfl) <|
  fc (ok_dup (by decide +kernel)) <|
  fc (ok_gi mk_X6_readsComparison (fo_RX6_30 rfl) rfl (by decide +kernel)) <|
  fc (ok_iconst (n := 1) (by decide +kernel) (by decide +kernel)) <|
  fc (ok_iadd (by decide +kernel)) <|
  fc (ok_pi mk_X6_readsComparison (fo_RX6_30 rfl) to_6_2 rfl (by decide +kernel)) <|
  fc (ok_aldn (q := 0) (by decide +kernel) rfl) <|
  fc (ok_ildn (q := 1) (by decide +kernel) rfl) <|
  fc (ok_cv mk_X6_readsComparison mk_X6_readsSum ⟨uw315, uw316, uw317, uw28, by decide +kernel⟩ (T := TX6) (N := 3) rfl (by decide +kernel)) <|
  fc (ok_ifne (off := 5) (by decide +kernel) (by decide)) <|
  fc (ok_iconst (n := 0) (by decide +kernel) (by decide +kernel)) <|
  fc (ok_zret rfl (by decide +kernel)) <|
  fc (ok_aldn (q := 0) (by decide +kernel) rfl) <|
  fc (ok_gr mk_X6_readsComparison (fo_RX6_26 rfl) rfl (by decide +kernel)) <|
  fc (ok_sipush (n := 1000) (by decide +kernel) (by decide +kernel)) <|
  fc (ok_ildn (q := 2) (by decide +kernel) rfl) <|
  fc (ok_iadd (by decide +kernel)) <|
  fc (ok_cv mk_X6_readsComparison mk_X5_puts ⟨uw323, uw132, uw133, uw56, by decide +kernel⟩ (T := TX5) (N := 3) rfl (by decide +kernel)) <|
  fc (ok_iconst (n := 1) (by decide +kernel) (by decide +kernel)) <|
  fc (ok_zret rfl (by decide +kernel)) <| fn
def T_X6_next : List (Nat × Op) := [(0, op_ald 0 1), (1, op_gi 6 2), (4, op_ic 40 2), (6, op_icge 23), (9, op_ald 0 1), (10, op_gr 6 0), (13, op_ald 0 1), (14, op_gi 6 2), (17, op_cv M_X8_at 8 1), (20, op_goto 24), (23, op_ic (-1) 1), (24, op_iret)]
set_option maxRecDepth 20000 in
theorem K_X6_next : ∀ r ∈ T_X6_next, OpOK M_X6_next r.1 r.2 :=
  fc (ok_aldn (q := 0) (by decide +kernel) rfl) <|
  fc (ok_gi mk_X6_next (fo_RX6_30 rfl) rfl (by decide +kernel)) <|
  fc (ok_bipush (n := 40) (by decide +kernel) (by decide +kernel)) <|
  fc (ok_icge (off := 17) (by decide +kernel) (by decide)) <|
  fc (ok_aldn (q := 0) (by decide +kernel) rfl) <|
  fc (ok_gr mk_X6_next (fo_RX6_20 rfl) rfl (by decide +kernel)) <|
  fc (ok_aldn (q := 0) (by decide +kernel) rfl) <|
  fc (ok_gi mk_X6_next (fo_RX6_30 rfl) rfl (by decide +kernel)) <|
  fc (ok_cv mk_X6_next mk_X8_at ⟨uw322, uw220, uw221, uw15, by decide +kernel⟩ (T := TX8) (N := 2) rfl (by decide +kernel)) <|
  fc (ok_goto (off := 4) (by decide +kernel) (by decide)) <|
  fc (ok_iconst (n := -1) (by decide +kernel) (by decide +kernel)) <|
  fc (ok_iret rfl (by decide +kernel)) <| fn
def T_X6_readsBracket : List (Nat × Op) := [(0, op_ild 1 1), (1, op_ic 4 1), (2, op_iclt 7), (5, op_ic 0 1), (6, op_zret), (7, op_ald 0 1), (8, op_dup), (9, op_gi 6 2), (12, op_ic 1 1), (13, op_iadd), (14, op_pi 6 2), (17, op_ald 0 1), (18, op_ild 1 1), (19, op_ic 1 1), (20, op_iadd), (21, op_cv M_X6_readsComparison 6 1), (24, op_ifeq 36), (27, op_ald 0 1), (28, op_cv M_X6_next 6 0), (31, op_ic 41 2), (33, op_iceq 38), (36, op_ic 0 1), (37, op_zret), (38, op_ald 0 1), (39, op_dup), (40, op_gi 6 2), (43, op_ic 1 1), (44, op_iadd), (45, op_pi 6 2), (48, op_ic 1 1), (49, op_zret)]
set_option maxRecDepth 20000 in
theorem K_X6_readsBracket : ∀ r ∈ T_X6_readsBracket, OpOK M_X6_readsBracket r.1 r.2 :=
  fc (ok_ildn (q := 1) (by decide +kernel) rfl) <|
  fc (ok_iconst (n := 4) (by decide +kernel) (by decide +kernel)) <|
  fc (ok_iclt (off := 5) (by decide +kernel) (by decide)) <|
  fc (ok_iconst (n := 0) (by decide +kernel) (by decide +kernel)) <|
  fc (ok_zret rfl (by decide +kernel)) <|
  fc (ok_aldn (q := 0) (by decide +kernel) rfl) <|
  fc (ok_dup (by decide +kernel)) <|
  fc (ok_gi mk_X6_readsBracket (fo_RX6_30 rfl) rfl (by decide +kernel)) <|
  fc (ok_iconst (n := 1) (by decide +kernel) (by decide +kernel)) <|
  fc (ok_iadd (by decide +kernel)) <|
  fc (ok_pi mk_X6_readsBracket (fo_RX6_30 rfl) to_6_2 rfl (by decide +kernel)) <|
  fc (ok_aldn (q := 0) (by decide +kernel) rfl) <|
  fc (ok_ildn (q := 1) (by decide +kernel) rfl) <|
  fc (ok_iconst (n := 1) (by decide +kernel) (by decide +kernel)) <|
  fc (ok_iadd (by decide +kernel)) <|
  fc (ok_cv mk_X6_readsBracket mk_X6_readsComparison ⟨uw311, uw312, uw313, uw28, by decide +kernel⟩ (T := TX6) (N := 3) rfl (by decide +kernel)) <|
  fc (ok_ifeq (off := 12) (by decide +kernel) (by decide)) <|
  fc (ok_aldn (q := 0) (by decide +kernel) rfl) <|
  fc (ok_cv mk_X6_readsBracket mk_X6_next ⟨uw318, uw319, uw320, uw28, by decide +kernel⟩ (T := TX6) (N := 3) rfl (by decide +kernel)) <|
  fc (ok_bipush (n := 41) (by decide +kernel) (by decide +kernel)) <|
  fc (ok_iceq (off := 5) (by decide +kernel) (by decide)) <|
  fc (ok_iconst (n := 0) (by decide +kernel) (by decide +kernel)) <|
  fc (ok_zret rfl (by decide +kernel)) <|
  fc (ok_aldn (q := 0) (by decide +kernel) rfl) <|
  fc (ok_dup (by decide +kernel)) <|
  fc (ok_gi mk_X6_readsBracket (fo_RX6_30 rfl) rfl (by decide +kernel)) <|
  fc (ok_iconst (n := 1) (by decide +kernel) (by decide +kernel)) <|
  fc (ok_iadd (by decide +kernel)) <|
  fc (ok_pi mk_X6_readsBracket (fo_RX6_30 rfl) to_6_2 rfl (by decide +kernel)) <|
  fc (ok_iconst (n := 1) (by decide +kernel) (by decide +kernel)) <|
  fc (ok_zret rfl (by decide +kernel)) <| fn
def T_X6_readsProduct : List (Nat × Op) := [(0, op_ald 0 1), (1, op_ild 1 1), (2, op_cv M_X6_readsSigned 6 1), (5, op_ist 2 1), (6, op_ic 0 1), (7, op_ist 3 1), (8, op_ild 3 1), (9, op_ic 40 2), (11, op_icge 75), (14, op_ild 2 1), (15, op_ifeq 75), (18, op_ald 0 1), (19, op_cv M_X6_next 6 0), (22, op_ist 4 2), (24, op_ild 4 2), (26, op_ic 42 2), (28, op_iceq 40), (31, op_ild 4 2), (33, op_ic 47 2), (35, op_iceq 40), (38, op_ic 1 1), (39, op_zret), (40, op_ald 0 1), (41, op_dup), (42, op_gi 6 2), (45, op_ic 1 1), (46, op_iadd), (47, op_pi 6 2), (50, op_ald 0 1), (51, op_ild 1 1), (52, op_cv M_X6_readsSigned 6 1), (55, op_ist 2 1), (56, op_ald 0 1), (57, op_gr 6 1), (60, op_ic 1000 3), (63, op_ild 4 2), (65, op_iadd), (66, op_cv M_X5_puts 5 1), (69, op_iinc 3 1), (72, op_goto 8), (75, op_ild 2 1), (76, op_zret)]
set_option maxRecDepth 20000 in
theorem K_X6_readsProduct : ∀ r ∈ T_X6_readsProduct, OpOK M_X6_readsProduct r.1 r.2 :=
  fc (ok_aldn (q := 0) (by decide +kernel) rfl) <|
  fc (ok_ildn (q := 1) (by decide +kernel) rfl) <|
  fc (ok_cv mk_X6_readsProduct mk_X6_readsSigned ⟨uw326, uw327, uw328, uw28, by decide +kernel⟩ (T := TX6) (N := 3) rfl (by decide +kernel)) <|
  fc (ok_istn (q := 2) (by decide +kernel) rfl (by decide)) <|
  fc (ok_iconst (n := 0) (by decide +kernel) (by decide +kernel)) <|
  fc (ok_istn (q := 3) (by decide +kernel) rfl (by decide)) <|
  fc (ok_ildn (q := 3) (by decide +kernel) rfl) <|
  fc (ok_bipush (n := 40) (by decide +kernel) (by decide +kernel)) <|
  fc (ok_icge (off := 64) (by decide +kernel) (by decide)) <|
  fc (ok_ildn (q := 2) (by decide +kernel) rfl) <|
  fc (ok_ifeq (off := 60) (by decide +kernel) (by decide)) <|
  fc (ok_aldn (q := 0) (by decide +kernel) rfl) <|
  fc (ok_cv mk_X6_readsProduct mk_X6_next ⟨uw318, uw319, uw320, uw28, by decide +kernel⟩ (T := TX6) (N := 3) rfl (by decide +kernel)) <|
  fc (ok_ist (by decide +kernel) (by decide)) <|
  fc (ok_ild (by decide +kernel)) <|
  fc (ok_bipush (n := 42) (by decide +kernel) (by decide +kernel)) <|
  fc (ok_iceq (off := 12) (by decide +kernel) (by decide)) <|
  fc (ok_ild (by decide +kernel)) <|
  fc (ok_bipush (n := 47) (by decide +kernel) (by decide +kernel)) <|
  fc (ok_iceq (off := 5) (by decide +kernel) (by decide)) <|
  fc (ok_iconst (n := 1) (by decide +kernel) (by decide +kernel)) <|
  fc (ok_zret rfl (by decide +kernel)) <|
  fc (ok_aldn (q := 0) (by decide +kernel) rfl) <|
  fc (ok_dup (by decide +kernel)) <|
  fc (ok_gi mk_X6_readsProduct (fo_RX6_30 rfl) rfl (by decide +kernel)) <|
  fc (ok_iconst (n := 1) (by decide +kernel) (by decide +kernel)) <|
  fc (ok_iadd (by decide +kernel)) <|
  fc (ok_pi mk_X6_readsProduct (fo_RX6_30 rfl) to_6_2 rfl (by decide +kernel)) <|
  fc (ok_aldn (q := 0) (by decide +kernel) rfl) <|
  fc (ok_ildn (q := 1) (by decide +kernel) rfl) <|
  fc (ok_cv mk_X6_readsProduct mk_X6_readsSigned ⟨uw326, uw327, uw328, uw28, by decide +kernel⟩ (T := TX6) (N := 3) rfl (by decide +kernel)) <|
  fc (ok_istn (q := 2) (by decide +kernel) rfl (by decide)) <|
  fc (ok_aldn (q := 0) (by decide +kernel) rfl) <|
  fc (ok_gr mk_X6_readsProduct (fo_RX6_26 rfl) rfl (by decide +kernel)) <|
  fc (ok_sipush (n := 1000) (by decide +kernel) (by decide +kernel)) <|
  fc (ok_ild (by decide +kernel)) <|
  fc (ok_iadd (by decide +kernel)) <|
  fc (ok_cv mk_X6_readsProduct mk_X5_puts ⟨uw323, uw132, uw133, uw56, by decide +kernel⟩ (T := TX5) (N := 3) rfl (by decide +kernel)) <|
  fc (ok_iinc (n := 1) (by decide +kernel) (by decide +kernel) (by decide)) <|
  fc (ok_goto (off := -64) (by decide +kernel) (by decide)) <|
  fc (ok_ildn (q := 2) (by decide +kernel) rfl) <|
  fc (ok_zret rfl (by decide +kernel)) <| fn
def T_X6_readsSigned : List (Nat × Op) := [(0, op_ic 0 1), (1, op_ist 2 1), (2, op_ic 0 1), (3, op_ist 3 1), (4, op_ild 3 1), (5, op_ic 40 2), (7, op_icge 45), (10, op_ald 0 1), (11, op_cv M_X6_next 6 0), (14, op_ic 45 2), (16, op_icne 45), (19, op_ild 2 1), (20, op_ifne 27), (23, op_ic 1 1), (24, op_goto 28), (27, op_ic 0 1), (28, op_ist 2 1), (29, op_ald 0 1), (30, op_dup), (31, op_gi 6 2), (34, op_ic 1 1), (35, op_iadd), (36, op_pi 6 2), (39, op_iinc 3 1), (42, op_goto 4), (45, op_ald 0 1), (46, op_ild 1 1), (47, op_cv M_X6_readsThing 6 1), (50, op_ifne 55), (53, op_ic 0 1), (54, op_zret), (55, op_ild 2 1), (56, op_ifeq 69), (59, op_ald 0 1), (60, op_gr 6 1), (63, op_ic 1126 3), (66, op_cv M_X5_puts 5 1), (69, op_ic 1 1), (70, op_zret)]
set_option maxRecDepth 20000 in
theorem K_X6_readsSigned : ∀ r ∈ T_X6_readsSigned, OpOK M_X6_readsSigned r.1 r.2 :=
  fc (ok_iconst (n := 0) (by decide +kernel) (by decide +kernel)) <|
  fc (ok_istn (q := 2) (by decide +kernel) rfl (by decide)) <|
  fc (ok_iconst (n := 0) (by decide +kernel) (by decide +kernel)) <|
  fc (ok_istn (q := 3) (by decide +kernel) rfl (by decide)) <|
  fc (ok_ildn (q := 3) (by decide +kernel) rfl) <|
  fc (ok_bipush (n := 40) (by decide +kernel) (by decide +kernel)) <|
  fc (ok_icge (off := 38) (by decide +kernel) (by decide)) <|
  fc (ok_aldn (q := 0) (by decide +kernel) rfl) <|
  fc (ok_cv mk_X6_readsSigned mk_X6_next ⟨uw318, uw319, uw320, uw28, by decide +kernel⟩ (T := TX6) (N := 3) rfl (by decide +kernel)) <|
  fc (ok_bipush (n := 45) (by decide +kernel) (by decide +kernel)) <|
  fc (ok_icne (off := 29) (by decide +kernel) (by decide)) <|
  fc (ok_ildn (q := 2) (by decide +kernel) rfl) <|
  fc (ok_ifne (off := 7) (by decide +kernel) (by decide)) <|
  fc (ok_iconst (n := 1) (by decide +kernel) (by decide +kernel)) <|
  fc (ok_goto (off := 4) (by decide +kernel) (by decide)) <|
  fc (ok_iconst (n := 0) (by decide +kernel) (by decide +kernel)) <|
  fc (ok_istn (q := 2) (by decide +kernel) rfl (by decide)) <|
  fc (ok_aldn (q := 0) (by decide +kernel) rfl) <|
  fc (ok_dup (by decide +kernel)) <|
  fc (ok_gi mk_X6_readsSigned (fo_RX6_30 rfl) rfl (by decide +kernel)) <|
  fc (ok_iconst (n := 1) (by decide +kernel) (by decide +kernel)) <|
  fc (ok_iadd (by decide +kernel)) <|
  fc (ok_pi mk_X6_readsSigned (fo_RX6_30 rfl) to_6_2 rfl (by decide +kernel)) <|
  fc (ok_iinc (n := 1) (by decide +kernel) (by decide +kernel) (by decide)) <|
  fc (ok_goto (off := -38) (by decide +kernel) (by decide)) <|
  fc (ok_aldn (q := 0) (by decide +kernel) rfl) <|
  fc (ok_ildn (q := 1) (by decide +kernel) rfl) <|
  fc (ok_cv mk_X6_readsSigned mk_X6_readsThing ⟨uw330, uw331, uw332, uw28, by decide +kernel⟩ (T := TX6) (N := 3) rfl (by decide +kernel)) <|
  fc (ok_ifne (off := 5) (by decide +kernel) (by decide)) <|
  fc (ok_iconst (n := 0) (by decide +kernel) (by decide +kernel)) <|
  fc (ok_zret rfl (by decide +kernel)) <|
  fc (ok_ildn (q := 2) (by decide +kernel) rfl) <|
  fc (ok_ifeq (off := 13) (by decide +kernel) (by decide)) <|
  fc (ok_aldn (q := 0) (by decide +kernel) rfl) <|
  fc (ok_gr mk_X6_readsSigned (fo_RX6_26 rfl) rfl (by decide +kernel)) <|
  fc (ok_sipush (n := 1126) (by decide +kernel) (by decide +kernel)) <|
  fc (ok_cv mk_X6_readsSigned mk_X5_puts ⟨uw323, uw132, uw133, uw56, by decide +kernel⟩ (T := TX5) (N := 3) rfl (by decide +kernel)) <|
  fc (ok_iconst (n := 1) (by decide +kernel) (by decide +kernel)) <|
  fc (ok_zret rfl (by decide +kernel)) <| fn
def T_X6_readsSum : List (Nat × Op) := [(0, op_ald 0 1), (1, op_ild 1 1), (2, op_cv M_X6_readsProduct 6 1), (5, op_ist 2 1), (6, op_ic 0 1), (7, op_ist 3 1), (8, op_ild 3 1), (9, op_ic 40 2), (11, op_icge 75), (14, op_ild 2 1), (15, op_ifeq 75), (18, op_ald 0 1), (19, op_cv M_X6_next 6 0), (22, op_ist 4 2), (24, op_ild 4 2), (26, op_ic 43 2), (28, op_iceq 40), (31, op_ild 4 2), (33, op_ic 45 2), (35, op_iceq 40), (38, op_ic 1 1), (39, op_zret), (40, op_ald 0 1), (41, op_dup), (42, op_gi 6 2), (45, op_ic 1 1), (46, op_iadd), (47, op_pi 6 2), (50, op_ald 0 1), (51, op_ild 1 1), (52, op_cv M_X6_readsProduct 6 1), (55, op_ist 2 1), (56, op_ald 0 1), (57, op_gr 6 1), (60, op_ic 1000 3), (63, op_ild 4 2), (65, op_iadd), (66, op_cv M_X5_puts 5 1), (69, op_iinc 3 1), (72, op_goto 8), (75, op_ild 2 1), (76, op_zret)]
set_option maxRecDepth 20000 in
theorem K_X6_readsSum : ∀ r ∈ T_X6_readsSum, OpOK M_X6_readsSum r.1 r.2 :=
  fc (ok_aldn (q := 0) (by decide +kernel) rfl) <|
  fc (ok_ildn (q := 1) (by decide +kernel) rfl) <|
  fc (ok_cv mk_X6_readsSum mk_X6_readsProduct ⟨uw334, uw335, uw336, uw28, by decide +kernel⟩ (T := TX6) (N := 3) rfl (by decide +kernel)) <|
  fc (ok_istn (q := 2) (by decide +kernel) rfl (by decide)) <|
  fc (ok_iconst (n := 0) (by decide +kernel) (by decide +kernel)) <|
  fc (ok_istn (q := 3) (by decide +kernel) rfl (by decide)) <|
  fc (ok_ildn (q := 3) (by decide +kernel) rfl) <|
  fc (ok_bipush (n := 40) (by decide +kernel) (by decide +kernel)) <|
  fc (ok_icge (off := 64) (by decide +kernel) (by decide)) <|
  fc (ok_ildn (q := 2) (by decide +kernel) rfl) <|
  fc (ok_ifeq (off := 60) (by decide +kernel) (by decide)) <|
  fc (ok_aldn (q := 0) (by decide +kernel) rfl) <|
  fc (ok_cv mk_X6_readsSum mk_X6_next ⟨uw318, uw319, uw320, uw28, by decide +kernel⟩ (T := TX6) (N := 3) rfl (by decide +kernel)) <|
  fc (ok_ist (by decide +kernel) (by decide)) <|
  fc (ok_ild (by decide +kernel)) <|
  fc (ok_bipush (n := 43) (by decide +kernel) (by decide +kernel)) <|
  fc (ok_iceq (off := 12) (by decide +kernel) (by decide)) <|
  fc (ok_ild (by decide +kernel)) <|
  fc (ok_bipush (n := 45) (by decide +kernel) (by decide +kernel)) <|
  fc (ok_iceq (off := 5) (by decide +kernel) (by decide)) <|
  fc (ok_iconst (n := 1) (by decide +kernel) (by decide +kernel)) <|
  fc (ok_zret rfl (by decide +kernel)) <|
  fc (ok_aldn (q := 0) (by decide +kernel) rfl) <|
  fc (ok_dup (by decide +kernel)) <|
  fc (ok_gi mk_X6_readsSum (fo_RX6_30 rfl) rfl (by decide +kernel)) <|
  fc (ok_iconst (n := 1) (by decide +kernel) (by decide +kernel)) <|
  fc (ok_iadd (by decide +kernel)) <|
  fc (ok_pi mk_X6_readsSum (fo_RX6_30 rfl) to_6_2 rfl (by decide +kernel)) <|
  fc (ok_aldn (q := 0) (by decide +kernel) rfl) <|
  fc (ok_ildn (q := 1) (by decide +kernel) rfl) <|
  fc (ok_cv mk_X6_readsSum mk_X6_readsProduct ⟨uw334, uw335, uw336, uw28, by decide +kernel⟩ (T := TX6) (N := 3) rfl (by decide +kernel)) <|
  fc (ok_istn (q := 2) (by decide +kernel) rfl (by decide)) <|
  fc (ok_aldn (q := 0) (by decide +kernel) rfl) <|
  fc (ok_gr mk_X6_readsSum (fo_RX6_26 rfl) rfl (by decide +kernel)) <|
  fc (ok_sipush (n := 1000) (by decide +kernel) (by decide +kernel)) <|
  fc (ok_ild (by decide +kernel)) <|
  fc (ok_iadd (by decide +kernel)) <|
  fc (ok_cv mk_X6_readsSum mk_X5_puts ⟨uw323, uw132, uw133, uw56, by decide +kernel⟩ (T := TX5) (N := 3) rfl (by decide +kernel)) <|
  fc (ok_iinc (n := 1) (by decide +kernel) (by decide +kernel) (by decide)) <|
  fc (ok_goto (off := -64) (by decide +kernel) (by decide)) <|
  fc (ok_ildn (q := 2) (by decide +kernel) rfl) <|
  fc (ok_zret rfl (by decide +kernel)) <| fn
def T_X6_readsThing : List (Nat × Op) := [(0, op_ald 0 1), (1, op_cv M_X6_next 6 0), (4, op_ist 2 1), (5, op_ild 2 1), (6, op_sw 110 [(40, 104), (97, 80), (102, 80), (104, 80), (110, 80), (111, 80), (117, 80), (118, 80)]), (80, op_ald 0 1), (81, op_gr 6 1), (84, op_ic 1000 3), (87, op_ild 2 1), (88, op_iadd), (89, op_cv M_X5_puts 5 1), (92, op_ald 0 1), (93, op_dup), (94, op_gi 6 2), (97, op_ic 1 1), (98, op_iadd), (99, op_pi 6 2), (102, op_ic 1 1), (103, op_zret), (104, op_ald 0 1), (105, op_ild 1 1), (106, op_cv M_X6_readsBracket 6 1), (109, op_zret), (110, op_ald 0 1), (111, op_cv M_X6_readsNumber 6 0), (114, op_zret)]
set_option maxRecDepth 20000 in
theorem K_X6_readsThing : ∀ r ∈ T_X6_readsThing, OpOK M_X6_readsThing r.1 r.2 :=
  fc (ok_aldn (q := 0) (by decide +kernel) rfl) <|
  fc (ok_cv mk_X6_readsThing mk_X6_next ⟨uw318, uw319, uw320, uw28, by decide +kernel⟩ (T := TX6) (N := 3) rfl (by decide +kernel)) <|
  fc (ok_istn (q := 2) (by decide +kernel) rfl (by decide)) <|
  fc (ok_ildn (q := 2) (by decide +kernel) rfl) <|
  fc (ok_lsw (dflt := 104) (pp := #[(40, 98), (97, 74), (102, 74), (104, 74), (110, 74), (111, 74), (117, 74), (118, 74)]) (len := 74) (by decide +kernel) (by decide +kernel) (by decide +kernel) (by decide)) <|
  fc (ok_aldn (q := 0) (by decide +kernel) rfl) <|
  fc (ok_gr mk_X6_readsThing (fo_RX6_26 rfl) rfl (by decide +kernel)) <|
  fc (ok_sipush (n := 1000) (by decide +kernel) (by decide +kernel)) <|
  fc (ok_ildn (q := 2) (by decide +kernel) rfl) <|
  fc (ok_iadd (by decide +kernel)) <|
  fc (ok_cv mk_X6_readsThing mk_X5_puts ⟨uw323, uw132, uw133, uw56, by decide +kernel⟩ (T := TX5) (N := 3) rfl (by decide +kernel)) <|
  fc (ok_aldn (q := 0) (by decide +kernel) rfl) <|
  fc (ok_dup (by decide +kernel)) <|
  fc (ok_gi mk_X6_readsThing (fo_RX6_30 rfl) rfl (by decide +kernel)) <|
  fc (ok_iconst (n := 1) (by decide +kernel) (by decide +kernel)) <|
  fc (ok_iadd (by decide +kernel)) <|
  fc (ok_pi mk_X6_readsThing (fo_RX6_30 rfl) to_6_2 rfl (by decide +kernel)) <|
  fc (ok_iconst (n := 1) (by decide +kernel) (by decide +kernel)) <|
  fc (ok_zret rfl (by decide +kernel)) <|
  fc (ok_aldn (q := 0) (by decide +kernel) rfl) <|
  fc (ok_ildn (q := 1) (by decide +kernel) rfl) <|
  fc (ok_cv mk_X6_readsThing mk_X6_readsBracket ⟨uw338, uw339, uw340, uw28, by decide +kernel⟩ (T := TX6) (N := 3) rfl (by decide +kernel)) <|
  fc (ok_zret rfl (by decide +kernel)) <|
  fc (ok_aldn (q := 0) (by decide +kernel) rfl) <|
  fc (ok_cv mk_X6_readsThing mk_X6_readsNumber ⟨uw341, uw342, uw343, uw28, by decide +kernel⟩ (T := TX6) (N := 3) rfl (by decide +kernel)) <|
  fc (ok_zret rfl (by decide +kernel)) <| fn
def T_X6_readsNumber : List (Nat × Op) := [(0, op_ic 0 1), (1, op_ist 1 1), (2, op_ic 0 1), (3, op_ist 2 1), (4, op_ic 0 1), (5, op_ist 3 1), (6, op_ild 3 1), (7, op_ic 3 1), (8, op_icge 61), (11, op_ald 0 1), (12, op_cv M_X6_next 6 0), (15, op_ic 48 2), (17, op_iclt 61), (20, op_ald 0 1), (21, op_cv M_X6_next 6 0), (24, op_ic 57 2), (26, op_icgt 61), (29, op_ic 10 2), (31, op_ild 1 1), (32, op_imul), (33, op_ald 0 1), (34, op_cv M_X6_next 6 0), (37, op_iadd), (38, op_ic 48 2), (40, op_isub), (41, op_ist 1 1), (42, op_ald 0 1), (43, op_dup), (44, op_gi 6 2), (47, op_ic 1 1), (48, op_iadd), (49, op_pi 6 2), (52, op_iinc 2 1), (55, op_iinc 3 1), (58, op_goto 6), (61, op_ald 0 1), (62, op_gr 6 1), (65, op_ild 1 1), (66, op_cv M_X5_puts 5 1), (69, op_ild 2 1), (70, op_ifle 77), (73, op_ic 1 1), (74, op_goto 78), (77, op_ic 0 1), (78, op_zret)]
set_option maxRecDepth 20000 in
theorem K_X6_readsNumber : ∀ r ∈ T_X6_readsNumber, OpOK M_X6_readsNumber r.1 r.2 :=
  fc (ok_iconst (n := 0) (by decide +kernel) (by decide +kernel)) <|
  fc (ok_istn (q := 1) (by decide +kernel) rfl (by decide)) <|
  fc (ok_iconst (n := 0) (by decide +kernel) (by decide +kernel)) <|
  fc (ok_istn (q := 2) (by decide +kernel) rfl (by decide)) <|
  fc (ok_iconst (n := 0) (by decide +kernel) (by decide +kernel)) <|
  fc (ok_istn (q := 3) (by decide +kernel) rfl (by decide)) <|
  fc (ok_ildn (q := 3) (by decide +kernel) rfl) <|
  fc (ok_iconst (n := 3) (by decide +kernel) (by decide +kernel)) <|
  fc (ok_icge (off := 53) (by decide +kernel) (by decide)) <|
  fc (ok_aldn (q := 0) (by decide +kernel) rfl) <|
  fc (ok_cv mk_X6_readsNumber mk_X6_next ⟨uw318, uw319, uw320, uw28, by decide +kernel⟩ (T := TX6) (N := 3) rfl (by decide +kernel)) <|
  fc (ok_bipush (n := 48) (by decide +kernel) (by decide +kernel)) <|
  fc (ok_iclt (off := 44) (by decide +kernel) (by decide)) <|
  fc (ok_aldn (q := 0) (by decide +kernel) rfl) <|
  fc (ok_cv mk_X6_readsNumber mk_X6_next ⟨uw318, uw319, uw320, uw28, by decide +kernel⟩ (T := TX6) (N := 3) rfl (by decide +kernel)) <|
  fc (ok_bipush (n := 57) (by decide +kernel) (by decide +kernel)) <|
  fc (ok_icgt (off := 35) (by decide +kernel) (by decide)) <|
  fc (ok_bipush (n := 10) (by decide +kernel) (by decide +kernel)) <|
  fc (ok_ildn (q := 1) (by decide +kernel) rfl) <|
  fc (ok_imul (by decide +kernel)) <|
  fc (ok_aldn (q := 0) (by decide +kernel) rfl) <|
  fc (ok_cv mk_X6_readsNumber mk_X6_next ⟨uw318, uw319, uw320, uw28, by decide +kernel⟩ (T := TX6) (N := 3) rfl (by decide +kernel)) <|
  fc (ok_iadd (by decide +kernel)) <|
  fc (ok_bipush (n := 48) (by decide +kernel) (by decide +kernel)) <|
  fc (ok_isub (by decide +kernel)) <|
  fc (ok_istn (q := 1) (by decide +kernel) rfl (by decide)) <|
  fc (ok_aldn (q := 0) (by decide +kernel) rfl) <|
  fc (ok_dup (by decide +kernel)) <|
  fc (ok_gi mk_X6_readsNumber (fo_RX6_30 rfl) rfl (by decide +kernel)) <|
  fc (ok_iconst (n := 1) (by decide +kernel) (by decide +kernel)) <|
  fc (ok_iadd (by decide +kernel)) <|
  fc (ok_pi mk_X6_readsNumber (fo_RX6_30 rfl) to_6_2 rfl (by decide +kernel)) <|
  fc (ok_iinc (n := 1) (by decide +kernel) (by decide +kernel) (by decide)) <|
  fc (ok_iinc (n := 1) (by decide +kernel) (by decide +kernel) (by decide)) <|
  fc (ok_goto (off := -52) (by decide +kernel) (by decide)) <|
  fc (ok_aldn (q := 0) (by decide +kernel) rfl) <|
  fc (ok_gr mk_X6_readsNumber (fo_RX6_26 rfl) rfl (by decide +kernel)) <|
  fc (ok_ildn (q := 1) (by decide +kernel) rfl) <|
  fc (ok_cv mk_X6_readsNumber mk_X5_puts ⟨uw323, uw132, uw133, uw56, by decide +kernel⟩ (T := TX5) (N := 3) rfl (by decide +kernel)) <|
  fc (ok_ildn (q := 2) (by decide +kernel) rfl) <|
  fc (ok_ifle (off := 7) (by decide +kernel) (by decide)) <|
  fc (ok_iconst (n := 1) (by decide +kernel) (by decide +kernel)) <|
  fc (ok_goto (off := 4) (by decide +kernel) (by decide)) <|
  fc (ok_iconst (n := 0) (by decide +kernel) (by decide +kernel)) <|
  fc (ok_zret rfl (by decide +kernel)) <| fn
