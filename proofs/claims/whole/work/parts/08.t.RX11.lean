def T_X11_sign : List (Nat × Op) := [(0, op_ald 0 1), (1, op_gf 11 0 1), (4, op_ild 1 1), (5, op_cv M_X8_adds 8 1), (8, op_ifeq 21), (11, op_ald 0 1), (12, op_gf 11 0 1), (15, op_gi 8 1), (18, op_goto 22), (21, op_ic (-1) 1), (22, op_iret)]
set_option maxRecDepth 20000 in
theorem K_X11_sign : ∀ r ∈ T_X11_sign, OpOK M_X11_sign r.1 r.2 :=
  fc (ok_aldn (q := 0) (by decide +kernel) rfl) <|
  fc (ok_gf mk_X11_sign (fo_RX11_10 rfl) rfl (by decide +kernel)) <|
  fc (ok_ildn (q := 1) (by decide +kernel) rfl) <|
  fc (ok_cv mk_X11_sign mk_X8_adds ⟨uw176, uw177, uw178, uw15, by decide +kernel⟩ (T := TX8) (N := 2) rfl (by decide +kernel)) <|
  fc (ok_ifeq (off := 13) (by decide +kernel) (by decide)) <|
  fc (ok_aldn (q := 0) (by decide +kernel) rfl) <|
  fc (ok_gf mk_X11_sign (fo_RX11_10 rfl) rfl (by decide +kernel)) <|
  fc (ok_gi mk_X11_sign (fo_RX11_96 rfl) rfl (by decide +kernel)) <|
  fc (ok_goto (off := 4) (by decide +kernel) (by decide)) <|
  fc (ok_iconst (n := -1) (by decide +kernel) (by decide +kernel)) <|
  fc (ok_iret rfl (by decide +kernel)) <| fn
def T_X11_end : List (Nat × Op) := [(0, op_ald 0 1), (1, op_gf 11 0 1), (4, op_ild 1 1), (5, op_cv M_X8_cuts 8 1), (8, op_zret)]
set_option maxRecDepth 20000 in
theorem K_X11_end : ∀ r ∈ T_X11_end, OpOK M_X11_end r.1 r.2 :=
  fc (ok_aldn (q := 0) (by decide +kernel) rfl) <|
  fc (ok_gf mk_X11_end (fo_RX11_10 rfl) rfl (by decide +kernel)) <|
  fc (ok_ildn (q := 1) (by decide +kernel) rfl) <|
  fc (ok_cv mk_X11_end mk_X8_cuts ⟨uw191, uw192, uw193, uw15, by decide +kernel⟩ (T := TX8) (N := 2) rfl (by decide +kernel)) <|
  fc (ok_zret rfl (by decide +kernel)) <| fn
def T_X11_people : List (Nat × Op) := [(0, op_ald 0 1), (1, op_cv M_X11_peopleWrongAt 11 0), (4, op_ist 1 1), (5, op_ild 1 1), (6, op_ic (-1) 1), (7, op_icne 17), (10, op_ald 0 1), (11, op_cv M_X11_takePeople 11 0), (14, op_goto 18), (17, op_ic 0 1), (18, op_ist 2 1), (19, op_ald 0 1), (20, op_gf 11 0 1), (23, op_ic 0 1), (24, op_pi 8 1), (27, op_ild 1 1), (28, op_ic (-1) 1), (29, op_iceq 36), (32, op_ic (-1) 1), (33, op_ild 1 1), (34, op_isub), (35, op_iret), (36, op_ild 2 1), (37, op_ifle 47), (40, op_ald 0 1), (41, op_gf 11 5 18), (44, op_cv M_X3_forgetsAll 3 0), (47, op_ild 2 1), (48, op_iret)]
set_option maxRecDepth 20000 in
theorem K_X11_people : ∀ r ∈ T_X11_people, OpOK M_X11_people r.1 r.2 :=
  fc (ok_aldn (q := 0) (by decide +kernel) rfl) <|
  fc (ok_cv mk_X11_people mk_X11_peopleWrongAt ⟨uw206, uw207, uw208, uw2, by decide +kernel⟩ (T := TX11) (N := 13) rfl (by decide +kernel)) <|
  fc (ok_istn (q := 1) (by decide +kernel) rfl (by decide)) <|
  fc (ok_ildn (q := 1) (by decide +kernel) rfl) <|
  fc (ok_iconst (n := -1) (by decide +kernel) (by decide +kernel)) <|
  fc (ok_icne (off := 10) (by decide +kernel) (by decide)) <|
  fc (ok_aldn (q := 0) (by decide +kernel) rfl) <|
  fc (ok_cv mk_X11_people mk_X11_takePeople ⟨uw228, uw229, uw230, uw2, by decide +kernel⟩ (T := TX11) (N := 13) rfl (by decide +kernel)) <|
  fc (ok_goto (off := 4) (by decide +kernel) (by decide)) <|
  fc (ok_iconst (n := 0) (by decide +kernel) (by decide +kernel)) <|
  fc (ok_istn (q := 2) (by decide +kernel) rfl (by decide)) <|
  fc (ok_aldn (q := 0) (by decide +kernel) rfl) <|
  fc (ok_gf mk_X11_people (fo_RX11_10 rfl) rfl (by decide +kernel)) <|
  fc (ok_iconst (n := 0) (by decide +kernel) (by decide +kernel)) <|
  fc (ok_pi mk_X11_people (fo_RX11_96 rfl) to_8_1 rfl (by decide +kernel)) <|
  fc (ok_ildn (q := 1) (by decide +kernel) rfl) <|
  fc (ok_iconst (n := -1) (by decide +kernel) (by decide +kernel)) <|
  fc (ok_iceq (off := 7) (by decide +kernel) (by decide)) <|
  fc (ok_iconst (n := -1) (by decide +kernel) (by decide +kernel)) <|
  fc (ok_ildn (q := 1) (by decide +kernel) rfl) <|
  fc (ok_isub (by decide +kernel)) <|
  fc (ok_iret rfl (by decide +kernel)) <|
  fc (ok_ildn (q := 2) (by decide +kernel) rfl) <|
  fc (ok_ifle (off := 10) (by decide +kernel) (by decide)) <|
  fc (ok_aldn (q := 0) (by decide +kernel) rfl) <|
  fc (ok_gf mk_X11_people (fo_RX11_43 rfl) rfl (by decide +kernel)) <|
  fc (ok_cv mk_X11_people mk_X3_forgetsAll ⟨uw247, uw248, uw249, uw32, by decide +kernel⟩ (T := TX3) (N := 4) rfl (by decide +kernel)) <|
  fc (ok_ildn (q := 2) (by decide +kernel) rfl) <|
  fc (ok_iret rfl (by decide +kernel)) <| fn
def T_X11_peopleWrongAt : List (Nat × Op) := [(0, op_ald 0 1), (1, op_gf 11 0 1), (4, op_gi 8 1), (7, op_ic 34 2), (9, op_min), (12, op_ist 1 1), (13, op_ic 0 1), (14, op_ist 2 1), (15, op_ild 2 1), (16, op_ild 1 1), (17, op_icge 36), (20, op_ald 0 1), (21, op_ild 2 1), (22, op_cv M_X11_standsInLine 11 1), (25, op_ifne 30), (28, op_ild 2 1), (29, op_iret), (30, op_iinc 2 1), (33, op_goto 15), (36, op_ald 0 1), (37, op_gf 11 0 1), (40, op_gi 8 1), (43, op_ic 34 2), (45, op_icle 51), (48, op_ic 34 2), (50, op_iret), (51, op_ald 0 1), (52, op_gf 11 0 1), (55, op_gi 8 1), (58, op_ifeq 74), (61, op_ald 0 1), (62, op_gf 11 0 1), (65, op_gi 8 1), (68, op_ic 5 1), (69, op_irem), (70, op_ic 4 1), (71, op_icne 78), (74, op_ic 1 1), (75, op_goto 79), (78, op_ic 0 1), (79, op_ist 2 1), (80, op_ild 2 1), (81, op_ifeq 88), (84, op_ic (-1) 1), (85, op_goto 95), (88, op_ald 0 1), (89, op_gf 11 0 1), (92, op_gi 8 1), (95, op_iret)]
set_option maxRecDepth 20000 in
theorem K_X11_peopleWrongAt : ∀ r ∈ T_X11_peopleWrongAt, OpOK M_X11_peopleWrongAt r.1 r.2 :=
  fc (ok_aldn (q := 0) (by decide +kernel) rfl) <|
  fc (ok_gf mk_X11_peopleWrongAt (fo_RX11_10 rfl) rfl (by decide +kernel)) <|
  fc (ok_gi mk_X11_peopleWrongAt (fo_RX11_96 rfl) rfl (by decide +kernel)) <|
  fc (ok_bipush (n := 34) (by decide +kernel) (by decide +kernel)) <|
  fc (ok_min mk_X11_peopleWrongAt uw210 uw211 uw212 uw213 (by decide +kernel)) <|
  fc (ok_istn (q := 1) (by decide +kernel) rfl (by decide)) <|
  fc (ok_iconst (n := 0) (by decide +kernel) (by decide +kernel)) <|
  fc (ok_istn (q := 2) (by decide +kernel) rfl (by decide)) <|
  fc (ok_ildn (q := 2) (by decide +kernel) rfl) <|
  fc (ok_ildn (q := 1) (by decide +kernel) rfl) <|
  fc (ok_icge (off := 19) (by decide +kernel) (by decide)) <|
  fc (ok_aldn (q := 0) (by decide +kernel) rfl) <|
  fc (ok_ildn (q := 2) (by decide +kernel) rfl) <|
  fc (ok_cv mk_X11_peopleWrongAt mk_X11_standsInLine ⟨uw214, uw215, uw216, uw2, by decide +kernel⟩ (T := TX11) (N := 13) rfl (by decide +kernel)) <|
  fc (ok_ifne (off := 5) (by decide +kernel) (by decide)) <|
  fc (ok_ildn (q := 2) (by decide +kernel) rfl) <|
  fc (ok_iret rfl (by decide +kernel)) <|
  fc (ok_iinc (n := 1) (by decide +kernel) (by decide +kernel) (by decide)) <|
  fc (ok_goto (off := -18) (by decide +kernel) (by decide)) <|
  fc (ok_aldn (q := 0) (by decide +kernel) rfl) <|
  fc (ok_gf mk_X11_peopleWrongAt (fo_RX11_10 rfl) rfl (by decide +kernel)) <|
  fc (ok_gi mk_X11_peopleWrongAt (fo_RX11_96 rfl) rfl (by decide +kernel)) <|
  fc (ok_bipush (n := 34) (by decide +kernel) (by decide +kernel)) <|
  fc (ok_icle (off := 6) (by decide +kernel) (by decide)) <|
  fc (ok_bipush (n := 34) (by decide +kernel) (by decide +kernel)) <|
  fc (ok_iret rfl (by decide +kernel)) <|
  fc (ok_aldn (q := 0) (by decide +kernel) rfl) <|
  fc (ok_gf mk_X11_peopleWrongAt (fo_RX11_10 rfl) rfl (by decide +kernel)) <|
  fc (ok_gi mk_X11_peopleWrongAt (fo_RX11_96 rfl) rfl (by decide +kernel)) <|
  fc (ok_ifeq (off := 16) (by decide +kernel) (by decide)) <|
  fc (ok_aldn (q := 0) (by decide +kernel) rfl) <|
  fc (ok_gf mk_X11_peopleWrongAt (fo_RX11_10 rfl) rfl (by decide +kernel)) <|
  fc (ok_gi mk_X11_peopleWrongAt (fo_RX11_96 rfl) rfl (by decide +kernel)) <|
  fc (ok_iconst (n := 5) (by decide +kernel) (by decide +kernel)) <|
  fc (ok_irem (by decide +kernel)) <|
  fc (ok_iconst (n := 4) (by decide +kernel) (by decide +kernel)) <|
  fc (ok_icne (off := 7) (by decide +kernel) (by decide)) <|
  fc (ok_iconst (n := 1) (by decide +kernel) (by decide +kernel)) <|
  fc (ok_goto (off := 4) (by decide +kernel) (by decide)) <|
  fc (ok_iconst (n := 0) (by decide +kernel) (by decide +kernel)) <|
  fc (ok_istn (q := 2) (by decide +kernel) rfl (by decide)) <|
  fc (ok_ildn (q := 2) (by decide +kernel) rfl) <|
  fc (ok_ifeq (off := 7) (by decide +kernel) (by decide)) <|
  fc (ok_iconst (n := -1) (by decide +kernel) (by decide +kernel)) <|
  fc (ok_goto (off := 10) (by decide +kernel) (by decide)) <|
  fc (ok_aldn (q := 0) (by decide +kernel) rfl) <|
  fc (ok_gf mk_X11_peopleWrongAt (fo_RX11_10 rfl) rfl (by decide +kernel)) <|
  fc (ok_gi mk_X11_peopleWrongAt (fo_RX11_96 rfl) rfl (by decide +kernel)) <|
  fc (ok_iret rfl (by decide +kernel)) <| fn
def T_X11_standsInLine : List (Nat × Op) := [(0, op_ild 1 1), (1, op_ic 5 1), (2, op_irem), (3, op_ist 2 1), (4, op_ild 2 1), (5, op_ic 4 1), (6, op_icne 28), (9, op_ald 0 1), (10, op_gf 11 0 1), (13, op_ild 1 1), (14, op_cv M_X8_at 8 1), (17, op_ic 59 2), (19, op_icne 26), (22, op_ic 1 1), (23, op_goto 27), (26, op_ic 0 1), (27, op_zret), (28, op_ald 0 1), (29, op_gf 11 2 5), (32, op_gi 2 5), (35, op_ild 1 1), (36, op_ic 5 1), (37, op_idiv), (38, op_iadd), (39, op_ic 7 2), (41, op_icge 48), (44, op_ic 1 1), (45, op_goto 49), (48, op_ic 0 1), (49, op_ist 3 1), (50, op_ild 3 1), (51, op_ifeq 69), (54, op_ald 0 1), (55, op_gf 11 0 1), (58, op_ild 1 1), (59, op_cv M_X8_isDigit 8 1), (62, op_ifeq 69), (65, op_ic 1 1), (66, op_goto 70), (69, op_ic 0 1), (70, op_zret)]
set_option maxRecDepth 20000 in
theorem K_X11_standsInLine : ∀ r ∈ T_X11_standsInLine, OpOK M_X11_standsInLine r.1 r.2 :=
  fc (ok_ildn (q := 1) (by decide +kernel) rfl) <|
  fc (ok_iconst (n := 5) (by decide +kernel) (by decide +kernel)) <|
  fc (ok_irem (by decide +kernel)) <|
  fc (ok_istn (q := 2) (by decide +kernel) rfl (by decide)) <|
  fc (ok_ildn (q := 2) (by decide +kernel) rfl) <|
  fc (ok_iconst (n := 4) (by decide +kernel) (by decide +kernel)) <|
  fc (ok_icne (off := 22) (by decide +kernel) (by decide)) <|
  fc (ok_aldn (q := 0) (by decide +kernel) rfl) <|
  fc (ok_gf mk_X11_standsInLine (fo_RX11_10 rfl) rfl (by decide +kernel)) <|
  fc (ok_ildn (q := 1) (by decide +kernel) rfl) <|
  fc (ok_cv mk_X11_standsInLine mk_X8_at ⟨uw219, uw220, uw221, uw15, by decide +kernel⟩ (T := TX8) (N := 2) rfl (by decide +kernel)) <|
  fc (ok_bipush (n := 59) (by decide +kernel) (by decide +kernel)) <|
  fc (ok_icne (off := 7) (by decide +kernel) (by decide)) <|
  fc (ok_iconst (n := 1) (by decide +kernel) (by decide +kernel)) <|
  fc (ok_goto (off := 4) (by decide +kernel) (by decide)) <|
  fc (ok_iconst (n := 0) (by decide +kernel) (by decide +kernel)) <|
  fc (ok_zret rfl (by decide +kernel)) <|
  fc (ok_aldn (q := 0) (by decide +kernel) rfl) <|
  fc (ok_gf mk_X11_standsInLine (fo_RX11_26 rfl) rfl (by decide +kernel)) <|
  fc (ok_gi mk_X11_standsInLine (fo_RX11_250 rfl) rfl (by decide +kernel)) <|
  fc (ok_ildn (q := 1) (by decide +kernel) rfl) <|
  fc (ok_iconst (n := 5) (by decide +kernel) (by decide +kernel)) <|
  fc (ok_idiv (by decide +kernel)) <|
  fc (ok_iadd (by decide +kernel)) <|
  fc (ok_bipush (n := 7) (by decide +kernel) (by decide +kernel)) <|
  fc (ok_icge (off := 7) (by decide +kernel) (by decide)) <|
  fc (ok_iconst (n := 1) (by decide +kernel) (by decide +kernel)) <|
  fc (ok_goto (off := 4) (by decide +kernel) (by decide)) <|
  fc (ok_iconst (n := 0) (by decide +kernel) (by decide +kernel)) <|
  fc (ok_istn (q := 3) (by decide +kernel) rfl (by decide)) <|
  fc (ok_ildn (q := 3) (by decide +kernel) rfl) <|
  fc (ok_ifeq (off := 18) (by decide +kernel) (by decide)) <|
  fc (ok_aldn (q := 0) (by decide +kernel) rfl) <|
  fc (ok_gf mk_X11_standsInLine (fo_RX11_10 rfl) rfl (by decide +kernel)) <|
  fc (ok_ildn (q := 1) (by decide +kernel) rfl) <|
  fc (ok_cv mk_X11_standsInLine mk_X8_isDigit ⟨uw223, uw224, uw225, uw15, by decide +kernel⟩ (T := TX8) (N := 2) rfl (by decide +kernel)) <|
  fc (ok_ifeq (off := 7) (by decide +kernel) (by decide)) <|
  fc (ok_iconst (n := 1) (by decide +kernel) (by decide +kernel)) <|
  fc (ok_goto (off := 4) (by decide +kernel) (by decide)) <|
  fc (ok_iconst (n := 0) (by decide +kernel) (by decide +kernel)) <|
  fc (ok_zret rfl (by decide +kernel)) <| fn
def T_X11_takePeople : List (Nat × Op) := [(0, op_ic 0 1), (1, op_ist 1 1), (2, op_ic 0 1), (3, op_ist 2 1), (4, op_ild 2 1), (5, op_ald 0 1), (6, op_gf 11 0 1), (9, op_gi 8 1), (12, op_icge 59), (15, op_ald 0 1), (16, op_gf 11 2 5), (19, op_ald 0 1), (20, op_gf 11 0 1), (23, op_ild 2 1), (24, op_cv M_X8_digit 8 1), (27, op_ald 0 1), (28, op_gf 11 0 1), (31, op_ild 2 1), (32, op_ic 1 1), (33, op_iadd), (34, op_cv M_X8_digit 8 1), (37, op_ald 0 1), (38, op_gf 11 0 1), (41, op_ild 2 1), (42, op_ic 2 1), (43, op_iadd), (44, op_cv M_X8_twoDigits 8 1), (47, op_cv M_X2_adds 2 3), (50, op_iinc 1 1), (53, op_iinc 2 5), (56, op_goto 4), (59, op_ild 1 1), (60, op_iret)]
set_option maxRecDepth 20000 in
theorem K_X11_takePeople : ∀ r ∈ T_X11_takePeople, OpOK M_X11_takePeople r.1 r.2 :=
  fc (ok_iconst (n := 0) (by decide +kernel) (by decide +kernel)) <|
  fc (ok_istn (q := 1) (by decide +kernel) rfl (by decide)) <|
  fc (ok_iconst (n := 0) (by decide +kernel) (by decide +kernel)) <|
  fc (ok_istn (q := 2) (by decide +kernel) rfl (by decide)) <|
  fc (ok_ildn (q := 2) (by decide +kernel) rfl) <|
  fc (ok_aldn (q := 0) (by decide +kernel) rfl) <|
  fc (ok_gf mk_X11_takePeople (fo_RX11_10 rfl) rfl (by decide +kernel)) <|
  fc (ok_gi mk_X11_takePeople (fo_RX11_96 rfl) rfl (by decide +kernel)) <|
  fc (ok_icge (off := 47) (by decide +kernel) (by decide)) <|
  fc (ok_aldn (q := 0) (by decide +kernel) rfl) <|
  fc (ok_gf mk_X11_takePeople (fo_RX11_26 rfl) rfl (by decide +kernel)) <|
  fc (ok_aldn (q := 0) (by decide +kernel) rfl) <|
  fc (ok_gf mk_X11_takePeople (fo_RX11_10 rfl) rfl (by decide +kernel)) <|
  fc (ok_ildn (q := 2) (by decide +kernel) rfl) <|
  fc (ok_cv mk_X11_takePeople mk_X8_digit ⟨uw232, uw233, uw234, uw15, by decide +kernel⟩ (T := TX8) (N := 2) rfl (by decide +kernel)) <|
  fc (ok_aldn (q := 0) (by decide +kernel) rfl) <|
  fc (ok_gf mk_X11_takePeople (fo_RX11_10 rfl) rfl (by decide +kernel)) <|
  fc (ok_ildn (q := 2) (by decide +kernel) rfl) <|
  fc (ok_iconst (n := 1) (by decide +kernel) (by decide +kernel)) <|
  fc (ok_iadd (by decide +kernel)) <|
  fc (ok_cv mk_X11_takePeople mk_X8_digit ⟨uw232, uw233, uw234, uw15, by decide +kernel⟩ (T := TX8) (N := 2) rfl (by decide +kernel)) <|
  fc (ok_aldn (q := 0) (by decide +kernel) rfl) <|
  fc (ok_gf mk_X11_takePeople (fo_RX11_10 rfl) rfl (by decide +kernel)) <|
  fc (ok_ildn (q := 2) (by decide +kernel) rfl) <|
  fc (ok_iconst (n := 2) (by decide +kernel) (by decide +kernel)) <|
  fc (ok_iadd (by decide +kernel)) <|
  fc (ok_cv mk_X11_takePeople mk_X8_twoDigits ⟨uw237, uw238, uw239, uw15, by decide +kernel⟩ (T := TX8) (N := 2) rfl (by decide +kernel)) <|
  fc (ok_cv mk_X11_takePeople mk_X2_adds ⟨uw242, uw243, uw244, uw23, by decide +kernel⟩ (T := TX2) (N := 8) rfl (by decide +kernel)) <|
  fc (ok_iinc (n := 1) (by decide +kernel) (by decide +kernel) (by decide)) <|
  fc (ok_iinc (n := 5) (by decide +kernel) (by decide +kernel) (by decide)) <|
  fc (ok_goto (off := -52) (by decide +kernel) (by decide)) <|
  fc (ok_ildn (q := 1) (by decide +kernel) rfl) <|
  fc (ok_iret rfl (by decide +kernel)) <| fn
def T_X11_rule : List (Nat × Op) := [(0, op_ald 0 1), (1, op_gf 11 4 17), (4, op_ald 0 1), (5, op_gf 11 0 1), (8, op_ald 0 1), (9, op_gr 11 12), (12, op_cv M_X6_reads 6 2), (15, op_ist 1 1), (16, op_ald 0 1), (17, op_gf 11 0 1), (20, op_ic 0 1), (21, op_pi 8 1), (24, op_ild 1 1), (25, op_ic (-1) 1), (26, op_iceq 33), (29, op_ic (-1) 1), (30, op_ild 1 1), (31, op_isub), (32, op_iret), (33, op_ald 0 1), (34, op_gr 11 11), (37, op_ast 2 1), (38, op_ald 0 1), (39, op_ald 0 1), (40, op_gr 11 12), (43, op_pr 11 11), (46, op_ald 0 1), (47, op_ald 2 1), (48, op_pr 11 12), (51, op_ic 0 1), (52, op_iret)]
set_option maxRecDepth 20000 in
theorem K_X11_rule : ∀ r ∈ T_X11_rule, OpOK M_X11_rule r.1 r.2 :=
  fc (ok_aldn (q := 0) (by decide +kernel) rfl) <|
  fc (ok_gf mk_X11_rule (fo_RX11_36 rfl) rfl (by decide +kernel)) <|
  fc (ok_aldn (q := 0) (by decide +kernel) rfl) <|
  fc (ok_gf mk_X11_rule (fo_RX11_10 rfl) rfl (by decide +kernel)) <|
  fc (ok_aldn (q := 0) (by decide +kernel) rfl) <|
  fc (ok_gr mk_X11_rule (fo_RX11_89 rfl) rfl (by decide +kernel)) <|
  fc (ok_cv mk_X11_rule mk_X6_reads ⟨uw301, uw302, uw303, uw28, by decide +kernel⟩ (T := TX6) (N := 3) rfl (by decide +kernel)) <|
  fc (ok_istn (q := 1) (by decide +kernel) rfl (by decide)) <|
  fc (ok_aldn (q := 0) (by decide +kernel) rfl) <|
  fc (ok_gf mk_X11_rule (fo_RX11_10 rfl) rfl (by decide +kernel)) <|
  fc (ok_iconst (n := 0) (by decide +kernel) (by decide +kernel)) <|
  fc (ok_pi mk_X11_rule (fo_RX11_96 rfl) to_8_1 rfl (by decide +kernel)) <|
  fc (ok_ildn (q := 1) (by decide +kernel) rfl) <|
  fc (ok_iconst (n := -1) (by decide +kernel) (by decide +kernel)) <|
  fc (ok_iceq (off := 7) (by decide +kernel) (by decide)) <|
  fc (ok_iconst (n := -1) (by decide +kernel) (by decide +kernel)) <|
  fc (ok_ildn (q := 1) (by decide +kernel) rfl) <|
  fc (ok_isub (by decide +kernel)) <|
  fc (ok_iret rfl (by decide +kernel)) <|
  fc (ok_aldn (q := 0) (by decide +kernel) rfl) <|
  fc (ok_gr mk_X11_rule (fo_RX11_85 rfl) rfl (by decide +kernel)) <|
  fc (ok_astn (q := 2) (by decide +kernel) rfl (by decide)) <|
  fc (ok_aldn (q := 0) (by decide +kernel) rfl) <|
  fc (ok_aldn (q := 0) (by decide +kernel) rfl) <|
  fc (ok_gr mk_X11_rule (fo_RX11_89 rfl) rfl (by decide +kernel)) <|
  fc (ok_pr mk_X11_rule (fo_RX11_85 rfl) to_11_11 (fun _ => rfl) (fun _ => rfl) rfl (by decide +kernel)) <|
  fc (ok_aldn (q := 0) (by decide +kernel) rfl) <|
  fc (ok_aldn (q := 2) (by decide +kernel) rfl) <|
  fc (ok_pr mk_X11_rule (fo_RX11_89 rfl) to_11_12 (fun _ => rfl) (fun _ => rfl) rfl (by decide +kernel)) <|
  fc (ok_iconst (n := 0) (by decide +kernel) (by decide +kernel)) <|
  fc (ok_iret rfl (by decide +kernel)) <| fn
def T_X11_one : List (Nat × Op) := [(0, op_ald 0 1), (1, op_gf 11 2 5), (4, op_ild 1 1), (5, op_cv M_X2_has 2 1), (8, op_ifne 19), (14, op_dup), (19, op_ild 2 1), (20, op_sw 108 [(0, 56), (1, 66), (2, 76), (3, 86), (4, 95)]), (56, op_ald 0 1), (57, op_gf 11 2 5), (60, op_gf 2 0 1), (63, op_ild 1 1), (64, op_iald), (65, op_iret), (66, op_ald 0 1), (67, op_gf 11 2 5), (70, op_gf 2 1 2), (73, op_ild 1 1), (74, op_iald), (75, op_iret), (76, op_ald 0 1), (77, op_gf 11 2 5), (80, op_gf 2 2 3), (83, op_ild 1 1), (84, op_iald), (85, op_iret), (86, op_ald 0 1), (87, op_gf 11 2 5), (90, op_ild 1 1), (91, op_cv M_X2_held 2 1), (94, op_iret), (95, op_ald 0 1), (96, op_gf 11 2 5), (99, op_ald 0 1), (100, op_gr 11 11), (103, op_ild 1 1), (104, op_cv M_X2_sayable 2 2), (107, op_iret), (111, op_dup)]
set_option maxRecDepth 20000 in
theorem K_X11_one : ∀ r ∈ T_X11_one, OpOK M_X11_one r.1 r.2 :=
  fc (ok_aldn (q := 0) (by decide +kernel) rfl) <|
  fc (ok_gf mk_X11_one (fo_RX11_26 rfl) rfl (by decide +kernel)) <|
  fc (ok_ildn (q := 1) (by decide +kernel) rfl) <|
  fc (ok_cv mk_X11_one mk_X2_has ⟨uw396, uw397, uw398, uw23, by decide +kernel⟩ (T := TX2) (N := 8) rfl (by decide +kernel)) <|
  fc (ok_ifne (off := 11) (by decide +kernel) (by decide)) <|
  fc (ok_dup (by decide +kernel)) <|
  fc (ok_ildn (q := 2) (by decide +kernel) rfl) <|
  fc (ok_tsw (dflt := 88) (lo := 0) (hi := 4) (offs := #[36, 46, 56, 66, 75]) (len := 36) (by decide +kernel) (by decide +kernel) (by decide +kernel) (by decide) (by decide)) <|
  fc (ok_aldn (q := 0) (by decide +kernel) rfl) <|
  fc (ok_gf mk_X11_one (fo_RX11_26 rfl) rfl (by decide +kernel)) <|
  fc (ok_gf mk_X11_one (fo_RX11_123 rfl) rfl (by decide +kernel)) <|
  fc (ok_ildn (q := 1) (by decide +kernel) rfl) <|
  fc (ok_iald (by decide +kernel)) <|
  fc (ok_iret rfl (by decide +kernel)) <|
  fc (ok_aldn (q := 0) (by decide +kernel) rfl) <|
  fc (ok_gf mk_X11_one (fo_RX11_26 rfl) rfl (by decide +kernel)) <|
  fc (ok_gf mk_X11_one (fo_RX11_127 rfl) rfl (by decide +kernel)) <|
  fc (ok_ildn (q := 1) (by decide +kernel) rfl) <|
  fc (ok_iald (by decide +kernel)) <|
  fc (ok_iret rfl (by decide +kernel)) <|
  fc (ok_aldn (q := 0) (by decide +kernel) rfl) <|
  fc (ok_gf mk_X11_one (fo_RX11_26 rfl) rfl (by decide +kernel)) <|
  fc (ok_gf mk_X11_one (fo_RX11_130 rfl) rfl (by decide +kernel)) <|
  fc (ok_ildn (q := 1) (by decide +kernel) rfl) <|
  fc (ok_iald (by decide +kernel)) <|
  fc (ok_iret rfl (by decide +kernel)) <|
  fc (ok_aldn (q := 0) (by decide +kernel) rfl) <|
  fc (ok_gf mk_X11_one (fo_RX11_26 rfl) rfl (by decide +kernel)) <|
  fc (ok_ildn (q := 1) (by decide +kernel) rfl) <|
  fc (ok_cv mk_X11_one mk_X2_held ⟨uw400, uw401, uw402, uw23, by decide +kernel⟩ (T := TX2) (N := 8) rfl (by decide +kernel)) <|
  fc (ok_iret rfl (by decide +kernel)) <|
  fc (ok_aldn (q := 0) (by decide +kernel) rfl) <|
  fc (ok_gf mk_X11_one (fo_RX11_26 rfl) rfl (by decide +kernel)) <|
  fc (ok_aldn (q := 0) (by decide +kernel) rfl) <|
  fc (ok_gr mk_X11_one (fo_RX11_85 rfl) rfl (by decide +kernel)) <|
  fc (ok_ildn (q := 1) (by decide +kernel) rfl) <|
  fc (ok_cv mk_X11_one mk_X2_sayable ⟨uw404, uw405, uw406, uw23, by decide +kernel⟩ (T := TX2) (N := 8) rfl (by decide +kernel)) <|
  fc (ok_iret rfl (by decide +kernel)) <|
  fc (ok_dup (by decide +kernel)) <| fn
def T_X11_name : List (Nat × Op) := [(0, op_ald 0 1), (1, op_gf 11 2 5), (4, op_ild 1 1), (5, op_cv M_X2_has 2 1), (8, op_ifne 19), (14, op_dup), (19, op_ild 2 1), (20, op_sw 103 [(0, 52), (1, 62), (2, 72), (3, 85)]), (52, op_ald 0 1), (53, op_gf 11 2 5), (56, op_gf 2 3 4), (59, op_ild 1 1), (60, op_iald), (61, op_iret), (62, op_ald 0 1), (63, op_gf 11 2 5), (66, op_gf 2 4 5), (69, op_ild 1 1), (70, op_iald), (71, op_iret), (72, op_ald 0 1), (73, op_gf 11 2 5), (76, op_ald 0 1), (77, op_gr 11 11), (80, op_ild 1 1), (81, op_cv M_X2_sayers 2 2), (84, op_iret), (85, op_ald 0 1), (86, op_gf 11 2 5), (89, op_ald 0 1), (90, op_gf 11 2 5), (93, op_gf 2 3 4), (96, op_ild 1 1), (97, op_iald), (98, op_ild 1 1), (99, op_cv M_X2_far 2 2), (102, op_iret), (106, op_dup)]
set_option maxRecDepth 20000 in
theorem K_X11_name : ∀ r ∈ T_X11_name, OpOK M_X11_name r.1 r.2 :=
  fc (ok_aldn (q := 0) (by decide +kernel) rfl) <|
  fc (ok_gf mk_X11_name (fo_RX11_26 rfl) rfl (by decide +kernel)) <|
  fc (ok_ildn (q := 1) (by decide +kernel) rfl) <|
  fc (ok_cv mk_X11_name mk_X2_has ⟨uw396, uw397, uw398, uw23, by decide +kernel⟩ (T := TX2) (N := 8) rfl (by decide +kernel)) <|
  fc (ok_ifne (off := 11) (by decide +kernel) (by decide)) <|
  fc (ok_dup (by decide +kernel)) <|
  fc (ok_ildn (q := 2) (by decide +kernel) rfl) <|
  fc (ok_tsw (dflt := 83) (lo := 0) (hi := 3) (offs := #[32, 42, 52, 65]) (len := 32) (by decide +kernel) (by decide +kernel) (by decide +kernel) (by decide) (by decide)) <|
  fc (ok_aldn (q := 0) (by decide +kernel) rfl) <|
  fc (ok_gf mk_X11_name (fo_RX11_26 rfl) rfl (by decide +kernel)) <|
  fc (ok_gf mk_X11_name (fo_RX11_141 rfl) rfl (by decide +kernel)) <|
  fc (ok_ildn (q := 1) (by decide +kernel) rfl) <|
  fc (ok_iald (by decide +kernel)) <|
  fc (ok_iret rfl (by decide +kernel)) <|
  fc (ok_aldn (q := 0) (by decide +kernel) rfl) <|
  fc (ok_gf mk_X11_name (fo_RX11_26 rfl) rfl (by decide +kernel)) <|
  fc (ok_gf mk_X11_name (fo_RX11_144 rfl) rfl (by decide +kernel)) <|
  fc (ok_ildn (q := 1) (by decide +kernel) rfl) <|
  fc (ok_iald (by decide +kernel)) <|
  fc (ok_iret rfl (by decide +kernel)) <|
  fc (ok_aldn (q := 0) (by decide +kernel) rfl) <|
  fc (ok_gf mk_X11_name (fo_RX11_26 rfl) rfl (by decide +kernel)) <|
  fc (ok_aldn (q := 0) (by decide +kernel) rfl) <|
  fc (ok_gr mk_X11_name (fo_RX11_85 rfl) rfl (by decide +kernel)) <|
  fc (ok_ildn (q := 1) (by decide +kernel) rfl) <|
  fc (ok_cv mk_X11_name mk_X2_sayers ⟨uw480, uw481, uw482, uw23, by decide +kernel⟩ (T := TX2) (N := 8) rfl (by decide +kernel)) <|
  fc (ok_iret rfl (by decide +kernel)) <|
  fc (ok_aldn (q := 0) (by decide +kernel) rfl) <|
  fc (ok_gf mk_X11_name (fo_RX11_26 rfl) rfl (by decide +kernel)) <|
  fc (ok_aldn (q := 0) (by decide +kernel) rfl) <|
  fc (ok_gf mk_X11_name (fo_RX11_26 rfl) rfl (by decide +kernel)) <|
  fc (ok_gf mk_X11_name (fo_RX11_141 rfl) rfl (by decide +kernel)) <|
  fc (ok_ildn (q := 1) (by decide +kernel) rfl) <|
  fc (ok_iald (by decide +kernel)) <|
  fc (ok_ildn (q := 1) (by decide +kernel) rfl) <|
  fc (ok_cv mk_X11_name mk_X2_far ⟨uw484, uw485, uw486, uw23, by decide +kernel⟩ (T := TX2) (N := 8) rfl (by decide +kernel)) <|
  fc (ok_iret rfl (by decide +kernel)) <|
  fc (ok_dup (by decide +kernel)) <| fn
def T_X11_sheet : List (Nat × Op) := [(0, op_ild 1 1), (1, op_iflt 15), (4, op_ild 1 1), (5, op_ic 3 1), (6, op_icgt 15), (9, op_ild 2 1), (10, op_ic 7 2), (12, op_icle 17), (15, op_ic (-1) 1), (16, op_iret), (17, op_ild 1 1), (18, op_ic 3 1), (19, op_icne 34), (22, op_ald 0 1), (23, op_ild 1 1), (24, op_ic 0 1), (25, op_ild 3 1), (26, op_ild 4 2), (28, op_cv M_X11_fillPurses 11 4), (31, op_ic (-3) 2), (33, op_iret), (34, op_ild 2 1), (35, op_ifge 41), (38, op_ic (-2) 2), (40, op_iret), (41, op_ald 0 1), (42, op_ild 1 1), (43, op_ild 2 1), (44, op_ild 3 1), (45, op_ild 4 2), (47, op_cv M_X11_fillPurses 11 4), (50, op_ald 0 1), (51, op_gf 11 2 5), (54, op_cv M_X2_purses 2 0), (57, op_iret)]
set_option maxRecDepth 20000 in
theorem K_X11_sheet : ∀ r ∈ T_X11_sheet, OpOK M_X11_sheet r.1 r.2 :=
  fc (ok_ildn (q := 1) (by decide +kernel) rfl) <|
  fc (ok_iflt (off := 14) (by decide +kernel) (by decide)) <|
  fc (ok_ildn (q := 1) (by decide +kernel) rfl) <|
  fc (ok_iconst (n := 3) (by decide +kernel) (by decide +kernel)) <|
  fc (ok_icgt (off := 9) (by decide +kernel) (by decide)) <|
  fc (ok_ildn (q := 2) (by decide +kernel) rfl) <|
  fc (ok_bipush (n := 7) (by decide +kernel) (by decide +kernel)) <|
  fc (ok_icle (off := 5) (by decide +kernel) (by decide)) <|
  fc (ok_iconst (n := -1) (by decide +kernel) (by decide +kernel)) <|
  fc (ok_iret rfl (by decide +kernel)) <|
  fc (ok_ildn (q := 1) (by decide +kernel) rfl) <|
  fc (ok_iconst (n := 3) (by decide +kernel) (by decide +kernel)) <|
  fc (ok_icne (off := 15) (by decide +kernel) (by decide)) <|
  fc (ok_aldn (q := 0) (by decide +kernel) rfl) <|
  fc (ok_ildn (q := 1) (by decide +kernel) rfl) <|
  fc (ok_iconst (n := 0) (by decide +kernel) (by decide +kernel)) <|
  fc (ok_ildn (q := 3) (by decide +kernel) rfl) <|
  fc (ok_ild (by decide +kernel)) <|
  fc (ok_cv mk_X11_sheet mk_X11_fillPurses ⟨uw501, uw502, uw503, uw2, by decide +kernel⟩ (T := TX11) (N := 13) rfl (by decide +kernel)) <|
  fc (ok_bipush (n := -3) (by decide +kernel) (by decide +kernel)) <|
  fc (ok_iret rfl (by decide +kernel)) <|
  fc (ok_ildn (q := 2) (by decide +kernel) rfl) <|
  fc (ok_ifge (off := 6) (by decide +kernel) (by decide)) <|
  fc (ok_bipush (n := -2) (by decide +kernel) (by decide +kernel)) <|
  fc (ok_iret rfl (by decide +kernel)) <|
  fc (ok_aldn (q := 0) (by decide +kernel) rfl) <|
  fc (ok_ildn (q := 1) (by decide +kernel) rfl) <|
  fc (ok_ildn (q := 2) (by decide +kernel) rfl) <|
  fc (ok_ildn (q := 3) (by decide +kernel) rfl) <|
  fc (ok_ild (by decide +kernel)) <|
  fc (ok_cv mk_X11_sheet mk_X11_fillPurses ⟨uw501, uw502, uw503, uw2, by decide +kernel⟩ (T := TX11) (N := 13) rfl (by decide +kernel)) <|
  fc (ok_aldn (q := 0) (by decide +kernel) rfl) <|
  fc (ok_gf mk_X11_sheet (fo_RX11_26 rfl) rfl (by decide +kernel)) <|
  fc (ok_cv mk_X11_sheet mk_X2_purses ⟨uw508, uw509, uw510, uw23, by decide +kernel⟩ (T := TX2) (N := 8) rfl (by decide +kernel)) <|
  fc (ok_iret rfl (by decide +kernel)) <| fn
def T_X11_fillPurses : List (Nat × Op) := [(0, op_ic 0 1), (1, op_ist 5 2), (3, op_ild 5 2), (5, op_ald 0 1), (6, op_gf 11 2 5), (9, op_gi 2 5), (12, op_icge 83), (15, op_ild 5 2), (17, op_ild 2 1), (18, op_icge 31), (21, op_ild 3 1), (22, op_ild 5 2), (24, op_ild 4 2), (26, op_imul), (27, op_iadd), (28, op_goto 32), (31, op_ic 0 1), (32, op_ist 6 2), (34, op_ild 1 1), (35, op_ifne 46), (38, op_ild 6 2), (40, op_i2b), (41, op_ist 6 2), (43, op_goto 56), (46, op_ild 1 1), (47, op_ic 1 1), (48, op_icne 56), (51, op_ild 6 2), (53, op_i2s), (54, op_ist 6 2), (56, op_ald 0 1), (57, op_gf 11 2 5), (60, op_gf 2 2 3), (63, op_ild 5 2), (65, op_ic 0 1), (66, op_ic 99 2), (68, op_ild 6 2), (70, op_min), (73, op_max), (76, op_iast), (77, op_iinc 5 1), (80, op_goto 3), (83, op_vret)]
set_option maxRecDepth 20000 in
theorem K_X11_fillPurses : ∀ r ∈ T_X11_fillPurses, OpOK M_X11_fillPurses r.1 r.2 :=
  fc (ok_iconst (n := 0) (by decide +kernel) (by decide +kernel)) <|
  fc (ok_ist (by decide +kernel) (by decide)) <|
  fc (ok_ild (by decide +kernel)) <|
  fc (ok_aldn (q := 0) (by decide +kernel) rfl) <|
  fc (ok_gf mk_X11_fillPurses (fo_RX11_26 rfl) rfl (by decide +kernel)) <|
  fc (ok_gi mk_X11_fillPurses (fo_RX11_250 rfl) rfl (by decide +kernel)) <|
  fc (ok_icge (off := 71) (by decide +kernel) (by decide)) <|
  fc (ok_ild (by decide +kernel)) <|
  fc (ok_ildn (q := 2) (by decide +kernel) rfl) <|
  fc (ok_icge (off := 13) (by decide +kernel) (by decide)) <|
  fc (ok_ildn (q := 3) (by decide +kernel) rfl) <|
  fc (ok_ild (by decide +kernel)) <|
  fc (ok_ild (by decide +kernel)) <|
  fc (ok_imul (by decide +kernel)) <|
  fc (ok_iadd (by decide +kernel)) <|
  fc (ok_goto (off := 4) (by decide +kernel) (by decide)) <|
  fc (ok_iconst (n := 0) (by decide +kernel) (by decide +kernel)) <|
  fc (ok_ist (by decide +kernel) (by decide)) <|
  fc (ok_ildn (q := 1) (by decide +kernel) rfl) <|
  fc (ok_ifne (off := 11) (by decide +kernel) (by decide)) <|
  fc (ok_ild (by decide +kernel)) <|
  fc (ok_i2b (by decide +kernel)) <|
  fc (ok_ist (by decide +kernel) (by decide)) <|
  fc (ok_goto (off := 13) (by decide +kernel) (by decide)) <|
  fc (ok_ildn (q := 1) (by decide +kernel) rfl) <|
  fc (ok_iconst (n := 1) (by decide +kernel) (by decide +kernel)) <|
  fc (ok_icne (off := 8) (by decide +kernel) (by decide)) <|
  fc (ok_ild (by decide +kernel)) <|
  fc (ok_i2s (by decide +kernel)) <|
  fc (ok_ist (by decide +kernel) (by decide)) <|
  fc (ok_aldn (q := 0) (by decide +kernel) rfl) <|
  fc (ok_gf mk_X11_fillPurses (fo_RX11_26 rfl) rfl (by decide +kernel)) <|
  fc (ok_gf mk_X11_fillPurses (fo_RX11_130 rfl) rfl (by decide +kernel)) <|
  fc (ok_ild (by decide +kernel)) <|
  fc (ok_iconst (n := 0) (by decide +kernel) (by decide +kernel)) <|
  fc (ok_bipush (n := 99) (by decide +kernel) (by decide +kernel)) <|
  fc (ok_ild (by decide +kernel)) <|
  fc (ok_min mk_X11_fillPurses uw210 uw211 uw212 uw213 (by decide +kernel)) <|
  fc (ok_max mk_X11_fillPurses uw505 uw506 uw212 uw507 (by decide +kernel)) <|
  fc (ok_iast (by decide +kernel)) <|
  fc (ok_iinc (n := 1) (by decide +kernel) (by decide +kernel) (by decide)) <|
  fc (ok_goto (off := -77) (by decide +kernel) (by decide)) <|
  fc (ok_vret rfl (by decide +kernel)) <| fn
def T_X11_says : List (Nat × Op) := [(0, op_ald 0 1), (1, op_gf 11 5 18), (4, op_ald 0 1), (5, op_gf 11 2 5), (8, op_cv M_X3_marks 3 1), (11, op_ald 0 1), (12, op_ald 0 1), (13, op_gf 11 2 5), (16, op_ald 0 1), (17, op_gr 11 11), (20, op_ild 1 1), (21, op_ild 2 1), (22, op_cv M_X2_saidBy 2 3), (25, op_cv M_X11_keepDone 11 1), (28, op_iret)]
set_option maxRecDepth 20000 in
theorem K_X11_says : ∀ r ∈ T_X11_says, OpOK M_X11_says r.1 r.2 :=
  fc (ok_aldn (q := 0) (by decide +kernel) rfl) <|
  fc (ok_gf mk_X11_says (fo_RX11_43 rfl) rfl (by decide +kernel)) <|
  fc (ok_aldn (q := 0) (by decide +kernel) rfl) <|
  fc (ok_gf mk_X11_says (fo_RX11_26 rfl) rfl (by decide +kernel)) <|
  fc (ok_cv mk_X11_says mk_X3_marks ⟨uw530, uw531, uw532, uw32, by decide +kernel⟩ (T := TX3) (N := 4) rfl (by decide +kernel)) <|
  fc (ok_aldn (q := 0) (by decide +kernel) rfl) <|
  fc (ok_aldn (q := 0) (by decide +kernel) rfl) <|
  fc (ok_gf mk_X11_says (fo_RX11_26 rfl) rfl (by decide +kernel)) <|
  fc (ok_aldn (q := 0) (by decide +kernel) rfl) <|
  fc (ok_gr mk_X11_says (fo_RX11_85 rfl) rfl (by decide +kernel)) <|
  fc (ok_ildn (q := 1) (by decide +kernel) rfl) <|
  fc (ok_ildn (q := 2) (by decide +kernel) rfl) <|
  fc (ok_cv mk_X11_says mk_X2_saidBy ⟨uw545, uw546, uw547, uw23, by decide +kernel⟩ (T := TX2) (N := 8) rfl (by decide +kernel)) <|
  fc (ok_cv mk_X11_says mk_X11_keepDone ⟨uw555, uw556, uw557, uw2, by decide +kernel⟩ (T := TX11) (N := 13) rfl (by decide +kernel)) <|
  fc (ok_iret rfl (by decide +kernel)) <| fn
def T_X11_keepDone : List (Nat × Op) := [(0, op_ild 1 1), (1, op_iflt 11), (4, op_ald 0 1), (5, op_gf 11 5 18), (8, op_cv M_X3_keepMarked 3 0), (11, op_ild 1 1), (12, op_iret)]
set_option maxRecDepth 20000 in
theorem K_X11_keepDone : ∀ r ∈ T_X11_keepDone, OpOK M_X11_keepDone r.1 r.2 :=
  fc (ok_ildn (q := 1) (by decide +kernel) rfl) <|
  fc (ok_iflt (off := 10) (by decide +kernel) (by decide)) <|
  fc (ok_aldn (q := 0) (by decide +kernel) rfl) <|
  fc (ok_gf mk_X11_keepDone (fo_RX11_43 rfl) rfl (by decide +kernel)) <|
  fc (ok_cv mk_X11_keepDone mk_X3_keepMarked ⟨uw559, uw560, uw561, uw32, by decide +kernel⟩ (T := TX3) (N := 4) rfl (by decide +kernel)) <|
  fc (ok_ildn (q := 1) (by decide +kernel) rfl) <|
  fc (ok_iret rfl (by decide +kernel)) <| fn
def T_X11_signs : List (Nat × Op) := [(0, op_ald 0 1), (1, op_gf 11 5 18), (4, op_ald 0 1), (5, op_gf 11 2 5), (8, op_cv M_X3_marks 3 1), (11, op_ald 0 1), (12, op_ald 0 1), (13, op_gf 11 2 5), (16, op_ild 1 1), (17, op_ild 2 1), (18, op_cv M_X2_signedFor 2 2), (21, op_cv M_X11_keepDone 11 1), (24, op_iret)]
set_option maxRecDepth 20000 in
theorem K_X11_signs : ∀ r ∈ T_X11_signs, OpOK M_X11_signs r.1 r.2 :=
  fc (ok_aldn (q := 0) (by decide +kernel) rfl) <|
  fc (ok_gf mk_X11_signs (fo_RX11_43 rfl) rfl (by decide +kernel)) <|
  fc (ok_aldn (q := 0) (by decide +kernel) rfl) <|
  fc (ok_gf mk_X11_signs (fo_RX11_26 rfl) rfl (by decide +kernel)) <|
  fc (ok_cv mk_X11_signs mk_X3_marks ⟨uw530, uw531, uw532, uw32, by decide +kernel⟩ (T := TX3) (N := 4) rfl (by decide +kernel)) <|
  fc (ok_aldn (q := 0) (by decide +kernel) rfl) <|
  fc (ok_aldn (q := 0) (by decide +kernel) rfl) <|
  fc (ok_gf mk_X11_signs (fo_RX11_26 rfl) rfl (by decide +kernel)) <|
  fc (ok_ildn (q := 1) (by decide +kernel) rfl) <|
  fc (ok_ildn (q := 2) (by decide +kernel) rfl) <|
  fc (ok_cv mk_X11_signs mk_X2_signedFor ⟨uw586, uw587, uw588, uw23, by decide +kernel⟩ (T := TX2) (N := 8) rfl (by decide +kernel)) <|
  fc (ok_cv mk_X11_signs mk_X11_keepDone ⟨uw555, uw556, uw557, uw2, by decide +kernel⟩ (T := TX11) (N := 13) rfl (by decide +kernel)) <|
  fc (ok_iret rfl (by decide +kernel)) <| fn
def T_X11_moves : List (Nat × Op) := [(0, op_ald 0 1), (1, op_gf 11 5 18), (4, op_ald 0 1), (5, op_gf 11 2 5), (8, op_cv M_X3_marks 3 1), (11, op_ald 0 1), (12, op_ald 0 1), (13, op_gf 11 2 5), (16, op_ild 1 1), (17, op_ild 2 1), (18, op_cv M_X2_movedTo 2 2), (21, op_cv M_X11_keepDone 11 1), (24, op_iret)]
set_option maxRecDepth 20000 in
theorem K_X11_moves : ∀ r ∈ T_X11_moves, OpOK M_X11_moves r.1 r.2 :=
  fc (ok_aldn (q := 0) (by decide +kernel) rfl) <|
  fc (ok_gf mk_X11_moves (fo_RX11_43 rfl) rfl (by decide +kernel)) <|
  fc (ok_aldn (q := 0) (by decide +kernel) rfl) <|
  fc (ok_gf mk_X11_moves (fo_RX11_26 rfl) rfl (by decide +kernel)) <|
  fc (ok_cv mk_X11_moves mk_X3_marks ⟨uw530, uw531, uw532, uw32, by decide +kernel⟩ (T := TX3) (N := 4) rfl (by decide +kernel)) <|
  fc (ok_aldn (q := 0) (by decide +kernel) rfl) <|
  fc (ok_aldn (q := 0) (by decide +kernel) rfl) <|
  fc (ok_gf mk_X11_moves (fo_RX11_26 rfl) rfl (by decide +kernel)) <|
  fc (ok_ildn (q := 1) (by decide +kernel) rfl) <|
  fc (ok_ildn (q := 2) (by decide +kernel) rfl) <|
  fc (ok_cv mk_X11_moves mk_X2_movedTo ⟨uw606, uw607, uw608, uw23, by decide +kernel⟩ (T := TX2) (N := 8) rfl (by decide +kernel)) <|
  fc (ok_cv mk_X11_moves mk_X11_keepDone ⟨uw555, uw556, uw557, uw2, by decide +kernel⟩ (T := TX11) (N := 13) rfl (by decide +kernel)) <|
  fc (ok_iret rfl (by decide +kernel)) <| fn
def T_X11_calls : List (Nat × Op) := [(0, op_ald 0 1), (1, op_gf 11 5 18), (4, op_ald 0 1), (5, op_gf 11 2 5), (8, op_cv M_X3_marks 3 1), (11, op_ald 0 1), (12, op_ald 0 1), (13, op_gf 11 2 5), (16, op_ald 0 1), (17, op_gr 11 11), (20, op_ild 1 1), (21, op_cv M_X2_rollCalled 2 2), (24, op_cv M_X11_keepDone 11 1), (27, op_iret)]
set_option maxRecDepth 20000 in
theorem K_X11_calls : ∀ r ∈ T_X11_calls, OpOK M_X11_calls r.1 r.2 :=
  fc (ok_aldn (q := 0) (by decide +kernel) rfl) <|
  fc (ok_gf mk_X11_calls (fo_RX11_43 rfl) rfl (by decide +kernel)) <|
  fc (ok_aldn (q := 0) (by decide +kernel) rfl) <|
  fc (ok_gf mk_X11_calls (fo_RX11_26 rfl) rfl (by decide +kernel)) <|
  fc (ok_cv mk_X11_calls mk_X3_marks ⟨uw530, uw531, uw532, uw32, by decide +kernel⟩ (T := TX3) (N := 4) rfl (by decide +kernel)) <|
  fc (ok_aldn (q := 0) (by decide +kernel) rfl) <|
  fc (ok_aldn (q := 0) (by decide +kernel) rfl) <|
  fc (ok_gf mk_X11_calls (fo_RX11_26 rfl) rfl (by decide +kernel)) <|
  fc (ok_aldn (q := 0) (by decide +kernel) rfl) <|
  fc (ok_gr mk_X11_calls (fo_RX11_85 rfl) rfl (by decide +kernel)) <|
  fc (ok_ildn (q := 1) (by decide +kernel) rfl) <|
  fc (ok_cv mk_X11_calls mk_X2_rollCalled ⟨uw622, uw623, uw624, uw23, by decide +kernel⟩ (T := TX2) (N := 8) rfl (by decide +kernel)) <|
  fc (ok_cv mk_X11_calls mk_X11_keepDone ⟨uw555, uw556, uw557, uw2, by decide +kernel⟩ (T := TX11) (N := 13) rfl (by decide +kernel)) <|
  fc (ok_iret rfl (by decide +kernel)) <| fn
def T_X11_days : List (Nat × Op) := [(0, op_ild 1 1), (1, op_iflt 10), (4, op_ild 1 1), (5, op_ic 60 2), (7, op_icle 12), (10, op_ic (-1) 1), (11, op_iret), (12, op_ald 0 1), (13, op_gf 11 5 18), (16, op_ald 0 1), (17, op_gf 11 2 5), (20, op_cv M_X3_marks 3 1), (23, op_ald 0 1), (24, op_gf 11 2 5), (27, op_gi 2 7), (30, op_ist 2 1), (31, op_ald 0 1), (32, op_gf 11 2 5), (35, op_ald 0 1), (36, op_gr 11 11), (39, op_ild 1 1), (40, op_ic (-1) 1), (41, op_cv M_X2_passDays 2 3), (44, op_ild 1 1), (45, op_ifle 55), (48, op_ald 0 1), (49, op_gf 11 5 18), (52, op_cv M_X3_keepMarked 3 0), (55, op_ald 0 1), (56, op_gf 11 1 3), (59, op_ald 0 1), (60, op_gf 11 2 5), (63, op_gi 2 7), (66, op_ild 2 1), (67, op_isub), (68, op_i2l), (69, op_ald 0 1), (70, op_gf 11 2 5), (73, op_cv M_X2_purses 2 0), (76, op_i2l), (77, op_cv M_X9_tells_ 9 2), (80, op_ald 0 1), (81, op_gf 11 2 5), (84, op_cv M_X2_homes 2 0), (87, op_iret)]
set_option maxRecDepth 20000 in
theorem K_X11_days : ∀ r ∈ T_X11_days, OpOK M_X11_days r.1 r.2 :=
  fc (ok_ildn (q := 1) (by decide +kernel) rfl) <|
  fc (ok_iflt (off := 9) (by decide +kernel) (by decide)) <|
  fc (ok_ildn (q := 1) (by decide +kernel) rfl) <|
  fc (ok_bipush (n := 60) (by decide +kernel) (by decide +kernel)) <|
  fc (ok_icle (off := 5) (by decide +kernel) (by decide)) <|
  fc (ok_iconst (n := -1) (by decide +kernel) (by decide +kernel)) <|
  fc (ok_iret rfl (by decide +kernel)) <|
  fc (ok_aldn (q := 0) (by decide +kernel) rfl) <|
  fc (ok_gf mk_X11_days (fo_RX11_43 rfl) rfl (by decide +kernel)) <|
  fc (ok_aldn (q := 0) (by decide +kernel) rfl) <|
  fc (ok_gf mk_X11_days (fo_RX11_26 rfl) rfl (by decide +kernel)) <|
  fc (ok_cv mk_X11_days mk_X3_marks ⟨uw530, uw531, uw532, uw32, by decide +kernel⟩ (T := TX3) (N := 4) rfl (by decide +kernel)) <|
  fc (ok_aldn (q := 0) (by decide +kernel) rfl) <|
  fc (ok_gf mk_X11_days (fo_RX11_26 rfl) rfl (by decide +kernel)) <|
  fc (ok_gi mk_X11_days (fo_RX11_181 rfl) rfl (by decide +kernel)) <|
  fc (ok_istn (q := 2) (by decide +kernel) rfl (by decide)) <|
  fc (ok_aldn (q := 0) (by decide +kernel) rfl) <|
  fc (ok_gf mk_X11_days (fo_RX11_26 rfl) rfl (by decide +kernel)) <|
  fc (ok_aldn (q := 0) (by decide +kernel) rfl) <|
  fc (ok_gr mk_X11_days (fo_RX11_85 rfl) rfl (by decide +kernel)) <|
  fc (ok_ildn (q := 1) (by decide +kernel) rfl) <|
  fc (ok_iconst (n := -1) (by decide +kernel) (by decide +kernel)) <|
  fc (ok_cv mk_X11_days mk_X2_passDays ⟨uw643, uw644, uw645, uw23, by decide +kernel⟩ (T := TX2) (N := 8) rfl (by decide +kernel)) <|
  fc (ok_ildn (q := 1) (by decide +kernel) rfl) <|
  fc (ok_ifle (off := 10) (by decide +kernel) (by decide)) <|
  fc (ok_aldn (q := 0) (by decide +kernel) rfl) <|
  fc (ok_gf mk_X11_days (fo_RX11_43 rfl) rfl (by decide +kernel)) <|
  fc (ok_cv mk_X11_days mk_X3_keepMarked ⟨uw559, uw560, uw561, uw32, by decide +kernel⟩ (T := TX3) (N := 4) rfl (by decide +kernel)) <|
  fc (ok_aldn (q := 0) (by decide +kernel) rfl) <|
  fc (ok_gf mk_X11_days (fo_RX11_19 rfl) rfl (by decide +kernel)) <|
  fc (ok_aldn (q := 0) (by decide +kernel) rfl) <|
  fc (ok_gf mk_X11_days (fo_RX11_26 rfl) rfl (by decide +kernel)) <|
  fc (ok_gi mk_X11_days (fo_RX11_181 rfl) rfl (by decide +kernel)) <|
  fc (ok_ildn (q := 2) (by decide +kernel) rfl) <|
  fc (ok_isub (by decide +kernel)) <|
  fc (ok_i2l (by decide +kernel)) <|
  fc (ok_aldn (q := 0) (by decide +kernel) rfl) <|
  fc (ok_gf mk_X11_days (fo_RX11_26 rfl) rfl (by decide +kernel)) <|
  fc (ok_cv mk_X11_days mk_X2_purses ⟨uw508, uw509, uw510, uw23, by decide +kernel⟩ (T := TX2) (N := 8) rfl (by decide +kernel)) <|
  fc (ok_i2l (by decide +kernel)) <|
  fc (ok_cv mk_X11_days mk_X9_tells_ ⟨uw651, uw652, uw653, uw19, by decide +kernel⟩ (T := TX9) (N := 2) rfl (by decide +kernel)) <|
  fc (ok_aldn (q := 0) (by decide +kernel) rfl) <|
  fc (ok_gf mk_X11_days (fo_RX11_26 rfl) rfl (by decide +kernel)) <|
  fc (ok_cv mk_X11_days mk_X2_homes ⟨uw660, uw661, uw662, uw23, by decide +kernel⟩ (T := TX2) (N := 8) rfl (by decide +kernel)) <|
  fc (ok_iret rfl (by decide +kernel)) <| fn
def T_X11_week : List (Nat × Op) := [(0, op_ald 0 1), (1, op_cv M_X11_weekWrongAt 11 0), (4, op_ist 1 1), (5, op_ild 1 1), (6, op_ic (-1) 1), (7, op_iceq 22), (10, op_ald 0 1), (11, op_gf 11 0 1), (14, op_ic 0 1), (15, op_pi 8 1), (18, op_ic (-1) 1), (19, op_ild 1 1), (20, op_isub), (21, op_iret), (22, op_ald 0 1), (23, op_gf 11 5 18), (26, op_ald 0 1), (27, op_gf 11 2 5), (30, op_cv M_X3_marks 3 1), (33, op_ic 0 1), (34, op_ist 2 1), (35, op_ic 0 1), (36, op_ist 3 1), (37, op_ic 0 1), (38, op_ist 4 2), (40, op_ild 4 2), (42, op_ald 0 1), (43, op_gf 11 0 1), (46, op_gi 8 1), (49, op_icge 105), (52, op_ild 3 1), (53, op_ifne 105), (56, op_ald 0 1), (57, op_ild 4 2), (59, op_cv M_X11_act 11 1), (62, op_ifge 69), (65, op_ic 1 1), (66, op_goto 70), (69, op_ic 0 1), (70, op_ist 3 1), (71, op_ild 2 1), (72, op_ild 3 1), (73, op_ifeq 80), (76, op_ic 0 1), (77, op_goto 81), (80, op_ic 1 1), (81, op_iadd), (82, op_ist 2 1), (83, op_ild 4 2), (85, op_ic 1 1), (86, op_ald 0 1), (87, op_gf 11 0 1), (90, op_ild 4 2), (92, op_cv M_X8_at 8 1), (95, op_cs M_X11_actDigits 1), (98, op_iadd), (99, op_iadd), (100, op_ist 4 2), (102, op_goto 40), (105, op_ald 0 1), (106, op_gf 11 0 1), (109, op_ic 0 1), (110, op_pi 8 1), (113, op_ild 2 1), (114, op_ifle 124), (117, op_ald 0 1), (118, op_gf 11 5 18), (121, op_cv M_X3_keepMarked 3 0), (124, op_ald 0 1), (125, op_gf 11 1 3), (128, op_ild 3 1), (129, op_ifeq 136), (132, op_lc 1 1), (133, op_goto 137), (136, op_lc 0 1), (137, op_ald 0 1), (138, op_gf 11 2 5), (141, op_gi 2 7), (144, op_i2l), (145, op_cv M_X9_tells_ 9 2), (148, op_ild 2 1), (149, op_iret)]
set_option maxRecDepth 20000 in
theorem K_X11_week : ∀ r ∈ T_X11_week, OpOK M_X11_week r.1 r.2 :=
  fc (ok_aldn (q := 0) (by decide +kernel) rfl) <|
  fc (ok_cv mk_X11_week mk_X11_weekWrongAt ⟨uw689, uw690, uw691, uw2, by decide +kernel⟩ (T := TX11) (N := 13) rfl (by decide +kernel)) <|
  fc (ok_istn (q := 1) (by decide +kernel) rfl (by decide)) <|
  fc (ok_ildn (q := 1) (by decide +kernel) rfl) <|
  fc (ok_iconst (n := -1) (by decide +kernel) (by decide +kernel)) <|
  fc (ok_iceq (off := 15) (by decide +kernel) (by decide)) <|
  fc (ok_aldn (q := 0) (by decide +kernel) rfl) <|
  fc (ok_gf mk_X11_week (fo_RX11_10 rfl) rfl (by decide +kernel)) <|
  fc (ok_iconst (n := 0) (by decide +kernel) (by decide +kernel)) <|
  fc (ok_pi mk_X11_week (fo_RX11_96 rfl) to_8_1 rfl (by decide +kernel)) <|
  fc (ok_iconst (n := -1) (by decide +kernel) (by decide +kernel)) <|
  fc (ok_ildn (q := 1) (by decide +kernel) rfl) <|
  fc (ok_isub (by decide +kernel)) <|
  fc (ok_iret rfl (by decide +kernel)) <|
  fc (ok_aldn (q := 0) (by decide +kernel) rfl) <|
  fc (ok_gf mk_X11_week (fo_RX11_43 rfl) rfl (by decide +kernel)) <|
  fc (ok_aldn (q := 0) (by decide +kernel) rfl) <|
  fc (ok_gf mk_X11_week (fo_RX11_26 rfl) rfl (by decide +kernel)) <|
  fc (ok_cv mk_X11_week mk_X3_marks ⟨uw530, uw531, uw532, uw32, by decide +kernel⟩ (T := TX3) (N := 4) rfl (by decide +kernel)) <|
  fc (ok_iconst (n := 0) (by decide +kernel) (by decide +kernel)) <|
  fc (ok_istn (q := 2) (by decide +kernel) rfl (by decide)) <|
  fc (ok_iconst (n := 0) (by decide +kernel) (by decide +kernel)) <|
  fc (ok_istn (q := 3) (by decide +kernel) rfl (by decide)) <|
  fc (ok_iconst (n := 0) (by decide +kernel) (by decide +kernel)) <|
  fc (ok_ist (by decide +kernel) (by decide)) <|
  fc (ok_ild (by decide +kernel)) <|
  fc (ok_aldn (q := 0) (by decide +kernel) rfl) <|
  fc (ok_gf mk_X11_week (fo_RX11_10 rfl) rfl (by decide +kernel)) <|
  fc (ok_gi mk_X11_week (fo_RX11_96 rfl) rfl (by decide +kernel)) <|
  fc (ok_icge (off := 56) (by decide +kernel) (by decide)) <|
  fc (ok_ildn (q := 3) (by decide +kernel) rfl) <|
  fc (ok_ifne (off := 52) (by decide +kernel) (by decide)) <|
  fc (ok_aldn (q := 0) (by decide +kernel) rfl) <|
  fc (ok_ild (by decide +kernel)) <|
  fc (ok_cv mk_X11_week mk_X11_act ⟨uw696, uw697, uw698, uw2, by decide +kernel⟩ (T := TX11) (N := 13) rfl (by decide +kernel)) <|
  fc (ok_ifge (off := 7) (by decide +kernel) (by decide)) <|
  fc (ok_iconst (n := 1) (by decide +kernel) (by decide +kernel)) <|
  fc (ok_goto (off := 4) (by decide +kernel) (by decide)) <|
  fc (ok_iconst (n := 0) (by decide +kernel) (by decide +kernel)) <|
  fc (ok_istn (q := 3) (by decide +kernel) rfl (by decide)) <|
  fc (ok_ildn (q := 2) (by decide +kernel) rfl) <|
  fc (ok_ildn (q := 3) (by decide +kernel) rfl) <|
  fc (ok_ifeq (off := 7) (by decide +kernel) (by decide)) <|
  fc (ok_iconst (n := 0) (by decide +kernel) (by decide +kernel)) <|
  fc (ok_goto (off := 4) (by decide +kernel) (by decide)) <|
  fc (ok_iconst (n := 1) (by decide +kernel) (by decide +kernel)) <|
  fc (ok_iadd (by decide +kernel)) <|
  fc (ok_istn (q := 2) (by decide +kernel) rfl (by decide)) <|
  fc (ok_ild (by decide +kernel)) <|
  fc (ok_iconst (n := 1) (by decide +kernel) (by decide +kernel)) <|
  fc (ok_aldn (q := 0) (by decide +kernel) rfl) <|
  fc (ok_gf mk_X11_week (fo_RX11_10 rfl) rfl (by decide +kernel)) <|
  fc (ok_ild (by decide +kernel)) <|
  fc (ok_cv mk_X11_week mk_X8_at ⟨uw219, uw220, uw221, uw15, by decide +kernel⟩ (T := TX8) (N := 2) rfl (by decide +kernel)) <|
  fc (ok_cs mk_X11_week mk_X11_actDigits ⟨uw693, uw694, uw2, by decide +kernel⟩ (by decide +kernel)) <|
  fc (ok_iadd (by decide +kernel)) <|
  fc (ok_iadd (by decide +kernel)) <|
  fc (ok_ist (by decide +kernel) (by decide)) <|
  fc (ok_goto (off := -62) (by decide +kernel) (by decide)) <|
  fc (ok_aldn (q := 0) (by decide +kernel) rfl) <|
  fc (ok_gf mk_X11_week (fo_RX11_10 rfl) rfl (by decide +kernel)) <|
  fc (ok_iconst (n := 0) (by decide +kernel) (by decide +kernel)) <|
  fc (ok_pi mk_X11_week (fo_RX11_96 rfl) to_8_1 rfl (by decide +kernel)) <|
  fc (ok_ildn (q := 2) (by decide +kernel) rfl) <|
  fc (ok_ifle (off := 10) (by decide +kernel) (by decide)) <|
  fc (ok_aldn (q := 0) (by decide +kernel) rfl) <|
  fc (ok_gf mk_X11_week (fo_RX11_43 rfl) rfl (by decide +kernel)) <|
  fc (ok_cv mk_X11_week mk_X3_keepMarked ⟨uw559, uw560, uw561, uw32, by decide +kernel⟩ (T := TX3) (N := 4) rfl (by decide +kernel)) <|
  fc (ok_aldn (q := 0) (by decide +kernel) rfl) <|
  fc (ok_gf mk_X11_week (fo_RX11_19 rfl) rfl (by decide +kernel)) <|
  fc (ok_ildn (q := 3) (by decide +kernel) rfl) <|
  fc (ok_ifeq (off := 7) (by decide +kernel) (by decide)) <|
  fc (ok_lconst (n := 1) (by decide +kernel) rfl) <|
  fc (ok_goto (off := 4) (by decide +kernel) (by decide)) <|
  fc (ok_lconst (n := 0) (by decide +kernel) rfl) <|
  fc (ok_aldn (q := 0) (by decide +kernel) rfl) <|
  fc (ok_gf mk_X11_week (fo_RX11_26 rfl) rfl (by decide +kernel)) <|
  fc (ok_gi mk_X11_week (fo_RX11_181 rfl) rfl (by decide +kernel)) <|
  fc (ok_i2l (by decide +kernel)) <|
  fc (ok_cv mk_X11_week mk_X9_tells_ ⟨uw651, uw652, uw653, uw19, by decide +kernel⟩ (T := TX9) (N := 2) rfl (by decide +kernel)) <|
  fc (ok_ildn (q := 2) (by decide +kernel) rfl) <|
  fc (ok_iret rfl (by decide +kernel)) <| fn
def T_X11_weekWrongAt : List (Nat × Op) := [(0, op_ald 0 1), (1, op_gf 11 0 1), (4, op_gi 8 1), (7, op_ic 60 2), (9, op_min), (12, op_ist 1 1), (13, op_ic 0 1), (14, op_ist 2 1), (15, op_ic 0 1), (16, op_ist 3 1), (17, op_ild 3 1), (18, op_ild 1 1), (19, op_icge 69), (22, op_ild 2 1), (23, op_ifle 45), (26, op_ald 0 1), (27, op_gf 11 0 1), (30, op_ild 3 1), (31, op_cv M_X8_isDigit 8 1), (34, op_ifne 39), (37, op_ild 3 1), (38, op_iret), (39, op_iinc 2 (-1)), (42, op_goto 63), (45, op_ald 0 1), (46, op_gf 11 0 1), (49, op_ild 3 1), (50, op_cv M_X8_at 8 1), (53, op_cs M_X11_actDigits 1), (56, op_ist 2 1), (57, op_ild 2 1), (58, op_ifne 63), (61, op_ild 3 1), (62, op_iret), (63, op_iinc 3 1), (66, op_goto 17), (69, op_ild 2 1), (70, op_ifne 89), (73, op_ald 0 1), (74, op_gf 11 0 1), (77, op_gi 8 1), (80, op_ic 60 2), (82, op_icgt 89), (85, op_ic 1 1), (86, op_goto 90), (89, op_ic 0 1), (90, op_ist 3 1), (91, op_ild 3 1), (92, op_ifeq 99), (95, op_ic (-1) 1), (96, op_goto 100), (99, op_ild 1 1), (100, op_iret)]
set_option maxRecDepth 20000 in
theorem K_X11_weekWrongAt : ∀ r ∈ T_X11_weekWrongAt, OpOK M_X11_weekWrongAt r.1 r.2 :=
  fc (ok_aldn (q := 0) (by decide +kernel) rfl) <|
  fc (ok_gf mk_X11_weekWrongAt (fo_RX11_10 rfl) rfl (by decide +kernel)) <|
  fc (ok_gi mk_X11_weekWrongAt (fo_RX11_96 rfl) rfl (by decide +kernel)) <|
  fc (ok_bipush (n := 60) (by decide +kernel) (by decide +kernel)) <|
  fc (ok_min mk_X11_weekWrongAt uw210 uw211 uw212 uw213 (by decide +kernel)) <|
  fc (ok_istn (q := 1) (by decide +kernel) rfl (by decide)) <|
  fc (ok_iconst (n := 0) (by decide +kernel) (by decide +kernel)) <|
  fc (ok_istn (q := 2) (by decide +kernel) rfl (by decide)) <|
  fc (ok_iconst (n := 0) (by decide +kernel) (by decide +kernel)) <|
  fc (ok_istn (q := 3) (by decide +kernel) rfl (by decide)) <|
  fc (ok_ildn (q := 3) (by decide +kernel) rfl) <|
  fc (ok_ildn (q := 1) (by decide +kernel) rfl) <|
  fc (ok_icge (off := 50) (by decide +kernel) (by decide)) <|
  fc (ok_ildn (q := 2) (by decide +kernel) rfl) <|
  fc (ok_ifle (off := 22) (by decide +kernel) (by decide)) <|
  fc (ok_aldn (q := 0) (by decide +kernel) rfl) <|
  fc (ok_gf mk_X11_weekWrongAt (fo_RX11_10 rfl) rfl (by decide +kernel)) <|
  fc (ok_ildn (q := 3) (by decide +kernel) rfl) <|
  fc (ok_cv mk_X11_weekWrongAt mk_X8_isDigit ⟨uw223, uw224, uw225, uw15, by decide +kernel⟩ (T := TX8) (N := 2) rfl (by decide +kernel)) <|
  fc (ok_ifne (off := 5) (by decide +kernel) (by decide)) <|
  fc (ok_ildn (q := 3) (by decide +kernel) rfl) <|
  fc (ok_iret rfl (by decide +kernel)) <|
  fc (ok_iinc (n := -1) (by decide +kernel) (by decide +kernel) (by decide)) <|
  fc (ok_goto (off := 21) (by decide +kernel) (by decide)) <|
  fc (ok_aldn (q := 0) (by decide +kernel) rfl) <|
  fc (ok_gf mk_X11_weekWrongAt (fo_RX11_10 rfl) rfl (by decide +kernel)) <|
  fc (ok_ildn (q := 3) (by decide +kernel) rfl) <|
  fc (ok_cv mk_X11_weekWrongAt mk_X8_at ⟨uw219, uw220, uw221, uw15, by decide +kernel⟩ (T := TX8) (N := 2) rfl (by decide +kernel)) <|
  fc (ok_cs mk_X11_weekWrongAt mk_X11_actDigits ⟨uw693, uw694, uw2, by decide +kernel⟩ (by decide +kernel)) <|
  fc (ok_istn (q := 2) (by decide +kernel) rfl (by decide)) <|
  fc (ok_ildn (q := 2) (by decide +kernel) rfl) <|
  fc (ok_ifne (off := 5) (by decide +kernel) (by decide)) <|
  fc (ok_ildn (q := 3) (by decide +kernel) rfl) <|
  fc (ok_iret rfl (by decide +kernel)) <|
  fc (ok_iinc (n := 1) (by decide +kernel) (by decide +kernel) (by decide)) <|
  fc (ok_goto (off := -49) (by decide +kernel) (by decide)) <|
  fc (ok_ildn (q := 2) (by decide +kernel) rfl) <|
  fc (ok_ifne (off := 19) (by decide +kernel) (by decide)) <|
  fc (ok_aldn (q := 0) (by decide +kernel) rfl) <|
  fc (ok_gf mk_X11_weekWrongAt (fo_RX11_10 rfl) rfl (by decide +kernel)) <|
  fc (ok_gi mk_X11_weekWrongAt (fo_RX11_96 rfl) rfl (by decide +kernel)) <|
  fc (ok_bipush (n := 60) (by decide +kernel) (by decide +kernel)) <|
  fc (ok_icgt (off := 7) (by decide +kernel) (by decide)) <|
  fc (ok_iconst (n := 1) (by decide +kernel) (by decide +kernel)) <|
  fc (ok_goto (off := 4) (by decide +kernel) (by decide)) <|
  fc (ok_iconst (n := 0) (by decide +kernel) (by decide +kernel)) <|
  fc (ok_istn (q := 3) (by decide +kernel) rfl (by decide)) <|
  fc (ok_ildn (q := 3) (by decide +kernel) rfl) <|
  fc (ok_ifeq (off := 7) (by decide +kernel) (by decide)) <|
  fc (ok_iconst (n := -1) (by decide +kernel) (by decide +kernel)) <|
  fc (ok_goto (off := 4) (by decide +kernel) (by decide)) <|
  fc (ok_ildn (q := 1) (by decide +kernel) rfl) <|
  fc (ok_iret rfl (by decide +kernel)) <| fn
def T_X11_actDigits : List (Nat × Op) := [(0, op_ild 0 1), (1, op_sw 58 [(99, 52), (103, 56), (109, 54), (110, 52), (115, 54)]), (52, op_ic 1 1), (53, op_iret), (54, op_ic 2 1), (55, op_iret), (56, op_ic 3 1), (57, op_iret), (58, op_ic 0 1), (59, op_iret)]
set_option maxRecDepth 20000 in
theorem K_X11_actDigits : ∀ r ∈ T_X11_actDigits, OpOK M_X11_actDigits r.1 r.2 :=
  fc (ok_ildn (q := 0) (by decide +kernel) rfl) <|
  fc (ok_lsw (dflt := 57) (pp := #[(99, 51), (103, 55), (109, 53), (110, 51), (115, 53)]) (len := 51) (by decide +kernel) (by decide +kernel) (by decide +kernel) (by decide)) <|
  fc (ok_iconst (n := 1) (by decide +kernel) (by decide +kernel)) <|
  fc (ok_iret rfl (by decide +kernel)) <|
  fc (ok_iconst (n := 2) (by decide +kernel) (by decide +kernel)) <|
  fc (ok_iret rfl (by decide +kernel)) <|
  fc (ok_iconst (n := 3) (by decide +kernel) (by decide +kernel)) <|
  fc (ok_iret rfl (by decide +kernel)) <|
  fc (ok_iconst (n := 0) (by decide +kernel) (by decide +kernel)) <|
  fc (ok_iret rfl (by decide +kernel)) <| fn
def T_X11_act : List (Nat × Op) := [(0, op_ald 0 1), (1, op_gf 11 0 1), (4, op_ild 1 1), (5, op_ic 1 1), (6, op_iadd), (7, op_cv M_X8_digit 8 1), (10, op_ist 2 1), (11, op_ald 0 1), (12, op_gf 11 0 1), (15, op_ild 1 1), (16, op_cv M_X8_at 8 1), (19, op_sw 157 [(99, 144), (103, 106), (109, 125), (110, 68), (115, 83)]), (68, op_ald 0 1), (69, op_gf 11 2 5), (72, op_ald 0 1), (73, op_gr 11 11), (76, op_ild 2 1), (77, op_ic (-1) 1), (78, op_cv M_X2_passDays 2 3), (81, op_ild 2 1), (82, op_iret), (83, op_ald 0 1), (84, op_gf 11 2 5), (87, op_ald 0 1), (88, op_gr 11 11), (91, op_ild 2 1), (92, op_ald 0 1), (93, op_gf 11 0 1), (96, op_ild 1 1), (97, op_ic 2 1), (98, op_iadd), (99, op_cv M_X8_digit 8 1), (102, op_cv M_X2_saidBy 2 3), (105, op_iret), (106, op_ald 0 1), (107, op_gf 11 2 5), (110, op_ild 2 1), (111, op_ald 0 1), (112, op_gf 11 0 1), (115, op_ild 1 1), (116, op_ic 2 1), (117, op_iadd), (118, op_cv M_X8_twoDigits 8 1), (121, op_cv M_X2_signedFor 2 2), (124, op_iret), (125, op_ald 0 1), (126, op_gf 11 2 5), (129, op_ild 2 1), (130, op_ald 0 1), (131, op_gf 11 0 1), (134, op_ild 1 1), (135, op_ic 2 1), (136, op_iadd), (137, op_cv M_X8_digit 8 1), (140, op_cv M_X2_movedTo 2 2), (143, op_iret), (144, op_ald 0 1), (145, op_gf 11 2 5), (148, op_ald 0 1), (149, op_gr 11 11), (152, op_ild 2 1), (153, op_cv M_X2_rollCalled 2 2), (156, op_iret), (157, op_ic (-1) 1), (158, op_iret)]
set_option maxRecDepth 20000 in
theorem K_X11_act : ∀ r ∈ T_X11_act, OpOK M_X11_act r.1 r.2 :=
  fc (ok_aldn (q := 0) (by decide +kernel) rfl) <|
  fc (ok_gf mk_X11_act (fo_RX11_10 rfl) rfl (by decide +kernel)) <|
  fc (ok_ildn (q := 1) (by decide +kernel) rfl) <|
  fc (ok_iconst (n := 1) (by decide +kernel) (by decide +kernel)) <|
  fc (ok_iadd (by decide +kernel)) <|
  fc (ok_cv mk_X11_act mk_X8_digit ⟨uw232, uw233, uw234, uw15, by decide +kernel⟩ (T := TX8) (N := 2) rfl (by decide +kernel)) <|
  fc (ok_istn (q := 2) (by decide +kernel) rfl (by decide)) <|
  fc (ok_aldn (q := 0) (by decide +kernel) rfl) <|
  fc (ok_gf mk_X11_act (fo_RX11_10 rfl) rfl (by decide +kernel)) <|
  fc (ok_ildn (q := 1) (by decide +kernel) rfl) <|
  fc (ok_cv mk_X11_act mk_X8_at ⟨uw219, uw220, uw221, uw15, by decide +kernel⟩ (T := TX8) (N := 2) rfl (by decide +kernel)) <|
  fc (ok_lsw (dflt := 138) (pp := #[(99, 125), (103, 87), (109, 106), (110, 49), (115, 64)]) (len := 49) (by decide +kernel) (by decide +kernel) (by decide +kernel) (by decide)) <|
  fc (ok_aldn (q := 0) (by decide +kernel) rfl) <|
  fc (ok_gf mk_X11_act (fo_RX11_26 rfl) rfl (by decide +kernel)) <|
  fc (ok_aldn (q := 0) (by decide +kernel) rfl) <|
  fc (ok_gr mk_X11_act (fo_RX11_85 rfl) rfl (by decide +kernel)) <|
  fc (ok_ildn (q := 2) (by decide +kernel) rfl) <|
  fc (ok_iconst (n := -1) (by decide +kernel) (by decide +kernel)) <|
  fc (ok_cv mk_X11_act mk_X2_passDays ⟨uw643, uw644, uw645, uw23, by decide +kernel⟩ (T := TX2) (N := 8) rfl (by decide +kernel)) <|
  fc (ok_ildn (q := 2) (by decide +kernel) rfl) <|
  fc (ok_iret rfl (by decide +kernel)) <|
  fc (ok_aldn (q := 0) (by decide +kernel) rfl) <|
  fc (ok_gf mk_X11_act (fo_RX11_26 rfl) rfl (by decide +kernel)) <|
  fc (ok_aldn (q := 0) (by decide +kernel) rfl) <|
  fc (ok_gr mk_X11_act (fo_RX11_85 rfl) rfl (by decide +kernel)) <|
  fc (ok_ildn (q := 2) (by decide +kernel) rfl) <|
  fc (ok_aldn (q := 0) (by decide +kernel) rfl) <|
  fc (ok_gf mk_X11_act (fo_RX11_10 rfl) rfl (by decide +kernel)) <|
  fc (ok_ildn (q := 1) (by decide +kernel) rfl) <|
  fc (ok_iconst (n := 2) (by decide +kernel) (by decide +kernel)) <|
  fc (ok_iadd (by decide +kernel)) <|
  fc (ok_cv mk_X11_act mk_X8_digit ⟨uw232, uw233, uw234, uw15, by decide +kernel⟩ (T := TX8) (N := 2) rfl (by decide +kernel)) <|
  fc (ok_cv mk_X11_act mk_X2_saidBy ⟨uw545, uw546, uw547, uw23, by decide +kernel⟩ (T := TX2) (N := 8) rfl (by decide +kernel)) <|
  fc (ok_iret rfl (by decide +kernel)) <|
  fc (ok_aldn (q := 0) (by decide +kernel) rfl) <|
  fc (ok_gf mk_X11_act (fo_RX11_26 rfl) rfl (by decide +kernel)) <|
  fc (ok_ildn (q := 2) (by decide +kernel) rfl) <|
  fc (ok_aldn (q := 0) (by decide +kernel) rfl) <|
  fc (ok_gf mk_X11_act (fo_RX11_10 rfl) rfl (by decide +kernel)) <|
  fc (ok_ildn (q := 1) (by decide +kernel) rfl) <|
  fc (ok_iconst (n := 2) (by decide +kernel) (by decide +kernel)) <|
  fc (ok_iadd (by decide +kernel)) <|
  fc (ok_cv mk_X11_act mk_X8_twoDigits ⟨uw237, uw238, uw239, uw15, by decide +kernel⟩ (T := TX8) (N := 2) rfl (by decide +kernel)) <|
  fc (ok_cv mk_X11_act mk_X2_signedFor ⟨uw586, uw587, uw588, uw23, by decide +kernel⟩ (T := TX2) (N := 8) rfl (by decide +kernel)) <|
  fc (ok_iret rfl (by decide +kernel)) <|
  fc (ok_aldn (q := 0) (by decide +kernel) rfl) <|
  fc (ok_gf mk_X11_act (fo_RX11_26 rfl) rfl (by decide +kernel)) <|
  fc (ok_ildn (q := 2) (by decide +kernel) rfl) <|
  fc (ok_aldn (q := 0) (by decide +kernel) rfl) <|
  fc (ok_gf mk_X11_act (fo_RX11_10 rfl) rfl (by decide +kernel)) <|
  fc (ok_ildn (q := 1) (by decide +kernel) rfl) <|
  fc (ok_iconst (n := 2) (by decide +kernel) (by decide +kernel)) <|
  fc (ok_iadd (by decide +kernel)) <|
  fc (ok_cv mk_X11_act mk_X8_digit ⟨uw232, uw233, uw234, uw15, by decide +kernel⟩ (T := TX8) (N := 2) rfl (by decide +kernel)) <|
  fc (ok_cv mk_X11_act mk_X2_movedTo ⟨uw606, uw607, uw608, uw23, by decide +kernel⟩ (T := TX2) (N := 8) rfl (by decide +kernel)) <|
  fc (ok_iret rfl (by decide +kernel)) <|
  fc (ok_aldn (q := 0) (by decide +kernel) rfl) <|
  fc (ok_gf mk_X11_act (fo_RX11_26 rfl) rfl (by decide +kernel)) <|
  fc (ok_aldn (q := 0) (by decide +kernel) rfl) <|
  fc (ok_gr mk_X11_act (fo_RX11_85 rfl) rfl (by decide +kernel)) <|
  fc (ok_ildn (q := 2) (by decide +kernel) rfl) <|
  fc (ok_cv mk_X11_act mk_X2_rollCalled ⟨uw622, uw623, uw624, uw23, by decide +kernel⟩ (T := TX2) (N := 8) rfl (by decide +kernel)) <|
  fc (ok_iret rfl (by decide +kernel)) <|
  fc (ok_iconst (n := -1) (by decide +kernel) (by decide +kernel)) <|
  fc (ok_iret rfl (by decide +kernel)) <| fn
def T_X11_undo : List (Nat × Op) := [(0, op_ald 0 1), (1, op_gf 11 5 18), (4, op_ald 0 1), (5, op_gf 11 2 5), (8, op_cv M_X3_bringsBack 3 1), (11, op_ifeq 24), (14, op_ald 0 1), (15, op_gf 11 5 18), (18, op_gi 3 3), (21, op_goto 25), (24, op_ic (-1) 1), (25, op_iret)]
set_option maxRecDepth 20000 in
theorem K_X11_undo : ∀ r ∈ T_X11_undo, OpOK M_X11_undo r.1 r.2 :=
  fc (ok_aldn (q := 0) (by decide +kernel) rfl) <|
  fc (ok_gf mk_X11_undo (fo_RX11_43 rfl) rfl (by decide +kernel)) <|
  fc (ok_aldn (q := 0) (by decide +kernel) rfl) <|
  fc (ok_gf mk_X11_undo (fo_RX11_26 rfl) rfl (by decide +kernel)) <|
  fc (ok_cv mk_X11_undo mk_X3_bringsBack ⟨uw717, uw718, uw719, uw32, by decide +kernel⟩ (T := TX3) (N := 4) rfl (by decide +kernel)) <|
  fc (ok_ifeq (off := 13) (by decide +kernel) (by decide)) <|
  fc (ok_aldn (q := 0) (by decide +kernel) rfl) <|
  fc (ok_gf mk_X11_undo (fo_RX11_43 rfl) rfl (by decide +kernel)) <|
  fc (ok_gi mk_X11_undo (fo_RX11_214 rfl) rfl (by decide +kernel)) <|
  fc (ok_goto (off := 4) (by decide +kernel) (by decide)) <|
  fc (ok_iconst (n := -1) (by decide +kernel) (by decide +kernel)) <|
  fc (ok_iret rfl (by decide +kernel)) <| fn
def T_X11_brings : List (Nat × Op) := [(0, op_ald 0 1), (1, op_gf 11 2 5), (4, op_ild 1 1), (5, op_cv M_X2_has 2 1), (8, op_ifeq 22), (11, op_ald 0 1), (12, op_gf 11 2 5), (15, op_ild 2 1), (16, op_cv M_X2_has 2 1), (19, op_ifne 24), (22, op_ic (-1) 1), (23, op_iret), (24, op_ald 0 1), (25, op_gf 11 3 11), (28, op_ald 0 1), (29, op_gf 11 2 5), (32, op_cv M_X2_takes 2 1), (35, op_ald 0 1), (36, op_gf 11 6 20), (39, op_ald 0 1), (40, op_gf 11 3 11), (43, op_ald 0 1), (44, op_gr 11 11), (47, op_ild 1 1), (48, op_ild 2 1), (49, op_cv M_X10_toHold 10 4), (52, op_ist 3 1), (53, op_ild 3 1), (54, op_ifge 60), (57, op_ic (-2) 2), (59, op_iret), (60, op_ald 0 1), (61, op_gf 11 1 3), (64, op_cv M_X9_clears 9 0), (67, op_ic 0 1), (68, op_ist 4 2), (70, op_ild 4 2), (72, op_ild 3 1), (73, op_icge 99), (76, op_ald 0 1), (77, op_gf 11 1 3), (80, op_ald 0 1), (81, op_gf 11 6 20), (84, op_ild 4 2), (86, op_cv M_X10_sayer 10 1), (89, op_i2l), (90, op_cv M_X9_adds 9 1), (93, op_iinc 4 1), (96, op_goto 70), (99, op_ild 3 1), (100, op_iret)]
set_option maxRecDepth 20000 in
theorem K_X11_brings : ∀ r ∈ T_X11_brings, OpOK M_X11_brings r.1 r.2 :=
  fc (ok_aldn (q := 0) (by decide +kernel) rfl) <|
  fc (ok_gf mk_X11_brings (fo_RX11_26 rfl) rfl (by decide +kernel)) <|
  fc (ok_ildn (q := 1) (by decide +kernel) rfl) <|
  fc (ok_cv mk_X11_brings mk_X2_has ⟨uw396, uw397, uw398, uw23, by decide +kernel⟩ (T := TX2) (N := 8) rfl (by decide +kernel)) <|
  fc (ok_ifeq (off := 14) (by decide +kernel) (by decide)) <|
  fc (ok_aldn (q := 0) (by decide +kernel) rfl) <|
  fc (ok_gf mk_X11_brings (fo_RX11_26 rfl) rfl (by decide +kernel)) <|
  fc (ok_ildn (q := 2) (by decide +kernel) rfl) <|
  fc (ok_cv mk_X11_brings mk_X2_has ⟨uw396, uw397, uw398, uw23, by decide +kernel⟩ (T := TX2) (N := 8) rfl (by decide +kernel)) <|
  fc (ok_ifne (off := 5) (by decide +kernel) (by decide)) <|
  fc (ok_iconst (n := -1) (by decide +kernel) (by decide +kernel)) <|
  fc (ok_iret rfl (by decide +kernel)) <|
  fc (ok_aldn (q := 0) (by decide +kernel) rfl) <|
  fc (ok_gf mk_X11_brings (fo_RX11_30 rfl) rfl (by decide +kernel)) <|
  fc (ok_aldn (q := 0) (by decide +kernel) rfl) <|
  fc (ok_gf mk_X11_brings (fo_RX11_26 rfl) rfl (by decide +kernel)) <|
  fc (ok_cv mk_X11_brings mk_X2_takes ⟨uw733, uw734, uw735, uw23, by decide +kernel⟩ (T := TX2) (N := 8) rfl (by decide +kernel)) <|
  fc (ok_aldn (q := 0) (by decide +kernel) rfl) <|
  fc (ok_gf mk_X11_brings (fo_RX11_50 rfl) rfl (by decide +kernel)) <|
  fc (ok_aldn (q := 0) (by decide +kernel) rfl) <|
  fc (ok_gf mk_X11_brings (fo_RX11_30 rfl) rfl (by decide +kernel)) <|
  fc (ok_aldn (q := 0) (by decide +kernel) rfl) <|
  fc (ok_gr mk_X11_brings (fo_RX11_85 rfl) rfl (by decide +kernel)) <|
  fc (ok_ildn (q := 1) (by decide +kernel) rfl) <|
  fc (ok_ildn (q := 2) (by decide +kernel) rfl) <|
  fc (ok_cv mk_X11_brings mk_X10_toHold ⟨uw737, uw738, uw739, uw36, by decide +kernel⟩ (T := TX10) (N := 14) rfl (by decide +kernel)) <|
  fc (ok_istn (q := 3) (by decide +kernel) rfl (by decide)) <|
  fc (ok_ildn (q := 3) (by decide +kernel) rfl) <|
  fc (ok_ifge (off := 6) (by decide +kernel) (by decide)) <|
  fc (ok_bipush (n := -2) (by decide +kernel) (by decide +kernel)) <|
  fc (ok_iret rfl (by decide +kernel)) <|
  fc (ok_aldn (q := 0) (by decide +kernel) rfl) <|
  fc (ok_gf mk_X11_brings (fo_RX11_19 rfl) rfl (by decide +kernel)) <|
  fc (ok_cv mk_X11_brings mk_X9_clears ⟨uw754, uw755, uw756, uw19, by decide +kernel⟩ (T := TX9) (N := 2) rfl (by decide +kernel)) <|
  fc (ok_iconst (n := 0) (by decide +kernel) (by decide +kernel)) <|
  fc (ok_ist (by decide +kernel) (by decide)) <|
  fc (ok_ild (by decide +kernel)) <|
  fc (ok_ildn (q := 3) (by decide +kernel) rfl) <|
  fc (ok_icge (off := 26) (by decide +kernel) (by decide)) <|
  fc (ok_aldn (q := 0) (by decide +kernel) rfl) <|
  fc (ok_gf mk_X11_brings (fo_RX11_19 rfl) rfl (by decide +kernel)) <|
  fc (ok_aldn (q := 0) (by decide +kernel) rfl) <|
  fc (ok_gf mk_X11_brings (fo_RX11_50 rfl) rfl (by decide +kernel)) <|
  fc (ok_ild (by decide +kernel)) <|
  fc (ok_cv mk_X11_brings mk_X10_sayer ⟨uw758, uw759, uw760, uw36, by decide +kernel⟩ (T := TX10) (N := 14) rfl (by decide +kernel)) <|
  fc (ok_i2l (by decide +kernel)) <|
  fc (ok_cv mk_X11_brings mk_X9_adds ⟨uw762, uw657, uw658, uw19, by decide +kernel⟩ (T := TX9) (N := 2) rfl (by decide +kernel)) <|
  fc (ok_iinc (n := 1) (by decide +kernel) (by decide +kernel) (by decide)) <|
  fc (ok_goto (off := -26) (by decide +kernel) (by decide)) <|
  fc (ok_ildn (q := 3) (by decide +kernel) rfl) <|
  fc (ok_iret rfl (by decide +kernel)) <| fn
def T_X11_later : List (Nat × Op) := [(0, op_ald 0 1), (1, op_gf 11 2 5), (4, op_ild 1 1), (5, op_cv M_X2_has 2 1), (8, op_ifeq 21), (11, op_ild 2 1), (12, op_iflt 21), (15, op_ild 2 1), (16, op_ic 99 2), (18, op_icle 23), (21, op_ic (-1) 1), (22, op_iret), (23, op_ald 0 1), (24, op_gf 11 3 11), (27, op_ald 0 1), (28, op_gf 11 2 5), (31, op_cv M_X2_takes 2 1), (34, op_ald 0 1), (35, op_gf 11 3 11), (38, op_ald 0 1), (39, op_gr 11 11), (42, op_ild 2 1), (43, op_ic (-1) 1), (44, op_cv M_X2_passDays 2 3), (47, op_ald 0 1), (48, op_gf 11 1 3), (51, op_ald 0 1), (52, op_gf 11 3 11), (55, op_gf 2 2 3), (58, op_ild 1 1), (59, op_iald), (60, op_i2l), (61, op_ald 0 1), (62, op_gf 11 3 11), (65, op_gf 2 4 5), (68, op_ild 1 1), (69, op_iald), (70, op_i2l), (71, op_cv M_X9_tells_ 9 2), (74, op_ald 0 1), (75, op_gf 11 3 11), (78, op_gf 2 3 4), (81, op_ild 1 1), (82, op_iald), (83, op_iret)]
set_option maxRecDepth 20000 in
theorem K_X11_later : ∀ r ∈ T_X11_later, OpOK M_X11_later r.1 r.2 :=
  fc (ok_aldn (q := 0) (by decide +kernel) rfl) <|
  fc (ok_gf mk_X11_later (fo_RX11_26 rfl) rfl (by decide +kernel)) <|
  fc (ok_ildn (q := 1) (by decide +kernel) rfl) <|
  fc (ok_cv mk_X11_later mk_X2_has ⟨uw396, uw397, uw398, uw23, by decide +kernel⟩ (T := TX2) (N := 8) rfl (by decide +kernel)) <|
  fc (ok_ifeq (off := 13) (by decide +kernel) (by decide)) <|
  fc (ok_ildn (q := 2) (by decide +kernel) rfl) <|
  fc (ok_iflt (off := 9) (by decide +kernel) (by decide)) <|
  fc (ok_ildn (q := 2) (by decide +kernel) rfl) <|
  fc (ok_bipush (n := 99) (by decide +kernel) (by decide +kernel)) <|
  fc (ok_icle (off := 5) (by decide +kernel) (by decide)) <|
  fc (ok_iconst (n := -1) (by decide +kernel) (by decide +kernel)) <|
  fc (ok_iret rfl (by decide +kernel)) <|
  fc (ok_aldn (q := 0) (by decide +kernel) rfl) <|
  fc (ok_gf mk_X11_later (fo_RX11_30 rfl) rfl (by decide +kernel)) <|
  fc (ok_aldn (q := 0) (by decide +kernel) rfl) <|
  fc (ok_gf mk_X11_later (fo_RX11_26 rfl) rfl (by decide +kernel)) <|
  fc (ok_cv mk_X11_later mk_X2_takes ⟨uw733, uw734, uw735, uw23, by decide +kernel⟩ (T := TX2) (N := 8) rfl (by decide +kernel)) <|
  fc (ok_aldn (q := 0) (by decide +kernel) rfl) <|
  fc (ok_gf mk_X11_later (fo_RX11_30 rfl) rfl (by decide +kernel)) <|
  fc (ok_aldn (q := 0) (by decide +kernel) rfl) <|
  fc (ok_gr mk_X11_later (fo_RX11_85 rfl) rfl (by decide +kernel)) <|
  fc (ok_ildn (q := 2) (by decide +kernel) rfl) <|
  fc (ok_iconst (n := -1) (by decide +kernel) (by decide +kernel)) <|
  fc (ok_cv mk_X11_later mk_X2_passDays ⟨uw643, uw644, uw645, uw23, by decide +kernel⟩ (T := TX2) (N := 8) rfl (by decide +kernel)) <|
  fc (ok_aldn (q := 0) (by decide +kernel) rfl) <|
  fc (ok_gf mk_X11_later (fo_RX11_19 rfl) rfl (by decide +kernel)) <|
  fc (ok_aldn (q := 0) (by decide +kernel) rfl) <|
  fc (ok_gf mk_X11_later (fo_RX11_30 rfl) rfl (by decide +kernel)) <|
  fc (ok_gf mk_X11_later (fo_RX11_130 rfl) rfl (by decide +kernel)) <|
  fc (ok_ildn (q := 1) (by decide +kernel) rfl) <|
  fc (ok_iald (by decide +kernel)) <|
  fc (ok_i2l (by decide +kernel)) <|
  fc (ok_aldn (q := 0) (by decide +kernel) rfl) <|
  fc (ok_gf mk_X11_later (fo_RX11_30 rfl) rfl (by decide +kernel)) <|
  fc (ok_gf mk_X11_later (fo_RX11_144 rfl) rfl (by decide +kernel)) <|
  fc (ok_ildn (q := 1) (by decide +kernel) rfl) <|
  fc (ok_iald (by decide +kernel)) <|
  fc (ok_i2l (by decide +kernel)) <|
  fc (ok_cv mk_X11_later mk_X9_tells_ ⟨uw651, uw652, uw653, uw19, by decide +kernel⟩ (T := TX9) (N := 2) rfl (by decide +kernel)) <|
  fc (ok_aldn (q := 0) (by decide +kernel) rfl) <|
  fc (ok_gf mk_X11_later (fo_RX11_30 rfl) rfl (by decide +kernel)) <|
  fc (ok_gf mk_X11_later (fo_RX11_141 rfl) rfl (by decide +kernel)) <|
  fc (ok_ildn (q := 1) (by decide +kernel) rfl) <|
  fc (ok_iald (by decide +kernel)) <|
  fc (ok_iret rfl (by decide +kernel)) <| fn
def T_X11_home : List (Nat × Op) := [(0, op_ald 0 1), (1, op_gf 11 2 5), (4, op_ild 1 1), (5, op_cv M_X2_has 2 1), (8, op_ifne 13), (11, op_ic (-1) 1), (12, op_iret), (13, op_ald 0 1), (14, op_ic 1 1), (15, op_ild 1 1), (16, op_ishl), (17, op_cv M_X11_daysUntilHome 11 1), (20, op_ist 2 1), (21, op_ild 2 1), (22, op_ifge 28), (25, op_ic (-2) 2), (27, op_iret), (28, op_ald 0 1), (29, op_gf 11 1 3), (32, op_ald 0 1), (33, op_gf 11 3 11), (36, op_cv M_X2_homes 2 0), (39, op_cs M_J6_bitCount_0f7a4 1), (42, op_i2l), (43, op_cv M_X9_tells 9 1), (46, op_ild 2 1), (47, op_iret)]
set_option maxRecDepth 20000 in
theorem K_X11_home : ∀ r ∈ T_X11_home, OpOK M_X11_home r.1 r.2 :=
  fc (ok_aldn (q := 0) (by decide +kernel) rfl) <|
  fc (ok_gf mk_X11_home (fo_RX11_26 rfl) rfl (by decide +kernel)) <|
  fc (ok_ildn (q := 1) (by decide +kernel) rfl) <|
  fc (ok_cv mk_X11_home mk_X2_has ⟨uw396, uw397, uw398, uw23, by decide +kernel⟩ (T := TX2) (N := 8) rfl (by decide +kernel)) <|
  fc (ok_ifne (off := 5) (by decide +kernel) (by decide)) <|
  fc (ok_iconst (n := -1) (by decide +kernel) (by decide +kernel)) <|
  fc (ok_iret rfl (by decide +kernel)) <|
  fc (ok_aldn (q := 0) (by decide +kernel) rfl) <|
  fc (ok_iconst (n := 1) (by decide +kernel) (by decide +kernel)) <|
  fc (ok_ildn (q := 1) (by decide +kernel) rfl) <|
  fc (ok_ishl (by decide +kernel)) <|
  fc (ok_cv mk_X11_home mk_X11_daysUntilHome ⟨uw783, uw784, uw785, uw2, by decide +kernel⟩ (T := TX11) (N := 13) rfl (by decide +kernel)) <|
  fc (ok_istn (q := 2) (by decide +kernel) rfl (by decide)) <|
  fc (ok_ildn (q := 2) (by decide +kernel) rfl) <|
  fc (ok_ifge (off := 6) (by decide +kernel) (by decide)) <|
  fc (ok_bipush (n := -2) (by decide +kernel) (by decide +kernel)) <|
  fc (ok_iret rfl (by decide +kernel)) <|
  fc (ok_aldn (q := 0) (by decide +kernel) rfl) <|
  fc (ok_gf mk_X11_home (fo_RX11_19 rfl) rfl (by decide +kernel)) <|
  fc (ok_aldn (q := 0) (by decide +kernel) rfl) <|
  fc (ok_gf mk_X11_home (fo_RX11_30 rfl) rfl (by decide +kernel)) <|
  fc (ok_cv mk_X11_home mk_X2_homes ⟨uw660, uw661, uw662, uw23, by decide +kernel⟩ (T := TX2) (N := 8) rfl (by decide +kernel)) <|
  fc (ok_cs mk_X11_home mk_J6_bitCount_0f7a4 ⟨uw788, uw429, uw430, by decide +kernel⟩ (by decide +kernel)) <|
  fc (ok_i2l (by decide +kernel)) <|
  fc (ok_cv mk_X11_home mk_X9_tells ⟨uw789, uw790, uw791, uw19, by decide +kernel⟩ (T := TX9) (N := 2) rfl (by decide +kernel)) <|
  fc (ok_ildn (q := 2) (by decide +kernel) rfl) <|
  fc (ok_iret rfl (by decide +kernel)) <| fn
def T_X11_daysUntilHome : List (Nat × Op) := [(0, op_ald 0 1), (1, op_gf 11 3 11), (4, op_ald 0 1), (5, op_gf 11 2 5), (8, op_cv M_X2_takes 2 1), (11, op_ic 0 1), (12, op_ist 2 1), (13, op_ild 2 1), (14, op_ic 99 2), (16, op_icgt 52), (19, op_ald 0 1), (20, op_gf 11 3 11), (23, op_cv M_X2_homes 2 0), (26, op_ild 1 1), (27, op_iand), (28, op_ild 1 1), (29, op_icne 34), (32, op_ild 2 1), (33, op_iret), (34, op_ald 0 1), (35, op_gf 11 3 11), (38, op_ald 0 1), (39, op_gr 11 11), (42, op_ic (-1) 1), (43, op_cv M_X2_passDay 2 2), (46, op_iinc 2 1), (49, op_goto 13), (52, op_ic (-1) 1), (53, op_iret)]
set_option maxRecDepth 20000 in
theorem K_X11_daysUntilHome : ∀ r ∈ T_X11_daysUntilHome, OpOK M_X11_daysUntilHome r.1 r.2 :=
  fc (ok_aldn (q := 0) (by decide +kernel) rfl) <|
  fc (ok_gf mk_X11_daysUntilHome (fo_RX11_30 rfl) rfl (by decide +kernel)) <|
  fc (ok_aldn (q := 0) (by decide +kernel) rfl) <|
  fc (ok_gf mk_X11_daysUntilHome (fo_RX11_26 rfl) rfl (by decide +kernel)) <|
  fc (ok_cv mk_X11_daysUntilHome mk_X2_takes ⟨uw733, uw734, uw735, uw23, by decide +kernel⟩ (T := TX2) (N := 8) rfl (by decide +kernel)) <|
  fc (ok_iconst (n := 0) (by decide +kernel) (by decide +kernel)) <|
  fc (ok_istn (q := 2) (by decide +kernel) rfl (by decide)) <|
  fc (ok_ildn (q := 2) (by decide +kernel) rfl) <|
  fc (ok_bipush (n := 99) (by decide +kernel) (by decide +kernel)) <|
  fc (ok_icgt (off := 36) (by decide +kernel) (by decide)) <|
  fc (ok_aldn (q := 0) (by decide +kernel) rfl) <|
  fc (ok_gf mk_X11_daysUntilHome (fo_RX11_30 rfl) rfl (by decide +kernel)) <|
  fc (ok_cv mk_X11_daysUntilHome mk_X2_homes ⟨uw660, uw661, uw662, uw23, by decide +kernel⟩ (T := TX2) (N := 8) rfl (by decide +kernel)) <|
  fc (ok_ildn (q := 1) (by decide +kernel) rfl) <|
  fc (ok_iand (by decide +kernel)) <|
  fc (ok_ildn (q := 1) (by decide +kernel) rfl) <|
  fc (ok_icne (off := 5) (by decide +kernel) (by decide)) <|
  fc (ok_ildn (q := 2) (by decide +kernel) rfl) <|
  fc (ok_iret rfl (by decide +kernel)) <|
  fc (ok_aldn (q := 0) (by decide +kernel) rfl) <|
  fc (ok_gf mk_X11_daysUntilHome (fo_RX11_30 rfl) rfl (by decide +kernel)) <|
  fc (ok_aldn (q := 0) (by decide +kernel) rfl) <|
  fc (ok_gr mk_X11_daysUntilHome (fo_RX11_85 rfl) rfl (by decide +kernel)) <|
  fc (ok_iconst (n := -1) (by decide +kernel) (by decide +kernel)) <|
  fc (ok_cv mk_X11_daysUntilHome mk_X2_passDay ⟨uw787, uw648, uw649, uw23, by decide +kernel⟩ (T := TX2) (N := 8) rfl (by decide +kernel)) <|
  fc (ok_iinc (n := 1) (by decide +kernel) (by decide +kernel) (by decide)) <|
  fc (ok_goto (off := -36) (by decide +kernel) (by decide)) <|
  fc (ok_iconst (n := -1) (by decide +kernel) (by decide +kernel)) <|
  fc (ok_iret rfl (by decide +kernel)) <| fn
def T_X11_poor : List (Nat × Op) := [(0, op_ald 0 1), (1, op_gf 11 2 5), (4, op_ild 1 1), (5, op_cv M_X2_has 2 1), (8, op_ifne 13), (11, op_ic (-1) 1), (12, op_iret), (13, op_ald 0 1), (14, op_gf 11 3 11), (17, op_ald 0 1), (18, op_gf 11 2 5), (21, op_cv M_X2_takes 2 1), (24, op_ic 0 1), (25, op_ist 2 1), (26, op_ild 2 1), (27, op_ic 99 2), (29, op_icgt 79), (32, op_ald 0 1), (33, op_gf 11 3 11), (36, op_gf 2 2 3), (39, op_ild 1 1), (40, op_iald), (41, op_ifne 61), (44, op_ald 0 1), (45, op_gf 11 1 3), (48, op_ald 0 1), (49, op_gf 11 3 11), (52, op_cv M_X2_purses 2 0), (55, op_i2l), (56, op_cv M_X9_tells 9 1), (59, op_ild 2 1), (60, op_iret), (61, op_ald 0 1), (62, op_gf 11 3 11), (65, op_ald 0 1), (66, op_gr 11 11), (69, op_ic (-1) 1), (70, op_cv M_X2_passDay 2 2), (73, op_iinc 2 1), (76, op_goto 26), (79, op_ic (-2) 2), (81, op_iret)]
set_option maxRecDepth 20000 in
theorem K_X11_poor : ∀ r ∈ T_X11_poor, OpOK M_X11_poor r.1 r.2 :=
  fc (ok_aldn (q := 0) (by decide +kernel) rfl) <|
  fc (ok_gf mk_X11_poor (fo_RX11_26 rfl) rfl (by decide +kernel)) <|
  fc (ok_ildn (q := 1) (by decide +kernel) rfl) <|
  fc (ok_cv mk_X11_poor mk_X2_has ⟨uw396, uw397, uw398, uw23, by decide +kernel⟩ (T := TX2) (N := 8) rfl (by decide +kernel)) <|
  fc (ok_ifne (off := 5) (by decide +kernel) (by decide)) <|
  fc (ok_iconst (n := -1) (by decide +kernel) (by decide +kernel)) <|
  fc (ok_iret rfl (by decide +kernel)) <|
  fc (ok_aldn (q := 0) (by decide +kernel) rfl) <|
  fc (ok_gf mk_X11_poor (fo_RX11_30 rfl) rfl (by decide +kernel)) <|
  fc (ok_aldn (q := 0) (by decide +kernel) rfl) <|
  fc (ok_gf mk_X11_poor (fo_RX11_26 rfl) rfl (by decide +kernel)) <|
  fc (ok_cv mk_X11_poor mk_X2_takes ⟨uw733, uw734, uw735, uw23, by decide +kernel⟩ (T := TX2) (N := 8) rfl (by decide +kernel)) <|
  fc (ok_iconst (n := 0) (by decide +kernel) (by decide +kernel)) <|
  fc (ok_istn (q := 2) (by decide +kernel) rfl (by decide)) <|
  fc (ok_ildn (q := 2) (by decide +kernel) rfl) <|
  fc (ok_bipush (n := 99) (by decide +kernel) (by decide +kernel)) <|
  fc (ok_icgt (off := 50) (by decide +kernel) (by decide)) <|
  fc (ok_aldn (q := 0) (by decide +kernel) rfl) <|
  fc (ok_gf mk_X11_poor (fo_RX11_30 rfl) rfl (by decide +kernel)) <|
  fc (ok_gf mk_X11_poor (fo_RX11_130 rfl) rfl (by decide +kernel)) <|
  fc (ok_ildn (q := 1) (by decide +kernel) rfl) <|
  fc (ok_iald (by decide +kernel)) <|
  fc (ok_ifne (off := 20) (by decide +kernel) (by decide)) <|
  fc (ok_aldn (q := 0) (by decide +kernel) rfl) <|
  fc (ok_gf mk_X11_poor (fo_RX11_19 rfl) rfl (by decide +kernel)) <|
  fc (ok_aldn (q := 0) (by decide +kernel) rfl) <|
  fc (ok_gf mk_X11_poor (fo_RX11_30 rfl) rfl (by decide +kernel)) <|
  fc (ok_cv mk_X11_poor mk_X2_purses ⟨uw508, uw509, uw510, uw23, by decide +kernel⟩ (T := TX2) (N := 8) rfl (by decide +kernel)) <|
  fc (ok_i2l (by decide +kernel)) <|
  fc (ok_cv mk_X11_poor mk_X9_tells ⟨uw789, uw790, uw791, uw19, by decide +kernel⟩ (T := TX9) (N := 2) rfl (by decide +kernel)) <|
  fc (ok_ildn (q := 2) (by decide +kernel) rfl) <|
  fc (ok_iret rfl (by decide +kernel)) <|
  fc (ok_aldn (q := 0) (by decide +kernel) rfl) <|
  fc (ok_gf mk_X11_poor (fo_RX11_30 rfl) rfl (by decide +kernel)) <|
  fc (ok_aldn (q := 0) (by decide +kernel) rfl) <|
  fc (ok_gr mk_X11_poor (fo_RX11_85 rfl) rfl (by decide +kernel)) <|
  fc (ok_iconst (n := -1) (by decide +kernel) (by decide +kernel)) <|
  fc (ok_cv mk_X11_poor mk_X2_passDay ⟨uw787, uw648, uw649, uw23, by decide +kernel⟩ (T := TX2) (N := 8) rfl (by decide +kernel)) <|
  fc (ok_iinc (n := 1) (by decide +kernel) (by decide +kernel) (by decide)) <|
  fc (ok_goto (off := -50) (by decide +kernel) (by decide)) <|
  fc (ok_bipush (n := -2) (by decide +kernel) (by decide +kernel)) <|
  fc (ok_iret rfl (by decide +kernel)) <| fn
def T_X11_leads : List (Nat × Op) := [(0, op_ald 0 1), (1, op_gf 11 2 5), (4, op_ild 1 1), (5, op_cv M_X2_has 2 1), (8, op_ifne 13), (11, op_ic (-1) 1), (12, op_iret), (13, op_ic 0 1), (14, op_ist 2 1), (15, op_ild 1 1), (16, op_ist 3 1), (17, op_ic 0 1), (18, op_ist 4 2), (20, op_ic 0 1), (21, op_ist 5 2), (23, op_ild 5 2), (25, op_ic 7 2), (27, op_icgt 63), (30, op_ild 2 1), (31, op_ild 3 1), (32, op_ishr), (33, op_ic 1 1), (34, op_iand), (35, op_ifne 63), (38, op_ild 2 1), (39, op_ic 1 1), (40, op_ild 3 1), (41, op_ishl), (42, op_ior), (43, op_ist 2 1), (44, op_ald 0 1), (45, op_gf 11 2 5), (48, op_gf 2 3 4), (51, op_ild 3 1), (52, op_iald), (53, op_ist 3 1), (54, op_iinc 4 1), (57, op_iinc 5 1), (60, op_goto 23), (63, op_ald 0 1), (64, op_gf 11 1 3), (67, op_ild 3 1), (68, op_i2l), (69, op_ald 0 1), (70, op_gf 11 2 5), (73, op_ild 3 1), (74, op_cv M_X2_ring 2 1), (77, op_cs M_J6_bitCount_0f7a4 1), (80, op_i2l), (81, op_cv M_X9_tells_ 9 2), (84, op_ild 4 2), (86, op_iret)]
set_option maxRecDepth 20000 in
theorem K_X11_leads : ∀ r ∈ T_X11_leads, OpOK M_X11_leads r.1 r.2 :=
  fc (ok_aldn (q := 0) (by decide +kernel) rfl) <|
  fc (ok_gf mk_X11_leads (fo_RX11_26 rfl) rfl (by decide +kernel)) <|
  fc (ok_ildn (q := 1) (by decide +kernel) rfl) <|
  fc (ok_cv mk_X11_leads mk_X2_has ⟨uw396, uw397, uw398, uw23, by decide +kernel⟩ (T := TX2) (N := 8) rfl (by decide +kernel)) <|
  fc (ok_ifne (off := 5) (by decide +kernel) (by decide)) <|
  fc (ok_iconst (n := -1) (by decide +kernel) (by decide +kernel)) <|
  fc (ok_iret rfl (by decide +kernel)) <|
  fc (ok_iconst (n := 0) (by decide +kernel) (by decide +kernel)) <|
  fc (ok_istn (q := 2) (by decide +kernel) rfl (by decide)) <|
  fc (ok_ildn (q := 1) (by decide +kernel) rfl) <|
  fc (ok_istn (q := 3) (by decide +kernel) rfl (by decide)) <|
  fc (ok_iconst (n := 0) (by decide +kernel) (by decide +kernel)) <|
  fc (ok_ist (by decide +kernel) (by decide)) <|
  fc (ok_iconst (n := 0) (by decide +kernel) (by decide +kernel)) <|
  fc (ok_ist (by decide +kernel) (by decide)) <|
  fc (ok_ild (by decide +kernel)) <|
  fc (ok_bipush (n := 7) (by decide +kernel) (by decide +kernel)) <|
  fc (ok_icgt (off := 36) (by decide +kernel) (by decide)) <|
  fc (ok_ildn (q := 2) (by decide +kernel) rfl) <|
  fc (ok_ildn (q := 3) (by decide +kernel) rfl) <|
  fc (ok_ishr (by decide +kernel)) <|
  fc (ok_iconst (n := 1) (by decide +kernel) (by decide +kernel)) <|
  fc (ok_iand (by decide +kernel)) <|
  fc (ok_ifne (off := 28) (by decide +kernel) (by decide)) <|
  fc (ok_ildn (q := 2) (by decide +kernel) rfl) <|
  fc (ok_iconst (n := 1) (by decide +kernel) (by decide +kernel)) <|
  fc (ok_ildn (q := 3) (by decide +kernel) rfl) <|
  fc (ok_ishl (by decide +kernel)) <|
  fc (ok_ior (by decide +kernel)) <|
  fc (ok_istn (q := 2) (by decide +kernel) rfl (by decide)) <|
  fc (ok_aldn (q := 0) (by decide +kernel) rfl) <|
  fc (ok_gf mk_X11_leads (fo_RX11_26 rfl) rfl (by decide +kernel)) <|
  fc (ok_gf mk_X11_leads (fo_RX11_141 rfl) rfl (by decide +kernel)) <|
  fc (ok_ildn (q := 3) (by decide +kernel) rfl) <|
  fc (ok_iald (by decide +kernel)) <|
  fc (ok_istn (q := 3) (by decide +kernel) rfl (by decide)) <|
  fc (ok_iinc (n := 1) (by decide +kernel) (by decide +kernel) (by decide)) <|
  fc (ok_iinc (n := 1) (by decide +kernel) (by decide +kernel) (by decide)) <|
  fc (ok_goto (off := -37) (by decide +kernel) (by decide)) <|
  fc (ok_aldn (q := 0) (by decide +kernel) rfl) <|
  fc (ok_gf mk_X11_leads (fo_RX11_19 rfl) rfl (by decide +kernel)) <|
  fc (ok_ildn (q := 3) (by decide +kernel) rfl) <|
  fc (ok_i2l (by decide +kernel)) <|
  fc (ok_aldn (q := 0) (by decide +kernel) rfl) <|
  fc (ok_gf mk_X11_leads (fo_RX11_26 rfl) rfl (by decide +kernel)) <|
  fc (ok_ildn (q := 3) (by decide +kernel) rfl) <|
  fc (ok_cv mk_X11_leads mk_X2_ring ⟨uw809, uw810, uw811, uw23, by decide +kernel⟩ (T := TX2) (N := 8) rfl (by decide +kernel)) <|
  fc (ok_cs mk_X11_leads mk_J6_bitCount_0f7a4 ⟨uw788, uw429, uw430, by decide +kernel⟩ (by decide +kernel)) <|
  fc (ok_i2l (by decide +kernel)) <|
  fc (ok_cv mk_X11_leads mk_X9_tells_ ⟨uw651, uw652, uw653, uw19, by decide +kernel⟩ (T := TX9) (N := 2) rfl (by decide +kernel)) <|
  fc (ok_ild (by decide +kernel)) <|
  fc (ok_iret rfl (by decide +kernel)) <| fn
def T_X11_rings : List (Nat × Op) := [(0, op_ic 0 1), (1, op_ist 1 1), (2, op_ic 0 1), (3, op_ist 2 1), (4, op_ic (-1) 1), (5, op_ist 3 1), (6, op_ic 0 1), (7, op_ist 4 2), (9, op_ild 4 2), (11, op_ald 0 1), (12, op_gf 11 2 5), (15, op_gi 2 5), (18, op_icge 74), (21, op_ald 0 1), (22, op_gf 11 2 5), (25, op_ild 4 2), (27, op_cv M_X2_ring 2 1), (30, op_ist 5 2), (32, op_ild 5 2), (34, op_ifeq 68), (37, op_ild 5 2), (39, op_cs M_J6_numberOfTrailingZeros_0f7a4 1), (42, op_ild 4 2), (44, op_icne 68), (47, op_iinc 1 1), (50, op_ild 5 2), (52, op_cs M_J6_bitCount_0f7a4 1), (55, op_ild 2 1), (56, op_icle 68), (59, op_ild 5 2), (61, op_cs M_J6_bitCount_0f7a4 1), (64, op_ist 2 1), (65, op_ild 4 2), (67, op_ist 3 1), (68, op_iinc 4 1), (71, op_goto 9), (74, op_ald 0 1), (75, op_gf 11 1 3), (78, op_cv M_X9_clears 9 0), (81, op_ild 1 1), (82, op_ifle 96), (85, op_ald 0 1), (86, op_gf 11 1 3), (89, op_ild 2 1), (90, op_i2l), (91, op_ild 3 1), (92, op_i2l), (93, op_cv M_X9_tells_ 9 2), (96, op_ild 1 1), (97, op_iret)]
set_option maxRecDepth 20000 in
theorem K_X11_rings : ∀ r ∈ T_X11_rings, OpOK M_X11_rings r.1 r.2 :=
  fc (ok_iconst (n := 0) (by decide +kernel) (by decide +kernel)) <|
  fc (ok_istn (q := 1) (by decide +kernel) rfl (by decide)) <|
  fc (ok_iconst (n := 0) (by decide +kernel) (by decide +kernel)) <|
  fc (ok_istn (q := 2) (by decide +kernel) rfl (by decide)) <|
  fc (ok_iconst (n := -1) (by decide +kernel) (by decide +kernel)) <|
  fc (ok_istn (q := 3) (by decide +kernel) rfl (by decide)) <|
  fc (ok_iconst (n := 0) (by decide +kernel) (by decide +kernel)) <|
  fc (ok_ist (by decide +kernel) (by decide)) <|
  fc (ok_ild (by decide +kernel)) <|
  fc (ok_aldn (q := 0) (by decide +kernel) rfl) <|
  fc (ok_gf mk_X11_rings (fo_RX11_26 rfl) rfl (by decide +kernel)) <|
  fc (ok_gi mk_X11_rings (fo_RX11_250 rfl) rfl (by decide +kernel)) <|
  fc (ok_icge (off := 56) (by decide +kernel) (by decide)) <|
  fc (ok_aldn (q := 0) (by decide +kernel) rfl) <|
  fc (ok_gf mk_X11_rings (fo_RX11_26 rfl) rfl (by decide +kernel)) <|
  fc (ok_ild (by decide +kernel)) <|
  fc (ok_cv mk_X11_rings mk_X2_ring ⟨uw809, uw810, uw811, uw23, by decide +kernel⟩ (T := TX2) (N := 8) rfl (by decide +kernel)) <|
  fc (ok_ist (by decide +kernel) (by decide)) <|
  fc (ok_ild (by decide +kernel)) <|
  fc (ok_ifeq (off := 34) (by decide +kernel) (by decide)) <|
  fc (ok_ild (by decide +kernel)) <|
  fc (ok_cs mk_X11_rings mk_J6_numberOfTrailingZeros_0f7a4 ⟨uw825, uw826, uw430, by decide +kernel⟩ (by decide +kernel)) <|
  fc (ok_ild (by decide +kernel)) <|
  fc (ok_icne (off := 24) (by decide +kernel) (by decide)) <|
  fc (ok_iinc (n := 1) (by decide +kernel) (by decide +kernel) (by decide)) <|
  fc (ok_ild (by decide +kernel)) <|
  fc (ok_cs mk_X11_rings mk_J6_bitCount_0f7a4 ⟨uw788, uw429, uw430, by decide +kernel⟩ (by decide +kernel)) <|
  fc (ok_ildn (q := 2) (by decide +kernel) rfl) <|
  fc (ok_icle (off := 12) (by decide +kernel) (by decide)) <|
  fc (ok_ild (by decide +kernel)) <|
  fc (ok_cs mk_X11_rings mk_J6_bitCount_0f7a4 ⟨uw788, uw429, uw430, by decide +kernel⟩ (by decide +kernel)) <|
  fc (ok_istn (q := 2) (by decide +kernel) rfl (by decide)) <|
  fc (ok_ild (by decide +kernel)) <|
  fc (ok_istn (q := 3) (by decide +kernel) rfl (by decide)) <|
  fc (ok_iinc (n := 1) (by decide +kernel) (by decide +kernel) (by decide)) <|
  fc (ok_goto (off := -62) (by decide +kernel) (by decide)) <|
  fc (ok_aldn (q := 0) (by decide +kernel) rfl) <|
  fc (ok_gf mk_X11_rings (fo_RX11_19 rfl) rfl (by decide +kernel)) <|
  fc (ok_cv mk_X11_rings mk_X9_clears ⟨uw754, uw755, uw756, uw19, by decide +kernel⟩ (T := TX9) (N := 2) rfl (by decide +kernel)) <|
  fc (ok_ildn (q := 1) (by decide +kernel) rfl) <|
  fc (ok_ifle (off := 14) (by decide +kernel) (by decide)) <|
  fc (ok_aldn (q := 0) (by decide +kernel) rfl) <|
  fc (ok_gf mk_X11_rings (fo_RX11_19 rfl) rfl (by decide +kernel)) <|
  fc (ok_ildn (q := 2) (by decide +kernel) rfl) <|
  fc (ok_i2l (by decide +kernel)) <|
  fc (ok_ildn (q := 3) (by decide +kernel) rfl) <|
  fc (ok_i2l (by decide +kernel)) <|
  fc (ok_cv mk_X11_rings mk_X9_tells_ ⟨uw651, uw652, uw653, uw19, by decide +kernel⟩ (T := TX9) (N := 2) rfl (by decide +kernel)) <|
  fc (ok_ildn (q := 1) (by decide +kernel) rfl) <|
  fc (ok_iret rfl (by decide +kernel)) <| fn
def T_X11_robs : List (Nat × Op) := [(0, op_ald 0 1), (1, op_gf 11 2 5), (4, op_ild 1 1), (5, op_cv M_X2_has 2 1), (8, op_ifne 13), (11, op_ic (-1) 1), (12, op_iret), (13, op_ic 0 1), (14, op_ist 2 1), (15, op_ic (-1) 1), (16, op_ist 3 1), (17, op_ic 0 1), (18, op_ist 4 2), (20, op_ild 4 2), (22, op_ald 0 1), (23, op_gf 11 2 5), (26, op_gi 2 5), (29, op_icge 100), (32, op_ald 0 1), (33, op_gf 11 2 5), (36, op_gf 2 3 4), (39, op_ild 4 2), (41, op_iald), (42, op_ild 1 1), (43, op_icne 94), (46, op_ild 4 2), (48, op_ild 1 1), (49, op_iceq 94), (52, op_ild 2 1), (53, op_ald 0 1), (54, op_gf 11 2 5), (57, op_gf 2 2 3), (60, op_ild 4 2), (62, op_iald), (63, op_iadd), (64, op_ist 2 1), (65, op_ild 3 1), (66, op_iflt 91), (69, op_ald 0 1), (70, op_gf 11 2 5), (73, op_gf 2 2 3), (76, op_ild 4 2), (78, op_iald), (79, op_ald 0 1), (80, op_gf 11 2 5), (83, op_gf 2 2 3), (86, op_ild 3 1), (87, op_iald), (88, op_icle 94), (91, op_ild 4 2), (93, op_ist 3 1), (94, op_iinc 4 1), (97, op_goto 20), (100, op_ald 0 1), (101, op_gf 11 1 3), (104, op_ild 3 1), (105, op_i2l), (106, op_cv M_X9_tells 9 1), (109, op_ild 2 1), (110, op_iret)]
set_option maxRecDepth 20000 in
theorem K_X11_robs : ∀ r ∈ T_X11_robs, OpOK M_X11_robs r.1 r.2 :=
  fc (ok_aldn (q := 0) (by decide +kernel) rfl) <|
  fc (ok_gf mk_X11_robs (fo_RX11_26 rfl) rfl (by decide +kernel)) <|
  fc (ok_ildn (q := 1) (by decide +kernel) rfl) <|
  fc (ok_cv mk_X11_robs mk_X2_has ⟨uw396, uw397, uw398, uw23, by decide +kernel⟩ (T := TX2) (N := 8) rfl (by decide +kernel)) <|
  fc (ok_ifne (off := 5) (by decide +kernel) (by decide)) <|
  fc (ok_iconst (n := -1) (by decide +kernel) (by decide +kernel)) <|
  fc (ok_iret rfl (by decide +kernel)) <|
  fc (ok_iconst (n := 0) (by decide +kernel) (by decide +kernel)) <|
  fc (ok_istn (q := 2) (by decide +kernel) rfl (by decide)) <|
  fc (ok_iconst (n := -1) (by decide +kernel) (by decide +kernel)) <|
  fc (ok_istn (q := 3) (by decide +kernel) rfl (by decide)) <|
  fc (ok_iconst (n := 0) (by decide +kernel) (by decide +kernel)) <|
  fc (ok_ist (by decide +kernel) (by decide)) <|
  fc (ok_ild (by decide +kernel)) <|
  fc (ok_aldn (q := 0) (by decide +kernel) rfl) <|
  fc (ok_gf mk_X11_robs (fo_RX11_26 rfl) rfl (by decide +kernel)) <|
  fc (ok_gi mk_X11_robs (fo_RX11_250 rfl) rfl (by decide +kernel)) <|
  fc (ok_icge (off := 71) (by decide +kernel) (by decide)) <|
  fc (ok_aldn (q := 0) (by decide +kernel) rfl) <|
  fc (ok_gf mk_X11_robs (fo_RX11_26 rfl) rfl (by decide +kernel)) <|
  fc (ok_gf mk_X11_robs (fo_RX11_141 rfl) rfl (by decide +kernel)) <|
  fc (ok_ild (by decide +kernel)) <|
  fc (ok_iald (by decide +kernel)) <|
  fc (ok_ildn (q := 1) (by decide +kernel) rfl) <|
  fc (ok_icne (off := 51) (by decide +kernel) (by decide)) <|
  fc (ok_ild (by decide +kernel)) <|
  fc (ok_ildn (q := 1) (by decide +kernel) rfl) <|
  fc (ok_iceq (off := 45) (by decide +kernel) (by decide)) <|
  fc (ok_ildn (q := 2) (by decide +kernel) rfl) <|
  fc (ok_aldn (q := 0) (by decide +kernel) rfl) <|
  fc (ok_gf mk_X11_robs (fo_RX11_26 rfl) rfl (by decide +kernel)) <|
  fc (ok_gf mk_X11_robs (fo_RX11_130 rfl) rfl (by decide +kernel)) <|
  fc (ok_ild (by decide +kernel)) <|
  fc (ok_iald (by decide +kernel)) <|
  fc (ok_iadd (by decide +kernel)) <|
  fc (ok_istn (q := 2) (by decide +kernel) rfl (by decide)) <|
  fc (ok_ildn (q := 3) (by decide +kernel) rfl) <|
  fc (ok_iflt (off := 25) (by decide +kernel) (by decide)) <|
  fc (ok_aldn (q := 0) (by decide +kernel) rfl) <|
  fc (ok_gf mk_X11_robs (fo_RX11_26 rfl) rfl (by decide +kernel)) <|
  fc (ok_gf mk_X11_robs (fo_RX11_130 rfl) rfl (by decide +kernel)) <|
  fc (ok_ild (by decide +kernel)) <|
  fc (ok_iald (by decide +kernel)) <|
  fc (ok_aldn (q := 0) (by decide +kernel) rfl) <|
  fc (ok_gf mk_X11_robs (fo_RX11_26 rfl) rfl (by decide +kernel)) <|
  fc (ok_gf mk_X11_robs (fo_RX11_130 rfl) rfl (by decide +kernel)) <|
  fc (ok_ildn (q := 3) (by decide +kernel) rfl) <|
  fc (ok_iald (by decide +kernel)) <|
  fc (ok_icle (off := 6) (by decide +kernel) (by decide)) <|
  fc (ok_ild (by decide +kernel)) <|
  fc (ok_istn (q := 3) (by decide +kernel) rfl (by decide)) <|
  fc (ok_iinc (n := 1) (by decide +kernel) (by decide +kernel) (by decide)) <|
  fc (ok_goto (off := -77) (by decide +kernel) (by decide)) <|
  fc (ok_aldn (q := 0) (by decide +kernel) rfl) <|
  fc (ok_gf mk_X11_robs (fo_RX11_19 rfl) rfl (by decide +kernel)) <|
  fc (ok_ildn (q := 3) (by decide +kernel) rfl) <|
  fc (ok_i2l (by decide +kernel)) <|
  fc (ok_cv mk_X11_robs mk_X9_tells ⟨uw789, uw790, uw791, uw19, by decide +kernel⟩ (T := TX9) (N := 2) rfl (by decide +kernel)) <|
  fc (ok_ildn (q := 2) (by decide +kernel) rfl) <|
  fc (ok_iret rfl (by decide +kernel)) <| fn
def T_X11_order : List (Nat × Op) := [(0, op_ald 0 1), (1, op_gf 11 3 11), (4, op_ald 0 1), (5, op_gf 11 2 5), (8, op_cv M_X2_takes 2 1), (11, op_ald 0 1), (12, op_gf 11 6 20), (15, op_ald 0 1), (16, op_gf 11 3 11), (19, op_ald 0 1), (20, op_gr 11 11), (23, op_cv M_X10_sayBack 10 2), (26, op_ist 1 1), (27, op_ald 0 1), (28, op_gf 11 1 3), (31, op_cv M_X9_clears 9 0), (34, op_ic 0 1), (35, op_ist 2 1), (36, op_ild 2 1), (37, op_ald 0 1), (38, op_gf 11 6 20), (41, op_gi 10 9), (44, op_icge 70), (47, op_ald 0 1), (48, op_gf 11 1 3), (51, op_ald 0 1), (52, op_gf 11 6 20), (55, op_gf 10 8 7), (58, op_ild 2 1), (59, op_iald), (60, op_i2l), (61, op_cv M_X9_adds 9 1), (64, op_iinc 2 1), (67, op_goto 36), (70, op_ild 1 1), (71, op_iret)]
set_option maxRecDepth 20000 in
theorem K_X11_order : ∀ r ∈ T_X11_order, OpOK M_X11_order r.1 r.2 :=
  fc (ok_aldn (q := 0) (by decide +kernel) rfl) <|
  fc (ok_gf mk_X11_order (fo_RX11_30 rfl) rfl (by decide +kernel)) <|
  fc (ok_aldn (q := 0) (by decide +kernel) rfl) <|
  fc (ok_gf mk_X11_order (fo_RX11_26 rfl) rfl (by decide +kernel)) <|
  fc (ok_cv mk_X11_order mk_X2_takes ⟨uw733, uw734, uw735, uw23, by decide +kernel⟩ (T := TX2) (N := 8) rfl (by decide +kernel)) <|
  fc (ok_aldn (q := 0) (by decide +kernel) rfl) <|
  fc (ok_gf mk_X11_order (fo_RX11_50 rfl) rfl (by decide +kernel)) <|
  fc (ok_aldn (q := 0) (by decide +kernel) rfl) <|
  fc (ok_gf mk_X11_order (fo_RX11_30 rfl) rfl (by decide +kernel)) <|
  fc (ok_aldn (q := 0) (by decide +kernel) rfl) <|
  fc (ok_gr mk_X11_order (fo_RX11_85 rfl) rfl (by decide +kernel)) <|
  fc (ok_cv mk_X11_order mk_X10_sayBack ⟨uw855, uw856, uw857, uw36, by decide +kernel⟩ (T := TX10) (N := 14) rfl (by decide +kernel)) <|
  fc (ok_istn (q := 1) (by decide +kernel) rfl (by decide)) <|
  fc (ok_aldn (q := 0) (by decide +kernel) rfl) <|
  fc (ok_gf mk_X11_order (fo_RX11_19 rfl) rfl (by decide +kernel)) <|
  fc (ok_cv mk_X11_order mk_X9_clears ⟨uw754, uw755, uw756, uw19, by decide +kernel⟩ (T := TX9) (N := 2) rfl (by decide +kernel)) <|
  fc (ok_iconst (n := 0) (by decide +kernel) (by decide +kernel)) <|
  fc (ok_istn (q := 2) (by decide +kernel) rfl (by decide)) <|
  fc (ok_ildn (q := 2) (by decide +kernel) rfl) <|
  fc (ok_aldn (q := 0) (by decide +kernel) rfl) <|
  fc (ok_gf mk_X11_order (fo_RX11_50 rfl) rfl (by decide +kernel)) <|
  fc (ok_gi mk_X11_order (fo_RX11_258 rfl) rfl (by decide +kernel)) <|
  fc (ok_icge (off := 26) (by decide +kernel) (by decide)) <|
  fc (ok_aldn (q := 0) (by decide +kernel) rfl) <|
  fc (ok_gf mk_X11_order (fo_RX11_19 rfl) rfl (by decide +kernel)) <|
  fc (ok_aldn (q := 0) (by decide +kernel) rfl) <|
  fc (ok_gf mk_X11_order (fo_RX11_50 rfl) rfl (by decide +kernel)) <|
  fc (ok_gf mk_X11_order (fo_RX11_261 rfl) rfl (by decide +kernel)) <|
  fc (ok_ildn (q := 2) (by decide +kernel) rfl) <|
  fc (ok_iald (by decide +kernel)) <|
  fc (ok_i2l (by decide +kernel)) <|
  fc (ok_cv mk_X11_order mk_X9_adds ⟨uw762, uw657, uw658, uw19, by decide +kernel⟩ (T := TX9) (N := 2) rfl (by decide +kernel)) <|
  fc (ok_iinc (n := 1) (by decide +kernel) (by decide +kernel) (by decide)) <|
  fc (ok_goto (off := -31) (by decide +kernel) (by decide)) <|
  fc (ok_ildn (q := 1) (by decide +kernel) rfl) <|
  fc (ok_iret rfl (by decide +kernel)) <| fn
def T_X11_silences : List (Nat × Op) := [(0, op_ild 1 1), (1, op_ic 1 1), (2, op_iclt 11), (5, op_ild 1 1), (6, op_ic 30 2), (8, op_icle 13), (11, op_ic (-1) 1), (12, op_iret), (13, op_ald 0 1), (14, op_gf 11 2 5), (17, op_gi 2 5), (20, op_ifne 26), (23, op_ic (-2) 2), (25, op_iret), (26, op_ic (-1) 1), (27, op_ist 2 1), (28, op_ic (-1) 1), (29, op_ist 3 1), (30, op_ic 0 1), (31, op_ist 4 2), (33, op_ild 4 2), (35, op_ald 0 1), (36, op_gf 11 2 5), (39, op_gi 2 5), (42, op_icge 72), (45, op_ald 0 1), (46, op_ild 1 1), (47, op_ild 4 2), (49, op_cv M_X11_homesAfter 11 2), (52, op_ist 5 2), (54, op_ild 5 2), (56, op_ild 3 1), (57, op_icle 66), (60, op_ild 5 2), (62, op_ist 3 1), (63, op_ild 4 2), (65, op_ist 2 1), (66, op_iinc 4 1), (69, op_goto 33), (72, op_ald 0 1), (73, op_gf 11 1 3), (76, op_ild 3 1), (77, op_i2l), (78, op_ald 0 1), (79, op_ild 1 1), (80, op_ic (-1) 1), (81, op_cv M_X11_homesAfter 11 2), (84, op_i2l), (85, op_cv M_X9_tells_ 9 2), (88, op_ild 2 1), (89, op_iret)]
set_option maxRecDepth 20000 in
theorem K_X11_silences : ∀ r ∈ T_X11_silences, OpOK M_X11_silences r.1 r.2 :=
  fc (ok_ildn (q := 1) (by decide +kernel) rfl) <|
  fc (ok_iconst (n := 1) (by decide +kernel) (by decide +kernel)) <|
  fc (ok_iclt (off := 9) (by decide +kernel) (by decide)) <|
  fc (ok_ildn (q := 1) (by decide +kernel) rfl) <|
  fc (ok_bipush (n := 30) (by decide +kernel) (by decide +kernel)) <|
  fc (ok_icle (off := 5) (by decide +kernel) (by decide)) <|
  fc (ok_iconst (n := -1) (by decide +kernel) (by decide +kernel)) <|
  fc (ok_iret rfl (by decide +kernel)) <|
  fc (ok_aldn (q := 0) (by decide +kernel) rfl) <|
  fc (ok_gf mk_X11_silences (fo_RX11_26 rfl) rfl (by decide +kernel)) <|
  fc (ok_gi mk_X11_silences (fo_RX11_250 rfl) rfl (by decide +kernel)) <|
  fc (ok_ifne (off := 6) (by decide +kernel) (by decide)) <|
  fc (ok_bipush (n := -2) (by decide +kernel) (by decide +kernel)) <|
  fc (ok_iret rfl (by decide +kernel)) <|
  fc (ok_iconst (n := -1) (by decide +kernel) (by decide +kernel)) <|
  fc (ok_istn (q := 2) (by decide +kernel) rfl (by decide)) <|
  fc (ok_iconst (n := -1) (by decide +kernel) (by decide +kernel)) <|
  fc (ok_istn (q := 3) (by decide +kernel) rfl (by decide)) <|
  fc (ok_iconst (n := 0) (by decide +kernel) (by decide +kernel)) <|
  fc (ok_ist (by decide +kernel) (by decide)) <|
  fc (ok_ild (by decide +kernel)) <|
  fc (ok_aldn (q := 0) (by decide +kernel) rfl) <|
  fc (ok_gf mk_X11_silences (fo_RX11_26 rfl) rfl (by decide +kernel)) <|
  fc (ok_gi mk_X11_silences (fo_RX11_250 rfl) rfl (by decide +kernel)) <|
  fc (ok_icge (off := 30) (by decide +kernel) (by decide)) <|
  fc (ok_aldn (q := 0) (by decide +kernel) rfl) <|
  fc (ok_ildn (q := 1) (by decide +kernel) rfl) <|
  fc (ok_ild (by decide +kernel)) <|
  fc (ok_cv mk_X11_silences mk_X11_homesAfter ⟨uw890, uw891, uw892, uw2, by decide +kernel⟩ (T := TX11) (N := 13) rfl (by decide +kernel)) <|
  fc (ok_ist (by decide +kernel) (by decide)) <|
  fc (ok_ild (by decide +kernel)) <|
  fc (ok_ildn (q := 3) (by decide +kernel) rfl) <|
  fc (ok_icle (off := 9) (by decide +kernel) (by decide)) <|
  fc (ok_ild (by decide +kernel)) <|
  fc (ok_istn (q := 3) (by decide +kernel) rfl (by decide)) <|
  fc (ok_ild (by decide +kernel)) <|
  fc (ok_istn (q := 2) (by decide +kernel) rfl (by decide)) <|
  fc (ok_iinc (n := 1) (by decide +kernel) (by decide +kernel) (by decide)) <|
  fc (ok_goto (off := -36) (by decide +kernel) (by decide)) <|
  fc (ok_aldn (q := 0) (by decide +kernel) rfl) <|
  fc (ok_gf mk_X11_silences (fo_RX11_19 rfl) rfl (by decide +kernel)) <|
  fc (ok_ildn (q := 3) (by decide +kernel) rfl) <|
  fc (ok_i2l (by decide +kernel)) <|
  fc (ok_aldn (q := 0) (by decide +kernel) rfl) <|
  fc (ok_ildn (q := 1) (by decide +kernel) rfl) <|
  fc (ok_iconst (n := -1) (by decide +kernel) (by decide +kernel)) <|
  fc (ok_cv mk_X11_silences mk_X11_homesAfter ⟨uw890, uw891, uw892, uw2, by decide +kernel⟩ (T := TX11) (N := 13) rfl (by decide +kernel)) <|
  fc (ok_i2l (by decide +kernel)) <|
  fc (ok_cv mk_X11_silences mk_X9_tells_ ⟨uw651, uw652, uw653, uw19, by decide +kernel⟩ (T := TX9) (N := 2) rfl (by decide +kernel)) <|
  fc (ok_ildn (q := 2) (by decide +kernel) rfl) <|
  fc (ok_iret rfl (by decide +kernel)) <| fn
def T_X11_homesAfter : List (Nat × Op) := [(0, op_ald 0 1), (1, op_gf 11 3 11), (4, op_ald 0 1), (5, op_gf 11 2 5), (8, op_cv M_X2_takes 2 1), (11, op_ald 0 1), (12, op_gf 11 3 11), (15, op_ald 0 1), (16, op_gr 11 11), (19, op_ild 1 1), (20, op_ild 2 1), (21, op_cv M_X2_passDays 2 3), (24, op_ald 0 1), (25, op_gf 11 3 11), (28, op_cv M_X2_homes 2 0), (31, op_cs M_J6_bitCount_0f7a4 1), (34, op_iret)]
set_option maxRecDepth 20000 in
theorem K_X11_homesAfter : ∀ r ∈ T_X11_homesAfter, OpOK M_X11_homesAfter r.1 r.2 :=
  fc (ok_aldn (q := 0) (by decide +kernel) rfl) <|
  fc (ok_gf mk_X11_homesAfter (fo_RX11_30 rfl) rfl (by decide +kernel)) <|
  fc (ok_aldn (q := 0) (by decide +kernel) rfl) <|
  fc (ok_gf mk_X11_homesAfter (fo_RX11_26 rfl) rfl (by decide +kernel)) <|
  fc (ok_cv mk_X11_homesAfter mk_X2_takes ⟨uw733, uw734, uw735, uw23, by decide +kernel⟩ (T := TX2) (N := 8) rfl (by decide +kernel)) <|
  fc (ok_aldn (q := 0) (by decide +kernel) rfl) <|
  fc (ok_gf mk_X11_homesAfter (fo_RX11_30 rfl) rfl (by decide +kernel)) <|
  fc (ok_aldn (q := 0) (by decide +kernel) rfl) <|
  fc (ok_gr mk_X11_homesAfter (fo_RX11_85 rfl) rfl (by decide +kernel)) <|
  fc (ok_ildn (q := 1) (by decide +kernel) rfl) <|
  fc (ok_ildn (q := 2) (by decide +kernel) rfl) <|
  fc (ok_cv mk_X11_homesAfter mk_X2_passDays ⟨uw643, uw644, uw645, uw23, by decide +kernel⟩ (T := TX2) (N := 8) rfl (by decide +kernel)) <|
  fc (ok_aldn (q := 0) (by decide +kernel) rfl) <|
  fc (ok_gf mk_X11_homesAfter (fo_RX11_30 rfl) rfl (by decide +kernel)) <|
  fc (ok_cv mk_X11_homesAfter mk_X2_homes ⟨uw660, uw661, uw662, uw23, by decide +kernel⟩ (T := TX2) (N := 8) rfl (by decide +kernel)) <|
  fc (ok_cs mk_X11_homesAfter mk_J6_bitCount_0f7a4 ⟨uw788, uw429, uw430, by decide +kernel⟩ (by decide +kernel)) <|
  fc (ok_iret rfl (by decide +kernel)) <| fn
def T_X11_goes : List (Nat × Op) := [(0, op_ald 0 1), (1, op_gf 11 2 5), (4, op_ild 1 1), (5, op_cv M_X2_has 2 1), (8, op_ifne 13), (11, op_ic (-1) 1), (12, op_iret), (13, op_ald 0 1), (14, op_gf 11 3 11), (17, op_ald 0 1), (18, op_gf 11 2 5), (21, op_cv M_X2_takes 2 1), (24, op_ald 0 1), (25, op_gf 11 2 5), (28, op_gf 2 0 1), (31, op_ild 1 1), (32, op_iald), (33, op_ist 2 1), (34, op_ild 2 1), (35, op_ist 3 1), (36, op_ic (-1) 1), (37, op_ist 4 2), (39, op_ic 0 1), (40, op_ist 5 2), (42, op_ild 5 2), (44, op_ic 10 2), (46, op_icge 120), (49, op_ald 0 1), (50, op_gf 11 3 11), (53, op_gf 2 0 1), (56, op_ild 1 1), (57, op_ild 5 2), (59, op_iast), (60, op_ald 0 1), (61, op_gf 11 3 11), (64, op_ald 0 1), (65, op_gr 11 11), (68, op_ild 1 1), (69, op_cv M_X2_sayable 2 2), (72, op_cs M_J6_bitCount_0f7a4 1), (75, op_ist 6 2), (77, op_ild 6 2), (79, op_ild 4 2), (81, op_icgt 107), (84, op_ild 6 2), (86, op_ild 4 2), (88, op_icne 114), (91, op_ild 5 2), (93, op_ild 2 1), (94, op_isub), (95, op_abs), (98, op_ild 3 1), (99, op_ild 2 1), (100, op_isub), (101, op_abs), (104, op_icge 114), (107, op_ild 6 2), (109, op_ist 4 2), (111, op_ild 5 2), (113, op_ist 3 1), (114, op_iinc 5 1), (117, op_goto 42), (120, op_ald 0 1), (121, op_gf 11 1 3), (124, op_ild 4 2), (126, op_i2l), (127, op_ild 3 1), (128, op_ild 2 1), (129, op_isub), (130, op_abs), (133, op_i2l), (134, op_cv M_X9_tells_ 9 2), (137, op_ild 3 1), (138, op_iret)]
set_option maxRecDepth 20000 in
theorem K_X11_goes : ∀ r ∈ T_X11_goes, OpOK M_X11_goes r.1 r.2 :=
  fc (ok_aldn (q := 0) (by decide +kernel) rfl) <|
  fc (ok_gf mk_X11_goes (fo_RX11_26 rfl) rfl (by decide +kernel)) <|
  fc (ok_ildn (q := 1) (by decide +kernel) rfl) <|
  fc (ok_cv mk_X11_goes mk_X2_has ⟨uw396, uw397, uw398, uw23, by decide +kernel⟩ (T := TX2) (N := 8) rfl (by decide +kernel)) <|
  fc (ok_ifne (off := 5) (by decide +kernel) (by decide)) <|
  fc (ok_iconst (n := -1) (by decide +kernel) (by decide +kernel)) <|
  fc (ok_iret rfl (by decide +kernel)) <|
  fc (ok_aldn (q := 0) (by decide +kernel) rfl) <|
  fc (ok_gf mk_X11_goes (fo_RX11_30 rfl) rfl (by decide +kernel)) <|
  fc (ok_aldn (q := 0) (by decide +kernel) rfl) <|
  fc (ok_gf mk_X11_goes (fo_RX11_26 rfl) rfl (by decide +kernel)) <|
  fc (ok_cv mk_X11_goes mk_X2_takes ⟨uw733, uw734, uw735, uw23, by decide +kernel⟩ (T := TX2) (N := 8) rfl (by decide +kernel)) <|
  fc (ok_aldn (q := 0) (by decide +kernel) rfl) <|
  fc (ok_gf mk_X11_goes (fo_RX11_26 rfl) rfl (by decide +kernel)) <|
  fc (ok_gf mk_X11_goes (fo_RX11_123 rfl) rfl (by decide +kernel)) <|
  fc (ok_ildn (q := 1) (by decide +kernel) rfl) <|
  fc (ok_iald (by decide +kernel)) <|
  fc (ok_istn (q := 2) (by decide +kernel) rfl (by decide)) <|
  fc (ok_ildn (q := 2) (by decide +kernel) rfl) <|
  fc (ok_istn (q := 3) (by decide +kernel) rfl (by decide)) <|
  fc (ok_iconst (n := -1) (by decide +kernel) (by decide +kernel)) <|
  fc (ok_ist (by decide +kernel) (by decide)) <|
  fc (ok_iconst (n := 0) (by decide +kernel) (by decide +kernel)) <|
  fc (ok_ist (by decide +kernel) (by decide)) <|
  fc (ok_ild (by decide +kernel)) <|
  fc (ok_bipush (n := 10) (by decide +kernel) (by decide +kernel)) <|
  fc (ok_icge (off := 74) (by decide +kernel) (by decide)) <|
  fc (ok_aldn (q := 0) (by decide +kernel) rfl) <|
  fc (ok_gf mk_X11_goes (fo_RX11_30 rfl) rfl (by decide +kernel)) <|
  fc (ok_gf mk_X11_goes (fo_RX11_123 rfl) rfl (by decide +kernel)) <|
  fc (ok_ildn (q := 1) (by decide +kernel) rfl) <|
  fc (ok_ild (by decide +kernel)) <|
  fc (ok_iast (by decide +kernel)) <|
  fc (ok_aldn (q := 0) (by decide +kernel) rfl) <|
  fc (ok_gf mk_X11_goes (fo_RX11_30 rfl) rfl (by decide +kernel)) <|
  fc (ok_aldn (q := 0) (by decide +kernel) rfl) <|
  fc (ok_gr mk_X11_goes (fo_RX11_85 rfl) rfl (by decide +kernel)) <|
  fc (ok_ildn (q := 1) (by decide +kernel) rfl) <|
  fc (ok_cv mk_X11_goes mk_X2_sayable ⟨uw404, uw405, uw406, uw23, by decide +kernel⟩ (T := TX2) (N := 8) rfl (by decide +kernel)) <|
  fc (ok_cs mk_X11_goes mk_J6_bitCount_0f7a4 ⟨uw788, uw429, uw430, by decide +kernel⟩ (by decide +kernel)) <|
  fc (ok_ist (by decide +kernel) (by decide)) <|
  fc (ok_ild (by decide +kernel)) <|
  fc (ok_ild (by decide +kernel)) <|
  fc (ok_icgt (off := 26) (by decide +kernel) (by decide)) <|
  fc (ok_ild (by decide +kernel)) <|
  fc (ok_ild (by decide +kernel)) <|
  fc (ok_icne (off := 26) (by decide +kernel) (by decide)) <|
  fc (ok_ild (by decide +kernel)) <|
  fc (ok_ildn (q := 2) (by decide +kernel) rfl) <|
  fc (ok_isub (by decide +kernel)) <|
  fc (ok_abs mk_X11_goes uw906 uw423 uw212 uw424 (by decide +kernel)) <|
  fc (ok_ildn (q := 3) (by decide +kernel) rfl) <|
  fc (ok_ildn (q := 2) (by decide +kernel) rfl) <|
  fc (ok_isub (by decide +kernel)) <|
  fc (ok_abs mk_X11_goes uw906 uw423 uw212 uw424 (by decide +kernel)) <|
  fc (ok_icge (off := 10) (by decide +kernel) (by decide)) <|
  fc (ok_ild (by decide +kernel)) <|
  fc (ok_ist (by decide +kernel) (by decide)) <|
  fc (ok_ild (by decide +kernel)) <|
  fc (ok_istn (q := 3) (by decide +kernel) rfl (by decide)) <|
  fc (ok_iinc (n := 1) (by decide +kernel) (by decide +kernel) (by decide)) <|
  fc (ok_goto (off := -75) (by decide +kernel) (by decide)) <|
  fc (ok_aldn (q := 0) (by decide +kernel) rfl) <|
  fc (ok_gf mk_X11_goes (fo_RX11_19 rfl) rfl (by decide +kernel)) <|
  fc (ok_ild (by decide +kernel)) <|
  fc (ok_i2l (by decide +kernel)) <|
  fc (ok_ildn (q := 3) (by decide +kernel) rfl) <|
  fc (ok_ildn (q := 2) (by decide +kernel) rfl) <|
  fc (ok_isub (by decide +kernel)) <|
  fc (ok_abs mk_X11_goes uw906 uw423 uw212 uw424 (by decide +kernel)) <|
  fc (ok_i2l (by decide +kernel)) <|
  fc (ok_cv mk_X11_goes mk_X9_tells_ ⟨uw651, uw652, uw653, uw19, by decide +kernel⟩ (T := TX9) (N := 2) rfl (by decide +kernel)) <|
  fc (ok_ildn (q := 3) (by decide +kernel) rfl) <|
  fc (ok_iret rfl (by decide +kernel)) <| fn
def T_X11_peace : List (Nat × Op) := [(0, op_ald 0 1), (1, op_ic 1 1), (2, op_ald 0 1), (3, op_gf 11 2 5), (6, op_gi 2 5), (9, op_ishl), (10, op_ic 1 1), (11, op_isub), (12, op_cv M_X11_daysUntilHome 11 1), (15, op_ist 1 1), (16, op_ild 1 1), (17, op_ifge 23), (20, op_ic (-2) 2), (22, op_iret), (23, op_ald 0 1), (24, op_gf 11 1 3), (27, op_ald 0 1), (28, op_gf 11 3 11), (31, op_cv M_X2_purses 2 0), (34, op_i2l), (35, op_cv M_X9_tells 9 1), (38, op_ild 1 1), (39, op_iret)]
set_option maxRecDepth 20000 in
theorem K_X11_peace : ∀ r ∈ T_X11_peace, OpOK M_X11_peace r.1 r.2 :=
  fc (ok_aldn (q := 0) (by decide +kernel) rfl) <|
  fc (ok_iconst (n := 1) (by decide +kernel) (by decide +kernel)) <|
  fc (ok_aldn (q := 0) (by decide +kernel) rfl) <|
  fc (ok_gf mk_X11_peace (fo_RX11_26 rfl) rfl (by decide +kernel)) <|
  fc (ok_gi mk_X11_peace (fo_RX11_250 rfl) rfl (by decide +kernel)) <|
  fc (ok_ishl (by decide +kernel)) <|
  fc (ok_iconst (n := 1) (by decide +kernel) (by decide +kernel)) <|
  fc (ok_isub (by decide +kernel)) <|
  fc (ok_cv mk_X11_peace mk_X11_daysUntilHome ⟨uw783, uw784, uw785, uw2, by decide +kernel⟩ (T := TX11) (N := 13) rfl (by decide +kernel)) <|
  fc (ok_istn (q := 1) (by decide +kernel) rfl (by decide)) <|
  fc (ok_ildn (q := 1) (by decide +kernel) rfl) <|
  fc (ok_ifge (off := 6) (by decide +kernel) (by decide)) <|
  fc (ok_bipush (n := -2) (by decide +kernel) (by decide +kernel)) <|
  fc (ok_iret rfl (by decide +kernel)) <|
  fc (ok_aldn (q := 0) (by decide +kernel) rfl) <|
  fc (ok_gf mk_X11_peace (fo_RX11_19 rfl) rfl (by decide +kernel)) <|
  fc (ok_aldn (q := 0) (by decide +kernel) rfl) <|
  fc (ok_gf mk_X11_peace (fo_RX11_30 rfl) rfl (by decide +kernel)) <|
  fc (ok_cv mk_X11_peace mk_X2_purses ⟨uw508, uw509, uw510, uw23, by decide +kernel⟩ (T := TX2) (N := 8) rfl (by decide +kernel)) <|
  fc (ok_i2l (by decide +kernel)) <|
  fc (ok_cv mk_X11_peace mk_X9_tells ⟨uw789, uw790, uw791, uw19, by decide +kernel⟩ (T := TX9) (N := 2) rfl (by decide +kernel)) <|
  fc (ok_ildn (q := 1) (by decide +kernel) rfl) <|
  fc (ok_iret rfl (by decide +kernel)) <| fn
def T_X11_wed : List (Nat × Op) := [(0, op_ic 0 1), (1, op_ist 1 1), (2, op_ald 0 1), (3, op_gf 11 1 3), (6, op_cv M_X9_clears 9 0), (9, op_ic 0 1), (10, op_ist 2 1), (11, op_ild 2 1), (12, op_ald 0 1), (13, op_gf 11 2 5), (16, op_gi 2 5), (19, op_icge 74), (22, op_ald 0 1), (23, op_gf 11 2 5), (26, op_gf 2 3 4), (29, op_ild 2 1), (30, op_iald), (31, op_ist 3 1), (32, op_ild 3 1), (33, op_ild 2 1), (34, op_icle 68), (37, op_ald 0 1), (38, op_gf 11 2 5), (41, op_gf 2 3 4), (44, op_ild 3 1), (45, op_iald), (46, op_ild 2 1), (47, op_icne 68), (50, op_ild 1 1), (51, op_ifne 65), (54, op_ald 0 1), (55, op_gf 11 1 3), (58, op_ild 2 1), (59, op_i2l), (60, op_ild 3 1), (61, op_i2l), (62, op_cv M_X9_tells_ 9 2), (65, op_iinc 1 1), (68, op_iinc 2 1), (71, op_goto 11), (74, op_ild 1 1), (75, op_iret)]
set_option maxRecDepth 20000 in
theorem K_X11_wed : ∀ r ∈ T_X11_wed, OpOK M_X11_wed r.1 r.2 :=
  fc (ok_iconst (n := 0) (by decide +kernel) (by decide +kernel)) <|
  fc (ok_istn (q := 1) (by decide +kernel) rfl (by decide)) <|
  fc (ok_aldn (q := 0) (by decide +kernel) rfl) <|
  fc (ok_gf mk_X11_wed (fo_RX11_19 rfl) rfl (by decide +kernel)) <|
  fc (ok_cv mk_X11_wed mk_X9_clears ⟨uw754, uw755, uw756, uw19, by decide +kernel⟩ (T := TX9) (N := 2) rfl (by decide +kernel)) <|
  fc (ok_iconst (n := 0) (by decide +kernel) (by decide +kernel)) <|
  fc (ok_istn (q := 2) (by decide +kernel) rfl (by decide)) <|
  fc (ok_ildn (q := 2) (by decide +kernel) rfl) <|
  fc (ok_aldn (q := 0) (by decide +kernel) rfl) <|
  fc (ok_gf mk_X11_wed (fo_RX11_26 rfl) rfl (by decide +kernel)) <|
  fc (ok_gi mk_X11_wed (fo_RX11_250 rfl) rfl (by decide +kernel)) <|
  fc (ok_icge (off := 55) (by decide +kernel) (by decide)) <|
  fc (ok_aldn (q := 0) (by decide +kernel) rfl) <|
  fc (ok_gf mk_X11_wed (fo_RX11_26 rfl) rfl (by decide +kernel)) <|
  fc (ok_gf mk_X11_wed (fo_RX11_141 rfl) rfl (by decide +kernel)) <|
  fc (ok_ildn (q := 2) (by decide +kernel) rfl) <|
  fc (ok_iald (by decide +kernel)) <|
  fc (ok_istn (q := 3) (by decide +kernel) rfl (by decide)) <|
  fc (ok_ildn (q := 3) (by decide +kernel) rfl) <|
  fc (ok_ildn (q := 2) (by decide +kernel) rfl) <|
  fc (ok_icle (off := 34) (by decide +kernel) (by decide)) <|
  fc (ok_aldn (q := 0) (by decide +kernel) rfl) <|
  fc (ok_gf mk_X11_wed (fo_RX11_26 rfl) rfl (by decide +kernel)) <|
  fc (ok_gf mk_X11_wed (fo_RX11_141 rfl) rfl (by decide +kernel)) <|
  fc (ok_ildn (q := 3) (by decide +kernel) rfl) <|
  fc (ok_iald (by decide +kernel)) <|
  fc (ok_ildn (q := 2) (by decide +kernel) rfl) <|
  fc (ok_icne (off := 21) (by decide +kernel) (by decide)) <|
  fc (ok_ildn (q := 1) (by decide +kernel) rfl) <|
  fc (ok_ifne (off := 14) (by decide +kernel) (by decide)) <|
  fc (ok_aldn (q := 0) (by decide +kernel) rfl) <|
  fc (ok_gf mk_X11_wed (fo_RX11_19 rfl) rfl (by decide +kernel)) <|
  fc (ok_ildn (q := 2) (by decide +kernel) rfl) <|
  fc (ok_i2l (by decide +kernel)) <|
  fc (ok_ildn (q := 3) (by decide +kernel) rfl) <|
  fc (ok_i2l (by decide +kernel)) <|
  fc (ok_cv mk_X11_wed mk_X9_tells_ ⟨uw651, uw652, uw653, uw19, by decide +kernel⟩ (T := TX9) (N := 2) rfl (by decide +kernel)) <|
  fc (ok_iinc (n := 1) (by decide +kernel) (by decide +kernel) (by decide)) <|
  fc (ok_iinc (n := 1) (by decide +kernel) (by decide +kernel) (by decide)) <|
  fc (ok_goto (off := -60) (by decide +kernel) (by decide)) <|
  fc (ok_ildn (q := 1) (by decide +kernel) rfl) <|
  fc (ok_iret rfl (by decide +kernel)) <| fn
def T_X11_loud : List (Nat × Op) := [(0, op_ald 0 1), (1, op_gf 11 2 5), (4, op_gi 2 5), (7, op_ifne 13), (10, op_ic (-2) 2), (12, op_iret), (13, op_ic 0 1), (14, op_ist 1 1), (15, op_ic (-1) 1), (16, op_ist 2 1), (17, op_ic 0 1), (18, op_ist 3 1), (19, op_ic 0 1), (20, op_ist 4 2), (22, op_ild 4 2), (24, op_ald 0 1), (25, op_gf 11 2 5), (28, op_gi 2 5), (31, op_icge 78), (34, op_ald 0 1), (35, op_gf 11 2 5), (38, op_ald 0 1), (39, op_gr 11 11), (42, op_ild 4 2), (44, op_cv M_X2_sayable 2 2), (47, op_ist 5 2), (49, op_ild 3 1), (50, op_ild 5 2), (52, op_ior), (53, op_ist 3 1), (54, op_ild 5 2), (56, op_cs M_J6_bitCount_0f7a4 1), (59, op_ild 2 1), (60, op_icle 72), (63, op_ild 5 2), (65, op_cs M_J6_bitCount_0f7a4 1), (68, op_ist 2 1), (69, op_ild 4 2), (71, op_ist 1 1), (72, op_iinc 4 1), (75, op_goto 22), (78, op_ald 0 1), (79, op_gf 11 1 3), (82, op_ild 2 1), (83, op_i2l), (84, op_ic 1 1), (85, op_ald 0 1), (86, op_gf 11 2 5), (89, op_gi 2 5), (92, op_ishl), (93, op_ic 1 1), (94, op_isub), (95, op_ild 3 1), (96, op_ic (-1) 1), (97, op_ixor), (98, op_iand), (99, op_i2l), (100, op_cv M_X9_tells_ 9 2), (103, op_ild 1 1), (104, op_iret)]
set_option maxRecDepth 20000 in
theorem K_X11_loud : ∀ r ∈ T_X11_loud, OpOK M_X11_loud r.1 r.2 :=
  fc (ok_aldn (q := 0) (by decide +kernel) rfl) <|
  fc (ok_gf mk_X11_loud (fo_RX11_26 rfl) rfl (by decide +kernel)) <|
  fc (ok_gi mk_X11_loud (fo_RX11_250 rfl) rfl (by decide +kernel)) <|
  fc (ok_ifne (off := 6) (by decide +kernel) (by decide)) <|
  fc (ok_bipush (n := -2) (by decide +kernel) (by decide +kernel)) <|
  fc (ok_iret rfl (by decide +kernel)) <|
  fc (ok_iconst (n := 0) (by decide +kernel) (by decide +kernel)) <|
  fc (ok_istn (q := 1) (by decide +kernel) rfl (by decide)) <|
  fc (ok_iconst (n := -1) (by decide +kernel) (by decide +kernel)) <|
  fc (ok_istn (q := 2) (by decide +kernel) rfl (by decide)) <|
  fc (ok_iconst (n := 0) (by decide +kernel) (by decide +kernel)) <|
  fc (ok_istn (q := 3) (by decide +kernel) rfl (by decide)) <|
  fc (ok_iconst (n := 0) (by decide +kernel) (by decide +kernel)) <|
  fc (ok_ist (by decide +kernel) (by decide)) <|
  fc (ok_ild (by decide +kernel)) <|
  fc (ok_aldn (q := 0) (by decide +kernel) rfl) <|
  fc (ok_gf mk_X11_loud (fo_RX11_26 rfl) rfl (by decide +kernel)) <|
  fc (ok_gi mk_X11_loud (fo_RX11_250 rfl) rfl (by decide +kernel)) <|
  fc (ok_icge (off := 47) (by decide +kernel) (by decide)) <|
  fc (ok_aldn (q := 0) (by decide +kernel) rfl) <|
  fc (ok_gf mk_X11_loud (fo_RX11_26 rfl) rfl (by decide +kernel)) <|
  fc (ok_aldn (q := 0) (by decide +kernel) rfl) <|
  fc (ok_gr mk_X11_loud (fo_RX11_85 rfl) rfl (by decide +kernel)) <|
  fc (ok_ild (by decide +kernel)) <|
  fc (ok_cv mk_X11_loud mk_X2_sayable ⟨uw404, uw405, uw406, uw23, by decide +kernel⟩ (T := TX2) (N := 8) rfl (by decide +kernel)) <|
  fc (ok_ist (by decide +kernel) (by decide)) <|
  fc (ok_ildn (q := 3) (by decide +kernel) rfl) <|
  fc (ok_ild (by decide +kernel)) <|
  fc (ok_ior (by decide +kernel)) <|
  fc (ok_istn (q := 3) (by decide +kernel) rfl (by decide)) <|
  fc (ok_ild (by decide +kernel)) <|
  fc (ok_cs mk_X11_loud mk_J6_bitCount_0f7a4 ⟨uw788, uw429, uw430, by decide +kernel⟩ (by decide +kernel)) <|
  fc (ok_ildn (q := 2) (by decide +kernel) rfl) <|
  fc (ok_icle (off := 12) (by decide +kernel) (by decide)) <|
  fc (ok_ild (by decide +kernel)) <|
  fc (ok_cs mk_X11_loud mk_J6_bitCount_0f7a4 ⟨uw788, uw429, uw430, by decide +kernel⟩ (by decide +kernel)) <|
  fc (ok_istn (q := 2) (by decide +kernel) rfl (by decide)) <|
  fc (ok_ild (by decide +kernel)) <|
  fc (ok_istn (q := 1) (by decide +kernel) rfl (by decide)) <|
  fc (ok_iinc (n := 1) (by decide +kernel) (by decide +kernel) (by decide)) <|
  fc (ok_goto (off := -53) (by decide +kernel) (by decide)) <|
  fc (ok_aldn (q := 0) (by decide +kernel) rfl) <|
  fc (ok_gf mk_X11_loud (fo_RX11_19 rfl) rfl (by decide +kernel)) <|
  fc (ok_ildn (q := 2) (by decide +kernel) rfl) <|
  fc (ok_i2l (by decide +kernel)) <|
  fc (ok_iconst (n := 1) (by decide +kernel) (by decide +kernel)) <|
  fc (ok_aldn (q := 0) (by decide +kernel) rfl) <|
  fc (ok_gf mk_X11_loud (fo_RX11_26 rfl) rfl (by decide +kernel)) <|
  fc (ok_gi mk_X11_loud (fo_RX11_250 rfl) rfl (by decide +kernel)) <|
  fc (ok_ishl (by decide +kernel)) <|
  fc (ok_iconst (n := 1) (by decide +kernel) (by decide +kernel)) <|
  fc (ok_isub (by decide +kernel)) <|
  fc (ok_ildn (q := 3) (by decide +kernel) rfl) <|
  fc (ok_iconst (n := -1) (by decide +kernel) (by decide +kernel)) <|
  fc (ok_ixor (by decide +kernel)) <|
  fc (ok_iand (by decide +kernel)) <|
  fc (ok_i2l (by decide +kernel)) <|
  fc (ok_cv mk_X11_loud mk_X9_tells_ ⟨uw651, uw652, uw653, uw19, by decide +kernel⟩ (T := TX9) (N := 2) rfl (by decide +kernel)) <|
  fc (ok_ildn (q := 1) (by decide +kernel) rfl) <|
  fc (ok_iret rfl (by decide +kernel)) <| fn
def T_X11_mouths : List (Nat × Op) := [(0, op_ald 0 1), (1, op_gf 11 2 5), (4, op_gi 2 5), (7, op_ic 2 1), (8, op_icge 14), (11, op_ic (-2) 2), (13, op_iret), (14, op_ald 0 1), (15, op_gf 11 7 28), (18, op_ald 0 1), (19, op_gf 11 2 5), (22, op_cv M_X0_sharesMouths 0 1), (25, op_ist 1 1), (26, op_ald 0 1), (27, op_gf 11 1 3), (30, op_cv M_X9_clears 9 0), (33, op_ic 0 1), (34, op_ist 2 1), (35, op_ild 2 1), (36, op_ald 0 1), (37, op_gf 11 2 5), (40, op_gi 2 5), (43, op_icge 69), (46, op_ald 0 1), (47, op_gf 11 1 3), (50, op_ald 0 1), (51, op_gf 11 7 28), (54, op_gf 0 0 1), (57, op_ild 2 1), (58, op_iald), (59, op_i2l), (60, op_cv M_X9_adds 9 1), (63, op_iinc 2 1), (66, op_goto 35), (69, op_ild 1 1), (70, op_iret)]
set_option maxRecDepth 20000 in
theorem K_X11_mouths : ∀ r ∈ T_X11_mouths, OpOK M_X11_mouths r.1 r.2 :=
  fc (ok_aldn (q := 0) (by decide +kernel) rfl) <|
  fc (ok_gf mk_X11_mouths (fo_RX11_26 rfl) rfl (by decide +kernel)) <|
  fc (ok_gi mk_X11_mouths (fo_RX11_250 rfl) rfl (by decide +kernel)) <|
  fc (ok_iconst (n := 2) (by decide +kernel) (by decide +kernel)) <|
  fc (ok_icge (off := 6) (by decide +kernel) (by decide)) <|
  fc (ok_bipush (n := -2) (by decide +kernel) (by decide +kernel)) <|
  fc (ok_iret rfl (by decide +kernel)) <|
  fc (ok_aldn (q := 0) (by decide +kernel) rfl) <|
  fc (ok_gf mk_X11_mouths (fo_RX11_57 rfl) rfl (by decide +kernel)) <|
  fc (ok_aldn (q := 0) (by decide +kernel) rfl) <|
  fc (ok_gf mk_X11_mouths (fo_RX11_26 rfl) rfl (by decide +kernel)) <|
  fc (ok_cv mk_X11_mouths mk_X0_sharesMouths ⟨uw944, uw945, uw946, uw40, by decide +kernel⟩ (T := TX0) (N := 3) rfl (by decide +kernel)) <|
  fc (ok_istn (q := 1) (by decide +kernel) rfl (by decide)) <|
  fc (ok_aldn (q := 0) (by decide +kernel) rfl) <|
  fc (ok_gf mk_X11_mouths (fo_RX11_19 rfl) rfl (by decide +kernel)) <|
  fc (ok_cv mk_X11_mouths mk_X9_clears ⟨uw754, uw755, uw756, uw19, by decide +kernel⟩ (T := TX9) (N := 2) rfl (by decide +kernel)) <|
  fc (ok_iconst (n := 0) (by decide +kernel) (by decide +kernel)) <|
  fc (ok_istn (q := 2) (by decide +kernel) rfl (by decide)) <|
  fc (ok_ildn (q := 2) (by decide +kernel) rfl) <|
  fc (ok_aldn (q := 0) (by decide +kernel) rfl) <|
  fc (ok_gf mk_X11_mouths (fo_RX11_26 rfl) rfl (by decide +kernel)) <|
  fc (ok_gi mk_X11_mouths (fo_RX11_250 rfl) rfl (by decide +kernel)) <|
  fc (ok_icge (off := 26) (by decide +kernel) (by decide)) <|
  fc (ok_aldn (q := 0) (by decide +kernel) rfl) <|
  fc (ok_gf mk_X11_mouths (fo_RX11_19 rfl) rfl (by decide +kernel)) <|
  fc (ok_aldn (q := 0) (by decide +kernel) rfl) <|
  fc (ok_gf mk_X11_mouths (fo_RX11_57 rfl) rfl (by decide +kernel)) <|
  fc (ok_gf mk_X11_mouths (fo_RX11_276 rfl) rfl (by decide +kernel)) <|
  fc (ok_ildn (q := 2) (by decide +kernel) rfl) <|
  fc (ok_iald (by decide +kernel)) <|
  fc (ok_i2l (by decide +kernel)) <|
  fc (ok_cv mk_X11_mouths mk_X9_adds ⟨uw762, uw657, uw658, uw19, by decide +kernel⟩ (T := TX9) (N := 2) rfl (by decide +kernel)) <|
  fc (ok_iinc (n := 1) (by decide +kernel) (by decide +kernel) (by decide)) <|
  fc (ok_goto (off := -31) (by decide +kernel) (by decide)) <|
  fc (ok_ildn (q := 1) (by decide +kernel) rfl) <|
  fc (ok_iret rfl (by decide +kernel)) <| fn
def T_X11_criers : List (Nat × Op) := [(0, op_ild 1 1), (1, op_iflt 10), (4, op_ild 1 1), (5, op_ic 10 2), (7, op_iclt 12), (10, op_ic (-1) 1), (11, op_iret), (12, op_ald 0 1), (13, op_gf 11 7 28), (16, op_ald 0 1), (17, op_gf 11 2 5), (20, op_ild 1 1), (21, op_cv M_X0_fewestCriers 0 2), (24, op_ist 2 1), (25, op_ald 0 1), (26, op_gf 11 1 3), (29, op_ild 2 1), (30, op_i2l), (31, op_cv M_X9_tells 9 1), (34, op_ild 2 1), (35, op_cs M_J6_bitCount_0f7a4 1), (38, op_iret)]
set_option maxRecDepth 20000 in
theorem K_X11_criers : ∀ r ∈ T_X11_criers, OpOK M_X11_criers r.1 r.2 :=
  fc (ok_ildn (q := 1) (by decide +kernel) rfl) <|
  fc (ok_iflt (off := 9) (by decide +kernel) (by decide)) <|
  fc (ok_ildn (q := 1) (by decide +kernel) rfl) <|
  fc (ok_bipush (n := 10) (by decide +kernel) (by decide +kernel)) <|
  fc (ok_iclt (off := 5) (by decide +kernel) (by decide)) <|
  fc (ok_iconst (n := -1) (by decide +kernel) (by decide +kernel)) <|
  fc (ok_iret rfl (by decide +kernel)) <|
  fc (ok_aldn (q := 0) (by decide +kernel) rfl) <|
  fc (ok_gf mk_X11_criers (fo_RX11_57 rfl) rfl (by decide +kernel)) <|
  fc (ok_aldn (q := 0) (by decide +kernel) rfl) <|
  fc (ok_gf mk_X11_criers (fo_RX11_26 rfl) rfl (by decide +kernel)) <|
  fc (ok_ildn (q := 1) (by decide +kernel) rfl) <|
  fc (ok_cv mk_X11_criers mk_X0_fewestCriers ⟨uw973, uw974, uw975, uw40, by decide +kernel⟩ (T := TX0) (N := 3) rfl (by decide +kernel)) <|
  fc (ok_istn (q := 2) (by decide +kernel) rfl (by decide)) <|
  fc (ok_aldn (q := 0) (by decide +kernel) rfl) <|
  fc (ok_gf mk_X11_criers (fo_RX11_19 rfl) rfl (by decide +kernel)) <|
  fc (ok_ildn (q := 2) (by decide +kernel) rfl) <|
  fc (ok_i2l (by decide +kernel)) <|
  fc (ok_cv mk_X11_criers mk_X9_tells ⟨uw789, uw790, uw791, uw19, by decide +kernel⟩ (T := TX9) (N := 2) rfl (by decide +kernel)) <|
  fc (ok_ildn (q := 2) (by decide +kernel) rfl) <|
  fc (ok_cs mk_X11_criers mk_J6_bitCount_0f7a4 ⟨uw788, uw429, uw430, by decide +kernel⟩ (by decide +kernel)) <|
  fc (ok_iret rfl (by decide +kernel)) <| fn
def T_X11_line : List (Nat × Op) := [(0, op_ald 0 1), (1, op_gf 11 7 28), (4, op_ald 0 1), (5, op_gf 11 2 5), (8, op_cv M_X0_linesUp 0 1), (11, op_ald 0 1), (12, op_gf 11 1 3), (15, op_cv M_X9_clears 9 0), (18, op_ic 0 1), (19, op_ist 1 1), (20, op_ild 1 1), (21, op_ald 0 1), (22, op_gf 11 2 5), (25, op_gi 2 5), (28, op_icge 54), (31, op_ald 0 1), (32, op_gf 11 1 3), (35, op_ald 0 1), (36, op_gf 11 7 28), (39, op_gf 0 0 1), (42, op_ild 1 1), (43, op_iald), (44, op_i2l), (45, op_cv M_X9_adds 9 1), (48, op_iinc 1 1), (51, op_goto 20), (54, op_ald 0 1), (55, op_gf 11 2 5), (58, op_gi 2 5), (61, op_iret)]
set_option maxRecDepth 20000 in
theorem K_X11_line : ∀ r ∈ T_X11_line, OpOK M_X11_line r.1 r.2 :=
  fc (ok_aldn (q := 0) (by decide +kernel) rfl) <|
  fc (ok_gf mk_X11_line (fo_RX11_57 rfl) rfl (by decide +kernel)) <|
  fc (ok_aldn (q := 0) (by decide +kernel) rfl) <|
  fc (ok_gf mk_X11_line (fo_RX11_26 rfl) rfl (by decide +kernel)) <|
  fc (ok_cv mk_X11_line mk_X0_linesUp ⟨uw992, uw993, uw994, uw40, by decide +kernel⟩ (T := TX0) (N := 3) rfl (by decide +kernel)) <|
  fc (ok_aldn (q := 0) (by decide +kernel) rfl) <|
  fc (ok_gf mk_X11_line (fo_RX11_19 rfl) rfl (by decide +kernel)) <|
  fc (ok_cv mk_X11_line mk_X9_clears ⟨uw754, uw755, uw756, uw19, by decide +kernel⟩ (T := TX9) (N := 2) rfl (by decide +kernel)) <|
  fc (ok_iconst (n := 0) (by decide +kernel) (by decide +kernel)) <|
  fc (ok_istn (q := 1) (by decide +kernel) rfl (by decide)) <|
  fc (ok_ildn (q := 1) (by decide +kernel) rfl) <|
  fc (ok_aldn (q := 0) (by decide +kernel) rfl) <|
  fc (ok_gf mk_X11_line (fo_RX11_26 rfl) rfl (by decide +kernel)) <|
  fc (ok_gi mk_X11_line (fo_RX11_250 rfl) rfl (by decide +kernel)) <|
  fc (ok_icge (off := 26) (by decide +kernel) (by decide)) <|
  fc (ok_aldn (q := 0) (by decide +kernel) rfl) <|
  fc (ok_gf mk_X11_line (fo_RX11_19 rfl) rfl (by decide +kernel)) <|
  fc (ok_aldn (q := 0) (by decide +kernel) rfl) <|
  fc (ok_gf mk_X11_line (fo_RX11_57 rfl) rfl (by decide +kernel)) <|
  fc (ok_gf mk_X11_line (fo_RX11_276 rfl) rfl (by decide +kernel)) <|
  fc (ok_ildn (q := 1) (by decide +kernel) rfl) <|
  fc (ok_iald (by decide +kernel)) <|
  fc (ok_i2l (by decide +kernel)) <|
  fc (ok_cv mk_X11_line mk_X9_adds ⟨uw762, uw657, uw658, uw19, by decide +kernel⟩ (T := TX9) (N := 2) rfl (by decide +kernel)) <|
  fc (ok_iinc (n := 1) (by decide +kernel) (by decide +kernel) (by decide)) <|
  fc (ok_goto (off := -31) (by decide +kernel) (by decide)) <|
  fc (ok_aldn (q := 0) (by decide +kernel) rfl) <|
  fc (ok_gf mk_X11_line (fo_RX11_26 rfl) rfl (by decide +kernel)) <|
  fc (ok_gi mk_X11_line (fo_RX11_250 rfl) rfl (by decide +kernel)) <|
  fc (ok_iret rfl (by decide +kernel)) <| fn
def T_X11_rich : List (Nat × Op) := [(0, op_ald 0 1), (1, op_gf 11 7 28), (4, op_ald 0 1), (5, op_gf 11 2 5), (8, op_cv M_X0_linesUp 0 1), (11, op_ald 0 1), (12, op_gf 11 7 28), (15, op_ald 0 1), (16, op_gf 11 2 5), (19, op_cv M_X0_longestFrom 0 1), (22, op_ist 1 1), (23, op_ald 0 1), (24, op_gf 11 1 3), (27, op_cv M_X9_clears 9 0), (30, op_ild 1 1), (31, op_ist 2 1), (32, op_ic (-1) 1), (33, op_ist 3 1), (34, op_ic 0 1), (35, op_ist 4 2), (37, op_ild 4 2), (39, op_ald 0 1), (40, op_gf 11 2 5), (43, op_gi 2 5), (46, op_icge 123), (49, op_ild 2 1), (50, op_ifle 123), (53, op_ald 0 1), (54, op_gf 11 2 5), (57, op_gf 2 2 3), (60, op_ald 0 1), (61, op_gf 11 7 28), (64, op_gf 0 0 1), (67, op_ild 4 2), (69, op_iald), (70, op_iald), (71, op_ist 5 2), (73, op_ald 0 1), (74, op_gf 11 7 28), (77, op_gf 0 2 3), (80, op_ild 4 2), (82, op_iald), (83, op_ild 2 1), (84, op_icne 117), (87, op_ild 5 2), (89, op_ild 3 1), (90, op_icle 117), (93, op_ald 0 1), (94, op_gf 11 1 3), (97, op_ald 0 1), (98, op_gf 11 7 28), (101, op_gf 0 0 1), (104, op_ild 4 2), (106, op_iald), (107, op_i2l), (108, op_cv M_X9_adds 9 1), (111, op_ild 5 2), (113, op_ist 3 1), (114, op_iinc 2 (-1)), (117, op_iinc 4 1), (120, op_goto 37), (123, op_ild 1 1), (124, op_iret)]
set_option maxRecDepth 20000 in
theorem K_X11_rich : ∀ r ∈ T_X11_rich, OpOK M_X11_rich r.1 r.2 :=
  fc (ok_aldn (q := 0) (by decide +kernel) rfl) <|
  fc (ok_gf mk_X11_rich (fo_RX11_57 rfl) rfl (by decide +kernel)) <|
  fc (ok_aldn (q := 0) (by decide +kernel) rfl) <|
  fc (ok_gf mk_X11_rich (fo_RX11_26 rfl) rfl (by decide +kernel)) <|
  fc (ok_cv mk_X11_rich mk_X0_linesUp ⟨uw992, uw993, uw994, uw40, by decide +kernel⟩ (T := TX0) (N := 3) rfl (by decide +kernel)) <|
  fc (ok_aldn (q := 0) (by decide +kernel) rfl) <|
  fc (ok_gf mk_X11_rich (fo_RX11_57 rfl) rfl (by decide +kernel)) <|
  fc (ok_aldn (q := 0) (by decide +kernel) rfl) <|
  fc (ok_gf mk_X11_rich (fo_RX11_26 rfl) rfl (by decide +kernel)) <|
  fc (ok_cv mk_X11_rich mk_X0_longestFrom ⟨uw1010, uw1011, uw1012, uw40, by decide +kernel⟩ (T := TX0) (N := 3) rfl (by decide +kernel)) <|
  fc (ok_istn (q := 1) (by decide +kernel) rfl (by decide)) <|
  fc (ok_aldn (q := 0) (by decide +kernel) rfl) <|
  fc (ok_gf mk_X11_rich (fo_RX11_19 rfl) rfl (by decide +kernel)) <|
  fc (ok_cv mk_X11_rich mk_X9_clears ⟨uw754, uw755, uw756, uw19, by decide +kernel⟩ (T := TX9) (N := 2) rfl (by decide +kernel)) <|
  fc (ok_ildn (q := 1) (by decide +kernel) rfl) <|
  fc (ok_istn (q := 2) (by decide +kernel) rfl (by decide)) <|
  fc (ok_iconst (n := -1) (by decide +kernel) (by decide +kernel)) <|
  fc (ok_istn (q := 3) (by decide +kernel) rfl (by decide)) <|
  fc (ok_iconst (n := 0) (by decide +kernel) (by decide +kernel)) <|
  fc (ok_ist (by decide +kernel) (by decide)) <|
  fc (ok_ild (by decide +kernel)) <|
  fc (ok_aldn (q := 0) (by decide +kernel) rfl) <|
  fc (ok_gf mk_X11_rich (fo_RX11_26 rfl) rfl (by decide +kernel)) <|
  fc (ok_gi mk_X11_rich (fo_RX11_250 rfl) rfl (by decide +kernel)) <|
  fc (ok_icge (off := 77) (by decide +kernel) (by decide)) <|
  fc (ok_ildn (q := 2) (by decide +kernel) rfl) <|
  fc (ok_ifle (off := 73) (by decide +kernel) (by decide)) <|
  fc (ok_aldn (q := 0) (by decide +kernel) rfl) <|
  fc (ok_gf mk_X11_rich (fo_RX11_26 rfl) rfl (by decide +kernel)) <|
  fc (ok_gf mk_X11_rich (fo_RX11_130 rfl) rfl (by decide +kernel)) <|
  fc (ok_aldn (q := 0) (by decide +kernel) rfl) <|
  fc (ok_gf mk_X11_rich (fo_RX11_57 rfl) rfl (by decide +kernel)) <|
  fc (ok_gf mk_X11_rich (fo_RX11_276 rfl) rfl (by decide +kernel)) <|
  fc (ok_ild (by decide +kernel)) <|
  fc (ok_iald (by decide +kernel)) <|
  fc (ok_iald (by decide +kernel)) <|
  fc (ok_ist (by decide +kernel) (by decide)) <|
  fc (ok_aldn (q := 0) (by decide +kernel) rfl) <|
  fc (ok_gf mk_X11_rich (fo_RX11_57 rfl) rfl (by decide +kernel)) <|
  fc (ok_gf mk_X11_rich (fo_RX11_289 rfl) rfl (by decide +kernel)) <|
  fc (ok_ild (by decide +kernel)) <|
  fc (ok_iald (by decide +kernel)) <|
  fc (ok_ildn (q := 2) (by decide +kernel) rfl) <|
  fc (ok_icne (off := 33) (by decide +kernel) (by decide)) <|
  fc (ok_ild (by decide +kernel)) <|
  fc (ok_ildn (q := 3) (by decide +kernel) rfl) <|
  fc (ok_icle (off := 27) (by decide +kernel) (by decide)) <|
  fc (ok_aldn (q := 0) (by decide +kernel) rfl) <|
  fc (ok_gf mk_X11_rich (fo_RX11_19 rfl) rfl (by decide +kernel)) <|
  fc (ok_aldn (q := 0) (by decide +kernel) rfl) <|
  fc (ok_gf mk_X11_rich (fo_RX11_57 rfl) rfl (by decide +kernel)) <|
  fc (ok_gf mk_X11_rich (fo_RX11_276 rfl) rfl (by decide +kernel)) <|
  fc (ok_ild (by decide +kernel)) <|
  fc (ok_iald (by decide +kernel)) <|
  fc (ok_i2l (by decide +kernel)) <|
  fc (ok_cv mk_X11_rich mk_X9_adds ⟨uw762, uw657, uw658, uw19, by decide +kernel⟩ (T := TX9) (N := 2) rfl (by decide +kernel)) <|
  fc (ok_ild (by decide +kernel)) <|
  fc (ok_istn (q := 3) (by decide +kernel) rfl (by decide)) <|
  fc (ok_iinc (n := -1) (by decide +kernel) (by decide +kernel) (by decide)) <|
  fc (ok_iinc (n := 1) (by decide +kernel) (by decide +kernel) (by decide)) <|
  fc (ok_goto (off := -83) (by decide +kernel) (by decide)) <|
  fc (ok_ildn (q := 1) (by decide +kernel) rfl) <|
  fc (ok_iret rfl (by decide +kernel)) <| fn
def T_X11_heard : List (Nat × Op) := [(0, op_ald 0 1), (1, op_gf 11 8 32), (4, op_ild 1 1), (5, op_ild 2 1), (6, op_cv M_X1_hears 1 2), (9, op_ifeq 22), (12, op_ald 0 1), (13, op_gf 11 8 32), (16, op_gi 1 2), (19, op_goto 23), (22, op_ic (-1) 1), (23, op_iret)]
set_option maxRecDepth 20000 in
theorem K_X11_heard : ∀ r ∈ T_X11_heard, OpOK M_X11_heard r.1 r.2 :=
  fc (ok_aldn (q := 0) (by decide +kernel) rfl) <|
  fc (ok_gf mk_X11_heard (fo_RX11_64 rfl) rfl (by decide +kernel)) <|
  fc (ok_ildn (q := 1) (by decide +kernel) rfl) <|
  fc (ok_ildn (q := 2) (by decide +kernel) rfl) <|
  fc (ok_cv mk_X11_heard mk_X1_hears ⟨uw1025, uw1026, uw1027, uw44, by decide +kernel⟩ (T := TX1) (N := 3) rfl (by decide +kernel)) <|
  fc (ok_ifeq (off := 13) (by decide +kernel) (by decide)) <|
  fc (ok_aldn (q := 0) (by decide +kernel) rfl) <|
  fc (ok_gf mk_X11_heard (fo_RX11_64 rfl) rfl (by decide +kernel)) <|
  fc (ok_gi mk_X11_heard (fo_RX11_296 rfl) rfl (by decide +kernel)) <|
  fc (ok_goto (off := 4) (by decide +kernel) (by decide)) <|
  fc (ok_iconst (n := -1) (by decide +kernel) (by decide +kernel)) <|
  fc (ok_iret rfl (by decide +kernel)) <| fn
def T_X11_forget : List (Nat × Op) := [(0, op_ald 0 1), (1, op_gf 11 8 32), (4, op_gi 1 2), (7, op_ist 1 1), (8, op_ald 0 1), (9, op_gf 11 8 32), (12, op_ic 0 1), (13, op_pi 1 2), (16, op_ild 1 1), (17, op_iret)]
set_option maxRecDepth 20000 in
theorem K_X11_forget : ∀ r ∈ T_X11_forget, OpOK M_X11_forget r.1 r.2 :=
  fc (ok_aldn (q := 0) (by decide +kernel) rfl) <|
  fc (ok_gf mk_X11_forget (fo_RX11_64 rfl) rfl (by decide +kernel)) <|
  fc (ok_gi mk_X11_forget (fo_RX11_296 rfl) rfl (by decide +kernel)) <|
  fc (ok_istn (q := 1) (by decide +kernel) rfl (by decide)) <|
  fc (ok_aldn (q := 0) (by decide +kernel) rfl) <|
  fc (ok_gf mk_X11_forget (fo_RX11_64 rfl) rfl (by decide +kernel)) <|
  fc (ok_iconst (n := 0) (by decide +kernel) (by decide +kernel)) <|
  fc (ok_pi mk_X11_forget (fo_RX11_296 rfl) to_1_2 rfl (by decide +kernel)) <|
  fc (ok_ildn (q := 1) (by decide +kernel) rfl) <|
  fc (ok_iret rfl (by decide +kernel)) <| fn
def T_X11_fits : List (Nat × Op) := [(0, op_ald 0 1), (1, op_gf 11 8 32), (4, op_ald 0 1), (5, op_gf 11 2 5), (8, op_ald 0 1), (9, op_gr 11 11), (12, op_cv M_X1_fitting 1 2), (15, op_ist 1 1), (16, op_ald 0 1), (17, op_gf 11 1 3), (20, op_ild 1 1), (21, op_cs M_J6_bitCount_0f7a4 1), (24, op_i2l), (25, op_cv M_X9_tells 9 1), (28, op_ild 1 1), (29, op_iret)]
set_option maxRecDepth 20000 in
theorem K_X11_fits : ∀ r ∈ T_X11_fits, OpOK M_X11_fits r.1 r.2 :=
  fc (ok_aldn (q := 0) (by decide +kernel) rfl) <|
  fc (ok_gf mk_X11_fits (fo_RX11_64 rfl) rfl (by decide +kernel)) <|
  fc (ok_aldn (q := 0) (by decide +kernel) rfl) <|
  fc (ok_gf mk_X11_fits (fo_RX11_26 rfl) rfl (by decide +kernel)) <|
  fc (ok_aldn (q := 0) (by decide +kernel) rfl) <|
  fc (ok_gr mk_X11_fits (fo_RX11_85 rfl) rfl (by decide +kernel)) <|
  fc (ok_cv mk_X11_fits mk_X1_fitting ⟨uw1050, uw1051, uw1052, uw44, by decide +kernel⟩ (T := TX1) (N := 3) rfl (by decide +kernel)) <|
  fc (ok_istn (q := 1) (by decide +kernel) rfl (by decide)) <|
  fc (ok_aldn (q := 0) (by decide +kernel) rfl) <|
  fc (ok_gf mk_X11_fits (fo_RX11_19 rfl) rfl (by decide +kernel)) <|
  fc (ok_ildn (q := 1) (by decide +kernel) rfl) <|
  fc (ok_cs mk_X11_fits mk_J6_bitCount_0f7a4 ⟨uw788, uw429, uw430, by decide +kernel⟩ (by decide +kernel)) <|
  fc (ok_i2l (by decide +kernel)) <|
  fc (ok_cv mk_X11_fits mk_X9_tells ⟨uw789, uw790, uw791, uw19, by decide +kernel⟩ (T := TX9) (N := 2) rfl (by decide +kernel)) <|
  fc (ok_ildn (q := 1) (by decide +kernel) rfl) <|
  fc (ok_iret rfl (by decide +kernel)) <| fn
def T_X11_asks : List (Nat × Op) := [(0, op_ald 0 1), (1, op_gf 11 8 32), (4, op_ald 0 1), (5, op_gf 11 2 5), (8, op_ald 0 1), (9, op_gr 11 11), (12, op_cv M_X1_fitting 1 2), (15, op_ist 1 1), (16, op_ild 1 1), (17, op_ifne 23), (20, op_ic (-2) 2), (22, op_iret), (23, op_ic 0 1), (24, op_ist 2 1), (25, op_ic 8 2), (27, op_ist 3 1), (28, op_gs), (31, op_ast 4 2), (33, op_ald 4 2), (35, op_tlen), (36, op_ist 5 2), (38, op_ic 0 1), (39, op_ist 6 2), (41, op_ild 6 2), (43, op_ild 5 2), (45, op_icge 120), (48, op_ald 4 2), (50, op_ild 6 2), (52, op_tald), (53, op_ist 7 2), (55, op_ic 0 1), (56, op_ist 8 2), (58, op_ild 8 2), (60, op_ild 7 2), (62, op_cs M_X1_values 1), (65, op_icge 114), (68, op_ald 0 1), (69, op_gf 11 8 32), (72, op_ald 0 1), (73, op_gf 11 2 5), (76, op_ald 0 1), (77, op_gr 11 11), (80, op_ild 1 1), (81, op_ild 7 2), (83, op_ild 8 2), (85, op_cv M_X1_mostLeft 1 5), (88, op_ist 9 2), (90, op_ild 9 2), (92, op_ild 3 1), (93, op_icge 108), (96, op_ild 9 2), (98, op_ist 3 1), (99, op_ic 10 2), (101, op_ild 7 2), (103, op_imul), (104, op_ild 8 2), (106, op_iadd), (107, op_ist 2 1), (108, op_iinc 8 1), (111, op_goto 58), (114, op_iinc 6 1), (117, op_goto 41), (120, op_ald 0 1), (121, op_gf 11 1 3), (124, op_ild 3 1), (125, op_i2l), (126, op_cv M_X9_tells 9 1), (129, op_ild 2 1), (130, op_iret)]
set_option maxRecDepth 20000 in
theorem K_X11_asks : ∀ r ∈ T_X11_asks, OpOK M_X11_asks r.1 r.2 :=
  fc (ok_aldn (q := 0) (by decide +kernel) rfl) <|
  fc (ok_gf mk_X11_asks (fo_RX11_64 rfl) rfl (by decide +kernel)) <|
  fc (ok_aldn (q := 0) (by decide +kernel) rfl) <|
  fc (ok_gf mk_X11_asks (fo_RX11_26 rfl) rfl (by decide +kernel)) <|
  fc (ok_aldn (q := 0) (by decide +kernel) rfl) <|
  fc (ok_gr mk_X11_asks (fo_RX11_85 rfl) rfl (by decide +kernel)) <|
  fc (ok_cv mk_X11_asks mk_X1_fitting ⟨uw1050, uw1051, uw1052, uw44, by decide +kernel⟩ (T := TX1) (N := 3) rfl (by decide +kernel)) <|
  fc (ok_istn (q := 1) (by decide +kernel) rfl (by decide)) <|
  fc (ok_ildn (q := 1) (by decide +kernel) rfl) <|
  fc (ok_ifne (off := 6) (by decide +kernel) (by decide)) <|
  fc (ok_bipush (n := -2) (by decide +kernel) (by decide +kernel)) <|
  fc (ok_iret rfl (by decide +kernel)) <|
  fc (ok_iconst (n := 0) (by decide +kernel) (by decide +kernel)) <|
  fc (ok_istn (q := 2) (by decide +kernel) rfl (by decide)) <|
  fc (ok_bipush (n := 8) (by decide +kernel) (by decide +kernel)) <|
  fc (ok_istn (q := 3) (by decide +kernel) rfl (by decide)) <|
  fc (ok_gs mk_X11_asks uw1080 (by decide +kernel)) <|
  fc (ok_ast (by decide +kernel) (by decide)) <|
  fc (ok_ald (by decide +kernel)) <|
  fc (ok_tlen (by decide +kernel)) <|
  fc (ok_ist (by decide +kernel) (by decide)) <|
  fc (ok_iconst (n := 0) (by decide +kernel) (by decide +kernel)) <|
  fc (ok_ist (by decide +kernel) (by decide)) <|
  fc (ok_ild (by decide +kernel)) <|
  fc (ok_ild (by decide +kernel)) <|
  fc (ok_icge (off := 75) (by decide +kernel) (by decide)) <|
  fc (ok_ald (by decide +kernel)) <|
  fc (ok_ild (by decide +kernel)) <|
  fc (ok_tald (by decide +kernel)) <|
  fc (ok_ist (by decide +kernel) (by decide)) <|
  fc (ok_iconst (n := 0) (by decide +kernel) (by decide +kernel)) <|
  fc (ok_ist (by decide +kernel) (by decide)) <|
  fc (ok_ild (by decide +kernel)) <|
  fc (ok_ild (by decide +kernel)) <|
  fc (ok_cs mk_X11_asks mk_X1_values ⟨uw1081, uw1031, uw44, by decide +kernel⟩ (by decide +kernel)) <|
  fc (ok_icge (off := 49) (by decide +kernel) (by decide)) <|
  fc (ok_aldn (q := 0) (by decide +kernel) rfl) <|
  fc (ok_gf mk_X11_asks (fo_RX11_64 rfl) rfl (by decide +kernel)) <|
  fc (ok_aldn (q := 0) (by decide +kernel) rfl) <|
  fc (ok_gf mk_X11_asks (fo_RX11_26 rfl) rfl (by decide +kernel)) <|
  fc (ok_aldn (q := 0) (by decide +kernel) rfl) <|
  fc (ok_gr mk_X11_asks (fo_RX11_85 rfl) rfl (by decide +kernel)) <|
  fc (ok_ildn (q := 1) (by decide +kernel) rfl) <|
  fc (ok_ild (by decide +kernel)) <|
  fc (ok_ild (by decide +kernel)) <|
  fc (ok_cv mk_X11_asks mk_X1_mostLeft ⟨uw1082, uw1083, uw1084, uw44, by decide +kernel⟩ (T := TX1) (N := 3) rfl (by decide +kernel)) <|
  fc (ok_ist (by decide +kernel) (by decide)) <|
  fc (ok_ild (by decide +kernel)) <|
  fc (ok_ildn (q := 3) (by decide +kernel) rfl) <|
  fc (ok_icge (off := 15) (by decide +kernel) (by decide)) <|
  fc (ok_ild (by decide +kernel)) <|
  fc (ok_istn (q := 3) (by decide +kernel) rfl (by decide)) <|
  fc (ok_bipush (n := 10) (by decide +kernel) (by decide +kernel)) <|
  fc (ok_ild (by decide +kernel)) <|
  fc (ok_imul (by decide +kernel)) <|
  fc (ok_ild (by decide +kernel)) <|
  fc (ok_iadd (by decide +kernel)) <|
  fc (ok_istn (q := 2) (by decide +kernel) rfl (by decide)) <|
  fc (ok_iinc (n := 1) (by decide +kernel) (by decide +kernel) (by decide)) <|
  fc (ok_goto (off := -53) (by decide +kernel) (by decide)) <|
  fc (ok_iinc (n := 1) (by decide +kernel) (by decide +kernel) (by decide)) <|
  fc (ok_goto (off := -76) (by decide +kernel) (by decide)) <|
  fc (ok_aldn (q := 0) (by decide +kernel) rfl) <|
  fc (ok_gf mk_X11_asks (fo_RX11_19 rfl) rfl (by decide +kernel)) <|
  fc (ok_ildn (q := 3) (by decide +kernel) rfl) <|
  fc (ok_i2l (by decide +kernel)) <|
  fc (ok_cv mk_X11_asks mk_X9_tells ⟨uw789, uw790, uw791, uw19, by decide +kernel⟩ (T := TX9) (N := 2) rfl (by decide +kernel)) <|
  fc (ok_ildn (q := 2) (by decide +kernel) rfl) <|
  fc (ok_iret rfl (by decide +kernel)) <| fn
def T_X11_saw : List (Nat × Op) := [(0, op_ald 0 1), (1, op_gf 11 9 35), (4, op_ild 1 1), (5, op_ild 2 1), (6, op_ild 3 1), (7, op_cv M_X7_sees 7 3), (10, op_ifeq 23), (13, op_ald 0 1), (14, op_gf 11 9 35), (17, op_gi 7 5), (20, op_goto 24), (23, op_ic (-1) 1), (24, op_iret)]
set_option maxRecDepth 20000 in
theorem K_X11_saw : ∀ r ∈ T_X11_saw, OpOK M_X11_saw r.1 r.2 :=
  fc (ok_aldn (q := 0) (by decide +kernel) rfl) <|
  fc (ok_gf mk_X11_saw (fo_RX11_71 rfl) rfl (by decide +kernel)) <|
  fc (ok_ildn (q := 1) (by decide +kernel) rfl) <|
  fc (ok_ildn (q := 2) (by decide +kernel) rfl) <|
  fc (ok_ildn (q := 3) (by decide +kernel) rfl) <|
  fc (ok_cv mk_X11_saw mk_X7_sees ⟨uw1097, uw1098, uw1099, uw48, by decide +kernel⟩ (T := TX7) (N := 6) rfl (by decide +kernel)) <|
  fc (ok_ifeq (off := 13) (by decide +kernel) (by decide)) <|
  fc (ok_aldn (q := 0) (by decide +kernel) rfl) <|
  fc (ok_gf mk_X11_saw (fo_RX11_71 rfl) rfl (by decide +kernel)) <|
  fc (ok_gi mk_X11_saw (fo_RX11_314 rfl) rfl (by decide +kernel)) <|
  fc (ok_goto (off := 4) (by decide +kernel) (by decide)) <|
  fc (ok_iconst (n := -1) (by decide +kernel) (by decide +kernel)) <|
  fc (ok_iret rfl (by decide +kernel)) <| fn
def T_X11_denies : List (Nat × Op) := [(0, op_ald 0 1), (1, op_gf 11 9 35), (4, op_gi 7 5), (7, op_ist 1 1), (8, op_ald 0 1), (9, op_gf 11 9 35), (12, op_ic 0 1), (13, op_pi 7 5), (16, op_ild 1 1), (17, op_iret)]
set_option maxRecDepth 20000 in
theorem K_X11_denies : ∀ r ∈ T_X11_denies, OpOK M_X11_denies r.1 r.2 :=
  fc (ok_aldn (q := 0) (by decide +kernel) rfl) <|
  fc (ok_gf mk_X11_denies (fo_RX11_71 rfl) rfl (by decide +kernel)) <|
  fc (ok_gi mk_X11_denies (fo_RX11_314 rfl) rfl (by decide +kernel)) <|
  fc (ok_istn (q := 1) (by decide +kernel) rfl (by decide)) <|
  fc (ok_aldn (q := 0) (by decide +kernel) rfl) <|
  fc (ok_gf mk_X11_denies (fo_RX11_71 rfl) rfl (by decide +kernel)) <|
  fc (ok_iconst (n := 0) (by decide +kernel) (by decide +kernel)) <|
  fc (ok_pi mk_X11_denies (fo_RX11_314 rfl) to_7_5 rfl (by decide +kernel)) <|
  fc (ok_ildn (q := 1) (by decide +kernel) rfl) <|
  fc (ok_iret rfl (by decide +kernel)) <| fn
def T_X11_laws : List (Nat × Op) := [(0, op_ald 0 1), (1, op_gf 11 9 35), (4, op_cv M_X7_fitLaws 7 0), (7, op_ist 1 1), (8, op_ald 0 1), (9, op_gf 11 1 3), (12, op_cv M_X9_clears 9 0), (15, op_ald 0 1), (16, op_gf 11 9 35), (19, op_cv M_X7_leastPair 7 0), (22, op_ist 2 1), (23, op_ild 2 1), (24, op_iflt 59), (27, op_ald 0 1), (28, op_gf 11 1 3), (31, op_ild 2 1), (32, op_ic 4 1), (33, op_idiv), (34, op_i2l), (35, op_ild 2 1), (36, op_ic 4 1), (37, op_irem), (38, op_i2l), (39, op_cv M_X9_tells_ 9 2), (42, op_ald 0 1), (43, op_gf 11 1 3), (46, op_ald 0 1), (47, op_gf 11 9 35), (50, op_gf 7 3 4), (53, op_ild 2 1), (54, op_iald), (55, op_i2l), (56, op_cv M_X9_adds 9 1), (59, op_ild 1 1), (60, op_iret)]
set_option maxRecDepth 20000 in
theorem K_X11_laws : ∀ r ∈ T_X11_laws, OpOK M_X11_laws r.1 r.2 :=
  fc (ok_aldn (q := 0) (by decide +kernel) rfl) <|
  fc (ok_gf mk_X11_laws (fo_RX11_71 rfl) rfl (by decide +kernel)) <|
  fc (ok_cv mk_X11_laws mk_X7_fitLaws ⟨uw1120, uw1121, uw1122, uw48, by decide +kernel⟩ (T := TX7) (N := 6) rfl (by decide +kernel)) <|
  fc (ok_istn (q := 1) (by decide +kernel) rfl (by decide)) <|
  fc (ok_aldn (q := 0) (by decide +kernel) rfl) <|
  fc (ok_gf mk_X11_laws (fo_RX11_19 rfl) rfl (by decide +kernel)) <|
  fc (ok_cv mk_X11_laws mk_X9_clears ⟨uw754, uw755, uw756, uw19, by decide +kernel⟩ (T := TX9) (N := 2) rfl (by decide +kernel)) <|
  fc (ok_aldn (q := 0) (by decide +kernel) rfl) <|
  fc (ok_gf mk_X11_laws (fo_RX11_71 rfl) rfl (by decide +kernel)) <|
  fc (ok_cv mk_X11_laws mk_X7_leastPair ⟨uw1129, uw1130, uw1131, uw48, by decide +kernel⟩ (T := TX7) (N := 6) rfl (by decide +kernel)) <|
  fc (ok_istn (q := 2) (by decide +kernel) rfl (by decide)) <|
  fc (ok_ildn (q := 2) (by decide +kernel) rfl) <|
  fc (ok_iflt (off := 35) (by decide +kernel) (by decide)) <|
  fc (ok_aldn (q := 0) (by decide +kernel) rfl) <|
  fc (ok_gf mk_X11_laws (fo_RX11_19 rfl) rfl (by decide +kernel)) <|
  fc (ok_ildn (q := 2) (by decide +kernel) rfl) <|
  fc (ok_iconst (n := 4) (by decide +kernel) (by decide +kernel)) <|
  fc (ok_idiv (by decide +kernel)) <|
  fc (ok_i2l (by decide +kernel)) <|
  fc (ok_ildn (q := 2) (by decide +kernel) rfl) <|
  fc (ok_iconst (n := 4) (by decide +kernel) (by decide +kernel)) <|
  fc (ok_irem (by decide +kernel)) <|
  fc (ok_i2l (by decide +kernel)) <|
  fc (ok_cv mk_X11_laws mk_X9_tells_ ⟨uw651, uw652, uw653, uw19, by decide +kernel⟩ (T := TX9) (N := 2) rfl (by decide +kernel)) <|
  fc (ok_aldn (q := 0) (by decide +kernel) rfl) <|
  fc (ok_gf mk_X11_laws (fo_RX11_19 rfl) rfl (by decide +kernel)) <|
  fc (ok_aldn (q := 0) (by decide +kernel) rfl) <|
  fc (ok_gf mk_X11_laws (fo_RX11_71 rfl) rfl (by decide +kernel)) <|
  fc (ok_gf mk_X11_laws (fo_RX11_321 rfl) rfl (by decide +kernel)) <|
  fc (ok_ildn (q := 2) (by decide +kernel) rfl) <|
  fc (ok_iald (by decide +kernel)) <|
  fc (ok_i2l (by decide +kernel)) <|
  fc (ok_cv mk_X11_laws mk_X9_adds ⟨uw762, uw657, uw658, uw19, by decide +kernel⟩ (T := TX9) (N := 2) rfl (by decide +kernel)) <|
  fc (ok_ildn (q := 1) (by decide +kernel) rfl) <|
  fc (ok_iret rfl (by decide +kernel)) <| fn
def T_X11_tries : List (Nat × Op) := [(0, op_ald 0 1), (1, op_gf 11 9 35), (4, op_cv M_X7_fitLaws 7 0), (7, op_ist 1 1), (8, op_ild 1 1), (9, op_ifne 15), (12, op_ic (-2) 2), (14, op_iret), (15, op_ic 0 1), (16, op_ist 2 1), (17, op_ild 1 1), (18, op_ic 1 1), (19, op_iadd), (20, op_ist 3 1), (21, op_ic 0 1), (22, op_ist 4 2), (24, op_ild 4 2), (26, op_ic 10 2), (28, op_icge 95), (31, op_ic 0 1), (32, op_ist 5 2), (34, op_ild 5 2), (36, op_ic 10 2), (38, op_icge 89), (41, op_ald 0 1), (42, op_gf 11 9 35), (45, op_ild 4 2), (47, op_ild 5 2), (49, op_cv M_X7_lawsThatHear 7 2), (52, op_ist 6 2), (54, op_ild 6 2), (56, op_ild 1 1), (57, op_ild 6 2), (59, op_isub), (60, op_max), (63, op_ist 7 2), (65, op_ild 7 2), (67, op_ild 3 1), (68, op_icge 83), (71, op_ild 7 2), (73, op_ist 3 1), (74, op_ic 10 2), (76, op_ild 4 2), (78, op_imul), (79, op_ild 5 2), (81, op_iadd), (82, op_ist 2 1), (83, op_iinc 5 1), (86, op_goto 34), (89, op_iinc 4 1), (92, op_goto 24), (95, op_ald 0 1), (96, op_gf 11 1 3), (99, op_ild 3 1), (100, op_i2l), (101, op_cv M_X9_tells 9 1), (104, op_ild 2 1), (105, op_iret)]
set_option maxRecDepth 20000 in
theorem K_X11_tries : ∀ r ∈ T_X11_tries, OpOK M_X11_tries r.1 r.2 :=
  fc (ok_aldn (q := 0) (by decide +kernel) rfl) <|
  fc (ok_gf mk_X11_tries (fo_RX11_71 rfl) rfl (by decide +kernel)) <|
  fc (ok_cv mk_X11_tries mk_X7_fitLaws ⟨uw1120, uw1121, uw1122, uw48, by decide +kernel⟩ (T := TX7) (N := 6) rfl (by decide +kernel)) <|
  fc (ok_istn (q := 1) (by decide +kernel) rfl (by decide)) <|
  fc (ok_ildn (q := 1) (by decide +kernel) rfl) <|
  fc (ok_ifne (off := 6) (by decide +kernel) (by decide)) <|
  fc (ok_bipush (n := -2) (by decide +kernel) (by decide +kernel)) <|
  fc (ok_iret rfl (by decide +kernel)) <|
  fc (ok_iconst (n := 0) (by decide +kernel) (by decide +kernel)) <|
  fc (ok_istn (q := 2) (by decide +kernel) rfl (by decide)) <|
  fc (ok_ildn (q := 1) (by decide +kernel) rfl) <|
  fc (ok_iconst (n := 1) (by decide +kernel) (by decide +kernel)) <|
  fc (ok_iadd (by decide +kernel)) <|
  fc (ok_istn (q := 3) (by decide +kernel) rfl (by decide)) <|
  fc (ok_iconst (n := 0) (by decide +kernel) (by decide +kernel)) <|
  fc (ok_ist (by decide +kernel) (by decide)) <|
  fc (ok_ild (by decide +kernel)) <|
  fc (ok_bipush (n := 10) (by decide +kernel) (by decide +kernel)) <|
  fc (ok_icge (off := 67) (by decide +kernel) (by decide)) <|
  fc (ok_iconst (n := 0) (by decide +kernel) (by decide +kernel)) <|
  fc (ok_ist (by decide +kernel) (by decide)) <|
  fc (ok_ild (by decide +kernel)) <|
  fc (ok_bipush (n := 10) (by decide +kernel) (by decide +kernel)) <|
  fc (ok_icge (off := 51) (by decide +kernel) (by decide)) <|
  fc (ok_aldn (q := 0) (by decide +kernel) rfl) <|
  fc (ok_gf mk_X11_tries (fo_RX11_71 rfl) rfl (by decide +kernel)) <|
  fc (ok_ild (by decide +kernel)) <|
  fc (ok_ild (by decide +kernel)) <|
  fc (ok_cv mk_X11_tries mk_X7_lawsThatHear ⟨uw1148, uw1149, uw1150, uw48, by decide +kernel⟩ (T := TX7) (N := 6) rfl (by decide +kernel)) <|
  fc (ok_ist (by decide +kernel) (by decide)) <|
  fc (ok_ild (by decide +kernel)) <|
  fc (ok_ildn (q := 1) (by decide +kernel) rfl) <|
  fc (ok_ild (by decide +kernel)) <|
  fc (ok_isub (by decide +kernel)) <|
  fc (ok_max mk_X11_tries uw505 uw506 uw212 uw507 (by decide +kernel)) <|
  fc (ok_ist (by decide +kernel) (by decide)) <|
  fc (ok_ild (by decide +kernel)) <|
  fc (ok_ildn (q := 3) (by decide +kernel) rfl) <|
  fc (ok_icge (off := 15) (by decide +kernel) (by decide)) <|
  fc (ok_ild (by decide +kernel)) <|
  fc (ok_istn (q := 3) (by decide +kernel) rfl (by decide)) <|
  fc (ok_bipush (n := 10) (by decide +kernel) (by decide +kernel)) <|
  fc (ok_ild (by decide +kernel)) <|
  fc (ok_imul (by decide +kernel)) <|
  fc (ok_ild (by decide +kernel)) <|
  fc (ok_iadd (by decide +kernel)) <|
  fc (ok_istn (q := 2) (by decide +kernel) rfl (by decide)) <|
  fc (ok_iinc (n := 1) (by decide +kernel) (by decide +kernel) (by decide)) <|
  fc (ok_goto (off := -52) (by decide +kernel) (by decide)) <|
  fc (ok_iinc (n := 1) (by decide +kernel) (by decide +kernel) (by decide)) <|
  fc (ok_goto (off := -68) (by decide +kernel) (by decide)) <|
  fc (ok_aldn (q := 0) (by decide +kernel) rfl) <|
  fc (ok_gf mk_X11_tries (fo_RX11_19 rfl) rfl (by decide +kernel)) <|
  fc (ok_ildn (q := 3) (by decide +kernel) rfl) <|
  fc (ok_i2l (by decide +kernel)) <|
  fc (ok_cv mk_X11_tries mk_X9_tells ⟨uw789, uw790, uw791, uw19, by decide +kernel⟩ (T := TX9) (N := 2) rfl (by decide +kernel)) <|
  fc (ok_ildn (q := 2) (by decide +kernel) rfl) <|
  fc (ok_iret rfl (by decide +kernel)) <| fn
def T_X11_walks : List (Nat × Op) := [(0, op_ild 1 1), (1, op_iflt 42), (4, op_ild 1 1), (5, op_ic 10 2), (7, op_icge 42), (10, op_ild 4 2), (12, op_iflt 42), (15, op_ild 4 2), (17, op_ic 10 2), (19, op_icge 42), (22, op_ild 2 1), (23, op_iflt 42), (26, op_ild 2 1), (27, op_ic 12 2), (29, op_icgt 42), (32, op_ild 3 1), (33, op_iflt 42), (36, op_ild 3 1), (37, op_ic 10 2), (39, op_icle 44), (42, op_ic (-1) 1), (43, op_iret), (44, op_ald 0 1), (45, op_gf 11 10 41), (48, op_ild 1 1), (49, op_ild 2 1), (50, op_ild 3 1), (51, op_ild 4 2), (53, op_cv M_X4_walked 4 4), (56, op_lst 5 2), (58, op_lc 1 1), (59, op_lst 7 2), (61, op_ic 0 1), (62, op_ist 9 2), (64, op_ild 9 2), (66, op_ild 2 1), (67, op_icge 84), (70, op_lld 7 2), (72, op_lc (10) 3), (75, op_lmul), (76, op_lst 7 2), (78, op_iinc 9 1), (81, op_goto 64), (84, op_lld 5 2), (86, op_lld 7 2), (88, op_cs M_X11_greatestCommon 2), (91, op_lst 9 2), (93, op_ald 0 1), (94, op_gf 11 1 3), (97, op_cv M_X9_clears 9 0), (100, op_ald 0 1), (101, op_gf 11 1 3), (104, op_lld 9 2), (106, op_lc 0 1), (107, op_lcmp), (108, op_ifne 116), (111, op_lld 5 2), (113, op_goto 121), (116, op_lld 5 2), (118, op_lld 9 2), (120, op_ldiv), (121, op_cv M_X9_adds 9 1), (124, op_ald 0 1), (125, op_gf 11 1 3), (128, op_lld 9 2), (130, op_lc 0 1), (131, op_lcmp), (132, op_ifne 140), (135, op_lld 7 2), (137, op_goto 145), (140, op_lld 7 2), (142, op_lld 9 2), (144, op_ldiv), (145, op_cv M_X9_adds 9 1), (148, op_ic 0 1), (149, op_iret)]
set_option maxRecDepth 20000 in
theorem K_X11_walks : ∀ r ∈ T_X11_walks, OpOK M_X11_walks r.1 r.2 :=
  fc (ok_ildn (q := 1) (by decide +kernel) rfl) <|
  fc (ok_iflt (off := 41) (by decide +kernel) (by decide)) <|
  fc (ok_ildn (q := 1) (by decide +kernel) rfl) <|
  fc (ok_bipush (n := 10) (by decide +kernel) (by decide +kernel)) <|
  fc (ok_icge (off := 35) (by decide +kernel) (by decide)) <|
  fc (ok_ild (by decide +kernel)) <|
  fc (ok_iflt (off := 30) (by decide +kernel) (by decide)) <|
  fc (ok_ild (by decide +kernel)) <|
  fc (ok_bipush (n := 10) (by decide +kernel) (by decide +kernel)) <|
  fc (ok_icge (off := 23) (by decide +kernel) (by decide)) <|
  fc (ok_ildn (q := 2) (by decide +kernel) rfl) <|
  fc (ok_iflt (off := 19) (by decide +kernel) (by decide)) <|
  fc (ok_ildn (q := 2) (by decide +kernel) rfl) <|
  fc (ok_bipush (n := 12) (by decide +kernel) (by decide +kernel)) <|
  fc (ok_icgt (off := 13) (by decide +kernel) (by decide)) <|
  fc (ok_ildn (q := 3) (by decide +kernel) rfl) <|
  fc (ok_iflt (off := 9) (by decide +kernel) (by decide)) <|
  fc (ok_ildn (q := 3) (by decide +kernel) rfl) <|
  fc (ok_bipush (n := 10) (by decide +kernel) (by decide +kernel)) <|
  fc (ok_icle (off := 5) (by decide +kernel) (by decide)) <|
  fc (ok_iconst (n := -1) (by decide +kernel) (by decide +kernel)) <|
  fc (ok_iret rfl (by decide +kernel)) <|
  fc (ok_aldn (q := 0) (by decide +kernel) rfl) <|
  fc (ok_gf mk_X11_walks (fo_RX11_78 rfl) rfl (by decide +kernel)) <|
  fc (ok_ildn (q := 1) (by decide +kernel) rfl) <|
  fc (ok_ildn (q := 2) (by decide +kernel) rfl) <|
  fc (ok_ildn (q := 3) (by decide +kernel) rfl) <|
  fc (ok_ild (by decide +kernel)) <|
  fc (ok_cv mk_X11_walks mk_X4_walked ⟨uw1161, uw1162, uw1163, uw52, by decide +kernel⟩ (T := TX4) (N := 6) rfl (by decide +kernel)) <|
  fc (ok_lst (by decide +kernel) (by decide)) <|
  fc (ok_lconst (n := 1) (by decide +kernel) rfl) <|
  fc (ok_lst (by decide +kernel) (by decide)) <|
  fc (ok_iconst (n := 0) (by decide +kernel) (by decide +kernel)) <|
  fc (ok_ist (by decide +kernel) (by decide)) <|
  fc (ok_ild (by decide +kernel)) <|
  fc (ok_ildn (q := 2) (by decide +kernel) rfl) <|
  fc (ok_icge (off := 17) (by decide +kernel) (by decide)) <|
  fc (ok_lld (by decide +kernel)) <|
  fc (ok_ldc2 mk_X11_walks uw1160 (by decide +kernel)) <|
  fc (ok_lmul (by decide +kernel)) <|
  fc (ok_lst (by decide +kernel) (by decide)) <|
  fc (ok_iinc (n := 1) (by decide +kernel) (by decide +kernel) (by decide)) <|
  fc (ok_goto (off := -17) (by decide +kernel) (by decide)) <|
  fc (ok_lld (by decide +kernel)) <|
  fc (ok_lld (by decide +kernel)) <|
  fc (ok_cs mk_X11_walks mk_X11_greatestCommon ⟨uw1168, uw1169, uw2, by decide +kernel⟩ (by decide +kernel)) <|
  fc (ok_lst (by decide +kernel) (by decide)) <|
  fc (ok_aldn (q := 0) (by decide +kernel) rfl) <|
  fc (ok_gf mk_X11_walks (fo_RX11_19 rfl) rfl (by decide +kernel)) <|
  fc (ok_cv mk_X11_walks mk_X9_clears ⟨uw754, uw755, uw756, uw19, by decide +kernel⟩ (T := TX9) (N := 2) rfl (by decide +kernel)) <|
  fc (ok_aldn (q := 0) (by decide +kernel) rfl) <|
  fc (ok_gf mk_X11_walks (fo_RX11_19 rfl) rfl (by decide +kernel)) <|
  fc (ok_lld (by decide +kernel)) <|
  fc (ok_lconst (n := 0) (by decide +kernel) rfl) <|
  fc (ok_lcmp (by decide +kernel)) <|
  fc (ok_ifne (off := 8) (by decide +kernel) (by decide)) <|
  fc (ok_lld (by decide +kernel)) <|
  fc (ok_goto (off := 8) (by decide +kernel) (by decide)) <|
  fc (ok_lld (by decide +kernel)) <|
  fc (ok_lld (by decide +kernel)) <|
  fc (ok_ldiv (by decide +kernel)) <|
  fc (ok_cv mk_X11_walks mk_X9_adds ⟨uw762, uw657, uw658, uw19, by decide +kernel⟩ (T := TX9) (N := 2) rfl (by decide +kernel)) <|
  fc (ok_aldn (q := 0) (by decide +kernel) rfl) <|
  fc (ok_gf mk_X11_walks (fo_RX11_19 rfl) rfl (by decide +kernel)) <|
  fc (ok_lld (by decide +kernel)) <|
  fc (ok_lconst (n := 0) (by decide +kernel) rfl) <|
  fc (ok_lcmp (by decide +kernel)) <|
  fc (ok_ifne (off := 8) (by decide +kernel) (by decide)) <|
  fc (ok_lld (by decide +kernel)) <|
  fc (ok_goto (off := 8) (by decide +kernel) (by decide)) <|
  fc (ok_lld (by decide +kernel)) <|
  fc (ok_lld (by decide +kernel)) <|
  fc (ok_ldiv (by decide +kernel)) <|
  fc (ok_cv mk_X11_walks mk_X9_adds ⟨uw762, uw657, uw658, uw19, by decide +kernel⟩ (T := TX9) (N := 2) rfl (by decide +kernel)) <|
  fc (ok_iconst (n := 0) (by decide +kernel) (by decide +kernel)) <|
  fc (ok_iret rfl (by decide +kernel)) <| fn
def T_X11_greatestCommon : List (Nat × Op) := [(0, op_lld 0 1), (1, op_lst 4 2), (3, op_lld 2 1), (4, op_lst 6 2), (6, op_ic 0 1), (7, op_ist 8 2), (9, op_ild 8 2), (11, op_ic 100 2), (13, op_icge 44), (16, op_lld 6 2), (18, op_lc 0 1), (19, op_lcmp), (20, op_ifeq 44), (23, op_lld 4 2), (25, op_lld 6 2), (27, op_lrem), (28, op_lst 9 2), (30, op_lld 6 2), (32, op_lst 4 2), (34, op_lld 9 2), (36, op_lst 6 2), (38, op_iinc 8 1), (41, op_goto 9), (44, op_lld 4 2), (46, op_lret)]
set_option maxRecDepth 20000 in
theorem K_X11_greatestCommon : ∀ r ∈ T_X11_greatestCommon, OpOK M_X11_greatestCommon r.1 r.2 :=
  fc (ok_lldn (q := 0) (by decide +kernel) rfl) <|
  fc (ok_lst (by decide +kernel) (by decide)) <|
  fc (ok_lldn (q := 2) (by decide +kernel) rfl) <|
  fc (ok_lst (by decide +kernel) (by decide)) <|
  fc (ok_iconst (n := 0) (by decide +kernel) (by decide +kernel)) <|
  fc (ok_ist (by decide +kernel) (by decide)) <|
  fc (ok_ild (by decide +kernel)) <|
  fc (ok_bipush (n := 100) (by decide +kernel) (by decide +kernel)) <|
  fc (ok_icge (off := 31) (by decide +kernel) (by decide)) <|
  fc (ok_lld (by decide +kernel)) <|
  fc (ok_lconst (n := 0) (by decide +kernel) rfl) <|
  fc (ok_lcmp (by decide +kernel)) <|
  fc (ok_ifeq (off := 24) (by decide +kernel) (by decide)) <|
  fc (ok_lld (by decide +kernel)) <|
  fc (ok_lld (by decide +kernel)) <|
  fc (ok_lrem (by decide +kernel)) <|
  fc (ok_lst (by decide +kernel) (by decide)) <|
  fc (ok_lld (by decide +kernel)) <|
  fc (ok_lst (by decide +kernel) (by decide)) <|
  fc (ok_lld (by decide +kernel)) <|
  fc (ok_lst (by decide +kernel) (by decide)) <|
  fc (ok_iinc (n := 1) (by decide +kernel) (by decide +kernel) (by decide)) <|
  fc (ok_goto (off := -32) (by decide +kernel) (by decide)) <|
  fc (ok_lld (by decide +kernel)) <|
  fc (ok_lret rfl (by decide +kernel)) <| fn
def T_X11_hush : List (Nat × Op) := [(0, op_ild 1 1), (1, op_iflt 20), (4, op_ild 1 1), (5, op_ic 20 2), (7, op_icgt 20), (10, op_ild 2 1), (11, op_iflt 20), (14, op_ild 2 1), (15, op_ic 20 2), (17, op_icle 22), (20, op_ic (-1) 1), (21, op_iret), (22, op_ald 0 1), (23, op_gf 11 10 41), (26, op_cv M_X4_readiesHush 4 0), (29, op_ald 0 1), (30, op_gf 11 1 3), (33, op_cv M_X9_clears 9 0), (36, op_ald 0 1), (37, op_gf 11 10 41), (40, op_ild 1 1), (41, op_ild 2 1), (42, op_cv M_X4_winningTake 4 2), (45, op_ist 3 1), (46, op_ald 0 1), (47, op_gf 11 10 41), (50, op_ild 2 1), (51, op_ild 1 1), (52, op_cv M_X4_winningTake 4 2), (55, op_ist 4 2), (57, op_ild 3 1), (58, op_ifle 74), (61, op_ald 0 1), (62, op_gf 11 1 3), (65, op_lc 0 1), (66, op_ild 3 1), (67, op_i2l), (68, op_cv M_X9_tells_ 9 2), (71, op_goto 90), (74, op_ild 4 2), (76, op_ifle 90), (79, op_ald 0 1), (80, op_gf 11 1 3), (83, op_ild 4 2), (85, op_i2l), (86, op_lc 0 1), (87, op_cv M_X9_tells_ 9 2), (90, op_ald 0 1), (91, op_gf 11 10 41), (94, op_ild 1 1), (95, op_ild 2 1), (96, op_cv M_X4_wins 4 2), (99, op_ifeq 106), (102, op_ic 1 1), (103, op_goto 107), (106, op_ic 0 1), (107, op_iret)]
set_option maxRecDepth 20000 in
theorem K_X11_hush : ∀ r ∈ T_X11_hush, OpOK M_X11_hush r.1 r.2 :=
  fc (ok_ildn (q := 1) (by decide +kernel) rfl) <|
  fc (ok_iflt (off := 19) (by decide +kernel) (by decide)) <|
  fc (ok_ildn (q := 1) (by decide +kernel) rfl) <|
  fc (ok_bipush (n := 20) (by decide +kernel) (by decide +kernel)) <|
  fc (ok_icgt (off := 13) (by decide +kernel) (by decide)) <|
  fc (ok_ildn (q := 2) (by decide +kernel) rfl) <|
  fc (ok_iflt (off := 9) (by decide +kernel) (by decide)) <|
  fc (ok_ildn (q := 2) (by decide +kernel) rfl) <|
  fc (ok_bipush (n := 20) (by decide +kernel) (by decide +kernel)) <|
  fc (ok_icle (off := 5) (by decide +kernel) (by decide)) <|
  fc (ok_iconst (n := -1) (by decide +kernel) (by decide +kernel)) <|
  fc (ok_iret rfl (by decide +kernel)) <|
  fc (ok_aldn (q := 0) (by decide +kernel) rfl) <|
  fc (ok_gf mk_X11_hush (fo_RX11_78 rfl) rfl (by decide +kernel)) <|
  fc (ok_cv mk_X11_hush mk_X4_readiesHush ⟨uw1183, uw1184, uw1185, uw52, by decide +kernel⟩ (T := TX4) (N := 6) rfl (by decide +kernel)) <|
  fc (ok_aldn (q := 0) (by decide +kernel) rfl) <|
  fc (ok_gf mk_X11_hush (fo_RX11_19 rfl) rfl (by decide +kernel)) <|
  fc (ok_cv mk_X11_hush mk_X9_clears ⟨uw754, uw755, uw756, uw19, by decide +kernel⟩ (T := TX9) (N := 2) rfl (by decide +kernel)) <|
  fc (ok_aldn (q := 0) (by decide +kernel) rfl) <|
  fc (ok_gf mk_X11_hush (fo_RX11_78 rfl) rfl (by decide +kernel)) <|
  fc (ok_ildn (q := 1) (by decide +kernel) rfl) <|
  fc (ok_ildn (q := 2) (by decide +kernel) rfl) <|
  fc (ok_cv mk_X11_hush mk_X4_winningTake ⟨uw1196, uw1189, uw1190, uw52, by decide +kernel⟩ (T := TX4) (N := 6) rfl (by decide +kernel)) <|
  fc (ok_istn (q := 3) (by decide +kernel) rfl (by decide)) <|
  fc (ok_aldn (q := 0) (by decide +kernel) rfl) <|
  fc (ok_gf mk_X11_hush (fo_RX11_78 rfl) rfl (by decide +kernel)) <|
  fc (ok_ildn (q := 2) (by decide +kernel) rfl) <|
  fc (ok_ildn (q := 1) (by decide +kernel) rfl) <|
  fc (ok_cv mk_X11_hush mk_X4_winningTake ⟨uw1196, uw1189, uw1190, uw52, by decide +kernel⟩ (T := TX4) (N := 6) rfl (by decide +kernel)) <|
  fc (ok_ist (by decide +kernel) (by decide)) <|
  fc (ok_ildn (q := 3) (by decide +kernel) rfl) <|
  fc (ok_ifle (off := 16) (by decide +kernel) (by decide)) <|
  fc (ok_aldn (q := 0) (by decide +kernel) rfl) <|
  fc (ok_gf mk_X11_hush (fo_RX11_19 rfl) rfl (by decide +kernel)) <|
  fc (ok_lconst (n := 0) (by decide +kernel) rfl) <|
  fc (ok_ildn (q := 3) (by decide +kernel) rfl) <|
  fc (ok_i2l (by decide +kernel)) <|
  fc (ok_cv mk_X11_hush mk_X9_tells_ ⟨uw651, uw652, uw653, uw19, by decide +kernel⟩ (T := TX9) (N := 2) rfl (by decide +kernel)) <|
  fc (ok_goto (off := 19) (by decide +kernel) (by decide)) <|
  fc (ok_ild (by decide +kernel)) <|
  fc (ok_ifle (off := 14) (by decide +kernel) (by decide)) <|
  fc (ok_aldn (q := 0) (by decide +kernel) rfl) <|
  fc (ok_gf mk_X11_hush (fo_RX11_19 rfl) rfl (by decide +kernel)) <|
  fc (ok_ild (by decide +kernel)) <|
  fc (ok_i2l (by decide +kernel)) <|
  fc (ok_lconst (n := 0) (by decide +kernel) rfl) <|
  fc (ok_cv mk_X11_hush mk_X9_tells_ ⟨uw651, uw652, uw653, uw19, by decide +kernel⟩ (T := TX9) (N := 2) rfl (by decide +kernel)) <|
  fc (ok_aldn (q := 0) (by decide +kernel) rfl) <|
  fc (ok_gf mk_X11_hush (fo_RX11_78 rfl) rfl (by decide +kernel)) <|
  fc (ok_ildn (q := 1) (by decide +kernel) rfl) <|
  fc (ok_ildn (q := 2) (by decide +kernel) rfl) <|
  fc (ok_cv mk_X11_hush mk_X4_wins ⟨uw1197, uw1193, uw1194, uw52, by decide +kernel⟩ (T := TX4) (N := 6) rfl (by decide +kernel)) <|
  fc (ok_ifeq (off := 7) (by decide +kernel) (by decide)) <|
  fc (ok_iconst (n := 1) (by decide +kernel) (by decide +kernel)) <|
  fc (ok_goto (off := 4) (by decide +kernel) (by decide)) <|
  fc (ok_iconst (n := 0) (by decide +kernel) (by decide +kernel)) <|
  fc (ok_iret rfl (by decide +kernel)) <| fn
