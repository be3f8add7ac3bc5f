/-! the law's instructions, case by case -/
theorem lfn {X : LX} : ∀ r ∈ ([] : List (Nat × Op)), LOK X r.1 r.2 := fun _ h => nomatch h
theorem lfc {X : LX} {pc : Nat} {op : Op} {T : List (Nat × Op)} (h : LOK X pc op) (ht : ∀ r ∈ T, LOK X r.1 r.2) : ∀ r ∈ (pc, op) :: T, LOK X r.1 r.2 := List.forall_mem_cons.mpr ⟨h, ht⟩
theorem uw171 : (Cond.methodLink RL 26 yX11_sign) ∈ UW := inR8 _ (List.mem_of_getElem? (i := 3) rfl)
theorem uw172 : (Cond.instanceMethod yX11_sign) ∈ UW := inR8 _ (List.mem_of_getElem? (i := 4) rfl)
theorem uw173 : (Cond.selects RX11 yX11_sign yX11_sign) ∈ UW := inR8 _ (List.mem_of_getElem? (i := 5) rfl)
theorem uw181 : (Cond.methodLink RL 30 yX12_sign) ∈ UW := inR8 _ (List.mem_of_getElem? (i := 13) rfl)
theorem uw182 : (Cond.instanceMethod yX12_sign) ∈ UW := inR8 _ (List.mem_of_getElem? (i := 14) rfl)
theorem uw183 : (Cond.selects RX12 yX12_sign yX12_sign) ∈ UW := inR8 _ (List.mem_of_getElem? (i := 15) rfl)
theorem uw187 : (Cond.methodLink RL 31 yX11_end) ∈ UW := inR8 _ (List.mem_of_getElem? (i := 19) rfl)
theorem uw188 : (Cond.instanceMethod yX11_end) ∈ UW := inR8 _ (List.mem_of_getElem? (i := 20) rfl)
theorem uw189 : (Cond.selects RX11 yX11_end yX11_end) ∈ UW := inR8 _ (List.mem_of_getElem? (i := 21) rfl)
theorem uw195 : (Cond.methodLink RL 35 yX12_end) ∈ UW := inR9 _ (List.mem_of_getElem? (i := 3) rfl)
theorem uw196 : (Cond.instanceMethod yX12_end) ∈ UW := inR9 _ (List.mem_of_getElem? (i := 4) rfl)
theorem uw197 : (Cond.selects RX12 yX12_end yX12_end) ∈ UW := inR9 _ (List.mem_of_getElem? (i := 5) rfl)
theorem uw202 : (Cond.methodLink RL 36 yX11_people) ∈ UW := inR9 _ (List.mem_of_getElem? (i := 10) rfl)
theorem uw203 : (Cond.instanceMethod yX11_people) ∈ UW := inR9 _ (List.mem_of_getElem? (i := 11) rfl)
theorem uw204 : (Cond.selects RX11 yX11_people yX11_people) ∈ UW := inR9 _ (List.mem_of_getElem? (i := 12) rfl)
theorem uw253 : (Cond.methodLink RL 40 yX12_people) ∈ UW := inR11 _ (List.mem_of_getElem? (i := 13) rfl)
theorem uw254 : (Cond.instanceMethod yX12_people) ∈ UW := inR11 _ (List.mem_of_getElem? (i := 14) rfl)
theorem uw255 : (Cond.selects RX12 yX12_people yX12_people) ∈ UW := inR11 _ (List.mem_of_getElem? (i := 15) rfl)
theorem uw297 : (Cond.methodLink RL 41 yX11_rule) ∈ UW := inR13 _ (List.mem_of_getElem? (i := 9) rfl)
theorem uw298 : (Cond.instanceMethod yX11_rule) ∈ UW := inR13 _ (List.mem_of_getElem? (i := 10) rfl)
theorem uw299 : (Cond.selects RX11 yX11_rule yX11_rule) ∈ UW := inR13 _ (List.mem_of_getElem? (i := 11) rfl)
theorem uw345 : (Cond.methodLink RL 44 yX12_rule) ∈ UW := inR15 _ (List.mem_of_getElem? (i := 9) rfl)
theorem uw346 : (Cond.instanceMethod yX12_rule) ∈ UW := inR15 _ (List.mem_of_getElem? (i := 10) rfl)
theorem uw347 : (Cond.selects RX12 yX12_rule yX12_rule) ∈ UW := inR15 _ (List.mem_of_getElem? (i := 11) rfl)
theorem uw438 : (Cond.methodLink RL 50 yX12_one) ∈ UW := inR19 _ (List.mem_of_getElem? (i := 6) rfl)
theorem uw439 : (Cond.instanceMethod yX12_one) ∈ UW := inR19 _ (List.mem_of_getElem? (i := 7) rfl)
theorem uw440 : (Cond.selects RX12 yX12_one yX12_one) ∈ UW := inR19 _ (List.mem_of_getElem? (i := 8) rfl)
theorem uw467 : (Cond.methodLink RL 51 yX12_thrown) ∈ UW := inR20 _ (List.mem_of_getElem? (i := 11) rfl)
theorem uw468 : (Cond.instanceMethod yX12_thrown) ∈ UW := inR20 _ (List.mem_of_getElem? (i := 12) rfl)
theorem uw469 : (Cond.selects RX12 yX12_thrown yX12_thrown) ∈ UW := inR20 _ (List.mem_of_getElem? (i := 13) rfl)
theorem uw489 : (Cond.methodLink RL 56 yX12_name) ∈ UW := inR21 _ (List.mem_of_getElem? (i := 9) rfl)
theorem uw490 : (Cond.instanceMethod yX12_name) ∈ UW := inR21 _ (List.mem_of_getElem? (i := 10) rfl)
theorem uw491 : (Cond.selects RX12 yX12_name yX12_name) ∈ UW := inR21 _ (List.mem_of_getElem? (i := 11) rfl)
theorem uw497 : (Cond.methodLink RL 57 yX11_sheet) ∈ UW := inR21 _ (List.mem_of_getElem? (i := 17) rfl)
theorem uw498 : (Cond.instanceMethod yX11_sheet) ∈ UW := inR21 _ (List.mem_of_getElem? (i := 18) rfl)
theorem uw499 : (Cond.selects RX11 yX11_sheet yX11_sheet) ∈ UW := inR21 _ (List.mem_of_getElem? (i := 19) rfl)
theorem uw516 : (Cond.methodLink RL 61 yX12_sheet) ∈ UW := inR22 _ (List.mem_of_getElem? (i := 12) rfl)
theorem uw517 : (Cond.instanceMethod yX12_sheet) ∈ UW := inR22 _ (List.mem_of_getElem? (i := 13) rfl)
theorem uw518 : (Cond.selects RX12 yX12_sheet yX12_sheet) ∈ UW := inR22 _ (List.mem_of_getElem? (i := 14) rfl)
theorem uw526 : (Cond.methodLink RL 62 yX11_says) ∈ UW := inR22 _ (List.mem_of_getElem? (i := 22) rfl)
theorem uw527 : (Cond.instanceMethod yX11_says) ∈ UW := inR22 _ (List.mem_of_getElem? (i := 23) rfl)
theorem uw528 : (Cond.selects RX11 yX11_says yX11_says) ∈ UW := inR23 _ (List.mem_of_getElem? (i := 0) rfl)
theorem uw564 : (Cond.methodLink RL 65 yX12_says) ∈ UW := inR24 _ (List.mem_of_getElem? (i := 12) rfl)
theorem uw565 : (Cond.instanceMethod yX12_says) ∈ UW := inR24 _ (List.mem_of_getElem? (i := 13) rfl)
theorem uw566 : (Cond.selects RX12 yX12_says yX12_says) ∈ UW := inR24 _ (List.mem_of_getElem? (i := 14) rfl)
theorem uw582 : (Cond.methodLink RL 66 yX11_signs) ∈ UW := inR25 _ (List.mem_of_getElem? (i := 6) rfl)
theorem uw583 : (Cond.instanceMethod yX11_signs) ∈ UW := inR25 _ (List.mem_of_getElem? (i := 7) rfl)
theorem uw584 : (Cond.selects RX11 yX11_signs yX11_signs) ∈ UW := inR25 _ (List.mem_of_getElem? (i := 8) rfl)
theorem uw590 : (Cond.methodLink RL 69 yX12_signs) ∈ UW := inR25 _ (List.mem_of_getElem? (i := 14) rfl)
theorem uw591 : (Cond.instanceMethod yX12_signs) ∈ UW := inR25 _ (List.mem_of_getElem? (i := 15) rfl)
theorem uw592 : (Cond.selects RX12 yX12_signs yX12_signs) ∈ UW := inR25 _ (List.mem_of_getElem? (i := 16) rfl)
theorem uw602 : (Cond.methodLink RL 70 yX11_moves) ∈ UW := inR26 _ (List.mem_of_getElem? (i := 2) rfl)
theorem uw603 : (Cond.instanceMethod yX11_moves) ∈ UW := inR26 _ (List.mem_of_getElem? (i := 3) rfl)
theorem uw604 : (Cond.selects RX11 yX11_moves yX11_moves) ∈ UW := inR26 _ (List.mem_of_getElem? (i := 4) rfl)
theorem uw610 : (Cond.methodLink RL 73 yX12_moves) ∈ UW := inR26 _ (List.mem_of_getElem? (i := 10) rfl)
theorem uw611 : (Cond.instanceMethod yX12_moves) ∈ UW := inR26 _ (List.mem_of_getElem? (i := 11) rfl)
theorem uw612 : (Cond.selects RX12 yX12_moves yX12_moves) ∈ UW := inR26 _ (List.mem_of_getElem? (i := 12) rfl)
theorem uw618 : (Cond.methodLink RL 74 yX11_calls) ∈ UW := inR26 _ (List.mem_of_getElem? (i := 18) rfl)
theorem uw619 : (Cond.instanceMethod yX11_calls) ∈ UW := inR26 _ (List.mem_of_getElem? (i := 19) rfl)
theorem uw620 : (Cond.selects RX11 yX11_calls yX11_calls) ∈ UW := inR26 _ (List.mem_of_getElem? (i := 20) rfl)
theorem uw626 : (Cond.methodLink RL 77 yX12_calls) ∈ UW := inR27 _ (List.mem_of_getElem? (i := 2) rfl)
theorem uw627 : (Cond.instanceMethod yX12_calls) ∈ UW := inR27 _ (List.mem_of_getElem? (i := 3) rfl)
theorem uw628 : (Cond.selects RX12 yX12_calls yX12_calls) ∈ UW := inR27 _ (List.mem_of_getElem? (i := 4) rfl)
theorem uw638 : (Cond.methodLink RL 78 yX11_days) ∈ UW := inR27 _ (List.mem_of_getElem? (i := 14) rfl)
theorem uw639 : (Cond.instanceMethod yX11_days) ∈ UW := inR27 _ (List.mem_of_getElem? (i := 15) rfl)
theorem uw640 : (Cond.selects RX11 yX11_days yX11_days) ∈ UW := inR27 _ (List.mem_of_getElem? (i := 16) rfl)
theorem uw664 : (Cond.methodLink RL 81 yX12_days) ∈ UW := inR28 _ (List.mem_of_getElem? (i := 16) rfl)
theorem uw665 : (Cond.instanceMethod yX12_days) ∈ UW := inR28 _ (List.mem_of_getElem? (i := 17) rfl)
theorem uw666 : (Cond.selects RX12 yX12_days yX12_days) ∈ UW := inR28 _ (List.mem_of_getElem? (i := 18) rfl)
theorem uw685 : (Cond.methodLink RL 82 yX11_week) ∈ UW := inR29 _ (List.mem_of_getElem? (i := 13) rfl)
theorem uw686 : (Cond.instanceMethod yX11_week) ∈ UW := inR29 _ (List.mem_of_getElem? (i := 14) rfl)
theorem uw687 : (Cond.selects RX11 yX11_week yX11_week) ∈ UW := inR29 _ (List.mem_of_getElem? (i := 15) rfl)
theorem uw700 : (Cond.methodLink RL 85 yX12_week) ∈ UW := inR30 _ (List.mem_of_getElem? (i := 4) rfl)
theorem uw701 : (Cond.instanceMethod yX12_week) ∈ UW := inR30 _ (List.mem_of_getElem? (i := 5) rfl)
theorem uw702 : (Cond.selects RX12 yX12_week yX12_week) ∈ UW := inR30 _ (List.mem_of_getElem? (i := 6) rfl)
theorem uw712 : (Cond.methodLink RL 86 yX11_undo) ∈ UW := inR30 _ (List.mem_of_getElem? (i := 16) rfl)
theorem uw713 : (Cond.instanceMethod yX11_undo) ∈ UW := inR30 _ (List.mem_of_getElem? (i := 17) rfl)
theorem uw714 : (Cond.selects RX11 yX11_undo yX11_undo) ∈ UW := inR30 _ (List.mem_of_getElem? (i := 18) rfl)
theorem uw725 : (Cond.methodLink RL 89 yX12_undo) ∈ UW := inR31 _ (List.mem_of_getElem? (i := 5) rfl)
theorem uw726 : (Cond.instanceMethod yX12_undo) ∈ UW := inR31 _ (List.mem_of_getElem? (i := 6) rfl)
theorem uw727 : (Cond.selects RX12 yX12_undo yX12_undo) ∈ UW := inR31 _ (List.mem_of_getElem? (i := 7) rfl)
theorem uw729 : (Cond.methodLink RL 90 yX11_brings) ∈ UW := inR31 _ (List.mem_of_getElem? (i := 9) rfl)
theorem uw730 : (Cond.instanceMethod yX11_brings) ∈ UW := inR31 _ (List.mem_of_getElem? (i := 10) rfl)
theorem uw731 : (Cond.selects RX11 yX11_brings yX11_brings) ∈ UW := inR31 _ (List.mem_of_getElem? (i := 11) rfl)
theorem uw763 : (Cond.methodLink RL 93 yX12_brings) ∈ UW := inR32 _ (List.mem_of_getElem? (i := 19) rfl)
theorem uw764 : (Cond.instanceMethod yX12_brings) ∈ UW := inR32 _ (List.mem_of_getElem? (i := 20) rfl)
theorem uw765 : (Cond.selects RX12 yX12_brings yX12_brings) ∈ UW := inR32 _ (List.mem_of_getElem? (i := 21) rfl)
theorem uw771 : (Cond.methodLink RL 94 yX11_later) ∈ UW := inR33 _ (List.mem_of_getElem? (i := 3) rfl)
theorem uw772 : (Cond.instanceMethod yX11_later) ∈ UW := inR33 _ (List.mem_of_getElem? (i := 4) rfl)
theorem uw773 : (Cond.selects RX11 yX11_later yX11_later) ∈ UW := inR33 _ (List.mem_of_getElem? (i := 5) rfl)
theorem uw775 : (Cond.methodLink RL 97 yX12_later) ∈ UW := inR33 _ (List.mem_of_getElem? (i := 7) rfl)
theorem uw776 : (Cond.instanceMethod yX12_later) ∈ UW := inR33 _ (List.mem_of_getElem? (i := 8) rfl)
theorem uw777 : (Cond.selects RX12 yX12_later yX12_later) ∈ UW := inR33 _ (List.mem_of_getElem? (i := 9) rfl)
theorem uw779 : (Cond.methodLink RL 98 yX11_home) ∈ UW := inR33 _ (List.mem_of_getElem? (i := 11) rfl)
theorem uw780 : (Cond.instanceMethod yX11_home) ∈ UW := inR33 _ (List.mem_of_getElem? (i := 12) rfl)
theorem uw781 : (Cond.selects RX11 yX11_home yX11_home) ∈ UW := inR33 _ (List.mem_of_getElem? (i := 13) rfl)
theorem uw793 : (Cond.methodLink RL 101 yX12_home) ∈ UW := inR34 _ (List.mem_of_getElem? (i := 1) rfl)
theorem uw794 : (Cond.instanceMethod yX12_home) ∈ UW := inR34 _ (List.mem_of_getElem? (i := 2) rfl)
theorem uw795 : (Cond.selects RX12 yX12_home yX12_home) ∈ UW := inR34 _ (List.mem_of_getElem? (i := 3) rfl)
theorem uw797 : (Cond.methodLink RL 102 yX11_poor) ∈ UW := inR34 _ (List.mem_of_getElem? (i := 5) rfl)
theorem uw798 : (Cond.instanceMethod yX11_poor) ∈ UW := inR34 _ (List.mem_of_getElem? (i := 6) rfl)
theorem uw799 : (Cond.selects RX11 yX11_poor yX11_poor) ∈ UW := inR34 _ (List.mem_of_getElem? (i := 7) rfl)
theorem uw801 : (Cond.methodLink RL 105 yX12_poor) ∈ UW := inR34 _ (List.mem_of_getElem? (i := 9) rfl)
theorem uw802 : (Cond.instanceMethod yX12_poor) ∈ UW := inR34 _ (List.mem_of_getElem? (i := 10) rfl)
theorem uw803 : (Cond.selects RX12 yX12_poor yX12_poor) ∈ UW := inR34 _ (List.mem_of_getElem? (i := 11) rfl)
theorem uw805 : (Cond.methodLink RL 106 yX11_leads) ∈ UW := inR34 _ (List.mem_of_getElem? (i := 13) rfl)
theorem uw806 : (Cond.instanceMethod yX11_leads) ∈ UW := inR34 _ (List.mem_of_getElem? (i := 14) rfl)
theorem uw807 : (Cond.selects RX11 yX11_leads yX11_leads) ∈ UW := inR34 _ (List.mem_of_getElem? (i := 15) rfl)
theorem uw813 : (Cond.methodLink RL 109 yX12_leads) ∈ UW := inR34 _ (List.mem_of_getElem? (i := 21) rfl)
theorem uw814 : (Cond.instanceMethod yX12_leads) ∈ UW := inR34 _ (List.mem_of_getElem? (i := 22) rfl)
theorem uw815 : (Cond.selects RX12 yX12_leads yX12_leads) ∈ UW := inR34 _ (List.mem_of_getElem? (i := 23) rfl)
theorem uw821 : (Cond.methodLink RL 110 yX11_rings) ∈ UW := inR35 _ (List.mem_of_getElem? (i := 5) rfl)
theorem uw822 : (Cond.instanceMethod yX11_rings) ∈ UW := inR35 _ (List.mem_of_getElem? (i := 6) rfl)
theorem uw823 : (Cond.selects RX11 yX11_rings yX11_rings) ∈ UW := inR35 _ (List.mem_of_getElem? (i := 7) rfl)
theorem uw829 : (Cond.methodLink RL 113 yX12_rings) ∈ UW := inR35 _ (List.mem_of_getElem? (i := 13) rfl)
theorem uw830 : (Cond.instanceMethod yX12_rings) ∈ UW := inR35 _ (List.mem_of_getElem? (i := 14) rfl)
theorem uw831 : (Cond.selects RX12 yX12_rings yX12_rings) ∈ UW := inR35 _ (List.mem_of_getElem? (i := 15) rfl)
theorem uw841 : (Cond.methodLink RL 114 yX11_robs) ∈ UW := inR36 _ (List.mem_of_getElem? (i := 1) rfl)
theorem uw842 : (Cond.instanceMethod yX11_robs) ∈ UW := inR36 _ (List.mem_of_getElem? (i := 2) rfl)
theorem uw843 : (Cond.selects RX11 yX11_robs yX11_robs) ∈ UW := inR36 _ (List.mem_of_getElem? (i := 3) rfl)
theorem uw845 : (Cond.methodLink RL 117 yX12_robs) ∈ UW := inR36 _ (List.mem_of_getElem? (i := 5) rfl)
theorem uw846 : (Cond.instanceMethod yX12_robs) ∈ UW := inR36 _ (List.mem_of_getElem? (i := 6) rfl)
theorem uw847 : (Cond.selects RX12 yX12_robs yX12_robs) ∈ UW := inR36 _ (List.mem_of_getElem? (i := 7) rfl)
theorem uw849 : (Cond.methodLink RL 118 yX11_order) ∈ UW := inR36 _ (List.mem_of_getElem? (i := 9) rfl)
theorem uw850 : (Cond.instanceMethod yX11_order) ∈ UW := inR36 _ (List.mem_of_getElem? (i := 10) rfl)
theorem uw851 : (Cond.selects RX11 yX11_order yX11_order) ∈ UW := inR36 _ (List.mem_of_getElem? (i := 11) rfl)
theorem uw877 : (Cond.methodLink RL 121 yX12_order) ∈ UW := inR37 _ (List.mem_of_getElem? (i := 13) rfl)
theorem uw878 : (Cond.instanceMethod yX12_order) ∈ UW := inR37 _ (List.mem_of_getElem? (i := 14) rfl)
theorem uw879 : (Cond.selects RX12 yX12_order yX12_order) ∈ UW := inR37 _ (List.mem_of_getElem? (i := 15) rfl)
theorem uw886 : (Cond.methodLink RL 122 yX11_silences) ∈ UW := inR37 _ (List.mem_of_getElem? (i := 22) rfl)
theorem uw887 : (Cond.instanceMethod yX11_silences) ∈ UW := inR37 _ (List.mem_of_getElem? (i := 23) rfl)
theorem uw888 : (Cond.selects RX11 yX11_silences yX11_silences) ∈ UW := inR38 _ (List.mem_of_getElem? (i := 0) rfl)
theorem uw894 : (Cond.methodLink RL 125 yX12_silences) ∈ UW := inR38 _ (List.mem_of_getElem? (i := 6) rfl)
theorem uw895 : (Cond.instanceMethod yX12_silences) ∈ UW := inR38 _ (List.mem_of_getElem? (i := 7) rfl)
theorem uw896 : (Cond.selects RX12 yX12_silences yX12_silences) ∈ UW := inR38 _ (List.mem_of_getElem? (i := 8) rfl)
theorem uw902 : (Cond.methodLink RL 126 yX11_goes) ∈ UW := inR38 _ (List.mem_of_getElem? (i := 14) rfl)
theorem uw903 : (Cond.instanceMethod yX11_goes) ∈ UW := inR38 _ (List.mem_of_getElem? (i := 15) rfl)
theorem uw904 : (Cond.selects RX11 yX11_goes yX11_goes) ∈ UW := inR38 _ (List.mem_of_getElem? (i := 16) rfl)
theorem uw907 : (Cond.methodLink RL 129 yX12_goes) ∈ UW := inR38 _ (List.mem_of_getElem? (i := 19) rfl)
theorem uw908 : (Cond.instanceMethod yX12_goes) ∈ UW := inR38 _ (List.mem_of_getElem? (i := 20) rfl)
theorem uw909 : (Cond.selects RX12 yX12_goes yX12_goes) ∈ UW := inR38 _ (List.mem_of_getElem? (i := 21) rfl)
theorem uw911 : (Cond.methodLink RL 130 yX11_peace) ∈ UW := inR38 _ (List.mem_of_getElem? (i := 23) rfl)
theorem uw912 : (Cond.instanceMethod yX11_peace) ∈ UW := inR39 _ (List.mem_of_getElem? (i := 0) rfl)
theorem uw913 : (Cond.selects RX11 yX11_peace yX11_peace) ∈ UW := inR39 _ (List.mem_of_getElem? (i := 1) rfl)
theorem uw915 : (Cond.methodLink RL 133 yX12_peace) ∈ UW := inR39 _ (List.mem_of_getElem? (i := 3) rfl)
theorem uw916 : (Cond.instanceMethod yX12_peace) ∈ UW := inR39 _ (List.mem_of_getElem? (i := 4) rfl)
theorem uw917 : (Cond.selects RX12 yX12_peace yX12_peace) ∈ UW := inR39 _ (List.mem_of_getElem? (i := 5) rfl)
theorem uw923 : (Cond.methodLink RL 134 yX11_wed) ∈ UW := inR39 _ (List.mem_of_getElem? (i := 11) rfl)
theorem uw924 : (Cond.instanceMethod yX11_wed) ∈ UW := inR39 _ (List.mem_of_getElem? (i := 12) rfl)
theorem uw925 : (Cond.selects RX11 yX11_wed yX11_wed) ∈ UW := inR39 _ (List.mem_of_getElem? (i := 13) rfl)
theorem uw927 : (Cond.methodLink RL 137 yX12_wed) ∈ UW := inR39 _ (List.mem_of_getElem? (i := 15) rfl)
theorem uw928 : (Cond.instanceMethod yX12_wed) ∈ UW := inR39 _ (List.mem_of_getElem? (i := 16) rfl)
theorem uw929 : (Cond.selects RX12 yX12_wed yX12_wed) ∈ UW := inR39 _ (List.mem_of_getElem? (i := 17) rfl)
theorem uw931 : (Cond.methodLink RL 138 yX11_loud) ∈ UW := inR39 _ (List.mem_of_getElem? (i := 19) rfl)
theorem uw932 : (Cond.instanceMethod yX11_loud) ∈ UW := inR39 _ (List.mem_of_getElem? (i := 20) rfl)
theorem uw933 : (Cond.selects RX11 yX11_loud yX11_loud) ∈ UW := inR39 _ (List.mem_of_getElem? (i := 21) rfl)
theorem uw935 : (Cond.methodLink RL 141 yX12_loud) ∈ UW := inR39 _ (List.mem_of_getElem? (i := 23) rfl)
theorem uw936 : (Cond.instanceMethod yX12_loud) ∈ UW := inR40 _ (List.mem_of_getElem? (i := 0) rfl)
theorem uw937 : (Cond.selects RX12 yX12_loud yX12_loud) ∈ UW := inR40 _ (List.mem_of_getElem? (i := 1) rfl)
theorem uw939 : (Cond.methodLink RL 142 yX11_mouths) ∈ UW := inR40 _ (List.mem_of_getElem? (i := 3) rfl)
theorem uw940 : (Cond.instanceMethod yX11_mouths) ∈ UW := inR40 _ (List.mem_of_getElem? (i := 4) rfl)
theorem uw941 : (Cond.selects RX11 yX11_mouths yX11_mouths) ∈ UW := inR40 _ (List.mem_of_getElem? (i := 5) rfl)
theorem uw960 : (Cond.methodLink RL 145 yX12_mouths) ∈ UW := inR41 _ (List.mem_of_getElem? (i := 0) rfl)
theorem uw961 : (Cond.instanceMethod yX12_mouths) ∈ UW := inR41 _ (List.mem_of_getElem? (i := 1) rfl)
theorem uw962 : (Cond.selects RX12 yX12_mouths yX12_mouths) ∈ UW := inR41 _ (List.mem_of_getElem? (i := 2) rfl)
theorem uw969 : (Cond.methodLink RL 146 yX11_criers) ∈ UW := inR41 _ (List.mem_of_getElem? (i := 9) rfl)
theorem uw970 : (Cond.instanceMethod yX11_criers) ∈ UW := inR41 _ (List.mem_of_getElem? (i := 10) rfl)
theorem uw971 : (Cond.selects RX11 yX11_criers yX11_criers) ∈ UW := inR41 _ (List.mem_of_getElem? (i := 11) rfl)
theorem uw984 : (Cond.methodLink RL 149 yX12_criers) ∈ UW := inR42 _ (List.mem_of_getElem? (i := 0) rfl)
theorem uw985 : (Cond.instanceMethod yX12_criers) ∈ UW := inR42 _ (List.mem_of_getElem? (i := 1) rfl)
theorem uw986 : (Cond.selects RX12 yX12_criers yX12_criers) ∈ UW := inR42 _ (List.mem_of_getElem? (i := 2) rfl)
theorem uw988 : (Cond.methodLink RL 150 yX11_line) ∈ UW := inR42 _ (List.mem_of_getElem? (i := 4) rfl)
theorem uw989 : (Cond.instanceMethod yX11_line) ∈ UW := inR42 _ (List.mem_of_getElem? (i := 5) rfl)
theorem uw990 : (Cond.selects RX11 yX11_line yX11_line) ∈ UW := inR42 _ (List.mem_of_getElem? (i := 6) rfl)
theorem uw997 : (Cond.methodLink RL 153 yX12_line) ∈ UW := inR42 _ (List.mem_of_getElem? (i := 13) rfl)
theorem uw998 : (Cond.instanceMethod yX12_line) ∈ UW := inR42 _ (List.mem_of_getElem? (i := 14) rfl)
theorem uw999 : (Cond.selects RX12 yX12_line yX12_line) ∈ UW := inR42 _ (List.mem_of_getElem? (i := 15) rfl)
theorem uw1005 : (Cond.methodLink RL 154 yX11_rich) ∈ UW := inR42 _ (List.mem_of_getElem? (i := 21) rfl)
theorem uw1006 : (Cond.instanceMethod yX11_rich) ∈ UW := inR42 _ (List.mem_of_getElem? (i := 22) rfl)
theorem uw1007 : (Cond.selects RX11 yX11_rich yX11_rich) ∈ UW := inR42 _ (List.mem_of_getElem? (i := 23) rfl)
theorem uw1016 : (Cond.methodLink RL 157 yX12_rich) ∈ UW := inR43 _ (List.mem_of_getElem? (i := 8) rfl)
theorem uw1017 : (Cond.instanceMethod yX12_rich) ∈ UW := inR43 _ (List.mem_of_getElem? (i := 9) rfl)
theorem uw1018 : (Cond.selects RX12 yX12_rich yX12_rich) ∈ UW := inR43 _ (List.mem_of_getElem? (i := 10) rfl)
theorem uw1020 : (Cond.methodLink RL 158 yX11_heard) ∈ UW := inR43 _ (List.mem_of_getElem? (i := 12) rfl)
theorem uw1021 : (Cond.instanceMethod yX11_heard) ∈ UW := inR43 _ (List.mem_of_getElem? (i := 13) rfl)
theorem uw1022 : (Cond.selects RX11 yX11_heard yX11_heard) ∈ UW := inR43 _ (List.mem_of_getElem? (i := 14) rfl)
theorem uw1033 : (Cond.methodLink RL 161 yX12_heard) ∈ UW := inR44 _ (List.mem_of_getElem? (i := 1) rfl)
theorem uw1034 : (Cond.instanceMethod yX12_heard) ∈ UW := inR44 _ (List.mem_of_getElem? (i := 2) rfl)
theorem uw1035 : (Cond.selects RX12 yX12_heard yX12_heard) ∈ UW := inR44 _ (List.mem_of_getElem? (i := 3) rfl)
theorem uw1038 : (Cond.methodLink RL 162 yX11_forget) ∈ UW := inR44 _ (List.mem_of_getElem? (i := 6) rfl)
theorem uw1039 : (Cond.instanceMethod yX11_forget) ∈ UW := inR44 _ (List.mem_of_getElem? (i := 7) rfl)
theorem uw1040 : (Cond.selects RX11 yX11_forget yX11_forget) ∈ UW := inR44 _ (List.mem_of_getElem? (i := 8) rfl)
theorem uw1042 : (Cond.methodLink RL 165 yX12_forget) ∈ UW := inR44 _ (List.mem_of_getElem? (i := 10) rfl)
theorem uw1043 : (Cond.instanceMethod yX12_forget) ∈ UW := inR44 _ (List.mem_of_getElem? (i := 11) rfl)
theorem uw1044 : (Cond.selects RX12 yX12_forget yX12_forget) ∈ UW := inR44 _ (List.mem_of_getElem? (i := 12) rfl)
theorem uw1046 : (Cond.methodLink RL 166 yX11_fits) ∈ UW := inR44 _ (List.mem_of_getElem? (i := 14) rfl)
theorem uw1047 : (Cond.instanceMethod yX11_fits) ∈ UW := inR44 _ (List.mem_of_getElem? (i := 15) rfl)
theorem uw1048 : (Cond.selects RX11 yX11_fits yX11_fits) ∈ UW := inR44 _ (List.mem_of_getElem? (i := 16) rfl)
theorem uw1064 : (Cond.methodLink RL 169 yX12_fits_) ∈ UW := inR45 _ (List.mem_of_getElem? (i := 8) rfl)
theorem uw1065 : (Cond.instanceMethod yX12_fits_) ∈ UW := inR45 _ (List.mem_of_getElem? (i := 9) rfl)
theorem uw1066 : (Cond.selects RX12 yX12_fits_ yX12_fits_) ∈ UW := inR45 _ (List.mem_of_getElem? (i := 10) rfl)
theorem uw1076 : (Cond.methodLink RL 170 yX11_asks) ∈ UW := inR45 _ (List.mem_of_getElem? (i := 20) rfl)
theorem uw1077 : (Cond.instanceMethod yX11_asks) ∈ UW := inR45 _ (List.mem_of_getElem? (i := 21) rfl)
theorem uw1078 : (Cond.selects RX11 yX11_asks yX11_asks) ∈ UW := inR45 _ (List.mem_of_getElem? (i := 22) rfl)
theorem uw1088 : (Cond.methodLink RL 173 yX12_asks) ∈ UW := inR46 _ (List.mem_of_getElem? (i := 8) rfl)
theorem uw1089 : (Cond.instanceMethod yX12_asks) ∈ UW := inR46 _ (List.mem_of_getElem? (i := 9) rfl)
theorem uw1090 : (Cond.selects RX12 yX12_asks yX12_asks) ∈ UW := inR46 _ (List.mem_of_getElem? (i := 10) rfl)
theorem uw1092 : (Cond.methodLink RL 174 yX11_saw) ∈ UW := inR46 _ (List.mem_of_getElem? (i := 12) rfl)
theorem uw1093 : (Cond.instanceMethod yX11_saw) ∈ UW := inR46 _ (List.mem_of_getElem? (i := 13) rfl)
theorem uw1094 : (Cond.selects RX11 yX11_saw yX11_saw) ∈ UW := inR46 _ (List.mem_of_getElem? (i := 14) rfl)
theorem uw1102 : (Cond.methodLink RL 178 yX12_saw) ∈ UW := inR46 _ (List.mem_of_getElem? (i := 22) rfl)
theorem uw1103 : (Cond.instanceMethod yX12_saw) ∈ UW := inR46 _ (List.mem_of_getElem? (i := 23) rfl)
theorem uw1104 : (Cond.selects RX12 yX12_saw yX12_saw) ∈ UW := inR47 _ (List.mem_of_getElem? (i := 0) rfl)
theorem uw1107 : (Cond.methodLink RL 179 yX11_denies) ∈ UW := inR47 _ (List.mem_of_getElem? (i := 3) rfl)
theorem uw1108 : (Cond.instanceMethod yX11_denies) ∈ UW := inR47 _ (List.mem_of_getElem? (i := 4) rfl)
theorem uw1109 : (Cond.selects RX11 yX11_denies yX11_denies) ∈ UW := inR47 _ (List.mem_of_getElem? (i := 5) rfl)
theorem uw1111 : (Cond.methodLink RL 182 yX12_denies) ∈ UW := inR47 _ (List.mem_of_getElem? (i := 7) rfl)
theorem uw1112 : (Cond.instanceMethod yX12_denies) ∈ UW := inR47 _ (List.mem_of_getElem? (i := 8) rfl)
theorem uw1113 : (Cond.selects RX12 yX12_denies yX12_denies) ∈ UW := inR47 _ (List.mem_of_getElem? (i := 9) rfl)
theorem uw1115 : (Cond.methodLink RL 183 yX11_laws) ∈ UW := inR47 _ (List.mem_of_getElem? (i := 11) rfl)
theorem uw1116 : (Cond.instanceMethod yX11_laws) ∈ UW := inR47 _ (List.mem_of_getElem? (i := 12) rfl)
theorem uw1117 : (Cond.selects RX11 yX11_laws yX11_laws) ∈ UW := inR47 _ (List.mem_of_getElem? (i := 13) rfl)
theorem uw1133 : (Cond.methodLink RL 186 yX12_laws) ∈ UW := inR48 _ (List.mem_of_getElem? (i := 5) rfl)
theorem uw1134 : (Cond.instanceMethod yX12_laws) ∈ UW := inR48 _ (List.mem_of_getElem? (i := 6) rfl)
theorem uw1135 : (Cond.selects RX12 yX12_laws yX12_laws) ∈ UW := inR48 _ (List.mem_of_getElem? (i := 7) rfl)
theorem uw1144 : (Cond.methodLink RL 187 yX11_tries) ∈ UW := inR48 _ (List.mem_of_getElem? (i := 16) rfl)
theorem uw1145 : (Cond.instanceMethod yX11_tries) ∈ UW := inR48 _ (List.mem_of_getElem? (i := 17) rfl)
theorem uw1146 : (Cond.selects RX11 yX11_tries yX11_tries) ∈ UW := inR48 _ (List.mem_of_getElem? (i := 18) rfl)
theorem uw1152 : (Cond.methodLink RL 190 yX12_tries) ∈ UW := inR49 _ (List.mem_of_getElem? (i := 0) rfl)
theorem uw1153 : (Cond.instanceMethod yX12_tries) ∈ UW := inR49 _ (List.mem_of_getElem? (i := 1) rfl)
theorem uw1154 : (Cond.selects RX12 yX12_tries yX12_tries) ∈ UW := inR49 _ (List.mem_of_getElem? (i := 2) rfl)
theorem uw1156 : (Cond.methodLink RL 191 yX11_walks) ∈ UW := inR49 _ (List.mem_of_getElem? (i := 4) rfl)
theorem uw1157 : (Cond.instanceMethod yX11_walks) ∈ UW := inR49 _ (List.mem_of_getElem? (i := 5) rfl)
theorem uw1158 : (Cond.selects RX11 yX11_walks yX11_walks) ∈ UW := inR49 _ (List.mem_of_getElem? (i := 6) rfl)
theorem uw1171 : (Cond.methodLink RL 194 yX12_walks) ∈ UW := inR49 _ (List.mem_of_getElem? (i := 19) rfl)
theorem uw1172 : (Cond.instanceMethod yX12_walks) ∈ UW := inR49 _ (List.mem_of_getElem? (i := 20) rfl)
theorem uw1173 : (Cond.selects RX12 yX12_walks yX12_walks) ∈ UW := inR49 _ (List.mem_of_getElem? (i := 21) rfl)
theorem uw1179 : (Cond.methodLink RL 195 yX11_hush) ∈ UW := inR50 _ (List.mem_of_getElem? (i := 3) rfl)
theorem uw1180 : (Cond.instanceMethod yX11_hush) ∈ UW := inR50 _ (List.mem_of_getElem? (i := 4) rfl)
theorem uw1181 : (Cond.selects RX11 yX11_hush yX11_hush) ∈ UW := inR50 _ (List.mem_of_getElem? (i := 5) rfl)
theorem uw1198 : (Cond.methodLink RL 198 yX12_hush) ∈ UW := inR50 _ (List.mem_of_getElem? (i := 22) rfl)
theorem uw1199 : (Cond.instanceMethod yX12_hush) ∈ UW := inR50 _ (List.mem_of_getElem? (i := 23) rfl)
theorem uw1200 : (Cond.selects RX12 yX12_hush yX12_hush) ∈ UW := inR51 _ (List.mem_of_getElem? (i := 0) rfl)
theorem uw1206 : (Cond.methodLink RL 199 yX11_rests) ∈ UW := inR51 _ (List.mem_of_getElem? (i := 6) rfl)
theorem uw1207 : (Cond.instanceMethod yX11_rests) ∈ UW := inR51 _ (List.mem_of_getElem? (i := 7) rfl)
theorem uw1208 : (Cond.selects RX11 yX11_rests yX11_rests) ∈ UW := inR51 _ (List.mem_of_getElem? (i := 8) rfl)
theorem uw1221 : (Cond.methodLink RL 202 yX12_rests) ∈ UW := inR51 _ (List.mem_of_getElem? (i := 21) rfl)
theorem uw1222 : (Cond.instanceMethod yX12_rests) ∈ UW := inR51 _ (List.mem_of_getElem? (i := 22) rfl)
theorem uw1223 : (Cond.selects RX12 yX12_rests yX12_rests) ∈ UW := inR51 _ (List.mem_of_getElem? (i := 23) rfl)
theorem uw1231 : (Cond.methodLink RL 203 yX11_law) ∈ UW := inR52 _ (List.mem_of_getElem? (i := 7) rfl)
theorem uw1232 : (Cond.instanceMethod yX11_law) ∈ UW := inR52 _ (List.mem_of_getElem? (i := 8) rfl)
theorem uw1233 : (Cond.selects RX11 yX11_law yX11_law) ∈ UW := inR52 _ (List.mem_of_getElem? (i := 9) rfl)
theorem uw1241 : (Cond.methodLink RL 206 yX12_law) ∈ UW := inR52 _ (List.mem_of_getElem? (i := 17) rfl)
theorem uw1242 : (Cond.instanceMethod yX12_law) ∈ UW := inR52 _ (List.mem_of_getElem? (i := 18) rfl)
theorem uw1243 : (Cond.selects RX12 yX12_law yX12_law) ∈ UW := inR52 _ (List.mem_of_getElem? (i := 19) rfl)
theorem uw1249 : (Cond.methodLink RL 207 yX11_years) ∈ UW := inR53 _ (List.mem_of_getElem? (i := 1) rfl)
theorem uw1250 : (Cond.instanceMethod yX11_years) ∈ UW := inR53 _ (List.mem_of_getElem? (i := 2) rfl)
theorem uw1251 : (Cond.selects RX11 yX11_years yX11_years) ∈ UW := inR53 _ (List.mem_of_getElem? (i := 3) rfl)
theorem uw1264 : (Cond.methodLink RL 210 yX12_years) ∈ UW := inR53 _ (List.mem_of_getElem? (i := 16) rfl)
theorem uw1265 : (Cond.instanceMethod yX12_years) ∈ UW := inR53 _ (List.mem_of_getElem? (i := 17) rfl)
theorem uw1266 : (Cond.selects RX12 yX12_years yX12_years) ∈ UW := inR53 _ (List.mem_of_getElem? (i := 18) rfl)
theorem uw1274 : (Cond.methodLink RL 211 yX11_keep) ∈ UW := inR54 _ (List.mem_of_getElem? (i := 2) rfl)
theorem uw1275 : (Cond.instanceMethod yX11_keep) ∈ UW := inR54 _ (List.mem_of_getElem? (i := 3) rfl)
theorem uw1276 : (Cond.selects RX11 yX11_keep yX11_keep) ∈ UW := inR54 _ (List.mem_of_getElem? (i := 4) rfl)
theorem uw1282 : (Cond.methodLink RL 214 yX12_keep) ∈ UW := inR54 _ (List.mem_of_getElem? (i := 10) rfl)
theorem uw1283 : (Cond.instanceMethod yX12_keep) ∈ UW := inR54 _ (List.mem_of_getElem? (i := 11) rfl)
theorem uw1284 : (Cond.selects RX12 yX12_keep yX12_keep) ∈ UW := inR54 _ (List.mem_of_getElem? (i := 12) rfl)
theorem uw1286 : (Cond.methodLink RL 215 yX11_again) ∈ UW := inR54 _ (List.mem_of_getElem? (i := 14) rfl)
theorem uw1287 : (Cond.instanceMethod yX11_again) ∈ UW := inR54 _ (List.mem_of_getElem? (i := 15) rfl)
theorem uw1288 : (Cond.selects RX11 yX11_again yX11_again) ∈ UW := inR54 _ (List.mem_of_getElem? (i := 16) rfl)
theorem uw1294 : (Cond.methodLink RL 218 yX12_again) ∈ UW := inR54 _ (List.mem_of_getElem? (i := 22) rfl)
theorem uw1295 : (Cond.instanceMethod yX12_again) ∈ UW := inR54 _ (List.mem_of_getElem? (i := 23) rfl)
theorem uw1296 : (Cond.selects RX12 yX12_again yX12_again) ∈ UW := inR55 _ (List.mem_of_getElem? (i := 0) rfl)
theorem uw1298 : (Cond.methodLink RL 219 yX11_count) ∈ UW := inR55 _ (List.mem_of_getElem? (i := 2) rfl)
theorem uw1299 : (Cond.instanceMethod yX11_count) ∈ UW := inR55 _ (List.mem_of_getElem? (i := 3) rfl)
theorem uw1300 : (Cond.selects RX11 yX11_count yX11_count) ∈ UW := inR55 _ (List.mem_of_getElem? (i := 4) rfl)
theorem uw1305 : (Cond.methodLink RL 222 yX12_count) ∈ UW := inR55 _ (List.mem_of_getElem? (i := 9) rfl)
theorem uw1306 : (Cond.instanceMethod yX12_count) ∈ UW := inR55 _ (List.mem_of_getElem? (i := 10) rfl)
theorem uw1307 : (Cond.selects RX12 yX12_count yX12_count) ∈ UW := inR55 _ (List.mem_of_getElem? (i := 11) rfl)
theorem uw1321 : (Cond.methodLink RL 226 yX12_row) ∈ UW := inR56 _ (List.mem_of_getElem? (i := 1) rfl)
theorem uw1322 : (Cond.instanceMethod yX12_row) ∈ UW := inR56 _ (List.mem_of_getElem? (i := 2) rfl)
theorem uw1323 : (Cond.selects RX12 yX12_row yX12_row) ∈ UW := inR56 _ (List.mem_of_getElem? (i := 3) rfl)
def T_hd (X : LX) : List (Nat × Op) := [(23, op_ild 4 2), (25, op_ald 0 1), (26, op_slen X), (27, op_ic 5 1), (28, op_isub), (29, op_icgt 1530), (32, op_ald 0 1), (33, op_ild 4 2), (35, op_sld X), (36, op_ic 63 2), (38, op_iand), (39, op_sw 1524 [(0, 244), (1, 269), (2, 294), (3, 307), (4, 320), (5, 388), (6, 456), (7, 517), (8, 554), (9, 591), (10, 628), (11, 653), (12, 678), (13, 691), (14, 704), (15, 741), (16, 778), (17, 803), (18, 828), (19, 853), (20, 866), (21, 891), (22, 904), (23, 929), (24, 954), (25, 967), (26, 980), (27, 993), (28, 1006), (29, 1031), (30, 1044), (31, 1057), (32, 1094), (33, 1107), (34, 1120), (35, 1133), (36, 1182), (37, 1195), (38, 1208), (39, 1221), (40, 1282), (41, 1319), (42, 1344), (43, 1357), (44, 1394), (45, 1419), (46, 1444), (47, 1469)])]
set_option maxRecDepth 20000 in
theorem K_hd (X : LX) : ∀ r ∈ T_hd X, LOK X r.1 r.2 :=
  lfc (lok_ild (by decide +kernel)) <|
  lfc (lok_aldn (q := 0) (by decide +kernel) rfl) <|
  lfc (lok_slen (by decide +kernel)) <|
  lfc (lok_iconst (n := 5) (by decide +kernel) (by decide +kernel)) <|
  lfc (lok_isub (by decide +kernel)) <|
  lfc (lok_icgt (off := 1501) (by decide +kernel) (by decide)) <|
  lfc (lok_aldn (q := 0) (by decide +kernel) rfl) <|
  lfc (lok_ild (by decide +kernel)) <|
  lfc (lok_sld (by decide +kernel)) <|
  lfc (lok_bipush (n := 63) (by decide +kernel) (by decide +kernel)) <|
  lfc (lok_iand (by decide +kernel)) <|
  lfc (lok_tsw (dflt := 1485) (lo := 0) (hi := 47) (offs := #[205, 230, 255, 268, 281, 349, 417, 478, 515, 552, 589, 614, 639, 652, 665, 702, 739, 764, 789, 814, 827, 852, 865, 890, 915, 928, 941, 954, 967, 992, 1005, 1018, 1055, 1068, 1081, 1094, 1143, 1156, 1169, 1182, 1243, 1280, 1305, 1318, 1355, 1380, 1405, 1430]) (len := 205) (by decide +kernel) (by decide +kernel) (by decide +kernel) (by decide) (by decide)) <| lfn
def T_c0 (X : LX) : List (Nat × Op) := [(244, op_ald 1 1), (245, op_ald 0 1), (246, op_ild 4 2), (248, op_ic 1 1), (249, op_iadd), (250, op_sld X), (251, op_cv M_X11_sign 11 1), (254, op_ald 2 1), (255, op_ald 0 1), (256, op_ild 4 2), (258, op_ic 1 1), (259, op_iadd), (260, op_sld X), (261, op_cv M_X12_sign 12 1), (264, op_iceq 1524), (267, op_ic 0 1)]
set_option maxRecDepth 20000 in
theorem K_c0 (X : LX) : ∀ r ∈ T_c0 X, LOK X r.1 r.2 :=
  lfc (lok_aldn (q := 1) (by decide +kernel) rfl) <|
  lfc (lok_aldn (q := 0) (by decide +kernel) rfl) <|
  lfc (lok_ild (by decide +kernel)) <|
  lfc (lok_iconst (n := 1) (by decide +kernel) (by decide +kernel)) <|
  lfc (lok_iadd (by decide +kernel)) <|
  lfc (lok_sld (by decide +kernel)) <|
  lfc (lok_cv mk_X11_sign ⟨uw171, uw172, uw173, uw2, by decide +kernel⟩ (T := TX11) (N := 13) rfl (by decide +kernel)) <|
  lfc (lok_aldn (q := 2) (by decide +kernel) rfl) <|
  lfc (lok_aldn (q := 0) (by decide +kernel) rfl) <|
  lfc (lok_ild (by decide +kernel)) <|
  lfc (lok_iconst (n := 1) (by decide +kernel) (by decide +kernel)) <|
  lfc (lok_iadd (by decide +kernel)) <|
  lfc (lok_sld (by decide +kernel)) <|
  lfc (lok_cv mk_X12_sign ⟨uw181, uw182, uw183, uw5, by decide +kernel⟩ (T := TX12) (N := 47) rfl (by decide +kernel)) <|
  lfc (lok_iceq (off := 1260) (by decide +kernel) (by decide)) <|
  lfc (lok_iconst (n := 0) (by decide +kernel) (by decide +kernel)) <| lfn
def T_c1 (X : LX) : List (Nat × Op) := [(269, op_ald 1 1), (270, op_ald 0 1), (271, op_ild 4 2), (273, op_ic 1 1), (274, op_iadd), (275, op_sld X), (276, op_cv M_X11_end 11 1), (279, op_ald 2 1), (280, op_ald 0 1), (281, op_ild 4 2), (283, op_ic 1 1), (284, op_iadd), (285, op_sld X), (286, op_cv M_X12_end 12 1), (289, op_iceq 1524), (292, op_ic 0 1)]
set_option maxRecDepth 20000 in
theorem K_c1 (X : LX) : ∀ r ∈ T_c1 X, LOK X r.1 r.2 :=
  lfc (lok_aldn (q := 1) (by decide +kernel) rfl) <|
  lfc (lok_aldn (q := 0) (by decide +kernel) rfl) <|
  lfc (lok_ild (by decide +kernel)) <|
  lfc (lok_iconst (n := 1) (by decide +kernel) (by decide +kernel)) <|
  lfc (lok_iadd (by decide +kernel)) <|
  lfc (lok_sld (by decide +kernel)) <|
  lfc (lok_cv mk_X11_end ⟨uw187, uw188, uw189, uw2, by decide +kernel⟩ (T := TX11) (N := 13) rfl (by decide +kernel)) <|
  lfc (lok_aldn (q := 2) (by decide +kernel) rfl) <|
  lfc (lok_aldn (q := 0) (by decide +kernel) rfl) <|
  lfc (lok_ild (by decide +kernel)) <|
  lfc (lok_iconst (n := 1) (by decide +kernel) (by decide +kernel)) <|
  lfc (lok_iadd (by decide +kernel)) <|
  lfc (lok_sld (by decide +kernel)) <|
  lfc (lok_cv mk_X12_end ⟨uw195, uw196, uw197, uw5, by decide +kernel⟩ (T := TX12) (N := 47) rfl (by decide +kernel)) <|
  lfc (lok_iceq (off := 1235) (by decide +kernel) (by decide)) <|
  lfc (lok_iconst (n := 0) (by decide +kernel) (by decide +kernel)) <| lfn
def T_c2 (X : LX) : List (Nat × Op) := [(294, op_ald 1 1), (295, op_cv M_X11_people 11 0), (298, op_ald 2 1), (299, op_cv M_X12_people 12 0), (302, op_iceq 1524), (305, op_ic 0 1)]
set_option maxRecDepth 20000 in
theorem K_c2 (X : LX) : ∀ r ∈ T_c2 X, LOK X r.1 r.2 :=
  lfc (lok_aldn (q := 1) (by decide +kernel) rfl) <|
  lfc (lok_cv mk_X11_people ⟨uw202, uw203, uw204, uw2, by decide +kernel⟩ (T := TX11) (N := 13) rfl (by decide +kernel)) <|
  lfc (lok_aldn (q := 2) (by decide +kernel) rfl) <|
  lfc (lok_cv mk_X12_people ⟨uw253, uw254, uw255, uw5, by decide +kernel⟩ (T := TX12) (N := 47) rfl (by decide +kernel)) <|
  lfc (lok_iceq (off := 1222) (by decide +kernel) (by decide)) <|
  lfc (lok_iconst (n := 0) (by decide +kernel) (by decide +kernel)) <| lfn
def T_c3 (X : LX) : List (Nat × Op) := [(307, op_ald 1 1), (308, op_cv M_X11_rule 11 0), (311, op_ald 2 1), (312, op_cv M_X12_rule 12 0), (315, op_iceq 1524), (318, op_ic 0 1)]
set_option maxRecDepth 20000 in
theorem K_c3 (X : LX) : ∀ r ∈ T_c3 X, LOK X r.1 r.2 :=
  lfc (lok_aldn (q := 1) (by decide +kernel) rfl) <|
  lfc (lok_cv mk_X11_rule ⟨uw297, uw298, uw299, uw2, by decide +kernel⟩ (T := TX11) (N := 13) rfl (by decide +kernel)) <|
  lfc (lok_aldn (q := 2) (by decide +kernel) rfl) <|
  lfc (lok_cv mk_X12_rule ⟨uw345, uw346, uw347, uw5, by decide +kernel⟩ (T := TX12) (N := 47) rfl (by decide +kernel)) <|
  lfc (lok_iceq (off := 1209) (by decide +kernel) (by decide)) <|
  lfc (lok_iconst (n := 0) (by decide +kernel) (by decide +kernel)) <| lfn
def T_c4 (X : LX) : List (Nat × Op) := [(320, op_ald 1 1), (321, op_ald 0 1), (322, op_ild 4 2), (324, op_ic 1 1), (325, op_iadd), (326, op_sld X), (327, op_ald 0 1), (328, op_ild 4 2), (330, op_ic 2 1), (331, op_iadd), (332, op_sld X), (333, op_ald 3 1), (337, op_ist 5 2), (339, op_ald 2 1), (340, op_ald 0 1), (341, op_ild 4 2), (343, op_ic 1 1), (344, op_iadd), (345, op_sld X), (346, op_ald 0 1), (347, op_ild 4 2), (349, op_ic 2 1), (350, op_iadd), (351, op_sld X), (352, op_cv M_X12_one 12 2), (355, op_ist 6 2), (357, op_ald 2 1), (358, op_cv M_X12_thrown 12 0), (361, op_ild 5 2), (363, op_iceq 368), (366, op_ic 0 1), (368, op_ild 5 2), (370, op_ifne 385), (373, op_ald 3 1), (374, op_ic 0 1), (375, op_lald), (376, op_ild 6 2), (378, op_i2l), (379, op_lcmp), (380, op_ifeq 385), (383, op_ic 0 1), (385, op_goto 1524)]
set_option maxRecDepth 20000 in
theorem K_c4 (X : LX) : ∀ r ∈ T_c4 X, LOK X r.1 r.2 :=
  lfc (lok_aldn (q := 1) (by decide +kernel) rfl) <|
  lfc (lok_aldn (q := 0) (by decide +kernel) rfl) <|
  lfc (lok_ild (by decide +kernel)) <|
  lfc (lok_iconst (n := 1) (by decide +kernel) (by decide +kernel)) <|
  lfc (lok_iadd (by decide +kernel)) <|
  lfc (lok_sld (by decide +kernel)) <|
  lfc (lok_aldn (q := 0) (by decide +kernel) rfl) <|
  lfc (lok_ild (by decide +kernel)) <|
  lfc (lok_iconst (n := 2) (by decide +kernel) (by decide +kernel)) <|
  lfc (lok_iadd (by decide +kernel)) <|
  lfc (lok_sld (by decide +kernel)) <|
  lfc (lok_aldn (q := 3) (by decide +kernel) rfl) <|
  lfc (lok_ist (by decide +kernel) (by decide)) <|
  lfc (lok_aldn (q := 2) (by decide +kernel) rfl) <|
  lfc (lok_aldn (q := 0) (by decide +kernel) rfl) <|
  lfc (lok_ild (by decide +kernel)) <|
  lfc (lok_iconst (n := 1) (by decide +kernel) (by decide +kernel)) <|
  lfc (lok_iadd (by decide +kernel)) <|
  lfc (lok_sld (by decide +kernel)) <|
  lfc (lok_aldn (q := 0) (by decide +kernel) rfl) <|
  lfc (lok_ild (by decide +kernel)) <|
  lfc (lok_iconst (n := 2) (by decide +kernel) (by decide +kernel)) <|
  lfc (lok_iadd (by decide +kernel)) <|
  lfc (lok_sld (by decide +kernel)) <|
  lfc (lok_cv mk_X12_one ⟨uw438, uw439, uw440, uw5, by decide +kernel⟩ (T := TX12) (N := 47) rfl (by decide +kernel)) <|
  lfc (lok_ist (by decide +kernel) (by decide)) <|
  lfc (lok_aldn (q := 2) (by decide +kernel) rfl) <|
  lfc (lok_cv mk_X12_thrown ⟨uw467, uw468, uw469, uw5, by decide +kernel⟩ (T := TX12) (N := 47) rfl (by decide +kernel)) <|
  lfc (lok_ild (by decide +kernel)) <|
  lfc (lok_iceq (off := 5) (by decide +kernel) (by decide)) <|
  lfc (lok_iconst (n := 0) (by decide +kernel) (by decide +kernel)) <|
  lfc (lok_ild (by decide +kernel)) <|
  lfc (lok_ifne (off := 15) (by decide +kernel) (by decide)) <|
  lfc (lok_aldn (q := 3) (by decide +kernel) rfl) <|
  lfc (lok_iconst (n := 0) (by decide +kernel) (by decide +kernel)) <|
  lfc (lok_lald (by decide +kernel)) <|
  lfc (lok_ild (by decide +kernel)) <|
  lfc (lok_i2l (by decide +kernel)) <|
  lfc (lok_lcmp (by decide +kernel)) <|
  lfc (lok_ifeq (off := 5) (by decide +kernel) (by decide)) <|
  lfc (lok_iconst (n := 0) (by decide +kernel) (by decide +kernel)) <|
  lfc (lok_goto (off := 1139) (by decide +kernel) (by decide)) <| lfn
def T_c5 (X : LX) : List (Nat × Op) := [(388, op_ald 1 1), (389, op_ald 0 1), (390, op_ild 4 2), (392, op_ic 1 1), (393, op_iadd), (394, op_sld X), (395, op_ald 0 1), (396, op_ild 4 2), (398, op_ic 2 1), (399, op_iadd), (400, op_sld X), (401, op_ald 3 1), (405, op_ist 5 2), (407, op_ald 2 1), (408, op_ald 0 1), (409, op_ild 4 2), (411, op_ic 1 1), (412, op_iadd), (413, op_sld X), (414, op_ald 0 1), (415, op_ild 4 2), (417, op_ic 2 1), (418, op_iadd), (419, op_sld X), (420, op_cv M_X12_name 12 2), (423, op_ist 6 2), (425, op_ald 2 1), (426, op_cv M_X12_thrown 12 0), (429, op_ild 5 2), (431, op_iceq 436), (434, op_ic 0 1), (436, op_ild 5 2), (438, op_ifne 453), (441, op_ald 3 1), (442, op_ic 0 1), (443, op_lald), (444, op_ild 6 2), (446, op_i2l), (447, op_lcmp), (448, op_ifeq 453), (451, op_ic 0 1), (453, op_goto 1524)]
set_option maxRecDepth 20000 in
theorem K_c5 (X : LX) : ∀ r ∈ T_c5 X, LOK X r.1 r.2 :=
  lfc (lok_aldn (q := 1) (by decide +kernel) rfl) <|
  lfc (lok_aldn (q := 0) (by decide +kernel) rfl) <|
  lfc (lok_ild (by decide +kernel)) <|
  lfc (lok_iconst (n := 1) (by decide +kernel) (by decide +kernel)) <|
  lfc (lok_iadd (by decide +kernel)) <|
  lfc (lok_sld (by decide +kernel)) <|
  lfc (lok_aldn (q := 0) (by decide +kernel) rfl) <|
  lfc (lok_ild (by decide +kernel)) <|
  lfc (lok_iconst (n := 2) (by decide +kernel) (by decide +kernel)) <|
  lfc (lok_iadd (by decide +kernel)) <|
  lfc (lok_sld (by decide +kernel)) <|
  lfc (lok_aldn (q := 3) (by decide +kernel) rfl) <|
  lfc (lok_ist (by decide +kernel) (by decide)) <|
  lfc (lok_aldn (q := 2) (by decide +kernel) rfl) <|
  lfc (lok_aldn (q := 0) (by decide +kernel) rfl) <|
  lfc (lok_ild (by decide +kernel)) <|
  lfc (lok_iconst (n := 1) (by decide +kernel) (by decide +kernel)) <|
  lfc (lok_iadd (by decide +kernel)) <|
  lfc (lok_sld (by decide +kernel)) <|
  lfc (lok_aldn (q := 0) (by decide +kernel) rfl) <|
  lfc (lok_ild (by decide +kernel)) <|
  lfc (lok_iconst (n := 2) (by decide +kernel) (by decide +kernel)) <|
  lfc (lok_iadd (by decide +kernel)) <|
  lfc (lok_sld (by decide +kernel)) <|
  lfc (lok_cv mk_X12_name ⟨uw489, uw490, uw491, uw5, by decide +kernel⟩ (T := TX12) (N := 47) rfl (by decide +kernel)) <|
  lfc (lok_ist (by decide +kernel) (by decide)) <|
  lfc (lok_aldn (q := 2) (by decide +kernel) rfl) <|
  lfc (lok_cv mk_X12_thrown ⟨uw467, uw468, uw469, uw5, by decide +kernel⟩ (T := TX12) (N := 47) rfl (by decide +kernel)) <|
  lfc (lok_ild (by decide +kernel)) <|
  lfc (lok_iceq (off := 5) (by decide +kernel) (by decide)) <|
  lfc (lok_iconst (n := 0) (by decide +kernel) (by decide +kernel)) <|
  lfc (lok_ild (by decide +kernel)) <|
  lfc (lok_ifne (off := 15) (by decide +kernel) (by decide)) <|
  lfc (lok_aldn (q := 3) (by decide +kernel) rfl) <|
  lfc (lok_iconst (n := 0) (by decide +kernel) (by decide +kernel)) <|
  lfc (lok_lald (by decide +kernel)) <|
  lfc (lok_ild (by decide +kernel)) <|
  lfc (lok_i2l (by decide +kernel)) <|
  lfc (lok_lcmp (by decide +kernel)) <|
  lfc (lok_ifeq (off := 5) (by decide +kernel) (by decide)) <|
  lfc (lok_iconst (n := 0) (by decide +kernel) (by decide +kernel)) <|
  lfc (lok_goto (off := 1071) (by decide +kernel) (by decide)) <| lfn
def T_c6 (X : LX) : List (Nat × Op) := [(456, op_ald 1 1), (457, op_ald 0 1), (458, op_ild 4 2), (460, op_ic 1 1), (461, op_iadd), (462, op_sld X), (463, op_ald 0 1), (464, op_ild 4 2), (466, op_ic 2 1), (467, op_iadd), (468, op_sld X), (469, op_ald 0 1), (470, op_ild 4 2), (472, op_ic 3 1), (473, op_iadd), (474, op_sld X), (475, op_ald 0 1), (476, op_ild 4 2), (478, op_ic 4 1), (479, op_iadd), (480, op_sld X), (481, op_cv M_X11_sheet 11 4), (484, op_ald 2 1), (485, op_ald 0 1), (486, op_ild 4 2), (488, op_ic 1 1), (489, op_iadd), (490, op_sld X), (491, op_ald 0 1), (492, op_ild 4 2), (494, op_ic 2 1), (495, op_iadd), (496, op_sld X), (497, op_ald 0 1), (498, op_ild 4 2), (500, op_ic 3 1), (501, op_iadd), (502, op_sld X), (503, op_ald 0 1), (504, op_ild 4 2), (506, op_ic 4 1), (507, op_iadd), (508, op_sld X), (509, op_cv M_X12_sheet 12 4), (512, op_iceq 1524), (515, op_ic 0 1)]
set_option maxRecDepth 20000 in
theorem K_c6 (X : LX) : ∀ r ∈ T_c6 X, LOK X r.1 r.2 :=
  lfc (lok_aldn (q := 1) (by decide +kernel) rfl) <|
  lfc (lok_aldn (q := 0) (by decide +kernel) rfl) <|
  lfc (lok_ild (by decide +kernel)) <|
  lfc (lok_iconst (n := 1) (by decide +kernel) (by decide +kernel)) <|
  lfc (lok_iadd (by decide +kernel)) <|
  lfc (lok_sld (by decide +kernel)) <|
  lfc (lok_aldn (q := 0) (by decide +kernel) rfl) <|
  lfc (lok_ild (by decide +kernel)) <|
  lfc (lok_iconst (n := 2) (by decide +kernel) (by decide +kernel)) <|
  lfc (lok_iadd (by decide +kernel)) <|
  lfc (lok_sld (by decide +kernel)) <|
  lfc (lok_aldn (q := 0) (by decide +kernel) rfl) <|
  lfc (lok_ild (by decide +kernel)) <|
  lfc (lok_iconst (n := 3) (by decide +kernel) (by decide +kernel)) <|
  lfc (lok_iadd (by decide +kernel)) <|
  lfc (lok_sld (by decide +kernel)) <|
  lfc (lok_aldn (q := 0) (by decide +kernel) rfl) <|
  lfc (lok_ild (by decide +kernel)) <|
  lfc (lok_iconst (n := 4) (by decide +kernel) (by decide +kernel)) <|
  lfc (lok_iadd (by decide +kernel)) <|
  lfc (lok_sld (by decide +kernel)) <|
  lfc (lok_cv mk_X11_sheet ⟨uw497, uw498, uw499, uw2, by decide +kernel⟩ (T := TX11) (N := 13) rfl (by decide +kernel)) <|
  lfc (lok_aldn (q := 2) (by decide +kernel) rfl) <|
  lfc (lok_aldn (q := 0) (by decide +kernel) rfl) <|
  lfc (lok_ild (by decide +kernel)) <|
  lfc (lok_iconst (n := 1) (by decide +kernel) (by decide +kernel)) <|
  lfc (lok_iadd (by decide +kernel)) <|
  lfc (lok_sld (by decide +kernel)) <|
  lfc (lok_aldn (q := 0) (by decide +kernel) rfl) <|
  lfc (lok_ild (by decide +kernel)) <|
  lfc (lok_iconst (n := 2) (by decide +kernel) (by decide +kernel)) <|
  lfc (lok_iadd (by decide +kernel)) <|
  lfc (lok_sld (by decide +kernel)) <|
  lfc (lok_aldn (q := 0) (by decide +kernel) rfl) <|
  lfc (lok_ild (by decide +kernel)) <|
  lfc (lok_iconst (n := 3) (by decide +kernel) (by decide +kernel)) <|
  lfc (lok_iadd (by decide +kernel)) <|
  lfc (lok_sld (by decide +kernel)) <|
  lfc (lok_aldn (q := 0) (by decide +kernel) rfl) <|
  lfc (lok_ild (by decide +kernel)) <|
  lfc (lok_iconst (n := 4) (by decide +kernel) (by decide +kernel)) <|
  lfc (lok_iadd (by decide +kernel)) <|
  lfc (lok_sld (by decide +kernel)) <|
  lfc (lok_cv mk_X12_sheet ⟨uw516, uw517, uw518, uw5, by decide +kernel⟩ (T := TX12) (N := 47) rfl (by decide +kernel)) <|
  lfc (lok_iceq (off := 1012) (by decide +kernel) (by decide)) <|
  lfc (lok_iconst (n := 0) (by decide +kernel) (by decide +kernel)) <| lfn
def T_c7 (X : LX) : List (Nat × Op) := [(517, op_ald 1 1), (518, op_ald 0 1), (519, op_ild 4 2), (521, op_ic 1 1), (522, op_iadd), (523, op_sld X), (524, op_ald 0 1), (525, op_ild 4 2), (527, op_ic 2 1), (528, op_iadd), (529, op_sld X), (530, op_cv M_X11_says 11 2), (533, op_ald 2 1), (534, op_ald 0 1), (535, op_ild 4 2), (537, op_ic 1 1), (538, op_iadd), (539, op_sld X), (540, op_ald 0 1), (541, op_ild 4 2), (543, op_ic 2 1), (544, op_iadd), (545, op_sld X), (546, op_cv M_X12_says 12 2), (549, op_iceq 1524), (552, op_ic 0 1)]
set_option maxRecDepth 20000 in
theorem K_c7 (X : LX) : ∀ r ∈ T_c7 X, LOK X r.1 r.2 :=
  lfc (lok_aldn (q := 1) (by decide +kernel) rfl) <|
  lfc (lok_aldn (q := 0) (by decide +kernel) rfl) <|
  lfc (lok_ild (by decide +kernel)) <|
  lfc (lok_iconst (n := 1) (by decide +kernel) (by decide +kernel)) <|
  lfc (lok_iadd (by decide +kernel)) <|
  lfc (lok_sld (by decide +kernel)) <|
  lfc (lok_aldn (q := 0) (by decide +kernel) rfl) <|
  lfc (lok_ild (by decide +kernel)) <|
  lfc (lok_iconst (n := 2) (by decide +kernel) (by decide +kernel)) <|
  lfc (lok_iadd (by decide +kernel)) <|
  lfc (lok_sld (by decide +kernel)) <|
  lfc (lok_cv mk_X11_says ⟨uw526, uw527, uw528, uw2, by decide +kernel⟩ (T := TX11) (N := 13) rfl (by decide +kernel)) <|
  lfc (lok_aldn (q := 2) (by decide +kernel) rfl) <|
  lfc (lok_aldn (q := 0) (by decide +kernel) rfl) <|
  lfc (lok_ild (by decide +kernel)) <|
  lfc (lok_iconst (n := 1) (by decide +kernel) (by decide +kernel)) <|
  lfc (lok_iadd (by decide +kernel)) <|
  lfc (lok_sld (by decide +kernel)) <|
  lfc (lok_aldn (q := 0) (by decide +kernel) rfl) <|
  lfc (lok_ild (by decide +kernel)) <|
  lfc (lok_iconst (n := 2) (by decide +kernel) (by decide +kernel)) <|
  lfc (lok_iadd (by decide +kernel)) <|
  lfc (lok_sld (by decide +kernel)) <|
  lfc (lok_cv mk_X12_says ⟨uw564, uw565, uw566, uw5, by decide +kernel⟩ (T := TX12) (N := 47) rfl (by decide +kernel)) <|
  lfc (lok_iceq (off := 975) (by decide +kernel) (by decide)) <|
  lfc (lok_iconst (n := 0) (by decide +kernel) (by decide +kernel)) <| lfn
def T_c8 (X : LX) : List (Nat × Op) := [(554, op_ald 1 1), (555, op_ald 0 1), (556, op_ild 4 2), (558, op_ic 1 1), (559, op_iadd), (560, op_sld X), (561, op_ald 0 1), (562, op_ild 4 2), (564, op_ic 2 1), (565, op_iadd), (566, op_sld X), (567, op_cv M_X11_signs 11 2), (570, op_ald 2 1), (571, op_ald 0 1), (572, op_ild 4 2), (574, op_ic 1 1), (575, op_iadd), (576, op_sld X), (577, op_ald 0 1), (578, op_ild 4 2), (580, op_ic 2 1), (581, op_iadd), (582, op_sld X), (583, op_cv M_X12_signs 12 2), (586, op_iceq 1524), (589, op_ic 0 1)]
set_option maxRecDepth 20000 in
theorem K_c8 (X : LX) : ∀ r ∈ T_c8 X, LOK X r.1 r.2 :=
  lfc (lok_aldn (q := 1) (by decide +kernel) rfl) <|
  lfc (lok_aldn (q := 0) (by decide +kernel) rfl) <|
  lfc (lok_ild (by decide +kernel)) <|
  lfc (lok_iconst (n := 1) (by decide +kernel) (by decide +kernel)) <|
  lfc (lok_iadd (by decide +kernel)) <|
  lfc (lok_sld (by decide +kernel)) <|
  lfc (lok_aldn (q := 0) (by decide +kernel) rfl) <|
  lfc (lok_ild (by decide +kernel)) <|
  lfc (lok_iconst (n := 2) (by decide +kernel) (by decide +kernel)) <|
  lfc (lok_iadd (by decide +kernel)) <|
  lfc (lok_sld (by decide +kernel)) <|
  lfc (lok_cv mk_X11_signs ⟨uw582, uw583, uw584, uw2, by decide +kernel⟩ (T := TX11) (N := 13) rfl (by decide +kernel)) <|
  lfc (lok_aldn (q := 2) (by decide +kernel) rfl) <|
  lfc (lok_aldn (q := 0) (by decide +kernel) rfl) <|
  lfc (lok_ild (by decide +kernel)) <|
  lfc (lok_iconst (n := 1) (by decide +kernel) (by decide +kernel)) <|
  lfc (lok_iadd (by decide +kernel)) <|
  lfc (lok_sld (by decide +kernel)) <|
  lfc (lok_aldn (q := 0) (by decide +kernel) rfl) <|
  lfc (lok_ild (by decide +kernel)) <|
  lfc (lok_iconst (n := 2) (by decide +kernel) (by decide +kernel)) <|
  lfc (lok_iadd (by decide +kernel)) <|
  lfc (lok_sld (by decide +kernel)) <|
  lfc (lok_cv mk_X12_signs ⟨uw590, uw591, uw592, uw5, by decide +kernel⟩ (T := TX12) (N := 47) rfl (by decide +kernel)) <|
  lfc (lok_iceq (off := 938) (by decide +kernel) (by decide)) <|
  lfc (lok_iconst (n := 0) (by decide +kernel) (by decide +kernel)) <| lfn
def T_c9 (X : LX) : List (Nat × Op) := [(591, op_ald 1 1), (592, op_ald 0 1), (593, op_ild 4 2), (595, op_ic 1 1), (596, op_iadd), (597, op_sld X), (598, op_ald 0 1), (599, op_ild 4 2), (601, op_ic 2 1), (602, op_iadd), (603, op_sld X), (604, op_cv M_X11_moves 11 2), (607, op_ald 2 1), (608, op_ald 0 1), (609, op_ild 4 2), (611, op_ic 1 1), (612, op_iadd), (613, op_sld X), (614, op_ald 0 1), (615, op_ild 4 2), (617, op_ic 2 1), (618, op_iadd), (619, op_sld X), (620, op_cv M_X12_moves 12 2), (623, op_iceq 1524), (626, op_ic 0 1)]
set_option maxRecDepth 20000 in
theorem K_c9 (X : LX) : ∀ r ∈ T_c9 X, LOK X r.1 r.2 :=
  lfc (lok_aldn (q := 1) (by decide +kernel) rfl) <|
  lfc (lok_aldn (q := 0) (by decide +kernel) rfl) <|
  lfc (lok_ild (by decide +kernel)) <|
  lfc (lok_iconst (n := 1) (by decide +kernel) (by decide +kernel)) <|
  lfc (lok_iadd (by decide +kernel)) <|
  lfc (lok_sld (by decide +kernel)) <|
  lfc (lok_aldn (q := 0) (by decide +kernel) rfl) <|
  lfc (lok_ild (by decide +kernel)) <|
  lfc (lok_iconst (n := 2) (by decide +kernel) (by decide +kernel)) <|
  lfc (lok_iadd (by decide +kernel)) <|
  lfc (lok_sld (by decide +kernel)) <|
  lfc (lok_cv mk_X11_moves ⟨uw602, uw603, uw604, uw2, by decide +kernel⟩ (T := TX11) (N := 13) rfl (by decide +kernel)) <|
  lfc (lok_aldn (q := 2) (by decide +kernel) rfl) <|
  lfc (lok_aldn (q := 0) (by decide +kernel) rfl) <|
  lfc (lok_ild (by decide +kernel)) <|
  lfc (lok_iconst (n := 1) (by decide +kernel) (by decide +kernel)) <|
  lfc (lok_iadd (by decide +kernel)) <|
  lfc (lok_sld (by decide +kernel)) <|
  lfc (lok_aldn (q := 0) (by decide +kernel) rfl) <|
  lfc (lok_ild (by decide +kernel)) <|
  lfc (lok_iconst (n := 2) (by decide +kernel) (by decide +kernel)) <|
  lfc (lok_iadd (by decide +kernel)) <|
  lfc (lok_sld (by decide +kernel)) <|
  lfc (lok_cv mk_X12_moves ⟨uw610, uw611, uw612, uw5, by decide +kernel⟩ (T := TX12) (N := 47) rfl (by decide +kernel)) <|
  lfc (lok_iceq (off := 901) (by decide +kernel) (by decide)) <|
  lfc (lok_iconst (n := 0) (by decide +kernel) (by decide +kernel)) <| lfn
def T_c10 (X : LX) : List (Nat × Op) := [(628, op_ald 1 1), (629, op_ald 0 1), (630, op_ild 4 2), (632, op_ic 1 1), (633, op_iadd), (634, op_sld X), (635, op_cv M_X11_calls 11 1), (638, op_ald 2 1), (639, op_ald 0 1), (640, op_ild 4 2), (642, op_ic 1 1), (643, op_iadd), (644, op_sld X), (645, op_cv M_X12_calls 12 1), (648, op_iceq 1524), (651, op_ic 0 1)]
set_option maxRecDepth 20000 in
theorem K_c10 (X : LX) : ∀ r ∈ T_c10 X, LOK X r.1 r.2 :=
  lfc (lok_aldn (q := 1) (by decide +kernel) rfl) <|
  lfc (lok_aldn (q := 0) (by decide +kernel) rfl) <|
  lfc (lok_ild (by decide +kernel)) <|
  lfc (lok_iconst (n := 1) (by decide +kernel) (by decide +kernel)) <|
  lfc (lok_iadd (by decide +kernel)) <|
  lfc (lok_sld (by decide +kernel)) <|
  lfc (lok_cv mk_X11_calls ⟨uw618, uw619, uw620, uw2, by decide +kernel⟩ (T := TX11) (N := 13) rfl (by decide +kernel)) <|
  lfc (lok_aldn (q := 2) (by decide +kernel) rfl) <|
  lfc (lok_aldn (q := 0) (by decide +kernel) rfl) <|
  lfc (lok_ild (by decide +kernel)) <|
  lfc (lok_iconst (n := 1) (by decide +kernel) (by decide +kernel)) <|
  lfc (lok_iadd (by decide +kernel)) <|
  lfc (lok_sld (by decide +kernel)) <|
  lfc (lok_cv mk_X12_calls ⟨uw626, uw627, uw628, uw5, by decide +kernel⟩ (T := TX12) (N := 47) rfl (by decide +kernel)) <|
  lfc (lok_iceq (off := 876) (by decide +kernel) (by decide)) <|
  lfc (lok_iconst (n := 0) (by decide +kernel) (by decide +kernel)) <| lfn
def T_c11 (X : LX) : List (Nat × Op) := [(653, op_ald 1 1), (654, op_ald 0 1), (655, op_ild 4 2), (657, op_ic 1 1), (658, op_iadd), (659, op_sld X), (660, op_cv M_X11_days 11 1), (663, op_ald 2 1), (664, op_ald 0 1), (665, op_ild 4 2), (667, op_ic 1 1), (668, op_iadd), (669, op_sld X), (670, op_cv M_X12_days 12 1), (673, op_iceq 1524), (676, op_ic 0 1)]
set_option maxRecDepth 20000 in
theorem K_c11 (X : LX) : ∀ r ∈ T_c11 X, LOK X r.1 r.2 :=
  lfc (lok_aldn (q := 1) (by decide +kernel) rfl) <|
  lfc (lok_aldn (q := 0) (by decide +kernel) rfl) <|
  lfc (lok_ild (by decide +kernel)) <|
  lfc (lok_iconst (n := 1) (by decide +kernel) (by decide +kernel)) <|
  lfc (lok_iadd (by decide +kernel)) <|
  lfc (lok_sld (by decide +kernel)) <|
  lfc (lok_cv mk_X11_days ⟨uw638, uw639, uw640, uw2, by decide +kernel⟩ (T := TX11) (N := 13) rfl (by decide +kernel)) <|
  lfc (lok_aldn (q := 2) (by decide +kernel) rfl) <|
  lfc (lok_aldn (q := 0) (by decide +kernel) rfl) <|
  lfc (lok_ild (by decide +kernel)) <|
  lfc (lok_iconst (n := 1) (by decide +kernel) (by decide +kernel)) <|
  lfc (lok_iadd (by decide +kernel)) <|
  lfc (lok_sld (by decide +kernel)) <|
  lfc (lok_cv mk_X12_days ⟨uw664, uw665, uw666, uw5, by decide +kernel⟩ (T := TX12) (N := 47) rfl (by decide +kernel)) <|
  lfc (lok_iceq (off := 851) (by decide +kernel) (by decide)) <|
  lfc (lok_iconst (n := 0) (by decide +kernel) (by decide +kernel)) <| lfn
def T_c12 (X : LX) : List (Nat × Op) := [(678, op_ald 1 1), (679, op_cv M_X11_week 11 0), (682, op_ald 2 1), (683, op_cv M_X12_week 12 0), (686, op_iceq 1524), (689, op_ic 0 1)]
set_option maxRecDepth 20000 in
theorem K_c12 (X : LX) : ∀ r ∈ T_c12 X, LOK X r.1 r.2 :=
  lfc (lok_aldn (q := 1) (by decide +kernel) rfl) <|
  lfc (lok_cv mk_X11_week ⟨uw685, uw686, uw687, uw2, by decide +kernel⟩ (T := TX11) (N := 13) rfl (by decide +kernel)) <|
  lfc (lok_aldn (q := 2) (by decide +kernel) rfl) <|
  lfc (lok_cv mk_X12_week ⟨uw700, uw701, uw702, uw5, by decide +kernel⟩ (T := TX12) (N := 47) rfl (by decide +kernel)) <|
  lfc (lok_iceq (off := 838) (by decide +kernel) (by decide)) <|
  lfc (lok_iconst (n := 0) (by decide +kernel) (by decide +kernel)) <| lfn
def T_c13 (X : LX) : List (Nat × Op) := [(691, op_ald 1 1), (692, op_cv M_X11_undo 11 0), (695, op_ald 2 1), (696, op_cv M_X12_undo 12 0), (699, op_iceq 1524), (702, op_ic 0 1)]
set_option maxRecDepth 20000 in
theorem K_c13 (X : LX) : ∀ r ∈ T_c13 X, LOK X r.1 r.2 :=
  lfc (lok_aldn (q := 1) (by decide +kernel) rfl) <|
  lfc (lok_cv mk_X11_undo ⟨uw712, uw713, uw714, uw2, by decide +kernel⟩ (T := TX11) (N := 13) rfl (by decide +kernel)) <|
  lfc (lok_aldn (q := 2) (by decide +kernel) rfl) <|
  lfc (lok_cv mk_X12_undo ⟨uw725, uw726, uw727, uw5, by decide +kernel⟩ (T := TX12) (N := 47) rfl (by decide +kernel)) <|
  lfc (lok_iceq (off := 825) (by decide +kernel) (by decide)) <|
  lfc (lok_iconst (n := 0) (by decide +kernel) (by decide +kernel)) <| lfn
def T_c14 (X : LX) : List (Nat × Op) := [(704, op_ald 1 1), (705, op_ald 0 1), (706, op_ild 4 2), (708, op_ic 1 1), (709, op_iadd), (710, op_sld X), (711, op_ald 0 1), (712, op_ild 4 2), (714, op_ic 2 1), (715, op_iadd), (716, op_sld X), (717, op_cv M_X11_brings 11 2), (720, op_ald 2 1), (721, op_ald 0 1), (722, op_ild 4 2), (724, op_ic 1 1), (725, op_iadd), (726, op_sld X), (727, op_ald 0 1), (728, op_ild 4 2), (730, op_ic 2 1), (731, op_iadd), (732, op_sld X), (733, op_cv M_X12_brings 12 2), (736, op_iceq 1524), (739, op_ic 0 1)]
set_option maxRecDepth 20000 in
theorem K_c14 (X : LX) : ∀ r ∈ T_c14 X, LOK X r.1 r.2 :=
  lfc (lok_aldn (q := 1) (by decide +kernel) rfl) <|
  lfc (lok_aldn (q := 0) (by decide +kernel) rfl) <|
  lfc (lok_ild (by decide +kernel)) <|
  lfc (lok_iconst (n := 1) (by decide +kernel) (by decide +kernel)) <|
  lfc (lok_iadd (by decide +kernel)) <|
  lfc (lok_sld (by decide +kernel)) <|
  lfc (lok_aldn (q := 0) (by decide +kernel) rfl) <|
  lfc (lok_ild (by decide +kernel)) <|
  lfc (lok_iconst (n := 2) (by decide +kernel) (by decide +kernel)) <|
  lfc (lok_iadd (by decide +kernel)) <|
  lfc (lok_sld (by decide +kernel)) <|
  lfc (lok_cv mk_X11_brings ⟨uw729, uw730, uw731, uw2, by decide +kernel⟩ (T := TX11) (N := 13) rfl (by decide +kernel)) <|
  lfc (lok_aldn (q := 2) (by decide +kernel) rfl) <|
  lfc (lok_aldn (q := 0) (by decide +kernel) rfl) <|
  lfc (lok_ild (by decide +kernel)) <|
  lfc (lok_iconst (n := 1) (by decide +kernel) (by decide +kernel)) <|
  lfc (lok_iadd (by decide +kernel)) <|
  lfc (lok_sld (by decide +kernel)) <|
  lfc (lok_aldn (q := 0) (by decide +kernel) rfl) <|
  lfc (lok_ild (by decide +kernel)) <|
  lfc (lok_iconst (n := 2) (by decide +kernel) (by decide +kernel)) <|
  lfc (lok_iadd (by decide +kernel)) <|
  lfc (lok_sld (by decide +kernel)) <|
  lfc (lok_cv mk_X12_brings ⟨uw763, uw764, uw765, uw5, by decide +kernel⟩ (T := TX12) (N := 47) rfl (by decide +kernel)) <|
  lfc (lok_iceq (off := 788) (by decide +kernel) (by decide)) <|
  lfc (lok_iconst (n := 0) (by decide +kernel) (by decide +kernel)) <| lfn
def T_c15 (X : LX) : List (Nat × Op) := [(741, op_ald 1 1), (742, op_ald 0 1), (743, op_ild 4 2), (745, op_ic 1 1), (746, op_iadd), (747, op_sld X), (748, op_ald 0 1), (749, op_ild 4 2), (751, op_ic 2 1), (752, op_iadd), (753, op_sld X), (754, op_cv M_X11_later 11 2), (757, op_ald 2 1), (758, op_ald 0 1), (759, op_ild 4 2), (761, op_ic 1 1), (762, op_iadd), (763, op_sld X), (764, op_ald 0 1), (765, op_ild 4 2), (767, op_ic 2 1), (768, op_iadd), (769, op_sld X), (770, op_cv M_X12_later 12 2), (773, op_iceq 1524), (776, op_ic 0 1)]
set_option maxRecDepth 20000 in
theorem K_c15 (X : LX) : ∀ r ∈ T_c15 X, LOK X r.1 r.2 :=
  lfc (lok_aldn (q := 1) (by decide +kernel) rfl) <|
  lfc (lok_aldn (q := 0) (by decide +kernel) rfl) <|
  lfc (lok_ild (by decide +kernel)) <|
  lfc (lok_iconst (n := 1) (by decide +kernel) (by decide +kernel)) <|
  lfc (lok_iadd (by decide +kernel)) <|
  lfc (lok_sld (by decide +kernel)) <|
  lfc (lok_aldn (q := 0) (by decide +kernel) rfl) <|
  lfc (lok_ild (by decide +kernel)) <|
  lfc (lok_iconst (n := 2) (by decide +kernel) (by decide +kernel)) <|
  lfc (lok_iadd (by decide +kernel)) <|
  lfc (lok_sld (by decide +kernel)) <|
  lfc (lok_cv mk_X11_later ⟨uw771, uw772, uw773, uw2, by decide +kernel⟩ (T := TX11) (N := 13) rfl (by decide +kernel)) <|
  lfc (lok_aldn (q := 2) (by decide +kernel) rfl) <|
  lfc (lok_aldn (q := 0) (by decide +kernel) rfl) <|
  lfc (lok_ild (by decide +kernel)) <|
  lfc (lok_iconst (n := 1) (by decide +kernel) (by decide +kernel)) <|
  lfc (lok_iadd (by decide +kernel)) <|
  lfc (lok_sld (by decide +kernel)) <|
  lfc (lok_aldn (q := 0) (by decide +kernel) rfl) <|
  lfc (lok_ild (by decide +kernel)) <|
  lfc (lok_iconst (n := 2) (by decide +kernel) (by decide +kernel)) <|
  lfc (lok_iadd (by decide +kernel)) <|
  lfc (lok_sld (by decide +kernel)) <|
  lfc (lok_cv mk_X12_later ⟨uw775, uw776, uw777, uw5, by decide +kernel⟩ (T := TX12) (N := 47) rfl (by decide +kernel)) <|
  lfc (lok_iceq (off := 751) (by decide +kernel) (by decide)) <|
  lfc (lok_iconst (n := 0) (by decide +kernel) (by decide +kernel)) <| lfn
def T_c16 (X : LX) : List (Nat × Op) := [(778, op_ald 1 1), (779, op_ald 0 1), (780, op_ild 4 2), (782, op_ic 1 1), (783, op_iadd), (784, op_sld X), (785, op_cv M_X11_home 11 1), (788, op_ald 2 1), (789, op_ald 0 1), (790, op_ild 4 2), (792, op_ic 1 1), (793, op_iadd), (794, op_sld X), (795, op_cv M_X12_home 12 1), (798, op_iceq 1524), (801, op_ic 0 1)]
set_option maxRecDepth 20000 in
theorem K_c16 (X : LX) : ∀ r ∈ T_c16 X, LOK X r.1 r.2 :=
  lfc (lok_aldn (q := 1) (by decide +kernel) rfl) <|
  lfc (lok_aldn (q := 0) (by decide +kernel) rfl) <|
  lfc (lok_ild (by decide +kernel)) <|
  lfc (lok_iconst (n := 1) (by decide +kernel) (by decide +kernel)) <|
  lfc (lok_iadd (by decide +kernel)) <|
  lfc (lok_sld (by decide +kernel)) <|
  lfc (lok_cv mk_X11_home ⟨uw779, uw780, uw781, uw2, by decide +kernel⟩ (T := TX11) (N := 13) rfl (by decide +kernel)) <|
  lfc (lok_aldn (q := 2) (by decide +kernel) rfl) <|
  lfc (lok_aldn (q := 0) (by decide +kernel) rfl) <|
  lfc (lok_ild (by decide +kernel)) <|
  lfc (lok_iconst (n := 1) (by decide +kernel) (by decide +kernel)) <|
  lfc (lok_iadd (by decide +kernel)) <|
  lfc (lok_sld (by decide +kernel)) <|
  lfc (lok_cv mk_X12_home ⟨uw793, uw794, uw795, uw5, by decide +kernel⟩ (T := TX12) (N := 47) rfl (by decide +kernel)) <|
  lfc (lok_iceq (off := 726) (by decide +kernel) (by decide)) <|
  lfc (lok_iconst (n := 0) (by decide +kernel) (by decide +kernel)) <| lfn
def T_c17 (X : LX) : List (Nat × Op) := [(803, op_ald 1 1), (804, op_ald 0 1), (805, op_ild 4 2), (807, op_ic 1 1), (808, op_iadd), (809, op_sld X), (810, op_cv M_X11_poor 11 1), (813, op_ald 2 1), (814, op_ald 0 1), (815, op_ild 4 2), (817, op_ic 1 1), (818, op_iadd), (819, op_sld X), (820, op_cv M_X12_poor 12 1), (823, op_iceq 1524), (826, op_ic 0 1)]
set_option maxRecDepth 20000 in
theorem K_c17 (X : LX) : ∀ r ∈ T_c17 X, LOK X r.1 r.2 :=
  lfc (lok_aldn (q := 1) (by decide +kernel) rfl) <|
  lfc (lok_aldn (q := 0) (by decide +kernel) rfl) <|
  lfc (lok_ild (by decide +kernel)) <|
  lfc (lok_iconst (n := 1) (by decide +kernel) (by decide +kernel)) <|
  lfc (lok_iadd (by decide +kernel)) <|
  lfc (lok_sld (by decide +kernel)) <|
  lfc (lok_cv mk_X11_poor ⟨uw797, uw798, uw799, uw2, by decide +kernel⟩ (T := TX11) (N := 13) rfl (by decide +kernel)) <|
  lfc (lok_aldn (q := 2) (by decide +kernel) rfl) <|
  lfc (lok_aldn (q := 0) (by decide +kernel) rfl) <|
  lfc (lok_ild (by decide +kernel)) <|
  lfc (lok_iconst (n := 1) (by decide +kernel) (by decide +kernel)) <|
  lfc (lok_iadd (by decide +kernel)) <|
  lfc (lok_sld (by decide +kernel)) <|
  lfc (lok_cv mk_X12_poor ⟨uw801, uw802, uw803, uw5, by decide +kernel⟩ (T := TX12) (N := 47) rfl (by decide +kernel)) <|
  lfc (lok_iceq (off := 701) (by decide +kernel) (by decide)) <|
  lfc (lok_iconst (n := 0) (by decide +kernel) (by decide +kernel)) <| lfn
def T_c18 (X : LX) : List (Nat × Op) := [(828, op_ald 1 1), (829, op_ald 0 1), (830, op_ild 4 2), (832, op_ic 1 1), (833, op_iadd), (834, op_sld X), (835, op_cv M_X11_leads 11 1), (838, op_ald 2 1), (839, op_ald 0 1), (840, op_ild 4 2), (842, op_ic 1 1), (843, op_iadd), (844, op_sld X), (845, op_cv M_X12_leads 12 1), (848, op_iceq 1524), (851, op_ic 0 1)]
set_option maxRecDepth 20000 in
theorem K_c18 (X : LX) : ∀ r ∈ T_c18 X, LOK X r.1 r.2 :=
  lfc (lok_aldn (q := 1) (by decide +kernel) rfl) <|
  lfc (lok_aldn (q := 0) (by decide +kernel) rfl) <|
  lfc (lok_ild (by decide +kernel)) <|
  lfc (lok_iconst (n := 1) (by decide +kernel) (by decide +kernel)) <|
  lfc (lok_iadd (by decide +kernel)) <|
  lfc (lok_sld (by decide +kernel)) <|
  lfc (lok_cv mk_X11_leads ⟨uw805, uw806, uw807, uw2, by decide +kernel⟩ (T := TX11) (N := 13) rfl (by decide +kernel)) <|
  lfc (lok_aldn (q := 2) (by decide +kernel) rfl) <|
  lfc (lok_aldn (q := 0) (by decide +kernel) rfl) <|
  lfc (lok_ild (by decide +kernel)) <|
  lfc (lok_iconst (n := 1) (by decide +kernel) (by decide +kernel)) <|
  lfc (lok_iadd (by decide +kernel)) <|
  lfc (lok_sld (by decide +kernel)) <|
  lfc (lok_cv mk_X12_leads ⟨uw813, uw814, uw815, uw5, by decide +kernel⟩ (T := TX12) (N := 47) rfl (by decide +kernel)) <|
  lfc (lok_iceq (off := 676) (by decide +kernel) (by decide)) <|
  lfc (lok_iconst (n := 0) (by decide +kernel) (by decide +kernel)) <| lfn
def T_c19 (X : LX) : List (Nat × Op) := [(853, op_ald 1 1), (854, op_cv M_X11_rings 11 0), (857, op_ald 2 1), (858, op_cv M_X12_rings 12 0), (861, op_iceq 1524), (864, op_ic 0 1)]
set_option maxRecDepth 20000 in
theorem K_c19 (X : LX) : ∀ r ∈ T_c19 X, LOK X r.1 r.2 :=
  lfc (lok_aldn (q := 1) (by decide +kernel) rfl) <|
  lfc (lok_cv mk_X11_rings ⟨uw821, uw822, uw823, uw2, by decide +kernel⟩ (T := TX11) (N := 13) rfl (by decide +kernel)) <|
  lfc (lok_aldn (q := 2) (by decide +kernel) rfl) <|
  lfc (lok_cv mk_X12_rings ⟨uw829, uw830, uw831, uw5, by decide +kernel⟩ (T := TX12) (N := 47) rfl (by decide +kernel)) <|
  lfc (lok_iceq (off := 663) (by decide +kernel) (by decide)) <|
  lfc (lok_iconst (n := 0) (by decide +kernel) (by decide +kernel)) <| lfn
def T_c20 (X : LX) : List (Nat × Op) := [(866, op_ald 1 1), (867, op_ald 0 1), (868, op_ild 4 2), (870, op_ic 1 1), (871, op_iadd), (872, op_sld X), (873, op_cv M_X11_robs 11 1), (876, op_ald 2 1), (877, op_ald 0 1), (878, op_ild 4 2), (880, op_ic 1 1), (881, op_iadd), (882, op_sld X), (883, op_cv M_X12_robs 12 1), (886, op_iceq 1524), (889, op_ic 0 1)]
set_option maxRecDepth 20000 in
theorem K_c20 (X : LX) : ∀ r ∈ T_c20 X, LOK X r.1 r.2 :=
  lfc (lok_aldn (q := 1) (by decide +kernel) rfl) <|
  lfc (lok_aldn (q := 0) (by decide +kernel) rfl) <|
  lfc (lok_ild (by decide +kernel)) <|
  lfc (lok_iconst (n := 1) (by decide +kernel) (by decide +kernel)) <|
  lfc (lok_iadd (by decide +kernel)) <|
  lfc (lok_sld (by decide +kernel)) <|
  lfc (lok_cv mk_X11_robs ⟨uw841, uw842, uw843, uw2, by decide +kernel⟩ (T := TX11) (N := 13) rfl (by decide +kernel)) <|
  lfc (lok_aldn (q := 2) (by decide +kernel) rfl) <|
  lfc (lok_aldn (q := 0) (by decide +kernel) rfl) <|
  lfc (lok_ild (by decide +kernel)) <|
  lfc (lok_iconst (n := 1) (by decide +kernel) (by decide +kernel)) <|
  lfc (lok_iadd (by decide +kernel)) <|
  lfc (lok_sld (by decide +kernel)) <|
  lfc (lok_cv mk_X12_robs ⟨uw845, uw846, uw847, uw5, by decide +kernel⟩ (T := TX12) (N := 47) rfl (by decide +kernel)) <|
  lfc (lok_iceq (off := 638) (by decide +kernel) (by decide)) <|
  lfc (lok_iconst (n := 0) (by decide +kernel) (by decide +kernel)) <| lfn
def T_c21 (X : LX) : List (Nat × Op) := [(891, op_ald 1 1), (892, op_cv M_X11_order 11 0), (895, op_ald 2 1), (896, op_cv M_X12_order 12 0), (899, op_iceq 1524), (902, op_ic 0 1)]
set_option maxRecDepth 20000 in
theorem K_c21 (X : LX) : ∀ r ∈ T_c21 X, LOK X r.1 r.2 :=
  lfc (lok_aldn (q := 1) (by decide +kernel) rfl) <|
  lfc (lok_cv mk_X11_order ⟨uw849, uw850, uw851, uw2, by decide +kernel⟩ (T := TX11) (N := 13) rfl (by decide +kernel)) <|
  lfc (lok_aldn (q := 2) (by decide +kernel) rfl) <|
  lfc (lok_cv mk_X12_order ⟨uw877, uw878, uw879, uw5, by decide +kernel⟩ (T := TX12) (N := 47) rfl (by decide +kernel)) <|
  lfc (lok_iceq (off := 625) (by decide +kernel) (by decide)) <|
  lfc (lok_iconst (n := 0) (by decide +kernel) (by decide +kernel)) <| lfn
def T_c22 (X : LX) : List (Nat × Op) := [(904, op_ald 1 1), (905, op_ald 0 1), (906, op_ild 4 2), (908, op_ic 1 1), (909, op_iadd), (910, op_sld X), (911, op_cv M_X11_silences 11 1), (914, op_ald 2 1), (915, op_ald 0 1), (916, op_ild 4 2), (918, op_ic 1 1), (919, op_iadd), (920, op_sld X), (921, op_cv M_X12_silences 12 1), (924, op_iceq 1524), (927, op_ic 0 1)]
set_option maxRecDepth 20000 in
theorem K_c22 (X : LX) : ∀ r ∈ T_c22 X, LOK X r.1 r.2 :=
  lfc (lok_aldn (q := 1) (by decide +kernel) rfl) <|
  lfc (lok_aldn (q := 0) (by decide +kernel) rfl) <|
  lfc (lok_ild (by decide +kernel)) <|
  lfc (lok_iconst (n := 1) (by decide +kernel) (by decide +kernel)) <|
  lfc (lok_iadd (by decide +kernel)) <|
  lfc (lok_sld (by decide +kernel)) <|
  lfc (lok_cv mk_X11_silences ⟨uw886, uw887, uw888, uw2, by decide +kernel⟩ (T := TX11) (N := 13) rfl (by decide +kernel)) <|
  lfc (lok_aldn (q := 2) (by decide +kernel) rfl) <|
  lfc (lok_aldn (q := 0) (by decide +kernel) rfl) <|
  lfc (lok_ild (by decide +kernel)) <|
  lfc (lok_iconst (n := 1) (by decide +kernel) (by decide +kernel)) <|
  lfc (lok_iadd (by decide +kernel)) <|
  lfc (lok_sld (by decide +kernel)) <|
  lfc (lok_cv mk_X12_silences ⟨uw894, uw895, uw896, uw5, by decide +kernel⟩ (T := TX12) (N := 47) rfl (by decide +kernel)) <|
  lfc (lok_iceq (off := 600) (by decide +kernel) (by decide)) <|
  lfc (lok_iconst (n := 0) (by decide +kernel) (by decide +kernel)) <| lfn
def T_c23 (X : LX) : List (Nat × Op) := [(929, op_ald 1 1), (930, op_ald 0 1), (931, op_ild 4 2), (933, op_ic 1 1), (934, op_iadd), (935, op_sld X), (936, op_cv M_X11_goes 11 1), (939, op_ald 2 1), (940, op_ald 0 1), (941, op_ild 4 2), (943, op_ic 1 1), (944, op_iadd), (945, op_sld X), (946, op_cv M_X12_goes 12 1), (949, op_iceq 1524), (952, op_ic 0 1)]
set_option maxRecDepth 20000 in
theorem K_c23 (X : LX) : ∀ r ∈ T_c23 X, LOK X r.1 r.2 :=
  lfc (lok_aldn (q := 1) (by decide +kernel) rfl) <|
  lfc (lok_aldn (q := 0) (by decide +kernel) rfl) <|
  lfc (lok_ild (by decide +kernel)) <|
  lfc (lok_iconst (n := 1) (by decide +kernel) (by decide +kernel)) <|
  lfc (lok_iadd (by decide +kernel)) <|
  lfc (lok_sld (by decide +kernel)) <|
  lfc (lok_cv mk_X11_goes ⟨uw902, uw903, uw904, uw2, by decide +kernel⟩ (T := TX11) (N := 13) rfl (by decide +kernel)) <|
  lfc (lok_aldn (q := 2) (by decide +kernel) rfl) <|
  lfc (lok_aldn (q := 0) (by decide +kernel) rfl) <|
  lfc (lok_ild (by decide +kernel)) <|
  lfc (lok_iconst (n := 1) (by decide +kernel) (by decide +kernel)) <|
  lfc (lok_iadd (by decide +kernel)) <|
  lfc (lok_sld (by decide +kernel)) <|
  lfc (lok_cv mk_X12_goes ⟨uw907, uw908, uw909, uw5, by decide +kernel⟩ (T := TX12) (N := 47) rfl (by decide +kernel)) <|
  lfc (lok_iceq (off := 575) (by decide +kernel) (by decide)) <|
  lfc (lok_iconst (n := 0) (by decide +kernel) (by decide +kernel)) <| lfn
def T_c24 (X : LX) : List (Nat × Op) := [(954, op_ald 1 1), (955, op_cv M_X11_peace 11 0), (958, op_ald 2 1), (959, op_cv M_X12_peace 12 0), (962, op_iceq 1524), (965, op_ic 0 1)]
set_option maxRecDepth 20000 in
theorem K_c24 (X : LX) : ∀ r ∈ T_c24 X, LOK X r.1 r.2 :=
  lfc (lok_aldn (q := 1) (by decide +kernel) rfl) <|
  lfc (lok_cv mk_X11_peace ⟨uw911, uw912, uw913, uw2, by decide +kernel⟩ (T := TX11) (N := 13) rfl (by decide +kernel)) <|
  lfc (lok_aldn (q := 2) (by decide +kernel) rfl) <|
  lfc (lok_cv mk_X12_peace ⟨uw915, uw916, uw917, uw5, by decide +kernel⟩ (T := TX12) (N := 47) rfl (by decide +kernel)) <|
  lfc (lok_iceq (off := 562) (by decide +kernel) (by decide)) <|
  lfc (lok_iconst (n := 0) (by decide +kernel) (by decide +kernel)) <| lfn
def T_c25 (X : LX) : List (Nat × Op) := [(967, op_ald 1 1), (968, op_cv M_X11_wed 11 0), (971, op_ald 2 1), (972, op_cv M_X12_wed 12 0), (975, op_iceq 1524), (978, op_ic 0 1)]
set_option maxRecDepth 20000 in
theorem K_c25 (X : LX) : ∀ r ∈ T_c25 X, LOK X r.1 r.2 :=
  lfc (lok_aldn (q := 1) (by decide +kernel) rfl) <|
  lfc (lok_cv mk_X11_wed ⟨uw923, uw924, uw925, uw2, by decide +kernel⟩ (T := TX11) (N := 13) rfl (by decide +kernel)) <|
  lfc (lok_aldn (q := 2) (by decide +kernel) rfl) <|
  lfc (lok_cv mk_X12_wed ⟨uw927, uw928, uw929, uw5, by decide +kernel⟩ (T := TX12) (N := 47) rfl (by decide +kernel)) <|
  lfc (lok_iceq (off := 549) (by decide +kernel) (by decide)) <|
  lfc (lok_iconst (n := 0) (by decide +kernel) (by decide +kernel)) <| lfn
def T_c26 (X : LX) : List (Nat × Op) := [(980, op_ald 1 1), (981, op_cv M_X11_loud 11 0), (984, op_ald 2 1), (985, op_cv M_X12_loud 12 0), (988, op_iceq 1524), (991, op_ic 0 1)]
set_option maxRecDepth 20000 in
theorem K_c26 (X : LX) : ∀ r ∈ T_c26 X, LOK X r.1 r.2 :=
  lfc (lok_aldn (q := 1) (by decide +kernel) rfl) <|
  lfc (lok_cv mk_X11_loud ⟨uw931, uw932, uw933, uw2, by decide +kernel⟩ (T := TX11) (N := 13) rfl (by decide +kernel)) <|
  lfc (lok_aldn (q := 2) (by decide +kernel) rfl) <|
  lfc (lok_cv mk_X12_loud ⟨uw935, uw936, uw937, uw5, by decide +kernel⟩ (T := TX12) (N := 47) rfl (by decide +kernel)) <|
  lfc (lok_iceq (off := 536) (by decide +kernel) (by decide)) <|
  lfc (lok_iconst (n := 0) (by decide +kernel) (by decide +kernel)) <| lfn
def T_c27 (X : LX) : List (Nat × Op) := [(993, op_ald 1 1), (994, op_cv M_X11_mouths 11 0), (997, op_ald 2 1), (998, op_cv M_X12_mouths 12 0), (1001, op_iceq 1524), (1004, op_ic 0 1)]
set_option maxRecDepth 20000 in
theorem K_c27 (X : LX) : ∀ r ∈ T_c27 X, LOK X r.1 r.2 :=
  lfc (lok_aldn (q := 1) (by decide +kernel) rfl) <|
  lfc (lok_cv mk_X11_mouths ⟨uw939, uw940, uw941, uw2, by decide +kernel⟩ (T := TX11) (N := 13) rfl (by decide +kernel)) <|
  lfc (lok_aldn (q := 2) (by decide +kernel) rfl) <|
  lfc (lok_cv mk_X12_mouths ⟨uw960, uw961, uw962, uw5, by decide +kernel⟩ (T := TX12) (N := 47) rfl (by decide +kernel)) <|
  lfc (lok_iceq (off := 523) (by decide +kernel) (by decide)) <|
  lfc (lok_iconst (n := 0) (by decide +kernel) (by decide +kernel)) <| lfn
def T_c28 (X : LX) : List (Nat × Op) := [(1006, op_ald 1 1), (1007, op_ald 0 1), (1008, op_ild 4 2), (1010, op_ic 1 1), (1011, op_iadd), (1012, op_sld X), (1013, op_cv M_X11_criers 11 1), (1016, op_ald 2 1), (1017, op_ald 0 1), (1018, op_ild 4 2), (1020, op_ic 1 1), (1021, op_iadd), (1022, op_sld X), (1023, op_cv M_X12_criers 12 1), (1026, op_iceq 1524), (1029, op_ic 0 1)]
set_option maxRecDepth 20000 in
theorem K_c28 (X : LX) : ∀ r ∈ T_c28 X, LOK X r.1 r.2 :=
  lfc (lok_aldn (q := 1) (by decide +kernel) rfl) <|
  lfc (lok_aldn (q := 0) (by decide +kernel) rfl) <|
  lfc (lok_ild (by decide +kernel)) <|
  lfc (lok_iconst (n := 1) (by decide +kernel) (by decide +kernel)) <|
  lfc (lok_iadd (by decide +kernel)) <|
  lfc (lok_sld (by decide +kernel)) <|
  lfc (lok_cv mk_X11_criers ⟨uw969, uw970, uw971, uw2, by decide +kernel⟩ (T := TX11) (N := 13) rfl (by decide +kernel)) <|
  lfc (lok_aldn (q := 2) (by decide +kernel) rfl) <|
  lfc (lok_aldn (q := 0) (by decide +kernel) rfl) <|
  lfc (lok_ild (by decide +kernel)) <|
  lfc (lok_iconst (n := 1) (by decide +kernel) (by decide +kernel)) <|
  lfc (lok_iadd (by decide +kernel)) <|
  lfc (lok_sld (by decide +kernel)) <|
  lfc (lok_cv mk_X12_criers ⟨uw984, uw985, uw986, uw5, by decide +kernel⟩ (T := TX12) (N := 47) rfl (by decide +kernel)) <|
  lfc (lok_iceq (off := 498) (by decide +kernel) (by decide)) <|
  lfc (lok_iconst (n := 0) (by decide +kernel) (by decide +kernel)) <| lfn
def T_c29 (X : LX) : List (Nat × Op) := [(1031, op_ald 1 1), (1032, op_cv M_X11_line 11 0), (1035, op_ald 2 1), (1036, op_cv M_X12_line 12 0), (1039, op_iceq 1524), (1042, op_ic 0 1)]
set_option maxRecDepth 20000 in
theorem K_c29 (X : LX) : ∀ r ∈ T_c29 X, LOK X r.1 r.2 :=
  lfc (lok_aldn (q := 1) (by decide +kernel) rfl) <|
  lfc (lok_cv mk_X11_line ⟨uw988, uw989, uw990, uw2, by decide +kernel⟩ (T := TX11) (N := 13) rfl (by decide +kernel)) <|
  lfc (lok_aldn (q := 2) (by decide +kernel) rfl) <|
  lfc (lok_cv mk_X12_line ⟨uw997, uw998, uw999, uw5, by decide +kernel⟩ (T := TX12) (N := 47) rfl (by decide +kernel)) <|
  lfc (lok_iceq (off := 485) (by decide +kernel) (by decide)) <|
  lfc (lok_iconst (n := 0) (by decide +kernel) (by decide +kernel)) <| lfn
def T_c30 (X : LX) : List (Nat × Op) := [(1044, op_ald 1 1), (1045, op_cv M_X11_rich 11 0), (1048, op_ald 2 1), (1049, op_cv M_X12_rich 12 0), (1052, op_iceq 1524), (1055, op_ic 0 1)]
set_option maxRecDepth 20000 in
theorem K_c30 (X : LX) : ∀ r ∈ T_c30 X, LOK X r.1 r.2 :=
  lfc (lok_aldn (q := 1) (by decide +kernel) rfl) <|
  lfc (lok_cv mk_X11_rich ⟨uw1005, uw1006, uw1007, uw2, by decide +kernel⟩ (T := TX11) (N := 13) rfl (by decide +kernel)) <|
  lfc (lok_aldn (q := 2) (by decide +kernel) rfl) <|
  lfc (lok_cv mk_X12_rich ⟨uw1016, uw1017, uw1018, uw5, by decide +kernel⟩ (T := TX12) (N := 47) rfl (by decide +kernel)) <|
  lfc (lok_iceq (off := 472) (by decide +kernel) (by decide)) <|
  lfc (lok_iconst (n := 0) (by decide +kernel) (by decide +kernel)) <| lfn
def T_c31 (X : LX) : List (Nat × Op) := [(1057, op_ald 1 1), (1058, op_ald 0 1), (1059, op_ild 4 2), (1061, op_ic 1 1), (1062, op_iadd), (1063, op_sld X), (1064, op_ald 0 1), (1065, op_ild 4 2), (1067, op_ic 2 1), (1068, op_iadd), (1069, op_sld X), (1070, op_cv M_X11_heard 11 2), (1073, op_ald 2 1), (1074, op_ald 0 1), (1075, op_ild 4 2), (1077, op_ic 1 1), (1078, op_iadd), (1079, op_sld X), (1080, op_ald 0 1), (1081, op_ild 4 2), (1083, op_ic 2 1), (1084, op_iadd), (1085, op_sld X), (1086, op_cv M_X12_heard 12 2), (1089, op_iceq 1524), (1092, op_ic 0 1)]
set_option maxRecDepth 20000 in
theorem K_c31 (X : LX) : ∀ r ∈ T_c31 X, LOK X r.1 r.2 :=
  lfc (lok_aldn (q := 1) (by decide +kernel) rfl) <|
  lfc (lok_aldn (q := 0) (by decide +kernel) rfl) <|
  lfc (lok_ild (by decide +kernel)) <|
  lfc (lok_iconst (n := 1) (by decide +kernel) (by decide +kernel)) <|
  lfc (lok_iadd (by decide +kernel)) <|
  lfc (lok_sld (by decide +kernel)) <|
  lfc (lok_aldn (q := 0) (by decide +kernel) rfl) <|
  lfc (lok_ild (by decide +kernel)) <|
  lfc (lok_iconst (n := 2) (by decide +kernel) (by decide +kernel)) <|
  lfc (lok_iadd (by decide +kernel)) <|
  lfc (lok_sld (by decide +kernel)) <|
  lfc (lok_cv mk_X11_heard ⟨uw1020, uw1021, uw1022, uw2, by decide +kernel⟩ (T := TX11) (N := 13) rfl (by decide +kernel)) <|
  lfc (lok_aldn (q := 2) (by decide +kernel) rfl) <|
  lfc (lok_aldn (q := 0) (by decide +kernel) rfl) <|
  lfc (lok_ild (by decide +kernel)) <|
  lfc (lok_iconst (n := 1) (by decide +kernel) (by decide +kernel)) <|
  lfc (lok_iadd (by decide +kernel)) <|
  lfc (lok_sld (by decide +kernel)) <|
  lfc (lok_aldn (q := 0) (by decide +kernel) rfl) <|
  lfc (lok_ild (by decide +kernel)) <|
  lfc (lok_iconst (n := 2) (by decide +kernel) (by decide +kernel)) <|
  lfc (lok_iadd (by decide +kernel)) <|
  lfc (lok_sld (by decide +kernel)) <|
  lfc (lok_cv mk_X12_heard ⟨uw1033, uw1034, uw1035, uw5, by decide +kernel⟩ (T := TX12) (N := 47) rfl (by decide +kernel)) <|
  lfc (lok_iceq (off := 435) (by decide +kernel) (by decide)) <|
  lfc (lok_iconst (n := 0) (by decide +kernel) (by decide +kernel)) <| lfn
def T_c32 (X : LX) : List (Nat × Op) := [(1094, op_ald 1 1), (1095, op_cv M_X11_forget 11 0), (1098, op_ald 2 1), (1099, op_cv M_X12_forget 12 0), (1102, op_iceq 1524), (1105, op_ic 0 1)]
set_option maxRecDepth 20000 in
theorem K_c32 (X : LX) : ∀ r ∈ T_c32 X, LOK X r.1 r.2 :=
  lfc (lok_aldn (q := 1) (by decide +kernel) rfl) <|
  lfc (lok_cv mk_X11_forget ⟨uw1038, uw1039, uw1040, uw2, by decide +kernel⟩ (T := TX11) (N := 13) rfl (by decide +kernel)) <|
  lfc (lok_aldn (q := 2) (by decide +kernel) rfl) <|
  lfc (lok_cv mk_X12_forget ⟨uw1042, uw1043, uw1044, uw5, by decide +kernel⟩ (T := TX12) (N := 47) rfl (by decide +kernel)) <|
  lfc (lok_iceq (off := 422) (by decide +kernel) (by decide)) <|
  lfc (lok_iconst (n := 0) (by decide +kernel) (by decide +kernel)) <| lfn
def T_c33 (X : LX) : List (Nat × Op) := [(1107, op_ald 1 1), (1108, op_cv M_X11_fits 11 0), (1111, op_ald 2 1), (1112, op_cv M_X12_fits_ 12 0), (1115, op_iceq 1524), (1118, op_ic 0 1)]
set_option maxRecDepth 20000 in
theorem K_c33 (X : LX) : ∀ r ∈ T_c33 X, LOK X r.1 r.2 :=
  lfc (lok_aldn (q := 1) (by decide +kernel) rfl) <|
  lfc (lok_cv mk_X11_fits ⟨uw1046, uw1047, uw1048, uw2, by decide +kernel⟩ (T := TX11) (N := 13) rfl (by decide +kernel)) <|
  lfc (lok_aldn (q := 2) (by decide +kernel) rfl) <|
  lfc (lok_cv mk_X12_fits_ ⟨uw1064, uw1065, uw1066, uw5, by decide +kernel⟩ (T := TX12) (N := 47) rfl (by decide +kernel)) <|
  lfc (lok_iceq (off := 409) (by decide +kernel) (by decide)) <|
  lfc (lok_iconst (n := 0) (by decide +kernel) (by decide +kernel)) <| lfn
def T_c34 (X : LX) : List (Nat × Op) := [(1120, op_ald 1 1), (1121, op_cv M_X11_asks 11 0), (1124, op_ald 2 1), (1125, op_cv M_X12_asks 12 0), (1128, op_iceq 1524), (1131, op_ic 0 1)]
set_option maxRecDepth 20000 in
theorem K_c34 (X : LX) : ∀ r ∈ T_c34 X, LOK X r.1 r.2 :=
  lfc (lok_aldn (q := 1) (by decide +kernel) rfl) <|
  lfc (lok_cv mk_X11_asks ⟨uw1076, uw1077, uw1078, uw2, by decide +kernel⟩ (T := TX11) (N := 13) rfl (by decide +kernel)) <|
  lfc (lok_aldn (q := 2) (by decide +kernel) rfl) <|
  lfc (lok_cv mk_X12_asks ⟨uw1088, uw1089, uw1090, uw5, by decide +kernel⟩ (T := TX12) (N := 47) rfl (by decide +kernel)) <|
  lfc (lok_iceq (off := 396) (by decide +kernel) (by decide)) <|
  lfc (lok_iconst (n := 0) (by decide +kernel) (by decide +kernel)) <| lfn
def T_c35 (X : LX) : List (Nat × Op) := [(1133, op_ald 1 1), (1134, op_ald 0 1), (1135, op_ild 4 2), (1137, op_ic 1 1), (1138, op_iadd), (1139, op_sld X), (1140, op_ald 0 1), (1141, op_ild 4 2), (1143, op_ic 2 1), (1144, op_iadd), (1145, op_sld X), (1146, op_ald 0 1), (1147, op_ild 4 2), (1149, op_ic 3 1), (1150, op_iadd), (1151, op_sld X), (1152, op_cv M_X11_saw 11 3), (1155, op_ald 2 1), (1156, op_ald 0 1), (1157, op_ild 4 2), (1159, op_ic 1 1), (1160, op_iadd), (1161, op_sld X), (1162, op_ald 0 1), (1163, op_ild 4 2), (1165, op_ic 2 1), (1166, op_iadd), (1167, op_sld X), (1168, op_ald 0 1), (1169, op_ild 4 2), (1171, op_ic 3 1), (1172, op_iadd), (1173, op_sld X), (1174, op_cv M_X12_saw 12 3), (1177, op_iceq 1524), (1180, op_ic 0 1)]
set_option maxRecDepth 20000 in
theorem K_c35 (X : LX) : ∀ r ∈ T_c35 X, LOK X r.1 r.2 :=
  lfc (lok_aldn (q := 1) (by decide +kernel) rfl) <|
  lfc (lok_aldn (q := 0) (by decide +kernel) rfl) <|
  lfc (lok_ild (by decide +kernel)) <|
  lfc (lok_iconst (n := 1) (by decide +kernel) (by decide +kernel)) <|
  lfc (lok_iadd (by decide +kernel)) <|
  lfc (lok_sld (by decide +kernel)) <|
  lfc (lok_aldn (q := 0) (by decide +kernel) rfl) <|
  lfc (lok_ild (by decide +kernel)) <|
  lfc (lok_iconst (n := 2) (by decide +kernel) (by decide +kernel)) <|
  lfc (lok_iadd (by decide +kernel)) <|
  lfc (lok_sld (by decide +kernel)) <|
  lfc (lok_aldn (q := 0) (by decide +kernel) rfl) <|
  lfc (lok_ild (by decide +kernel)) <|
  lfc (lok_iconst (n := 3) (by decide +kernel) (by decide +kernel)) <|
  lfc (lok_iadd (by decide +kernel)) <|
  lfc (lok_sld (by decide +kernel)) <|
  lfc (lok_cv mk_X11_saw ⟨uw1092, uw1093, uw1094, uw2, by decide +kernel⟩ (T := TX11) (N := 13) rfl (by decide +kernel)) <|
  lfc (lok_aldn (q := 2) (by decide +kernel) rfl) <|
  lfc (lok_aldn (q := 0) (by decide +kernel) rfl) <|
  lfc (lok_ild (by decide +kernel)) <|
  lfc (lok_iconst (n := 1) (by decide +kernel) (by decide +kernel)) <|
  lfc (lok_iadd (by decide +kernel)) <|
  lfc (lok_sld (by decide +kernel)) <|
  lfc (lok_aldn (q := 0) (by decide +kernel) rfl) <|
  lfc (lok_ild (by decide +kernel)) <|
  lfc (lok_iconst (n := 2) (by decide +kernel) (by decide +kernel)) <|
  lfc (lok_iadd (by decide +kernel)) <|
  lfc (lok_sld (by decide +kernel)) <|
  lfc (lok_aldn (q := 0) (by decide +kernel) rfl) <|
  lfc (lok_ild (by decide +kernel)) <|
  lfc (lok_iconst (n := 3) (by decide +kernel) (by decide +kernel)) <|
  lfc (lok_iadd (by decide +kernel)) <|
  lfc (lok_sld (by decide +kernel)) <|
  lfc (lok_cv mk_X12_saw ⟨uw1102, uw1103, uw1104, uw5, by decide +kernel⟩ (T := TX12) (N := 47) rfl (by decide +kernel)) <|
  lfc (lok_iceq (off := 347) (by decide +kernel) (by decide)) <|
  lfc (lok_iconst (n := 0) (by decide +kernel) (by decide +kernel)) <| lfn
def T_c36 (X : LX) : List (Nat × Op) := [(1182, op_ald 1 1), (1183, op_cv M_X11_denies 11 0), (1186, op_ald 2 1), (1187, op_cv M_X12_denies 12 0), (1190, op_iceq 1524), (1193, op_ic 0 1)]
set_option maxRecDepth 20000 in
theorem K_c36 (X : LX) : ∀ r ∈ T_c36 X, LOK X r.1 r.2 :=
  lfc (lok_aldn (q := 1) (by decide +kernel) rfl) <|
  lfc (lok_cv mk_X11_denies ⟨uw1107, uw1108, uw1109, uw2, by decide +kernel⟩ (T := TX11) (N := 13) rfl (by decide +kernel)) <|
  lfc (lok_aldn (q := 2) (by decide +kernel) rfl) <|
  lfc (lok_cv mk_X12_denies ⟨uw1111, uw1112, uw1113, uw5, by decide +kernel⟩ (T := TX12) (N := 47) rfl (by decide +kernel)) <|
  lfc (lok_iceq (off := 334) (by decide +kernel) (by decide)) <|
  lfc (lok_iconst (n := 0) (by decide +kernel) (by decide +kernel)) <| lfn
def T_c37 (X : LX) : List (Nat × Op) := [(1195, op_ald 1 1), (1196, op_cv M_X11_laws 11 0), (1199, op_ald 2 1), (1200, op_cv M_X12_laws 12 0), (1203, op_iceq 1524), (1206, op_ic 0 1)]
set_option maxRecDepth 20000 in
theorem K_c37 (X : LX) : ∀ r ∈ T_c37 X, LOK X r.1 r.2 :=
  lfc (lok_aldn (q := 1) (by decide +kernel) rfl) <|
  lfc (lok_cv mk_X11_laws ⟨uw1115, uw1116, uw1117, uw2, by decide +kernel⟩ (T := TX11) (N := 13) rfl (by decide +kernel)) <|
  lfc (lok_aldn (q := 2) (by decide +kernel) rfl) <|
  lfc (lok_cv mk_X12_laws ⟨uw1133, uw1134, uw1135, uw5, by decide +kernel⟩ (T := TX12) (N := 47) rfl (by decide +kernel)) <|
  lfc (lok_iceq (off := 321) (by decide +kernel) (by decide)) <|
  lfc (lok_iconst (n := 0) (by decide +kernel) (by decide +kernel)) <| lfn
def T_c38 (X : LX) : List (Nat × Op) := [(1208, op_ald 1 1), (1209, op_cv M_X11_tries 11 0), (1212, op_ald 2 1), (1213, op_cv M_X12_tries 12 0), (1216, op_iceq 1524), (1219, op_ic 0 1)]
set_option maxRecDepth 20000 in
theorem K_c38 (X : LX) : ∀ r ∈ T_c38 X, LOK X r.1 r.2 :=
  lfc (lok_aldn (q := 1) (by decide +kernel) rfl) <|
  lfc (lok_cv mk_X11_tries ⟨uw1144, uw1145, uw1146, uw2, by decide +kernel⟩ (T := TX11) (N := 13) rfl (by decide +kernel)) <|
  lfc (lok_aldn (q := 2) (by decide +kernel) rfl) <|
  lfc (lok_cv mk_X12_tries ⟨uw1152, uw1153, uw1154, uw5, by decide +kernel⟩ (T := TX12) (N := 47) rfl (by decide +kernel)) <|
  lfc (lok_iceq (off := 308) (by decide +kernel) (by decide)) <|
  lfc (lok_iconst (n := 0) (by decide +kernel) (by decide +kernel)) <| lfn
def T_c39 (X : LX) : List (Nat × Op) := [(1221, op_ald 1 1), (1222, op_ald 0 1), (1223, op_ild 4 2), (1225, op_ic 1 1), (1226, op_iadd), (1227, op_sld X), (1228, op_ald 0 1), (1229, op_ild 4 2), (1231, op_ic 2 1), (1232, op_iadd), (1233, op_sld X), (1234, op_ald 0 1), (1235, op_ild 4 2), (1237, op_ic 3 1), (1238, op_iadd), (1239, op_sld X), (1240, op_ald 0 1), (1241, op_ild 4 2), (1243, op_ic 4 1), (1244, op_iadd), (1245, op_sld X), (1246, op_cv M_X11_walks 11 4), (1249, op_ald 2 1), (1250, op_ald 0 1), (1251, op_ild 4 2), (1253, op_ic 1 1), (1254, op_iadd), (1255, op_sld X), (1256, op_ald 0 1), (1257, op_ild 4 2), (1259, op_ic 2 1), (1260, op_iadd), (1261, op_sld X), (1262, op_ald 0 1), (1263, op_ild 4 2), (1265, op_ic 3 1), (1266, op_iadd), (1267, op_sld X), (1268, op_ald 0 1), (1269, op_ild 4 2), (1271, op_ic 4 1), (1272, op_iadd), (1273, op_sld X), (1274, op_cv M_X12_walks 12 4), (1277, op_iceq 1524), (1280, op_ic 0 1)]
set_option maxRecDepth 20000 in
theorem K_c39 (X : LX) : ∀ r ∈ T_c39 X, LOK X r.1 r.2 :=
  lfc (lok_aldn (q := 1) (by decide +kernel) rfl) <|
  lfc (lok_aldn (q := 0) (by decide +kernel) rfl) <|
  lfc (lok_ild (by decide +kernel)) <|
  lfc (lok_iconst (n := 1) (by decide +kernel) (by decide +kernel)) <|
  lfc (lok_iadd (by decide +kernel)) <|
  lfc (lok_sld (by decide +kernel)) <|
  lfc (lok_aldn (q := 0) (by decide +kernel) rfl) <|
  lfc (lok_ild (by decide +kernel)) <|
  lfc (lok_iconst (n := 2) (by decide +kernel) (by decide +kernel)) <|
  lfc (lok_iadd (by decide +kernel)) <|
  lfc (lok_sld (by decide +kernel)) <|
  lfc (lok_aldn (q := 0) (by decide +kernel) rfl) <|
  lfc (lok_ild (by decide +kernel)) <|
  lfc (lok_iconst (n := 3) (by decide +kernel) (by decide +kernel)) <|
  lfc (lok_iadd (by decide +kernel)) <|
  lfc (lok_sld (by decide +kernel)) <|
  lfc (lok_aldn (q := 0) (by decide +kernel) rfl) <|
  lfc (lok_ild (by decide +kernel)) <|
  lfc (lok_iconst (n := 4) (by decide +kernel) (by decide +kernel)) <|
  lfc (lok_iadd (by decide +kernel)) <|
  lfc (lok_sld (by decide +kernel)) <|
  lfc (lok_cv mk_X11_walks ⟨uw1156, uw1157, uw1158, uw2, by decide +kernel⟩ (T := TX11) (N := 13) rfl (by decide +kernel)) <|
  lfc (lok_aldn (q := 2) (by decide +kernel) rfl) <|
  lfc (lok_aldn (q := 0) (by decide +kernel) rfl) <|
  lfc (lok_ild (by decide +kernel)) <|
  lfc (lok_iconst (n := 1) (by decide +kernel) (by decide +kernel)) <|
  lfc (lok_iadd (by decide +kernel)) <|
  lfc (lok_sld (by decide +kernel)) <|
  lfc (lok_aldn (q := 0) (by decide +kernel) rfl) <|
  lfc (lok_ild (by decide +kernel)) <|
  lfc (lok_iconst (n := 2) (by decide +kernel) (by decide +kernel)) <|
  lfc (lok_iadd (by decide +kernel)) <|
  lfc (lok_sld (by decide +kernel)) <|
  lfc (lok_aldn (q := 0) (by decide +kernel) rfl) <|
  lfc (lok_ild (by decide +kernel)) <|
  lfc (lok_iconst (n := 3) (by decide +kernel) (by decide +kernel)) <|
  lfc (lok_iadd (by decide +kernel)) <|
  lfc (lok_sld (by decide +kernel)) <|
  lfc (lok_aldn (q := 0) (by decide +kernel) rfl) <|
  lfc (lok_ild (by decide +kernel)) <|
  lfc (lok_iconst (n := 4) (by decide +kernel) (by decide +kernel)) <|
  lfc (lok_iadd (by decide +kernel)) <|
  lfc (lok_sld (by decide +kernel)) <|
  lfc (lok_cv mk_X12_walks ⟨uw1171, uw1172, uw1173, uw5, by decide +kernel⟩ (T := TX12) (N := 47) rfl (by decide +kernel)) <|
  lfc (lok_iceq (off := 247) (by decide +kernel) (by decide)) <|
  lfc (lok_iconst (n := 0) (by decide +kernel) (by decide +kernel)) <| lfn
def T_c40 (X : LX) : List (Nat × Op) := [(1282, op_ald 1 1), (1283, op_ald 0 1), (1284, op_ild 4 2), (1286, op_ic 1 1), (1287, op_iadd), (1288, op_sld X), (1289, op_ald 0 1), (1290, op_ild 4 2), (1292, op_ic 2 1), (1293, op_iadd), (1294, op_sld X), (1295, op_cv M_X11_hush 11 2), (1298, op_ald 2 1), (1299, op_ald 0 1), (1300, op_ild 4 2), (1302, op_ic 1 1), (1303, op_iadd), (1304, op_sld X), (1305, op_ald 0 1), (1306, op_ild 4 2), (1308, op_ic 2 1), (1309, op_iadd), (1310, op_sld X), (1311, op_cv M_X12_hush 12 2), (1314, op_iceq 1524), (1317, op_ic 0 1)]
set_option maxRecDepth 20000 in
theorem K_c40 (X : LX) : ∀ r ∈ T_c40 X, LOK X r.1 r.2 :=
  lfc (lok_aldn (q := 1) (by decide +kernel) rfl) <|
  lfc (lok_aldn (q := 0) (by decide +kernel) rfl) <|
  lfc (lok_ild (by decide +kernel)) <|
  lfc (lok_iconst (n := 1) (by decide +kernel) (by decide +kernel)) <|
  lfc (lok_iadd (by decide +kernel)) <|
  lfc (lok_sld (by decide +kernel)) <|
  lfc (lok_aldn (q := 0) (by decide +kernel) rfl) <|
  lfc (lok_ild (by decide +kernel)) <|
  lfc (lok_iconst (n := 2) (by decide +kernel) (by decide +kernel)) <|
  lfc (lok_iadd (by decide +kernel)) <|
  lfc (lok_sld (by decide +kernel)) <|
  lfc (lok_cv mk_X11_hush ⟨uw1179, uw1180, uw1181, uw2, by decide +kernel⟩ (T := TX11) (N := 13) rfl (by decide +kernel)) <|
  lfc (lok_aldn (q := 2) (by decide +kernel) rfl) <|
  lfc (lok_aldn (q := 0) (by decide +kernel) rfl) <|
  lfc (lok_ild (by decide +kernel)) <|
  lfc (lok_iconst (n := 1) (by decide +kernel) (by decide +kernel)) <|
  lfc (lok_iadd (by decide +kernel)) <|
  lfc (lok_sld (by decide +kernel)) <|
  lfc (lok_aldn (q := 0) (by decide +kernel) rfl) <|
  lfc (lok_ild (by decide +kernel)) <|
  lfc (lok_iconst (n := 2) (by decide +kernel) (by decide +kernel)) <|
  lfc (lok_iadd (by decide +kernel)) <|
  lfc (lok_sld (by decide +kernel)) <|
  lfc (lok_cv mk_X12_hush ⟨uw1198, uw1199, uw1200, uw5, by decide +kernel⟩ (T := TX12) (N := 47) rfl (by decide +kernel)) <|
  lfc (lok_iceq (off := 210) (by decide +kernel) (by decide)) <|
  lfc (lok_iconst (n := 0) (by decide +kernel) (by decide +kernel)) <| lfn
def T_c41 (X : LX) : List (Nat × Op) := [(1319, op_ald 1 1), (1320, op_ald 0 1), (1321, op_ild 4 2), (1323, op_ic 1 1), (1324, op_iadd), (1325, op_sld X), (1326, op_cv M_X11_rests 11 1), (1329, op_ald 2 1), (1330, op_ald 0 1), (1331, op_ild 4 2), (1333, op_ic 1 1), (1334, op_iadd), (1335, op_sld X), (1336, op_cv M_X12_rests 12 1), (1339, op_iceq 1524), (1342, op_ic 0 1)]
set_option maxRecDepth 20000 in
theorem K_c41 (X : LX) : ∀ r ∈ T_c41 X, LOK X r.1 r.2 :=
  lfc (lok_aldn (q := 1) (by decide +kernel) rfl) <|
  lfc (lok_aldn (q := 0) (by decide +kernel) rfl) <|
  lfc (lok_ild (by decide +kernel)) <|
  lfc (lok_iconst (n := 1) (by decide +kernel) (by decide +kernel)) <|
  lfc (lok_iadd (by decide +kernel)) <|
  lfc (lok_sld (by decide +kernel)) <|
  lfc (lok_cv mk_X11_rests ⟨uw1206, uw1207, uw1208, uw2, by decide +kernel⟩ (T := TX11) (N := 13) rfl (by decide +kernel)) <|
  lfc (lok_aldn (q := 2) (by decide +kernel) rfl) <|
  lfc (lok_aldn (q := 0) (by decide +kernel) rfl) <|
  lfc (lok_ild (by decide +kernel)) <|
  lfc (lok_iconst (n := 1) (by decide +kernel) (by decide +kernel)) <|
  lfc (lok_iadd (by decide +kernel)) <|
  lfc (lok_sld (by decide +kernel)) <|
  lfc (lok_cv mk_X12_rests ⟨uw1221, uw1222, uw1223, uw5, by decide +kernel⟩ (T := TX12) (N := 47) rfl (by decide +kernel)) <|
  lfc (lok_iceq (off := 185) (by decide +kernel) (by decide)) <|
  lfc (lok_iconst (n := 0) (by decide +kernel) (by decide +kernel)) <| lfn
def T_c42 (X : LX) : List (Nat × Op) := [(1344, op_ald 1 1), (1345, op_cv M_X11_law 11 0), (1348, op_ald 2 1), (1349, op_cv M_X12_law 12 0), (1352, op_iceq 1524), (1355, op_ic 0 1)]
set_option maxRecDepth 20000 in
theorem K_c42 (X : LX) : ∀ r ∈ T_c42 X, LOK X r.1 r.2 :=
  lfc (lok_aldn (q := 1) (by decide +kernel) rfl) <|
  lfc (lok_cv mk_X11_law ⟨uw1231, uw1232, uw1233, uw2, by decide +kernel⟩ (T := TX11) (N := 13) rfl (by decide +kernel)) <|
  lfc (lok_aldn (q := 2) (by decide +kernel) rfl) <|
  lfc (lok_cv mk_X12_law ⟨uw1241, uw1242, uw1243, uw5, by decide +kernel⟩ (T := TX12) (N := 47) rfl (by decide +kernel)) <|
  lfc (lok_iceq (off := 172) (by decide +kernel) (by decide)) <|
  lfc (lok_iconst (n := 0) (by decide +kernel) (by decide +kernel)) <| lfn
def T_c43 (X : LX) : List (Nat × Op) := [(1357, op_ald 1 1), (1358, op_ald 0 1), (1359, op_ild 4 2), (1361, op_ic 1 1), (1362, op_iadd), (1363, op_sld X), (1364, op_ald 0 1), (1365, op_ild 4 2), (1367, op_ic 2 1), (1368, op_iadd), (1369, op_sld X), (1370, op_cv M_X11_years 11 2), (1373, op_ald 2 1), (1374, op_ald 0 1), (1375, op_ild 4 2), (1377, op_ic 1 1), (1378, op_iadd), (1379, op_sld X), (1380, op_ald 0 1), (1381, op_ild 4 2), (1383, op_ic 2 1), (1384, op_iadd), (1385, op_sld X), (1386, op_cv M_X12_years 12 2), (1389, op_iceq 1524), (1392, op_ic 0 1)]
set_option maxRecDepth 20000 in
theorem K_c43 (X : LX) : ∀ r ∈ T_c43 X, LOK X r.1 r.2 :=
  lfc (lok_aldn (q := 1) (by decide +kernel) rfl) <|
  lfc (lok_aldn (q := 0) (by decide +kernel) rfl) <|
  lfc (lok_ild (by decide +kernel)) <|
  lfc (lok_iconst (n := 1) (by decide +kernel) (by decide +kernel)) <|
  lfc (lok_iadd (by decide +kernel)) <|
  lfc (lok_sld (by decide +kernel)) <|
  lfc (lok_aldn (q := 0) (by decide +kernel) rfl) <|
  lfc (lok_ild (by decide +kernel)) <|
  lfc (lok_iconst (n := 2) (by decide +kernel) (by decide +kernel)) <|
  lfc (lok_iadd (by decide +kernel)) <|
  lfc (lok_sld (by decide +kernel)) <|
  lfc (lok_cv mk_X11_years ⟨uw1249, uw1250, uw1251, uw2, by decide +kernel⟩ (T := TX11) (N := 13) rfl (by decide +kernel)) <|
  lfc (lok_aldn (q := 2) (by decide +kernel) rfl) <|
  lfc (lok_aldn (q := 0) (by decide +kernel) rfl) <|
  lfc (lok_ild (by decide +kernel)) <|
  lfc (lok_iconst (n := 1) (by decide +kernel) (by decide +kernel)) <|
  lfc (lok_iadd (by decide +kernel)) <|
  lfc (lok_sld (by decide +kernel)) <|
  lfc (lok_aldn (q := 0) (by decide +kernel) rfl) <|
  lfc (lok_ild (by decide +kernel)) <|
  lfc (lok_iconst (n := 2) (by decide +kernel) (by decide +kernel)) <|
  lfc (lok_iadd (by decide +kernel)) <|
  lfc (lok_sld (by decide +kernel)) <|
  lfc (lok_cv mk_X12_years ⟨uw1264, uw1265, uw1266, uw5, by decide +kernel⟩ (T := TX12) (N := 47) rfl (by decide +kernel)) <|
  lfc (lok_iceq (off := 135) (by decide +kernel) (by decide)) <|
  lfc (lok_iconst (n := 0) (by decide +kernel) (by decide +kernel)) <| lfn
def T_c44 (X : LX) : List (Nat × Op) := [(1394, op_ald 1 1), (1395, op_ald 0 1), (1396, op_ild 4 2), (1398, op_ic 1 1), (1399, op_iadd), (1400, op_sld X), (1401, op_cv M_X11_keep 11 1), (1404, op_ald 2 1), (1405, op_ald 0 1), (1406, op_ild 4 2), (1408, op_ic 1 1), (1409, op_iadd), (1410, op_sld X), (1411, op_cv M_X12_keep 12 1), (1414, op_iceq 1524), (1417, op_ic 0 1)]
set_option maxRecDepth 20000 in
theorem K_c44 (X : LX) : ∀ r ∈ T_c44 X, LOK X r.1 r.2 :=
  lfc (lok_aldn (q := 1) (by decide +kernel) rfl) <|
  lfc (lok_aldn (q := 0) (by decide +kernel) rfl) <|
  lfc (lok_ild (by decide +kernel)) <|
  lfc (lok_iconst (n := 1) (by decide +kernel) (by decide +kernel)) <|
  lfc (lok_iadd (by decide +kernel)) <|
  lfc (lok_sld (by decide +kernel)) <|
  lfc (lok_cv mk_X11_keep ⟨uw1274, uw1275, uw1276, uw2, by decide +kernel⟩ (T := TX11) (N := 13) rfl (by decide +kernel)) <|
  lfc (lok_aldn (q := 2) (by decide +kernel) rfl) <|
  lfc (lok_aldn (q := 0) (by decide +kernel) rfl) <|
  lfc (lok_ild (by decide +kernel)) <|
  lfc (lok_iconst (n := 1) (by decide +kernel) (by decide +kernel)) <|
  lfc (lok_iadd (by decide +kernel)) <|
  lfc (lok_sld (by decide +kernel)) <|
  lfc (lok_cv mk_X12_keep ⟨uw1282, uw1283, uw1284, uw5, by decide +kernel⟩ (T := TX12) (N := 47) rfl (by decide +kernel)) <|
  lfc (lok_iceq (off := 110) (by decide +kernel) (by decide)) <|
  lfc (lok_iconst (n := 0) (by decide +kernel) (by decide +kernel)) <| lfn
def T_c45 (X : LX) : List (Nat × Op) := [(1419, op_ald 1 1), (1420, op_ald 0 1), (1421, op_ild 4 2), (1423, op_ic 1 1), (1424, op_iadd), (1425, op_sld X), (1426, op_cv M_X11_again 11 1), (1429, op_ald 2 1), (1430, op_ald 0 1), (1431, op_ild 4 2), (1433, op_ic 1 1), (1434, op_iadd), (1435, op_sld X), (1436, op_cv M_X12_again 12 1), (1439, op_iceq 1524), (1442, op_ic 0 1)]
set_option maxRecDepth 20000 in
theorem K_c45 (X : LX) : ∀ r ∈ T_c45 X, LOK X r.1 r.2 :=
  lfc (lok_aldn (q := 1) (by decide +kernel) rfl) <|
  lfc (lok_aldn (q := 0) (by decide +kernel) rfl) <|
  lfc (lok_ild (by decide +kernel)) <|
  lfc (lok_iconst (n := 1) (by decide +kernel) (by decide +kernel)) <|
  lfc (lok_iadd (by decide +kernel)) <|
  lfc (lok_sld (by decide +kernel)) <|
  lfc (lok_cv mk_X11_again ⟨uw1286, uw1287, uw1288, uw2, by decide +kernel⟩ (T := TX11) (N := 13) rfl (by decide +kernel)) <|
  lfc (lok_aldn (q := 2) (by decide +kernel) rfl) <|
  lfc (lok_aldn (q := 0) (by decide +kernel) rfl) <|
  lfc (lok_ild (by decide +kernel)) <|
  lfc (lok_iconst (n := 1) (by decide +kernel) (by decide +kernel)) <|
  lfc (lok_iadd (by decide +kernel)) <|
  lfc (lok_sld (by decide +kernel)) <|
  lfc (lok_cv mk_X12_again ⟨uw1294, uw1295, uw1296, uw5, by decide +kernel⟩ (T := TX12) (N := 47) rfl (by decide +kernel)) <|
  lfc (lok_iceq (off := 85) (by decide +kernel) (by decide)) <|
  lfc (lok_iconst (n := 0) (by decide +kernel) (by decide +kernel)) <| lfn
def T_c46 (X : LX) : List (Nat × Op) := [(1444, op_ald 1 1), (1445, op_ald 0 1), (1446, op_ild 4 2), (1448, op_ic 1 1), (1449, op_iadd), (1450, op_sld X), (1451, op_cv M_X11_count 11 1), (1454, op_ald 2 1), (1455, op_ald 0 1), (1456, op_ild 4 2), (1458, op_ic 1 1), (1459, op_iadd), (1460, op_sld X), (1461, op_cv M_X12_count 12 1), (1464, op_iceq 1524), (1467, op_ic 0 1)]
set_option maxRecDepth 20000 in
theorem K_c46 (X : LX) : ∀ r ∈ T_c46 X, LOK X r.1 r.2 :=
  lfc (lok_aldn (q := 1) (by decide +kernel) rfl) <|
  lfc (lok_aldn (q := 0) (by decide +kernel) rfl) <|
  lfc (lok_ild (by decide +kernel)) <|
  lfc (lok_iconst (n := 1) (by decide +kernel) (by decide +kernel)) <|
  lfc (lok_iadd (by decide +kernel)) <|
  lfc (lok_sld (by decide +kernel)) <|
  lfc (lok_cv mk_X11_count ⟨uw1298, uw1299, uw1300, uw2, by decide +kernel⟩ (T := TX11) (N := 13) rfl (by decide +kernel)) <|
  lfc (lok_aldn (q := 2) (by decide +kernel) rfl) <|
  lfc (lok_aldn (q := 0) (by decide +kernel) rfl) <|
  lfc (lok_ild (by decide +kernel)) <|
  lfc (lok_iconst (n := 1) (by decide +kernel) (by decide +kernel)) <|
  lfc (lok_iadd (by decide +kernel)) <|
  lfc (lok_sld (by decide +kernel)) <|
  lfc (lok_cv mk_X12_count ⟨uw1305, uw1306, uw1307, uw5, by decide +kernel⟩ (T := TX12) (N := 47) rfl (by decide +kernel)) <|
  lfc (lok_iceq (off := 60) (by decide +kernel) (by decide)) <|
  lfc (lok_iconst (n := 0) (by decide +kernel) (by decide +kernel)) <| lfn
def T_c47 (X : LX) : List (Nat × Op) := [(1469, op_ald 1 1), (1470, op_ald 0 1), (1471, op_ild 4 2), (1473, op_ic 1 1), (1474, op_iadd), (1475, op_sld X), (1476, op_ald 3 1), (1480, op_ist 5 2), (1482, op_ald 2 1), (1483, op_ald 0 1), (1484, op_ild 4 2), (1486, op_ic 1 1), (1487, op_iadd), (1488, op_sld X), (1489, op_cv M_X12_row 12 1), (1492, op_lst 6 2), (1494, op_ald 2 1), (1495, op_cv M_X12_thrown 12 0), (1498, op_ild 5 2), (1500, op_iceq 1505), (1503, op_ic 0 1), (1505, op_ild 5 2), (1507, op_ifne 1521), (1510, op_ald 3 1), (1511, op_ic 0 1), (1512, op_lald), (1513, op_lld 6 2), (1515, op_lcmp), (1516, op_ifeq 1521), (1519, op_ic 0 1), (1521, op_goto 1524)]
set_option maxRecDepth 20000 in
theorem K_c47 (X : LX) : ∀ r ∈ T_c47 X, LOK X r.1 r.2 :=
  lfc (lok_aldn (q := 1) (by decide +kernel) rfl) <|
  lfc (lok_aldn (q := 0) (by decide +kernel) rfl) <|
  lfc (lok_ild (by decide +kernel)) <|
  lfc (lok_iconst (n := 1) (by decide +kernel) (by decide +kernel)) <|
  lfc (lok_iadd (by decide +kernel)) <|
  lfc (lok_sld (by decide +kernel)) <|
  lfc (lok_aldn (q := 3) (by decide +kernel) rfl) <|
  lfc (lok_ist (by decide +kernel) (by decide)) <|
  lfc (lok_aldn (q := 2) (by decide +kernel) rfl) <|
  lfc (lok_aldn (q := 0) (by decide +kernel) rfl) <|
  lfc (lok_ild (by decide +kernel)) <|
  lfc (lok_iconst (n := 1) (by decide +kernel) (by decide +kernel)) <|
  lfc (lok_iadd (by decide +kernel)) <|
  lfc (lok_sld (by decide +kernel)) <|
  lfc (lok_cv mk_X12_row ⟨uw1321, uw1322, uw1323, uw5, by decide +kernel⟩ (T := TX12) (N := 47) rfl (by decide +kernel)) <|
  lfc (lok_lst (by decide +kernel) (by decide)) <|
  lfc (lok_aldn (q := 2) (by decide +kernel) rfl) <|
  lfc (lok_cv mk_X12_thrown ⟨uw467, uw468, uw469, uw5, by decide +kernel⟩ (T := TX12) (N := 47) rfl (by decide +kernel)) <|
  lfc (lok_ild (by decide +kernel)) <|
  lfc (lok_iceq (off := 5) (by decide +kernel) (by decide)) <|
  lfc (lok_iconst (n := 0) (by decide +kernel) (by decide +kernel)) <|
  lfc (lok_ild (by decide +kernel)) <|
  lfc (lok_ifne (off := 14) (by decide +kernel) (by decide)) <|
  lfc (lok_aldn (q := 3) (by decide +kernel) rfl) <|
  lfc (lok_iconst (n := 0) (by decide +kernel) (by decide +kernel)) <|
  lfc (lok_lald (by decide +kernel)) <|
  lfc (lok_lld (by decide +kernel)) <|
  lfc (lok_lcmp (by decide +kernel)) <|
  lfc (lok_ifeq (off := 5) (by decide +kernel) (by decide)) <|
  lfc (lok_iconst (n := 0) (by decide +kernel) (by decide +kernel)) <|
  lfc (lok_goto (off := 3) (by decide +kernel) (by decide)) <| lfn
def T_tl (X : LX) : List (Nat × Op) := [(1524, op_iinc 4 5), (1527, op_goto 23)]
set_option maxRecDepth 20000 in
theorem K_tl (X : LX) : ∀ r ∈ T_tl X, LOK X r.1 r.2 :=
  lfc (lok_iinc (n := 5) (by decide +kernel) (by decide +kernel) (by decide)) <|
  lfc (lok_goto (off := -1504) (by decide +kernel) (by decide)) <| lfn
