/-! THE LAW: what each of its calls asks of the two systems; its cases. Printed by program (wip/whole/mk_cases.py) -/
def zSt_feed (I : gW → Prop) : Prop := ∀ (a1 : Int32) (a2 : Int32) (a3 : Int32) (a4 : Int32) (a5 : Int32) (w : gW), I w → ∃ (r : Int32) (w1 w2 : gW), f_X_feed a1 a2 a3 a4 a5 w = some (r, w1) ∧ f_M_feed a1 a2 a3 a4 a5 w1 = some (r, w2) ∧ I w2
def zSt_end (I : gW → Prop) : Prop := ∀ (a1 : Int32) (w : gW), I w → ∃ (r : Int32) (w1 w2 : gW), f_X_end a1 w = some (r, w1) ∧ f_M_end a1 w1 = some (r, w2) ∧ I w2
def zSt_fault (I : gW → Prop) : Prop := ∀ (a1 : Int32) (w : gW), I w → ∃ (r : Int32) (w1 w2 : gW), f_X_fault a1 w = some (r, w1) ∧ f_M_fault a1 w1 = some (r, w2) ∧ I w2
def zSt_text (I : gW → Prop) : Prop := ∀ (a1 : Int32) (w : gW), I w → ∃ (r : Int32) (w1 w2 : gW), f_X_text a1 w = some (r, w1) ∧ f_M_text a1 w1 = some (r, w2) ∧ I w2
def zSt_swear (I : gW → Prop) : Prop := ∀ (a1 : Int32) (a2 : Int32) (a3 : Int32) (a4 : Int32) (w : gW), I w → ∃ (r : Int32) (w1 w2 : gW), f_X_swear a1 a2 a3 a4 w = some (r, w1) ∧ f_M_swear a1 a2 a3 a4 w1 = some (r, w2) ∧ I w2
def zSt_sworn (I : gW → Prop) : Prop := ∀ (a1 : Int32) (a2 : Int32) (w : gW), I w → ∃ (r : Int32) (w1 w2 : gW), f_X_sworn a1 a2 w = some (r, w1) ∧ f_M_sworn a1 a2 w1 = some (r, w2) ∧ I w2
def zSt_fact (I : gW → Prop) : Prop := ∀ (a1 : Int32) (a2 : Int32) (a3 : Int32) (hb3 : a3 = 0 ∨ a3 = 1) (w : gW), I w → ∃ (r : Int32) (w1 w2 : gW), f_X_fact a1 a2 a3 w = some (r, w1) ∧ f_M_fact a1 a2 a3 w1 = some (r, w2) ∧ I w2
def zSt_undo (I : gW → Prop) : Prop := ∀ (w : gW), I w → ∃ (r : Int32) (w1 w2 : gW), f_X_undo w = some (r, w1) ∧ f_M_undo w1 = some (r, w2) ∧ I w2
def zSt_lives (I : gW → Prop) : Prop := ∀ (a1 : Int32) (a2 : Int32) (hb1 : a1 = 0 ∨ a1 = 1) (w : gW), I w → ∃ (r : Int32) (w1 w2 : gW), f_X_lives a1 a2 w = some (r, w1) ∧ f_M_lives a1 a2 w1 = some (r, w2) ∧ I w2
def zSt_holds (I : gW → Prop) : Prop := ∀ (a1 : Int32) (a2 : Int32) (a3 : Int32) (w : gW), I w → ∃ (r : Int32) (w1 w2 : gW), f_X_holds a1 a2 a3 w = some (r, w1) ∧ f_M_holds a1 a2 a3 w1 = some (r, w2) ∧ I w2
def zSt_when (I : gW → Prop) : Prop := ∀ (a1 : Int32) (w : gW), I w → ∃ (r : Int32) (w1 w2 : gW), f_X_when a1 w = some (r, w1) ∧ f_M_when a1 w1 = some (r, w2) ∧ I w2
def zSt_breaks (I : gW → Prop) : Prop := ∀ (w : gW), I w → ∃ (r : Int32) (w1 w2 : gW), f_X_breaks w = some (r, w1) ∧ f_M_breaks w1 = some (r, w2) ∧ I w2
def zSt_clash (I : gW → Prop) : Prop := ∀ (w : gW), I w → ∃ (r : Int32) (w1 w2 : gW), f_X_clash w = some (r, w1) ∧ f_M_clash w1 = some (r, w2) ∧ I w2
def zSt_may (I : gW → Prop) : Prop := ∀ (a1 : Int32) (w : gW), I w → ∃ (r : Int32) (w1 w2 : gW), f_X_may a1 w = some (r, w1) ∧ f_M_may a1 w1 = some (r, w2) ∧ I w2
def zSt_most (I : gW → Prop) : Prop := ∀ (a1 : Int32) (a2 : Int32) (w : gW), I w → ∃ (r : Int32) (w1 w2 : gW), f_X_most a1 a2 w = some (r, w1) ∧ f_M_most a1 a2 w1 = some (r, w2) ∧ I w2
def zSt_hinders (I : gW → Prop) : Prop := ∀ (a1 : Int32) (w : gW), I w → ∃ (r : Int32) (w1 w2 : gW), f_X_hinders a1 w = some (r, w1) ∧ f_M_hinders a1 w1 = some (r, w2) ∧ I w2
def zSt_must (I : gW → Prop) : Prop := ∀ (a1 : Int32) (w : gW), I w → ∃ (r : Int32) (w1 w2 : gW), f_X_must a1 w = some (r, w1) ∧ f_M_must a1 w1 = some (r, w2) ∧ I w2
def zSt_care (I : gW → Prop) : Prop := ∀ (a1 : Int32) (a2 : Int32) (a3 : Int32) (w : gW), I w → ∃ (r : Int32) (w1 w2 : gW), f_X_care a1 a2 a3 w = some (r, w1) ∧ f_M_care a1 a2 a3 w1 = some (r, w2) ∧ I w2
def zSt_perjured (I : gW → Prop) : Prop := ∀ (a1 : Int32) (w : gW), I w → ∃ (r : Int32) (w1 w2 : gW), f_X_perjured a1 w = some (r, w1) ∧ f_M_perjured a1 w1 = some (r, w2) ∧ I w2
def zSt_guilt (I : gW → Prop) : Prop := ∀ (a1 : Int32) (w : gW), I w → ∃ (r : Int32) (w1 w2 : gW), f_X_guilt a1 w = some (r, w1) ∧ f_M_guilt a1 w1 = some (r, w2) ∧ I w2
def zSt_blame (I : gW → Prop) : Prop := ∀ (a1 : Int32) (w : gW), I w → ∃ (r : Int32) (w1 w2 : gW), f_X_blame a1 w = some (r, w1) ∧ f_M_blame a1 w1 = some (r, w2) ∧ I w2
def zSt_worth (I : gW → Prop) : Prop := ∀ (a1 : Int32) (a2 : Int32) (a3 : Int32) (a4 : Int32) (hb4 : a4 = 0 ∨ a4 = 1) (w : gW), I w → ∃ (r : Int32) (w1 w2 : gW), f_X_worth a1 a2 a3 a4 w = some (r, w1) ∧ f_M_worth a1 a2 a3 a4 w1 = some (r, w2) ∧ I w2
def zSt_weigh (I : gW → Prop) : Prop := ∀ (a1 : Int32) (a2 : Int32) (a3 : Int32) (w : gW), I w → ∃ (r : Int32) (w1 w2 : gW), f_X_weigh a1 a2 a3 w = some (r, w1) ∧ f_M_weigh a1 a2 a3 w1 = some (r, w2) ∧ I w2
def zSt_odds (I : gW → Prop) : Prop := ∀ (a1 : Int32) (a2 : Int32) (a3 : Int32) (w : gW), I w → ∃ (r : Int64) (w1 w2 : gW), f_X_odds a1 a2 a3 w = some (r, w1) ∧ f_M_odds a1 a2 a3 w1 = some (r, w2) ∧ I w2
def zSt_question (I : gW → Prop) : Prop := ∀ (a1 : Int32) (w : gW), I w → ∃ (r : Int32) (w1 w2 : gW), f_X_question a1 w = some (r, w1) ∧ f_M_question a1 w1 = some (r, w2) ∧ I w2
def zSt_settled (I : gW → Prop) : Prop := ∀ (a1 : Int32) (a2 : Int32) (w : gW), I w → ∃ (r : Int32) (w1 w2 : gW), f_X_settled a1 a2 w = some (r, w1) ∧ f_M_settled a1 a2 w1 = some (r, w2) ∧ I w2
def zSt_rings (I : gW → Prop) : Prop := ∀ (a1 : Int32) (a2 : Int32) (w : gW), I w → ∃ (r : Int32) (w1 w2 : gW), f_X_rings a1 a2 w = some (r, w1) ∧ f_M_rings a1 a2 w1 = some (r, w2) ∧ I w2
def zSt_fall (I : gW → Prop) : Prop := ∀ (a1 : Int32) (w : gW), I w → ∃ (r : Int32) (w1 w2 : gW), f_X_fall a1 w = some (r, w1) ∧ f_M_fall a1 w1 = some (r, w2) ∧ I w2
def zSt_stake (I : gW → Prop) : Prop := ∀ (a1 : Int32) (a2 : Int32) (w : gW), I w → ∃ (r : Int32) (w1 w2 : gW), f_X_stake a1 a2 w = some (r, w1) ∧ f_M_stake a1 a2 w1 = some (r, w2) ∧ I w2
def zSt_duel (I : gW → Prop) : Prop := ∀ (a1 : Int32) (a2 : Int32) (a3 : Int32) (w : gW), I w → ∃ (r : Int32) (w1 w2 : gW), f_X_duel a1 a2 a3 w = some (r, w1) ∧ f_M_duel a1 a2 a3 w1 = some (r, w2) ∧ I w2
def zSt_bait (I : gW → Prop) : Prop := ∀ (a1 : Int32) (a2 : Int32) (w : gW), I w → ∃ (r : Int32) (w1 w2 : gW), f_X_bait a1 a2 w = some (r, w1) ∧ f_M_bait a1 a2 w1 = some (r, w2) ∧ I w2
def zSt_plan (I : gW → Prop) : Prop := ∀ (a1 : Int32) (a2 : Int32) (a3 : Int32) (w : gW), I w → ∃ (r : Int32) (w1 w2 : gW), f_X_plan a1 a2 a3 w = some (r, w1) ∧ f_M_plan a1 a2 a3 w1 = some (r, w2) ∧ I w2
def zSt_implies (I : gW → Prop) : Prop := ∀ (a1 : Int32) (a2 : Int32) (a3 : Int32) (w : gW), I w → ∃ (r : Int32) (w1 w2 : gW), f_X_implies a1 a2 a3 w = some (r, w1) ∧ f_M_implies a1 a2 a3 w1 = some (r, w2) ∧ I w2
def zSt_same (I : gW → Prop) : Prop := ∀ (a1 : Int32) (a2 : Int32) (w : gW), I w → ∃ (r : Int32) (w1 w2 : gW), f_X_same a1 a2 w = some (r, w1) ∧ f_M_same a1 a2 w1 = some (r, w2) ∧ I w2
def zSt_days (I : gW → Prop) : Prop := ∀ (a1 : Int32) (w : gW), I w → ∃ (r : Int32) (w1 w2 : gW), f_X_days a1 w = some (r, w1) ∧ f_M_days a1 w1 = some (r, w2) ∧ I w2
def zSt_near (I : gW → Prop) : Prop := ∀ (a1 : Int32) (a2 : Int32) (w : gW), I w → ∃ (r : Int32) (w1 w2 : gW), f_X_near a1 a2 w = some (r, w1) ∧ f_M_near a1 a2 w1 = some (r, w2) ∧ I w2
def zSt_alibi (I : gW → Prop) : Prop := ∀ (a1 : Int32) (a2 : Int32) (w : gW), I w → ∃ (r : Int32) (w1 w2 : gW), f_X_alibi a1 a2 w = some (r, w1) ∧ f_M_alibi a1 a2 w1 = some (r, w2) ∧ I w2
def zSt_hands (I : gW → Prop) : Prop := ∀ (w : gW), I w → ∃ (r : Int32) (w1 w2 : gW), f_X_hands w = some (r, w1) ∧ f_M_hands w1 = some (r, w2) ∧ I w2
def zSt_mean (I : gW → Prop) : Prop := ∀ (a1 : Int32) (w : gW), I w → ∃ (r : Int64) (w1 w2 : gW), f_X_mean a1 w = some (r, w1) ∧ f_M_mean a1 w1 = some (r, w2) ∧ I w2
def zSt_likeliest (I : gW → Prop) : Prop := ∀ (w : gW), I w → ∃ (r : Int32) (w1 w2 : gW), f_X_likeliest w = some (r, w1) ∧ f_M_likeliest w1 = some (r, w2) ∧ I w2
def zSt_drawn (I : gW → Prop) : Prop := ∀ (a1 : Int64) (w : gW), I w → ∃ (r : Int32) (w1 w2 : gW), f_X_drawn a1 w = some (r, w1) ∧ f_M_drawn a1 w1 = some (r, w2) ∧ I w2
def zSt_busy (I : gW → Prop) : Prop := ∀ (a1 : Int32) (w : gW), I w → ∃ (r : Int32) (w1 w2 : gW), f_X_busy a1 w = some (r, w1) ∧ f_M_busy a1 w1 = some (r, w2) ∧ I w2
def zSt_rows (I : gW → Prop) : Prop := ∀ (a1 : Int32) (a2 : Int32) (a3 : Int32) (w : gW), I w → ∃ (r : Int32) (w1 w2 : gW), f_X_rows a1 a2 a3 w = some (r, w1) ∧ f_M_rows a1 a2 a3 w1 = some (r, w2) ∧ I w2
def zSt_image (I : gW → Prop) : Prop := ∀ (w : gW), I w → ∃ (r : Int32) (w1 w2 : gW), f_X_image w = some (r, w1) ∧ f_M_image w1 = some (r, w2) ∧ I w2
def zSt_back (I : gW → Prop) : Prop := ∀ (w : gW), I w → ∃ (r : Int32) (w1 w2 : gW), f_X_back w = some (r, w1) ∧ f_M_back w1 = some (r, w2) ∧ I w2
def zSt_count (I : gW → Prop) : Prop := ∀ (a1 : Int32) (w : gW), I w → ∃ (r : Int32) (w1 w2 : gW), f_X_count a1 w = some (r, w1) ∧ f_M_count a1 w1 = some (r, w2) ∧ I w2
theorem lkL_19 : Cond.methodLink R_law 19 ⟨"OathYesterday", "feed", "(IIIII)I"⟩ ∈ g_TB := g_in2 82 (by decide +kernel) (by decide +kernel)
theorem lkL_23 : Cond.methodLink R_law 23 ⟨"OathYesterdayModel", "feed", "(IIIII)I"⟩ ∈ g_TB := g_in7 131 (by decide +kernel) (by decide +kernel)
theorem lkL_24 : Cond.methodLink R_law 24 ⟨"OathYesterday", "end", "(I)Z"⟩ ∈ g_TB := g_in2 97 (by decide +kernel) (by decide +kernel)
theorem lkL_28 : Cond.methodLink R_law 28 ⟨"OathYesterdayModel", "end", "(I)Z"⟩ ∈ g_TB := g_in7 142 (by decide +kernel) (by decide +kernel)
theorem lkL_29 : Cond.methodLink R_law 29 ⟨"OathYesterday", "fault", "(I)I"⟩ ∈ g_TB := g_in2 105 (by decide +kernel) (by decide +kernel)
theorem lkL_33 : Cond.methodLink R_law 33 ⟨"OathYesterdayModel", "fault", "(I)I"⟩ ∈ g_TB := g_in7 146 (by decide +kernel) (by decide +kernel)
theorem lkL_34 : Cond.methodLink R_law 34 ⟨"OathYesterday", "text", "(I)I"⟩ ∈ g_TB := g_in2 209 (by decide +kernel) (by decide +kernel)
theorem lkL_37 : Cond.methodLink R_law 37 ⟨"OathYesterdayModel", "text", "(I)I"⟩ ∈ g_TB := g_in7 220 (by decide +kernel) (by decide +kernel)
theorem lkL_48 : Cond.methodLink R_law 48 ⟨"OathYesterday", "swear", "(IIII)I"⟩ ∈ g_TB := g_in3 167 (by decide +kernel) (by decide +kernel)
theorem lkL_52 : Cond.methodLink R_law 52 ⟨"OathYesterdayModel", "swear", "(IIII)I"⟩ ∈ g_TB := g_in7 238 (by decide +kernel) (by decide +kernel)
theorem lkL_53 : Cond.methodLink R_law 53 ⟨"OathYesterday", "sworn", "(II)I"⟩ ∈ g_TB := g_in3 196 (by decide +kernel) (by decide +kernel)
theorem lkL_56 : Cond.methodLink R_law 56 ⟨"OathYesterdayModel", "sworn", "(II)I"⟩ ∈ g_TB := g_in8 12 (by decide +kernel) (by decide +kernel)
theorem lkL_57 : Cond.methodLink R_law 57 ⟨"OathYesterday", "fact", "(IIZ)I"⟩ ∈ g_TB := g_in3 201 (by decide +kernel) (by decide +kernel)
theorem lkL_61 : Cond.methodLink R_law 61 ⟨"OathYesterdayModel", "fact", "(IIZ)I"⟩ ∈ g_TB := g_in8 17 (by decide +kernel) (by decide +kernel)
theorem lkL_62 : Cond.methodLink R_law 62 ⟨"OathYesterday", "undo", "()I"⟩ ∈ g_TB := g_in3 214 (by decide +kernel) (by decide +kernel)
theorem lkL_65 : Cond.methodLink R_law 65 ⟨"OathYesterdayModel", "undo", "()I"⟩ ∈ g_TB := g_in8 25 (by decide +kernel) (by decide +kernel)
theorem lkL_66 : Cond.methodLink R_law 66 ⟨"OathYesterday", "lives", "(ZI)I"⟩ ∈ g_TB := g_in3 223 (by decide +kernel) (by decide +kernel)
theorem lkL_70 : Cond.methodLink R_law 70 ⟨"OathYesterdayModel", "lives", "(ZI)I"⟩ ∈ g_TB := g_in8 29 (by decide +kernel) (by decide +kernel)
theorem lkL_71 : Cond.methodLink R_law 71 ⟨"OathYesterday", "holds", "(III)I"⟩ ∈ g_TB := g_in4 30 (by decide +kernel) (by decide +kernel)
theorem lkL_75 : Cond.methodLink R_law 75 ⟨"OathYesterdayModel", "holds", "(III)I"⟩ ∈ g_TB := g_in8 57 (by decide +kernel) (by decide +kernel)
theorem lkL_76 : Cond.methodLink R_law 76 ⟨"OathYesterday", "when", "(I)I"⟩ ∈ g_TB := g_in4 44 (by decide +kernel) (by decide +kernel)
theorem lkL_79 : Cond.methodLink R_law 79 ⟨"OathYesterdayModel", "when", "(I)I"⟩ ∈ g_TB := g_in8 65 (by decide +kernel) (by decide +kernel)
theorem lkL_80 : Cond.methodLink R_law 80 ⟨"OathYesterday", "breaks", "()I"⟩ ∈ g_TB := g_in4 64 (by decide +kernel) (by decide +kernel)
theorem lkL_83 : Cond.methodLink R_law 83 ⟨"OathYesterdayModel", "breaks", "()I"⟩ ∈ g_TB := g_in8 69 (by decide +kernel) (by decide +kernel)
theorem lkL_84 : Cond.methodLink R_law 84 ⟨"OathYesterday", "clash", "()I"⟩ ∈ g_TB := g_in4 92 (by decide +kernel) (by decide +kernel)
theorem lkL_87 : Cond.methodLink R_law 87 ⟨"OathYesterdayModel", "clash", "()I"⟩ ∈ g_TB := g_in8 81 (by decide +kernel) (by decide +kernel)
theorem lkL_88 : Cond.methodLink R_law 88 ⟨"OathYesterday", "may", "(I)I"⟩ ∈ g_TB := g_in4 105 (by decide +kernel) (by decide +kernel)
theorem lkL_91 : Cond.methodLink R_law 91 ⟨"OathYesterdayModel", "may", "(I)I"⟩ ∈ g_TB := g_in8 85 (by decide +kernel) (by decide +kernel)
theorem lkL_92 : Cond.methodLink R_law 92 ⟨"OathYesterday", "most", "(II)I"⟩ ∈ g_TB := g_in4 139 (by decide +kernel) (by decide +kernel)
theorem lkL_95 : Cond.methodLink R_law 95 ⟨"OathYesterdayModel", "most", "(II)I"⟩ ∈ g_TB := g_in8 98 (by decide +kernel) (by decide +kernel)
theorem lkL_96 : Cond.methodLink R_law 96 ⟨"OathYesterday", "hinders", "(I)I"⟩ ∈ g_TB := g_in4 164 (by decide +kernel) (by decide +kernel)
theorem lkL_99 : Cond.methodLink R_law 99 ⟨"OathYesterdayModel", "hinders", "(I)I"⟩ ∈ g_TB := g_in8 102 (by decide +kernel) (by decide +kernel)
theorem lkL_100 : Cond.methodLink R_law 100 ⟨"OathYesterday", "must", "(I)I"⟩ ∈ g_TB := g_in4 172 (by decide +kernel) (by decide +kernel)
theorem lkL_103 : Cond.methodLink R_law 103 ⟨"OathYesterdayModel", "must", "(I)I"⟩ ∈ g_TB := g_in8 106 (by decide +kernel) (by decide +kernel)
theorem lkL_104 : Cond.methodLink R_law 104 ⟨"OathYesterday", "care", "(III)I"⟩ ∈ g_TB := g_in4 183 (by decide +kernel) (by decide +kernel)
theorem lkL_107 : Cond.methodLink R_law 107 ⟨"OathYesterdayModel", "care", "(III)I"⟩ ∈ g_TB := g_in8 110 (by decide +kernel) (by decide +kernel)
theorem lkL_108 : Cond.methodLink R_law 108 ⟨"OathYesterday", "perjured", "(I)I"⟩ ∈ g_TB := g_in4 205 (by decide +kernel) (by decide +kernel)
theorem lkL_111 : Cond.methodLink R_law 111 ⟨"OathYesterdayModel", "perjured", "(I)I"⟩ ∈ g_TB := g_in8 114 (by decide +kernel) (by decide +kernel)
theorem lkL_112 : Cond.methodLink R_law 112 ⟨"OathYesterday", "guilt", "(I)I"⟩ ∈ g_TB := g_in4 233 (by decide +kernel) (by decide +kernel)
theorem lkL_115 : Cond.methodLink R_law 115 ⟨"OathYesterdayModel", "guilt", "(I)I"⟩ ∈ g_TB := g_in8 122 (by decide +kernel) (by decide +kernel)
theorem lkL_116 : Cond.methodLink R_law 116 ⟨"OathYesterday", "blame", "(I)I"⟩ ∈ g_TB := g_in5 11 (by decide +kernel) (by decide +kernel)
theorem lkL_119 : Cond.methodLink R_law 119 ⟨"OathYesterdayModel", "blame", "(I)I"⟩ ∈ g_TB := g_in8 130 (by decide +kernel) (by decide +kernel)
theorem lkL_120 : Cond.methodLink R_law 120 ⟨"OathYesterday", "worth", "(IIIZ)I"⟩ ∈ g_TB := g_in5 20 (by decide +kernel) (by decide +kernel)
theorem lkL_124 : Cond.methodLink R_law 124 ⟨"OathYesterdayModel", "worth", "(IIIZ)I"⟩ ∈ g_TB := g_in8 134 (by decide +kernel) (by decide +kernel)
theorem lkL_125 : Cond.methodLink R_law 125 ⟨"OathYesterday", "weigh", "(III)Z"⟩ ∈ g_TB := g_in5 31 (by decide +kernel) (by decide +kernel)
theorem lkL_129 : Cond.methodLink R_law 129 ⟨"OathYesterdayModel", "weigh", "(III)Z"⟩ ∈ g_TB := g_in8 140 (by decide +kernel) (by decide +kernel)
theorem lkL_130 : Cond.methodLink R_law 130 ⟨"OathYesterday", "odds", "(III)J"⟩ ∈ g_TB := g_in5 39 (by decide +kernel) (by decide +kernel)
theorem lkL_134 : Cond.methodLink R_law 134 ⟨"OathYesterdayModel", "odds", "(III)J"⟩ ∈ g_TB := g_in8 145 (by decide +kernel) (by decide +kernel)
theorem lkL_135 : Cond.methodLink R_law 135 ⟨"OathYesterday", "question", "(I)I"⟩ ∈ g_TB := g_in5 75 (by decide +kernel) (by decide +kernel)
theorem lkL_138 : Cond.methodLink R_law 138 ⟨"OathYesterdayModel", "question", "(I)I"⟩ ∈ g_TB := g_in8 157 (by decide +kernel) (by decide +kernel)
theorem lkL_139 : Cond.methodLink R_law 139 ⟨"OathYesterday", "settled", "(II)I"⟩ ∈ g_TB := g_in5 99 (by decide +kernel) (by decide +kernel)
theorem lkL_142 : Cond.methodLink R_law 142 ⟨"OathYesterdayModel", "settled", "(II)I"⟩ ∈ g_TB := g_in8 166 (by decide +kernel) (by decide +kernel)
theorem lkL_143 : Cond.methodLink R_law 143 ⟨"OathYesterday", "rings", "(II)I"⟩ ∈ g_TB := g_in5 108 (by decide +kernel) (by decide +kernel)
theorem lkL_146 : Cond.methodLink R_law 146 ⟨"OathYesterdayModel", "rings", "(II)I"⟩ ∈ g_TB := g_in8 170 (by decide +kernel) (by decide +kernel)
theorem lkL_147 : Cond.methodLink R_law 147 ⟨"OathYesterday", "fall", "(I)I"⟩ ∈ g_TB := g_in5 122 (by decide +kernel) (by decide +kernel)
theorem lkL_150 : Cond.methodLink R_law 150 ⟨"OathYesterdayModel", "fall", "(I)I"⟩ ∈ g_TB := g_in8 174 (by decide +kernel) (by decide +kernel)
theorem lkL_151 : Cond.methodLink R_law 151 ⟨"OathYesterday", "stake", "(II)Z"⟩ ∈ g_TB := g_in5 135 (by decide +kernel) (by decide +kernel)
theorem lkL_155 : Cond.methodLink R_law 155 ⟨"OathYesterdayModel", "stake", "(II)Z"⟩ ∈ g_TB := g_in8 178 (by decide +kernel) (by decide +kernel)
theorem lkL_156 : Cond.methodLink R_law 156 ⟨"OathYesterday", "duel", "(III)I"⟩ ∈ g_TB := g_in5 143 (by decide +kernel) (by decide +kernel)
theorem lkL_159 : Cond.methodLink R_law 159 ⟨"OathYesterdayModel", "duel", "(III)I"⟩ ∈ g_TB := g_in8 182 (by decide +kernel) (by decide +kernel)
theorem lkL_160 : Cond.methodLink R_law 160 ⟨"OathYesterday", "bait", "(II)I"⟩ ∈ g_TB := g_in5 179 (by decide +kernel) (by decide +kernel)
theorem lkL_163 : Cond.methodLink R_law 163 ⟨"OathYesterdayModel", "bait", "(II)I"⟩ ∈ g_TB := g_in8 202 (by decide +kernel) (by decide +kernel)
theorem lkL_164 : Cond.methodLink R_law 164 ⟨"OathYesterday", "plan", "(III)I"⟩ ∈ g_TB := g_in5 191 (by decide +kernel) (by decide +kernel)
theorem lkL_167 : Cond.methodLink R_law 167 ⟨"OathYesterdayModel", "plan", "(III)I"⟩ ∈ g_TB := g_in8 210 (by decide +kernel) (by decide +kernel)
theorem lkL_168 : Cond.methodLink R_law 168 ⟨"OathYesterday", "implies", "(III)I"⟩ ∈ g_TB := g_in5 204 (by decide +kernel) (by decide +kernel)
theorem lkL_171 : Cond.methodLink R_law 171 ⟨"OathYesterdayModel", "implies", "(III)I"⟩ ∈ g_TB := g_in8 218 (by decide +kernel) (by decide +kernel)
theorem lkL_172 : Cond.methodLink R_law 172 ⟨"OathYesterday", "same", "(II)I"⟩ ∈ g_TB := g_in5 212 (by decide +kernel) (by decide +kernel)
theorem lkL_175 : Cond.methodLink R_law 175 ⟨"OathYesterdayModel", "same", "(II)I"⟩ ∈ g_TB := g_in8 226 (by decide +kernel) (by decide +kernel)
theorem lkL_176 : Cond.methodLink R_law 176 ⟨"OathYesterday", "days", "(I)I"⟩ ∈ g_TB := g_in5 220 (by decide +kernel) (by decide +kernel)
theorem lkL_179 : Cond.methodLink R_law 179 ⟨"OathYesterdayModel", "days", "(I)I"⟩ ∈ g_TB := g_in8 230 (by decide +kernel) (by decide +kernel)
theorem lkL_180 : Cond.methodLink R_law 180 ⟨"OathYesterday", "near", "(II)I"⟩ ∈ g_TB := g_in5 229 (by decide +kernel) (by decide +kernel)
theorem lkL_183 : Cond.methodLink R_law 183 ⟨"OathYesterdayModel", "near", "(II)I"⟩ ∈ g_TB := g_in8 234 (by decide +kernel) (by decide +kernel)
theorem lkL_184 : Cond.methodLink R_law 184 ⟨"OathYesterday", "alibi", "(II)I"⟩ ∈ g_TB := g_in6 4 (by decide +kernel) (by decide +kernel)
theorem lkL_187 : Cond.methodLink R_law 187 ⟨"OathYesterdayModel", "alibi", "(II)I"⟩ ∈ g_TB := g_in8 238 (by decide +kernel) (by decide +kernel)
theorem lkL_188 : Cond.methodLink R_law 188 ⟨"OathYesterday", "hands", "()I"⟩ ∈ g_TB := g_in6 18 (by decide +kernel) (by decide +kernel)
theorem lkL_191 : Cond.methodLink R_law 191 ⟨"OathYesterdayModel", "hands", "()I"⟩ ∈ g_TB := g_in9 2 (by decide +kernel) (by decide +kernel)
theorem lkL_192 : Cond.methodLink R_law 192 ⟨"OathYesterday", "mean", "(I)J"⟩ ∈ g_TB := g_in6 30 (by decide +kernel) (by decide +kernel)
theorem lkL_196 : Cond.methodLink R_law 196 ⟨"OathYesterdayModel", "mean", "(I)J"⟩ ∈ g_TB := g_in9 6 (by decide +kernel) (by decide +kernel)
theorem lkL_197 : Cond.methodLink R_law 197 ⟨"OathYesterday", "likeliest", "()I"⟩ ∈ g_TB := g_in6 42 (by decide +kernel) (by decide +kernel)
theorem lkL_200 : Cond.methodLink R_law 200 ⟨"OathYesterdayModel", "likeliest", "()I"⟩ ∈ g_TB := g_in9 14 (by decide +kernel) (by decide +kernel)
theorem lkL_203 : Cond.methodLink R_law 203 ⟨"OathYesterday", "drawn", "(J)I"⟩ ∈ g_TB := g_in6 54 (by decide +kernel) (by decide +kernel)
theorem lkL_207 : Cond.methodLink R_law 207 ⟨"OathYesterdayModel", "drawn", "(J)I"⟩ ∈ g_TB := g_in9 18 (by decide +kernel) (by decide +kernel)
theorem lkL_208 : Cond.methodLink R_law 208 ⟨"OathYesterday", "busy", "(I)I"⟩ ∈ g_TB := g_in6 65 (by decide +kernel) (by decide +kernel)
theorem lkL_211 : Cond.methodLink R_law 211 ⟨"OathYesterdayModel", "busy", "(I)I"⟩ ∈ g_TB := g_in9 28 (by decide +kernel) (by decide +kernel)
theorem lkL_212 : Cond.methodLink R_law 212 ⟨"OathYesterday", "rows", "(III)I"⟩ ∈ g_TB := g_in6 77 (by decide +kernel) (by decide +kernel)
theorem lkL_215 : Cond.methodLink R_law 215 ⟨"OathYesterdayModel", "rows", "(III)I"⟩ ∈ g_TB := g_in9 32 (by decide +kernel) (by decide +kernel)
theorem lkL_216 : Cond.methodLink R_law 216 ⟨"OathYesterday", "image", "()I"⟩ ∈ g_TB := g_in6 87 (by decide +kernel) (by decide +kernel)
theorem lkL_219 : Cond.methodLink R_law 219 ⟨"OathYesterdayModel", "image", "()I"⟩ ∈ g_TB := g_in9 36 (by decide +kernel) (by decide +kernel)
theorem lkL_220 : Cond.methodLink R_law 220 ⟨"OathYesterday", "back", "()I"⟩ ∈ g_TB := g_in6 96 (by decide +kernel) (by decide +kernel)
theorem lkL_223 : Cond.methodLink R_law 223 ⟨"OathYesterdayModel", "back", "()I"⟩ ∈ g_TB := g_in9 40 (by decide +kernel) (by decide +kernel)
theorem lkL_224 : Cond.methodLink R_law 224 ⟨"OathYesterday", "count", "(I)I"⟩ ∈ g_TB := g_in6 100 (by decide +kernel) (by decide +kernel)
theorem lkL_227 : Cond.methodLink R_law 227 ⟨"OathYesterdayModel", "count", "(I)I"⟩ ∈ g_TB := g_in9 44 (by decide +kernel) (by decide +kernel)
theorem gl_in {p : Program} {s : State} {m : MethodId} {meth : Method} {c : Code} {b LL : Nat} {xs : Nat → Int32} {k j : Nat} {x4 v : Int32} (hk : 6 * k + 6 ≤ LL ∧ LL ≤ 3072) (e4 : x4 = nI (6 * k)) (_ : lw_At p s m meth c b LL xs) (hj : j < 6 ∧ v = nI j) : vp_in (x4 + v) LL := by
  rw [e4, hj.2, nI_add]
  exact vp_in_nI (by omega) (by omega)
theorem gl_cl {p : Program} {s : State} {m : MethodId} {meth : Method} {c : Code} {b LL : Nat} {xs : Nat → Int32} {k j : Nat} {x4 v : Int32} (hk : 6 * k + 6 ≤ LL ∧ LL ≤ 3072) (e4 : x4 = nI (6 * k)) (_ : lw_At p s m meth c b LL xs) (hj : j < 6 ∧ v = nI j) : xs (x4 + v).toNatClampNeg = xs (6 * k + j) := by
  rw [e4, hj.2, nI_add, nI_clamp (by omega)]
theorem gl_cmp (r : Int64) : lg_cmp r r = 0 := by
  unfold lg_cmp
  rw [if_neg (by rw [gt_iff_lt, Int64.lt_iff_toInt_lt]; omega), if_pos rfl]
theorem law_feed {p : Program} {l : Launch} {e : Env} {s : State} {m : MethodId} {below : List Frame} {meth : Method} {c : Code} {b o LL : Nat} {xs : Nat → Int32} {D : va_G} {yy : Nat → ClassId} {cells slots : Nat} (X : gC p s m meth c b LL xs o D yy) {k : Nat} {x4 : Int32} (hk : 6 * k + 6 ≤ LL ∧ LL ≤ 3072) (e4 : x4 = nI (6 * k)) (hcs : cells ≤ 601024 ∧ slots ≤ 7293034) {I : gW → Prop} (hstep : zSt_feed I) (hcont : ∀ w : gW, I w → Gl p l e s m below meth c b o D yy cells slots 1916 [(4, .int x4), (0, .ref b), (1, .ref (o + 0)), (2, .ref (o + 107)), (3, .ref (o + 135))] [] w) (w : gW) (hw : I w) : Gl p l e s m below meth c b o D yy cells slots 244 [(4, .int x4), (0, .ref b), (1, .ref (o + 0)), (2, .ref (o + 107)), (3, .ref (o + 135))] [] w := by
  refine Gl.aload_n X (q := 1) (pc' := 245) (by decide +kernel) rfl 2 rfl ?_
  refine Gl.aload_n X (q := 0) (pc' := 246) (by decide +kernel) rfl 1 rfl ?_
  refine Gl.iload X (i := 4) (pc' := 248) (by decide +kernel) rfl 0 rfl ?_
  refine Gl.iconst X (n := 1) (v := (1 : Int32)) (pc' := 249) (by decide +kernel) rfl rfl ?_
  refine Gl.iadd X (pc' := 250) (by decide +kernel) rfl ?_
  refine Gl.sld X (i := x4 + (1 : Int32)) (gl_in hk e4 X.1 (j := 1) ⟨by decide, rfl⟩) (pc' := 251) (by decide +kernel) rfl ?_
  rw [gl_cl hk e4 X.1 (j := 1) (v := (1 : Int32)) ⟨by decide, rfl⟩]
  refine Gl.aload_n X (q := 0) (pc' := 252) (by decide +kernel) rfl 1 rfl ?_
  refine Gl.iload X (i := 4) (pc' := 254) (by decide +kernel) rfl 0 rfl ?_
  refine Gl.iconst X (n := 2) (v := (2 : Int32)) (pc' := 255) (by decide +kernel) rfl rfl ?_
  refine Gl.iadd X (pc' := 256) (by decide +kernel) rfl ?_
  refine Gl.sld X (i := x4 + (2 : Int32)) (gl_in hk e4 X.1 (j := 2) ⟨by decide, rfl⟩) (pc' := 257) (by decide +kernel) rfl ?_
  rw [gl_cl hk e4 X.1 (j := 2) (v := (2 : Int32)) ⟨by decide, rfl⟩]
  refine Gl.aload_n X (q := 0) (pc' := 258) (by decide +kernel) rfl 1 rfl ?_
  refine Gl.iload X (i := 4) (pc' := 260) (by decide +kernel) rfl 0 rfl ?_
  refine Gl.iconst X (n := 3) (v := (3 : Int32)) (pc' := 261) (by decide +kernel) rfl rfl ?_
  refine Gl.iadd X (pc' := 262) (by decide +kernel) rfl ?_
  refine Gl.sld X (i := x4 + (3 : Int32)) (gl_in hk e4 X.1 (j := 3) ⟨by decide, rfl⟩) (pc' := 263) (by decide +kernel) rfl ?_
  rw [gl_cl hk e4 X.1 (j := 3) (v := (3 : Int32)) ⟨by decide, rfl⟩]
  refine Gl.aload_n X (q := 0) (pc' := 264) (by decide +kernel) rfl 1 rfl ?_
  refine Gl.iload X (i := 4) (pc' := 266) (by decide +kernel) rfl 0 rfl ?_
  refine Gl.iconst X (n := 4) (v := (4 : Int32)) (pc' := 267) (by decide +kernel) rfl rfl ?_
  refine Gl.iadd X (pc' := 268) (by decide +kernel) rfl ?_
  refine Gl.sld X (i := x4 + (4 : Int32)) (gl_in hk e4 X.1 (j := 4) ⟨by decide, rfl⟩) (pc' := 269) (by decide +kernel) rfl ?_
  rw [gl_cl hk e4 X.1 (j := 4) (v := (4 : Int32)) ⟨by decide, rfl⟩]
  refine Gl.aload_n X (q := 0) (pc' := 270) (by decide +kernel) rfl 1 rfl ?_
  refine Gl.iload X (i := 4) (pc' := 272) (by decide +kernel) rfl 0 rfl ?_
  refine Gl.iconst X (n := 5) (v := (5 : Int32)) (pc' := 273) (by decide +kernel) rfl rfl ?_
  refine Gl.iadd X (pc' := 274) (by decide +kernel) rfl ?_
  refine Gl.sld X (i := x4 + (5 : Int32)) (gl_in hk e4 X.1 (j := 5) ⟨by decide, rfl⟩) (pc' := 275) (by decide +kernel) rfl ?_
  rw [gl_cl hk e4 X.1 (j := 5) (v := (5 : Int32)) ⟨by decide, rfl⟩]
  obtain ⟨r, w1, w2, hr1, hr2, hw2⟩ := hstep (xs (6 * k + 1)) (xs (6 * k + 2)) (xs (6 * k + 3)) (xs (6 * k + 4)) (xs (6 * k + 5)) w hw
  refine Gl.callVI (z := m_X_feed) (st := []) (bb := 0) (pc' := 278) [.int (xs (6 * k + 1)), .int (xs (6 * k + 2)), .int (xs (6 * k + 3)), .int (xs (6 * k + 4)), .int (xs (6 * k + 5))] X (g_X_feed (xs (6 * k + 1)) (xs (6 * k + 2)) (xs (6 * k + 3)) (xs (6 * k + 4)) (xs (6 * k + 5)) w) hr1 ok_m_X_feed lkL_19 sh_0 rfl rfl rfl (Nat.le_of_ble_eq_true rfl) (Nat.le_of_ble_eq_true rfl) (Nat.le_of_ble_eq_true rfl) hcs rfl (by decide +kernel) rfl ?_
  refine Gl.aload_n X (q := 2) (pc' := 279) (by decide +kernel) rfl 3 rfl ?_
  refine Gl.aload_n X (q := 0) (pc' := 280) (by decide +kernel) rfl 1 rfl ?_
  refine Gl.iload X (i := 4) (pc' := 282) (by decide +kernel) rfl 0 rfl ?_
  refine Gl.iconst X (n := 1) (v := (1 : Int32)) (pc' := 283) (by decide +kernel) rfl rfl ?_
  refine Gl.iadd X (pc' := 284) (by decide +kernel) rfl ?_
  refine Gl.sld X (i := x4 + (1 : Int32)) (gl_in hk e4 X.1 (j := 1) ⟨by decide, rfl⟩) (pc' := 285) (by decide +kernel) rfl ?_
  rw [gl_cl hk e4 X.1 (j := 1) (v := (1 : Int32)) ⟨by decide, rfl⟩]
  refine Gl.aload_n X (q := 0) (pc' := 286) (by decide +kernel) rfl 1 rfl ?_
  refine Gl.iload X (i := 4) (pc' := 288) (by decide +kernel) rfl 0 rfl ?_
  refine Gl.iconst X (n := 2) (v := (2 : Int32)) (pc' := 289) (by decide +kernel) rfl rfl ?_
  refine Gl.iadd X (pc' := 290) (by decide +kernel) rfl ?_
  refine Gl.sld X (i := x4 + (2 : Int32)) (gl_in hk e4 X.1 (j := 2) ⟨by decide, rfl⟩) (pc' := 291) (by decide +kernel) rfl ?_
  rw [gl_cl hk e4 X.1 (j := 2) (v := (2 : Int32)) ⟨by decide, rfl⟩]
  refine Gl.aload_n X (q := 0) (pc' := 292) (by decide +kernel) rfl 1 rfl ?_
  refine Gl.iload X (i := 4) (pc' := 294) (by decide +kernel) rfl 0 rfl ?_
  refine Gl.iconst X (n := 3) (v := (3 : Int32)) (pc' := 295) (by decide +kernel) rfl rfl ?_
  refine Gl.iadd X (pc' := 296) (by decide +kernel) rfl ?_
  refine Gl.sld X (i := x4 + (3 : Int32)) (gl_in hk e4 X.1 (j := 3) ⟨by decide, rfl⟩) (pc' := 297) (by decide +kernel) rfl ?_
  rw [gl_cl hk e4 X.1 (j := 3) (v := (3 : Int32)) ⟨by decide, rfl⟩]
  refine Gl.aload_n X (q := 0) (pc' := 298) (by decide +kernel) rfl 1 rfl ?_
  refine Gl.iload X (i := 4) (pc' := 300) (by decide +kernel) rfl 0 rfl ?_
  refine Gl.iconst X (n := 4) (v := (4 : Int32)) (pc' := 301) (by decide +kernel) rfl rfl ?_
  refine Gl.iadd X (pc' := 302) (by decide +kernel) rfl ?_
  refine Gl.sld X (i := x4 + (4 : Int32)) (gl_in hk e4 X.1 (j := 4) ⟨by decide, rfl⟩) (pc' := 303) (by decide +kernel) rfl ?_
  rw [gl_cl hk e4 X.1 (j := 4) (v := (4 : Int32)) ⟨by decide, rfl⟩]
  refine Gl.aload_n X (q := 0) (pc' := 304) (by decide +kernel) rfl 1 rfl ?_
  refine Gl.iload X (i := 4) (pc' := 306) (by decide +kernel) rfl 0 rfl ?_
  refine Gl.iconst X (n := 5) (v := (5 : Int32)) (pc' := 307) (by decide +kernel) rfl rfl ?_
  refine Gl.iadd X (pc' := 308) (by decide +kernel) rfl ?_
  refine Gl.sld X (i := x4 + (5 : Int32)) (gl_in hk e4 X.1 (j := 5) ⟨by decide, rfl⟩) (pc' := 309) (by decide +kernel) rfl ?_
  rw [gl_cl hk e4 X.1 (j := 5) (v := (5 : Int32)) ⟨by decide, rfl⟩]
  refine Gl.callVI (z := m_M_feed) (st := [.int r]) (bb := 107) (pc' := 312) [.int (xs (6 * k + 1)), .int (xs (6 * k + 2)), .int (xs (6 * k + 3)), .int (xs (6 * k + 4)), .int (xs (6 * k + 5))] X (g_M_feed (xs (6 * k + 1)) (xs (6 * k + 2)) (xs (6 * k + 3)) (xs (6 * k + 4)) (xs (6 * k + 5)) w1) hr2 ok_m_M_feed lkL_23 sh_107 rfl rfl rfl (Nat.le_of_ble_eq_true rfl) (Nat.le_of_ble_eq_true rfl) (Nat.le_of_ble_eq_true rfl) hcs rfl (by decide +kernel) rfl ?_
  refine Gl.icmp_eq X (off := 1604) (tgt := 1916) (pc' := 315) (by decide +kernel) (by decide) rfl (fun c1 => ?_) (fun c1 => absurd rfl c1)
  exact hcont w2 hw2
theorem law_end {p : Program} {l : Launch} {e : Env} {s : State} {m : MethodId} {below : List Frame} {meth : Method} {c : Code} {b o LL : Nat} {xs : Nat → Int32} {D : va_G} {yy : Nat → ClassId} {cells slots : Nat} (X : gC p s m meth c b LL xs o D yy) {k : Nat} {x4 : Int32} (hk : 6 * k + 6 ≤ LL ∧ LL ≤ 3072) (e4 : x4 = nI (6 * k)) (hcs : cells ≤ 601024 ∧ slots ≤ 7293034) {I : gW → Prop} (hstep : zSt_end I) (hcont : ∀ w : gW, I w → Gl p l e s m below meth c b o D yy cells slots 1916 [(4, .int x4), (0, .ref b), (1, .ref (o + 0)), (2, .ref (o + 107)), (3, .ref (o + 135))] [] w) (w : gW) (hw : I w) : Gl p l e s m below meth c b o D yy cells slots 317 [(4, .int x4), (0, .ref b), (1, .ref (o + 0)), (2, .ref (o + 107)), (3, .ref (o + 135))] [] w := by
  refine Gl.aload_n X (q := 1) (pc' := 318) (by decide +kernel) rfl 2 rfl ?_
  refine Gl.aload_n X (q := 0) (pc' := 319) (by decide +kernel) rfl 1 rfl ?_
  refine Gl.iload X (i := 4) (pc' := 321) (by decide +kernel) rfl 0 rfl ?_
  refine Gl.iconst X (n := 1) (v := (1 : Int32)) (pc' := 322) (by decide +kernel) rfl rfl ?_
  refine Gl.iadd X (pc' := 323) (by decide +kernel) rfl ?_
  refine Gl.sld X (i := x4 + (1 : Int32)) (gl_in hk e4 X.1 (j := 1) ⟨by decide, rfl⟩) (pc' := 324) (by decide +kernel) rfl ?_
  rw [gl_cl hk e4 X.1 (j := 1) (v := (1 : Int32)) ⟨by decide, rfl⟩]
  obtain ⟨r, w1, w2, hr1, hr2, hw2⟩ := hstep (xs (6 * k + 1)) w hw
  refine Gl.callVI (z := m_X_end) (st := []) (bb := 0) (pc' := 327) [.int (xs (6 * k + 1))] X (g_X_end (xs (6 * k + 1)) w) hr1 ok_m_X_end lkL_24 sh_0 rfl rfl rfl (Nat.le_of_ble_eq_true rfl) (Nat.le_of_ble_eq_true rfl) (Nat.le_of_ble_eq_true rfl) hcs rfl (by decide +kernel) rfl ?_
  refine Gl.aload_n X (q := 2) (pc' := 328) (by decide +kernel) rfl 3 rfl ?_
  refine Gl.aload_n X (q := 0) (pc' := 329) (by decide +kernel) rfl 1 rfl ?_
  refine Gl.iload X (i := 4) (pc' := 331) (by decide +kernel) rfl 0 rfl ?_
  refine Gl.iconst X (n := 1) (v := (1 : Int32)) (pc' := 332) (by decide +kernel) rfl rfl ?_
  refine Gl.iadd X (pc' := 333) (by decide +kernel) rfl ?_
  refine Gl.sld X (i := x4 + (1 : Int32)) (gl_in hk e4 X.1 (j := 1) ⟨by decide, rfl⟩) (pc' := 334) (by decide +kernel) rfl ?_
  rw [gl_cl hk e4 X.1 (j := 1) (v := (1 : Int32)) ⟨by decide, rfl⟩]
  refine Gl.callVI (z := m_M_end) (st := [.int r]) (bb := 107) (pc' := 337) [.int (xs (6 * k + 1))] X (g_M_end (xs (6 * k + 1)) w1) hr2 ok_m_M_end lkL_28 sh_107 rfl rfl rfl (Nat.le_of_ble_eq_true rfl) (Nat.le_of_ble_eq_true rfl) (Nat.le_of_ble_eq_true rfl) hcs rfl (by decide +kernel) rfl ?_
  refine Gl.icmp_eq X (off := 1579) (tgt := 1916) (pc' := 340) (by decide +kernel) (by decide) rfl (fun c1 => ?_) (fun c1 => absurd rfl c1)
  exact hcont w2 hw2
theorem law_fault {p : Program} {l : Launch} {e : Env} {s : State} {m : MethodId} {below : List Frame} {meth : Method} {c : Code} {b o LL : Nat} {xs : Nat → Int32} {D : va_G} {yy : Nat → ClassId} {cells slots : Nat} (X : gC p s m meth c b LL xs o D yy) {k : Nat} {x4 : Int32} (hk : 6 * k + 6 ≤ LL ∧ LL ≤ 3072) (e4 : x4 = nI (6 * k)) (hcs : cells ≤ 601024 ∧ slots ≤ 7293034) {I : gW → Prop} (hstep : zSt_fault I) (hcont : ∀ w : gW, I w → Gl p l e s m below meth c b o D yy cells slots 1916 [(4, .int x4), (0, .ref b), (1, .ref (o + 0)), (2, .ref (o + 107)), (3, .ref (o + 135))] [] w) (w : gW) (hw : I w) : Gl p l e s m below meth c b o D yy cells slots 342 [(4, .int x4), (0, .ref b), (1, .ref (o + 0)), (2, .ref (o + 107)), (3, .ref (o + 135))] [] w := by
  refine Gl.aload_n X (q := 1) (pc' := 343) (by decide +kernel) rfl 2 rfl ?_
  refine Gl.aload_n X (q := 0) (pc' := 344) (by decide +kernel) rfl 1 rfl ?_
  refine Gl.iload X (i := 4) (pc' := 346) (by decide +kernel) rfl 0 rfl ?_
  refine Gl.iconst X (n := 1) (v := (1 : Int32)) (pc' := 347) (by decide +kernel) rfl rfl ?_
  refine Gl.iadd X (pc' := 348) (by decide +kernel) rfl ?_
  refine Gl.sld X (i := x4 + (1 : Int32)) (gl_in hk e4 X.1 (j := 1) ⟨by decide, rfl⟩) (pc' := 349) (by decide +kernel) rfl ?_
  rw [gl_cl hk e4 X.1 (j := 1) (v := (1 : Int32)) ⟨by decide, rfl⟩]
  obtain ⟨r, w1, w2, hr1, hr2, hw2⟩ := hstep (xs (6 * k + 1)) w hw
  refine Gl.callVI (z := m_X_fault) (st := []) (bb := 0) (pc' := 352) [.int (xs (6 * k + 1))] X (g_X_fault (xs (6 * k + 1)) w) hr1 ok_m_X_fault lkL_29 sh_0 rfl rfl rfl (Nat.le_of_ble_eq_true rfl) (Nat.le_of_ble_eq_true rfl) (Nat.le_of_ble_eq_true rfl) hcs rfl (by decide +kernel) rfl ?_
  refine Gl.aload_n X (q := 2) (pc' := 353) (by decide +kernel) rfl 3 rfl ?_
  refine Gl.aload_n X (q := 0) (pc' := 354) (by decide +kernel) rfl 1 rfl ?_
  refine Gl.iload X (i := 4) (pc' := 356) (by decide +kernel) rfl 0 rfl ?_
  refine Gl.iconst X (n := 1) (v := (1 : Int32)) (pc' := 357) (by decide +kernel) rfl rfl ?_
  refine Gl.iadd X (pc' := 358) (by decide +kernel) rfl ?_
  refine Gl.sld X (i := x4 + (1 : Int32)) (gl_in hk e4 X.1 (j := 1) ⟨by decide, rfl⟩) (pc' := 359) (by decide +kernel) rfl ?_
  rw [gl_cl hk e4 X.1 (j := 1) (v := (1 : Int32)) ⟨by decide, rfl⟩]
  refine Gl.callVI (z := m_M_fault) (st := [.int r]) (bb := 107) (pc' := 362) [.int (xs (6 * k + 1))] X (g_M_fault (xs (6 * k + 1)) w1) hr2 ok_m_M_fault lkL_33 sh_107 rfl rfl rfl (Nat.le_of_ble_eq_true rfl) (Nat.le_of_ble_eq_true rfl) (Nat.le_of_ble_eq_true rfl) hcs rfl (by decide +kernel) rfl ?_
  refine Gl.icmp_eq X (off := 1554) (tgt := 1916) (pc' := 365) (by decide +kernel) (by decide) rfl (fun c1 => ?_) (fun c1 => absurd rfl c1)
  exact hcont w2 hw2
theorem law_text {p : Program} {l : Launch} {e : Env} {s : State} {m : MethodId} {below : List Frame} {meth : Method} {c : Code} {b o LL : Nat} {xs : Nat → Int32} {D : va_G} {yy : Nat → ClassId} {cells slots : Nat} (X : gC p s m meth c b LL xs o D yy) {k : Nat} {x4 : Int32} (hk : 6 * k + 6 ≤ LL ∧ LL ≤ 3072) (e4 : x4 = nI (6 * k)) (hcs : cells ≤ 601024 ∧ slots ≤ 7293034) {I : gW → Prop} (hstep : zSt_text I) (hcont : ∀ w : gW, I w → Gl p l e s m below meth c b o D yy cells slots 1916 [(4, .int x4), (0, .ref b), (1, .ref (o + 0)), (2, .ref (o + 107)), (3, .ref (o + 135))] [] w) (w : gW) (hw : I w) : Gl p l e s m below meth c b o D yy cells slots 367 [(4, .int x4), (0, .ref b), (1, .ref (o + 0)), (2, .ref (o + 107)), (3, .ref (o + 135))] [] w := by
  refine Gl.aload_n X (q := 1) (pc' := 368) (by decide +kernel) rfl 2 rfl ?_
  refine Gl.aload_n X (q := 0) (pc' := 369) (by decide +kernel) rfl 1 rfl ?_
  refine Gl.iload X (i := 4) (pc' := 371) (by decide +kernel) rfl 0 rfl ?_
  refine Gl.iconst X (n := 1) (v := (1 : Int32)) (pc' := 372) (by decide +kernel) rfl rfl ?_
  refine Gl.iadd X (pc' := 373) (by decide +kernel) rfl ?_
  refine Gl.sld X (i := x4 + (1 : Int32)) (gl_in hk e4 X.1 (j := 1) ⟨by decide, rfl⟩) (pc' := 374) (by decide +kernel) rfl ?_
  rw [gl_cl hk e4 X.1 (j := 1) (v := (1 : Int32)) ⟨by decide, rfl⟩]
  obtain ⟨r, w1, w2, hr1, hr2, hw2⟩ := hstep (xs (6 * k + 1)) w hw
  refine Gl.callVI (z := m_X_text) (st := []) (bb := 0) (pc' := 377) [.int (xs (6 * k + 1))] X (g_X_text (xs (6 * k + 1)) w) hr1 ok_m_X_text lkL_34 sh_0 rfl rfl rfl (Nat.le_of_ble_eq_true rfl) (Nat.le_of_ble_eq_true rfl) (Nat.le_of_ble_eq_true rfl) hcs rfl (by decide +kernel) rfl ?_
  refine Gl.aload_n X (q := 2) (pc' := 378) (by decide +kernel) rfl 3 rfl ?_
  refine Gl.aload_n X (q := 0) (pc' := 379) (by decide +kernel) rfl 1 rfl ?_
  refine Gl.iload X (i := 4) (pc' := 381) (by decide +kernel) rfl 0 rfl ?_
  refine Gl.iconst X (n := 1) (v := (1 : Int32)) (pc' := 382) (by decide +kernel) rfl rfl ?_
  refine Gl.iadd X (pc' := 383) (by decide +kernel) rfl ?_
  refine Gl.sld X (i := x4 + (1 : Int32)) (gl_in hk e4 X.1 (j := 1) ⟨by decide, rfl⟩) (pc' := 384) (by decide +kernel) rfl ?_
  rw [gl_cl hk e4 X.1 (j := 1) (v := (1 : Int32)) ⟨by decide, rfl⟩]
  refine Gl.callVI (z := m_M_text) (st := [.int r]) (bb := 107) (pc' := 387) [.int (xs (6 * k + 1))] X (g_M_text (xs (6 * k + 1)) w1) hr2 ok_m_M_text lkL_37 sh_107 rfl rfl rfl (Nat.le_of_ble_eq_true rfl) (Nat.le_of_ble_eq_true rfl) (Nat.le_of_ble_eq_true rfl) hcs rfl (by decide +kernel) rfl ?_
  refine Gl.icmp_eq X (off := 1529) (tgt := 1916) (pc' := 390) (by decide +kernel) (by decide) rfl (fun c1 => ?_) (fun c1 => absurd rfl c1)
  exact hcont w2 hw2
theorem law_swear {p : Program} {l : Launch} {e : Env} {s : State} {m : MethodId} {below : List Frame} {meth : Method} {c : Code} {b o LL : Nat} {xs : Nat → Int32} {D : va_G} {yy : Nat → ClassId} {cells slots : Nat} (X : gC p s m meth c b LL xs o D yy) {k : Nat} {x4 : Int32} (hk : 6 * k + 6 ≤ LL ∧ LL ≤ 3072) (e4 : x4 = nI (6 * k)) (hcs : cells ≤ 601024 ∧ slots ≤ 7293034) {I : gW → Prop} (hstep : zSt_swear I) (hcont : ∀ w : gW, I w → Gl p l e s m below meth c b o D yy cells slots 1916 [(4, .int x4), (0, .ref b), (1, .ref (o + 0)), (2, .ref (o + 107)), (3, .ref (o + 135))] [] w) (w : gW) (hw : I w) : Gl p l e s m below meth c b o D yy cells slots 460 [(4, .int x4), (0, .ref b), (1, .ref (o + 0)), (2, .ref (o + 107)), (3, .ref (o + 135))] [] w := by
  refine Gl.aload_n X (q := 1) (pc' := 461) (by decide +kernel) rfl 2 rfl ?_
  refine Gl.aload_n X (q := 0) (pc' := 462) (by decide +kernel) rfl 1 rfl ?_
  refine Gl.iload X (i := 4) (pc' := 464) (by decide +kernel) rfl 0 rfl ?_
  refine Gl.iconst X (n := 1) (v := (1 : Int32)) (pc' := 465) (by decide +kernel) rfl rfl ?_
  refine Gl.iadd X (pc' := 466) (by decide +kernel) rfl ?_
  refine Gl.sld X (i := x4 + (1 : Int32)) (gl_in hk e4 X.1 (j := 1) ⟨by decide, rfl⟩) (pc' := 467) (by decide +kernel) rfl ?_
  rw [gl_cl hk e4 X.1 (j := 1) (v := (1 : Int32)) ⟨by decide, rfl⟩]
  refine Gl.aload_n X (q := 0) (pc' := 468) (by decide +kernel) rfl 1 rfl ?_
  refine Gl.iload X (i := 4) (pc' := 470) (by decide +kernel) rfl 0 rfl ?_
  refine Gl.iconst X (n := 2) (v := (2 : Int32)) (pc' := 471) (by decide +kernel) rfl rfl ?_
  refine Gl.iadd X (pc' := 472) (by decide +kernel) rfl ?_
  refine Gl.sld X (i := x4 + (2 : Int32)) (gl_in hk e4 X.1 (j := 2) ⟨by decide, rfl⟩) (pc' := 473) (by decide +kernel) rfl ?_
  rw [gl_cl hk e4 X.1 (j := 2) (v := (2 : Int32)) ⟨by decide, rfl⟩]
  refine Gl.aload_n X (q := 0) (pc' := 474) (by decide +kernel) rfl 1 rfl ?_
  refine Gl.iload X (i := 4) (pc' := 476) (by decide +kernel) rfl 0 rfl ?_
  refine Gl.iconst X (n := 3) (v := (3 : Int32)) (pc' := 477) (by decide +kernel) rfl rfl ?_
  refine Gl.iadd X (pc' := 478) (by decide +kernel) rfl ?_
  refine Gl.sld X (i := x4 + (3 : Int32)) (gl_in hk e4 X.1 (j := 3) ⟨by decide, rfl⟩) (pc' := 479) (by decide +kernel) rfl ?_
  rw [gl_cl hk e4 X.1 (j := 3) (v := (3 : Int32)) ⟨by decide, rfl⟩]
  refine Gl.aload_n X (q := 0) (pc' := 480) (by decide +kernel) rfl 1 rfl ?_
  refine Gl.iload X (i := 4) (pc' := 482) (by decide +kernel) rfl 0 rfl ?_
  refine Gl.iconst X (n := 4) (v := (4 : Int32)) (pc' := 483) (by decide +kernel) rfl rfl ?_
  refine Gl.iadd X (pc' := 484) (by decide +kernel) rfl ?_
  refine Gl.sld X (i := x4 + (4 : Int32)) (gl_in hk e4 X.1 (j := 4) ⟨by decide, rfl⟩) (pc' := 485) (by decide +kernel) rfl ?_
  rw [gl_cl hk e4 X.1 (j := 4) (v := (4 : Int32)) ⟨by decide, rfl⟩]
  obtain ⟨r, w1, w2, hr1, hr2, hw2⟩ := hstep (xs (6 * k + 1)) (xs (6 * k + 2)) (xs (6 * k + 3)) (xs (6 * k + 4)) w hw
  refine Gl.callVI (z := m_X_swear) (st := []) (bb := 0) (pc' := 488) [.int (xs (6 * k + 1)), .int (xs (6 * k + 2)), .int (xs (6 * k + 3)), .int (xs (6 * k + 4))] X (g_X_swear (xs (6 * k + 1)) (xs (6 * k + 2)) (xs (6 * k + 3)) (xs (6 * k + 4)) w) hr1 ok_m_X_swear lkL_48 sh_0 rfl rfl rfl (Nat.le_of_ble_eq_true rfl) (Nat.le_of_ble_eq_true rfl) (Nat.le_of_ble_eq_true rfl) hcs rfl (by decide +kernel) rfl ?_
  refine Gl.aload_n X (q := 2) (pc' := 489) (by decide +kernel) rfl 3 rfl ?_
  refine Gl.aload_n X (q := 0) (pc' := 490) (by decide +kernel) rfl 1 rfl ?_
  refine Gl.iload X (i := 4) (pc' := 492) (by decide +kernel) rfl 0 rfl ?_
  refine Gl.iconst X (n := 1) (v := (1 : Int32)) (pc' := 493) (by decide +kernel) rfl rfl ?_
  refine Gl.iadd X (pc' := 494) (by decide +kernel) rfl ?_
  refine Gl.sld X (i := x4 + (1 : Int32)) (gl_in hk e4 X.1 (j := 1) ⟨by decide, rfl⟩) (pc' := 495) (by decide +kernel) rfl ?_
  rw [gl_cl hk e4 X.1 (j := 1) (v := (1 : Int32)) ⟨by decide, rfl⟩]
  refine Gl.aload_n X (q := 0) (pc' := 496) (by decide +kernel) rfl 1 rfl ?_
  refine Gl.iload X (i := 4) (pc' := 498) (by decide +kernel) rfl 0 rfl ?_
  refine Gl.iconst X (n := 2) (v := (2 : Int32)) (pc' := 499) (by decide +kernel) rfl rfl ?_
  refine Gl.iadd X (pc' := 500) (by decide +kernel) rfl ?_
  refine Gl.sld X (i := x4 + (2 : Int32)) (gl_in hk e4 X.1 (j := 2) ⟨by decide, rfl⟩) (pc' := 501) (by decide +kernel) rfl ?_
  rw [gl_cl hk e4 X.1 (j := 2) (v := (2 : Int32)) ⟨by decide, rfl⟩]
  refine Gl.aload_n X (q := 0) (pc' := 502) (by decide +kernel) rfl 1 rfl ?_
  refine Gl.iload X (i := 4) (pc' := 504) (by decide +kernel) rfl 0 rfl ?_
  refine Gl.iconst X (n := 3) (v := (3 : Int32)) (pc' := 505) (by decide +kernel) rfl rfl ?_
  refine Gl.iadd X (pc' := 506) (by decide +kernel) rfl ?_
  refine Gl.sld X (i := x4 + (3 : Int32)) (gl_in hk e4 X.1 (j := 3) ⟨by decide, rfl⟩) (pc' := 507) (by decide +kernel) rfl ?_
  rw [gl_cl hk e4 X.1 (j := 3) (v := (3 : Int32)) ⟨by decide, rfl⟩]
  refine Gl.aload_n X (q := 0) (pc' := 508) (by decide +kernel) rfl 1 rfl ?_
  refine Gl.iload X (i := 4) (pc' := 510) (by decide +kernel) rfl 0 rfl ?_
  refine Gl.iconst X (n := 4) (v := (4 : Int32)) (pc' := 511) (by decide +kernel) rfl rfl ?_
  refine Gl.iadd X (pc' := 512) (by decide +kernel) rfl ?_
  refine Gl.sld X (i := x4 + (4 : Int32)) (gl_in hk e4 X.1 (j := 4) ⟨by decide, rfl⟩) (pc' := 513) (by decide +kernel) rfl ?_
  rw [gl_cl hk e4 X.1 (j := 4) (v := (4 : Int32)) ⟨by decide, rfl⟩]
  refine Gl.callVI (z := m_M_swear) (st := [.int r]) (bb := 107) (pc' := 516) [.int (xs (6 * k + 1)), .int (xs (6 * k + 2)), .int (xs (6 * k + 3)), .int (xs (6 * k + 4))] X (g_M_swear (xs (6 * k + 1)) (xs (6 * k + 2)) (xs (6 * k + 3)) (xs (6 * k + 4)) w1) hr2 ok_m_M_swear lkL_52 sh_107 rfl rfl rfl (Nat.le_of_ble_eq_true rfl) (Nat.le_of_ble_eq_true rfl) (Nat.le_of_ble_eq_true rfl) hcs rfl (by decide +kernel) rfl ?_
  refine Gl.icmp_eq X (off := 1400) (tgt := 1916) (pc' := 519) (by decide +kernel) (by decide) rfl (fun c1 => ?_) (fun c1 => absurd rfl c1)
  exact hcont w2 hw2
theorem law_sworn {p : Program} {l : Launch} {e : Env} {s : State} {m : MethodId} {below : List Frame} {meth : Method} {c : Code} {b o LL : Nat} {xs : Nat → Int32} {D : va_G} {yy : Nat → ClassId} {cells slots : Nat} (X : gC p s m meth c b LL xs o D yy) {k : Nat} {x4 : Int32} (hk : 6 * k + 6 ≤ LL ∧ LL ≤ 3072) (e4 : x4 = nI (6 * k)) (hcs : cells ≤ 601024 ∧ slots ≤ 7293034) {I : gW → Prop} (hstep : zSt_sworn I) (hcont : ∀ w : gW, I w → Gl p l e s m below meth c b o D yy cells slots 1916 [(4, .int x4), (0, .ref b), (1, .ref (o + 0)), (2, .ref (o + 107)), (3, .ref (o + 135))] [] w) (w : gW) (hw : I w) : Gl p l e s m below meth c b o D yy cells slots 521 [(4, .int x4), (0, .ref b), (1, .ref (o + 0)), (2, .ref (o + 107)), (3, .ref (o + 135))] [] w := by
  refine Gl.aload_n X (q := 1) (pc' := 522) (by decide +kernel) rfl 2 rfl ?_
  refine Gl.aload_n X (q := 0) (pc' := 523) (by decide +kernel) rfl 1 rfl ?_
  refine Gl.iload X (i := 4) (pc' := 525) (by decide +kernel) rfl 0 rfl ?_
  refine Gl.iconst X (n := 1) (v := (1 : Int32)) (pc' := 526) (by decide +kernel) rfl rfl ?_
  refine Gl.iadd X (pc' := 527) (by decide +kernel) rfl ?_
  refine Gl.sld X (i := x4 + (1 : Int32)) (gl_in hk e4 X.1 (j := 1) ⟨by decide, rfl⟩) (pc' := 528) (by decide +kernel) rfl ?_
  rw [gl_cl hk e4 X.1 (j := 1) (v := (1 : Int32)) ⟨by decide, rfl⟩]
  refine Gl.aload_n X (q := 0) (pc' := 529) (by decide +kernel) rfl 1 rfl ?_
  refine Gl.iload X (i := 4) (pc' := 531) (by decide +kernel) rfl 0 rfl ?_
  refine Gl.iconst X (n := 2) (v := (2 : Int32)) (pc' := 532) (by decide +kernel) rfl rfl ?_
  refine Gl.iadd X (pc' := 533) (by decide +kernel) rfl ?_
  refine Gl.sld X (i := x4 + (2 : Int32)) (gl_in hk e4 X.1 (j := 2) ⟨by decide, rfl⟩) (pc' := 534) (by decide +kernel) rfl ?_
  rw [gl_cl hk e4 X.1 (j := 2) (v := (2 : Int32)) ⟨by decide, rfl⟩]
  obtain ⟨r, w1, w2, hr1, hr2, hw2⟩ := hstep (xs (6 * k + 1)) (xs (6 * k + 2)) w hw
  refine Gl.callVI (z := m_X_sworn) (st := []) (bb := 0) (pc' := 537) [.int (xs (6 * k + 1)), .int (xs (6 * k + 2))] X (g_X_sworn (xs (6 * k + 1)) (xs (6 * k + 2)) w) hr1 ok_m_X_sworn lkL_53 sh_0 rfl rfl rfl (Nat.le_of_ble_eq_true rfl) (Nat.le_of_ble_eq_true rfl) (Nat.le_of_ble_eq_true rfl) hcs rfl (by decide +kernel) rfl ?_
  refine Gl.aload_n X (q := 2) (pc' := 538) (by decide +kernel) rfl 3 rfl ?_
  refine Gl.aload_n X (q := 0) (pc' := 539) (by decide +kernel) rfl 1 rfl ?_
  refine Gl.iload X (i := 4) (pc' := 541) (by decide +kernel) rfl 0 rfl ?_
  refine Gl.iconst X (n := 1) (v := (1 : Int32)) (pc' := 542) (by decide +kernel) rfl rfl ?_
  refine Gl.iadd X (pc' := 543) (by decide +kernel) rfl ?_
  refine Gl.sld X (i := x4 + (1 : Int32)) (gl_in hk e4 X.1 (j := 1) ⟨by decide, rfl⟩) (pc' := 544) (by decide +kernel) rfl ?_
  rw [gl_cl hk e4 X.1 (j := 1) (v := (1 : Int32)) ⟨by decide, rfl⟩]
  refine Gl.aload_n X (q := 0) (pc' := 545) (by decide +kernel) rfl 1 rfl ?_
  refine Gl.iload X (i := 4) (pc' := 547) (by decide +kernel) rfl 0 rfl ?_
  refine Gl.iconst X (n := 2) (v := (2 : Int32)) (pc' := 548) (by decide +kernel) rfl rfl ?_
  refine Gl.iadd X (pc' := 549) (by decide +kernel) rfl ?_
  refine Gl.sld X (i := x4 + (2 : Int32)) (gl_in hk e4 X.1 (j := 2) ⟨by decide, rfl⟩) (pc' := 550) (by decide +kernel) rfl ?_
  rw [gl_cl hk e4 X.1 (j := 2) (v := (2 : Int32)) ⟨by decide, rfl⟩]
  refine Gl.callVI (z := m_M_sworn) (st := [.int r]) (bb := 107) (pc' := 553) [.int (xs (6 * k + 1)), .int (xs (6 * k + 2))] X (g_M_sworn (xs (6 * k + 1)) (xs (6 * k + 2)) w1) hr2 ok_m_M_sworn lkL_56 sh_107 rfl rfl rfl (Nat.le_of_ble_eq_true rfl) (Nat.le_of_ble_eq_true rfl) (Nat.le_of_ble_eq_true rfl) hcs rfl (by decide +kernel) rfl ?_
  refine Gl.icmp_eq X (off := 1363) (tgt := 1916) (pc' := 556) (by decide +kernel) (by decide) rfl (fun c1 => ?_) (fun c1 => absurd rfl c1)
  exact hcont w2 hw2
theorem law_fact {p : Program} {l : Launch} {e : Env} {s : State} {m : MethodId} {below : List Frame} {meth : Method} {c : Code} {b o LL : Nat} {xs : Nat → Int32} {D : va_G} {yy : Nat → ClassId} {cells slots : Nat} (X : gC p s m meth c b LL xs o D yy) {k : Nat} {x4 : Int32} (hk : 6 * k + 6 ≤ LL ∧ LL ≤ 3072) (e4 : x4 = nI (6 * k)) (hcs : cells ≤ 601024 ∧ slots ≤ 7293034) {I : gW → Prop} (hstep : zSt_fact I) (hcont : ∀ w : gW, I w → Gl p l e s m below meth c b o D yy cells slots 1916 [(4, .int x4), (0, .ref b), (1, .ref (o + 0)), (2, .ref (o + 107)), (3, .ref (o + 135))] [] w) (w : gW) (hw : I w) : Gl p l e s m below meth c b o D yy cells slots 558 [(4, .int x4), (0, .ref b), (1, .ref (o + 0)), (2, .ref (o + 107)), (3, .ref (o + 135))] [] w := by
  refine Gl.aload_n X (q := 1) (pc' := 559) (by decide +kernel) rfl 2 rfl ?_
  refine Gl.aload_n X (q := 0) (pc' := 560) (by decide +kernel) rfl 1 rfl ?_
  refine Gl.iload X (i := 4) (pc' := 562) (by decide +kernel) rfl 0 rfl ?_
  refine Gl.iconst X (n := 1) (v := (1 : Int32)) (pc' := 563) (by decide +kernel) rfl rfl ?_
  refine Gl.iadd X (pc' := 564) (by decide +kernel) rfl ?_
  refine Gl.sld X (i := x4 + (1 : Int32)) (gl_in hk e4 X.1 (j := 1) ⟨by decide, rfl⟩) (pc' := 565) (by decide +kernel) rfl ?_
  rw [gl_cl hk e4 X.1 (j := 1) (v := (1 : Int32)) ⟨by decide, rfl⟩]
  refine Gl.aload_n X (q := 0) (pc' := 566) (by decide +kernel) rfl 1 rfl ?_
  refine Gl.iload X (i := 4) (pc' := 568) (by decide +kernel) rfl 0 rfl ?_
  refine Gl.iconst X (n := 2) (v := (2 : Int32)) (pc' := 569) (by decide +kernel) rfl rfl ?_
  refine Gl.iadd X (pc' := 570) (by decide +kernel) rfl ?_
  refine Gl.sld X (i := x4 + (2 : Int32)) (gl_in hk e4 X.1 (j := 2) ⟨by decide, rfl⟩) (pc' := 571) (by decide +kernel) rfl ?_
  rw [gl_cl hk e4 X.1 (j := 2) (v := (2 : Int32)) ⟨by decide, rfl⟩]
  refine Gl.aload_n X (q := 0) (pc' := 572) (by decide +kernel) rfl 1 rfl ?_
  refine Gl.iload X (i := 4) (pc' := 574) (by decide +kernel) rfl 0 rfl ?_
  refine Gl.iconst X (n := 3) (v := (3 : Int32)) (pc' := 575) (by decide +kernel) rfl rfl ?_
  refine Gl.iadd X (pc' := 576) (by decide +kernel) rfl ?_
  refine Gl.sld X (i := x4 + (3 : Int32)) (gl_in hk e4 X.1 (j := 3) ⟨by decide, rfl⟩) (pc' := 577) (by decide +kernel) rfl ?_
  rw [gl_cl hk e4 X.1 (j := 3) (v := (3 : Int32)) ⟨by decide, rfl⟩]
  refine Gl.if_eq X (off := 7) (tgt := 584) (pc' := 580) (by decide +kernel) (by decide) rfl (fun c1 => ?_) (fun c1 => ?_)
  · have q1 := c1
    refine Gl.iconst X (n := 0) (v := (0 : Int32)) (pc' := 585) (by decide +kernel) rfl rfl ?_
    obtain ⟨r, w1, w2, hr1, hr2, hw2⟩ := hstep (xs (6 * k + 1)) (xs (6 * k + 2)) (0 : Int32) (Or.inl rfl) w hw
    refine Gl.callVI (z := m_X_fact) (st := []) (bb := 0) (pc' := 588) [.int (xs (6 * k + 1)), .int (xs (6 * k + 2)), .int (0 : Int32)] X (g_X_fact (xs (6 * k + 1)) (xs (6 * k + 2)) (0 : Int32) w) hr1 ok_m_X_fact lkL_57 sh_0 rfl rfl rfl (Nat.le_of_ble_eq_true rfl) (Nat.le_of_ble_eq_true rfl) (Nat.le_of_ble_eq_true rfl) hcs rfl (by decide +kernel) rfl ?_
    refine Gl.aload_n X (q := 2) (pc' := 589) (by decide +kernel) rfl 3 rfl ?_
    refine Gl.aload_n X (q := 0) (pc' := 590) (by decide +kernel) rfl 1 rfl ?_
    refine Gl.iload X (i := 4) (pc' := 592) (by decide +kernel) rfl 0 rfl ?_
    refine Gl.iconst X (n := 1) (v := (1 : Int32)) (pc' := 593) (by decide +kernel) rfl rfl ?_
    refine Gl.iadd X (pc' := 594) (by decide +kernel) rfl ?_
    refine Gl.sld X (i := x4 + (1 : Int32)) (gl_in hk e4 X.1 (j := 1) ⟨by decide, rfl⟩) (pc' := 595) (by decide +kernel) rfl ?_
    rw [gl_cl hk e4 X.1 (j := 1) (v := (1 : Int32)) ⟨by decide, rfl⟩]
    refine Gl.aload_n X (q := 0) (pc' := 596) (by decide +kernel) rfl 1 rfl ?_
    refine Gl.iload X (i := 4) (pc' := 598) (by decide +kernel) rfl 0 rfl ?_
    refine Gl.iconst X (n := 2) (v := (2 : Int32)) (pc' := 599) (by decide +kernel) rfl rfl ?_
    refine Gl.iadd X (pc' := 600) (by decide +kernel) rfl ?_
    refine Gl.sld X (i := x4 + (2 : Int32)) (gl_in hk e4 X.1 (j := 2) ⟨by decide, rfl⟩) (pc' := 601) (by decide +kernel) rfl ?_
    rw [gl_cl hk e4 X.1 (j := 2) (v := (2 : Int32)) ⟨by decide, rfl⟩]
    refine Gl.aload_n X (q := 0) (pc' := 602) (by decide +kernel) rfl 1 rfl ?_
    refine Gl.iload X (i := 4) (pc' := 604) (by decide +kernel) rfl 0 rfl ?_
    refine Gl.iconst X (n := 3) (v := (3 : Int32)) (pc' := 605) (by decide +kernel) rfl rfl ?_
    refine Gl.iadd X (pc' := 606) (by decide +kernel) rfl ?_
    refine Gl.sld X (i := x4 + (3 : Int32)) (gl_in hk e4 X.1 (j := 3) ⟨by decide, rfl⟩) (pc' := 607) (by decide +kernel) rfl ?_
    rw [gl_cl hk e4 X.1 (j := 3) (v := (3 : Int32)) ⟨by decide, rfl⟩]
    refine Gl.if_eq X (off := 7) (tgt := 614) (pc' := 610) (by decide +kernel) (by decide) rfl (fun c1 => ?_) (fun c1 => ?_)
    · have q2 := c1
      refine Gl.iconst X (n := 0) (v := (0 : Int32)) (pc' := 615) (by decide +kernel) rfl rfl ?_
      refine Gl.callVI (z := m_M_fact) (st := [.int r]) (bb := 107) (pc' := 618) [.int (xs (6 * k + 1)), .int (xs (6 * k + 2)), .int (0 : Int32)] X (g_M_fact (xs (6 * k + 1)) (xs (6 * k + 2)) (0 : Int32) w1) hr2 ok_m_M_fact lkL_61 sh_107 rfl rfl rfl (Nat.le_of_ble_eq_true rfl) (Nat.le_of_ble_eq_true rfl) (Nat.le_of_ble_eq_true rfl) hcs rfl (by decide +kernel) rfl ?_
      refine Gl.icmp_eq X (off := 1298) (tgt := 1916) (pc' := 621) (by decide +kernel) (by decide) rfl (fun c1 => ?_) (fun c1 => absurd rfl c1)
      exact hcont w2 hw2
    · exact absurd q1 c1
  · have q3 := c1
    refine Gl.iconst X (n := 1) (v := (1 : Int32)) (pc' := 581) (by decide +kernel) rfl rfl ?_
    refine Gl.goto X (off := 4) (tgt := 585) (by decide +kernel) (by decide) ?_
    obtain ⟨r, w1, w2, hr1, hr2, hw2⟩ := hstep (xs (6 * k + 1)) (xs (6 * k + 2)) (1 : Int32) (Or.inr rfl) w hw
    refine Gl.callVI (z := m_X_fact) (st := []) (bb := 0) (pc' := 588) [.int (xs (6 * k + 1)), .int (xs (6 * k + 2)), .int (1 : Int32)] X (g_X_fact (xs (6 * k + 1)) (xs (6 * k + 2)) (1 : Int32) w) hr1 ok_m_X_fact lkL_57 sh_0 rfl rfl rfl (Nat.le_of_ble_eq_true rfl) (Nat.le_of_ble_eq_true rfl) (Nat.le_of_ble_eq_true rfl) hcs rfl (by decide +kernel) rfl ?_
    refine Gl.aload_n X (q := 2) (pc' := 589) (by decide +kernel) rfl 3 rfl ?_
    refine Gl.aload_n X (q := 0) (pc' := 590) (by decide +kernel) rfl 1 rfl ?_
    refine Gl.iload X (i := 4) (pc' := 592) (by decide +kernel) rfl 0 rfl ?_
    refine Gl.iconst X (n := 1) (v := (1 : Int32)) (pc' := 593) (by decide +kernel) rfl rfl ?_
    refine Gl.iadd X (pc' := 594) (by decide +kernel) rfl ?_
    refine Gl.sld X (i := x4 + (1 : Int32)) (gl_in hk e4 X.1 (j := 1) ⟨by decide, rfl⟩) (pc' := 595) (by decide +kernel) rfl ?_
    rw [gl_cl hk e4 X.1 (j := 1) (v := (1 : Int32)) ⟨by decide, rfl⟩]
    refine Gl.aload_n X (q := 0) (pc' := 596) (by decide +kernel) rfl 1 rfl ?_
    refine Gl.iload X (i := 4) (pc' := 598) (by decide +kernel) rfl 0 rfl ?_
    refine Gl.iconst X (n := 2) (v := (2 : Int32)) (pc' := 599) (by decide +kernel) rfl rfl ?_
    refine Gl.iadd X (pc' := 600) (by decide +kernel) rfl ?_
    refine Gl.sld X (i := x4 + (2 : Int32)) (gl_in hk e4 X.1 (j := 2) ⟨by decide, rfl⟩) (pc' := 601) (by decide +kernel) rfl ?_
    rw [gl_cl hk e4 X.1 (j := 2) (v := (2 : Int32)) ⟨by decide, rfl⟩]
    refine Gl.aload_n X (q := 0) (pc' := 602) (by decide +kernel) rfl 1 rfl ?_
    refine Gl.iload X (i := 4) (pc' := 604) (by decide +kernel) rfl 0 rfl ?_
    refine Gl.iconst X (n := 3) (v := (3 : Int32)) (pc' := 605) (by decide +kernel) rfl rfl ?_
    refine Gl.iadd X (pc' := 606) (by decide +kernel) rfl ?_
    refine Gl.sld X (i := x4 + (3 : Int32)) (gl_in hk e4 X.1 (j := 3) ⟨by decide, rfl⟩) (pc' := 607) (by decide +kernel) rfl ?_
    rw [gl_cl hk e4 X.1 (j := 3) (v := (3 : Int32)) ⟨by decide, rfl⟩]
    refine Gl.if_eq X (off := 7) (tgt := 614) (pc' := 610) (by decide +kernel) (by decide) rfl (fun c1 => ?_) (fun c1 => ?_)
    · exact absurd c1 q3
    · have q4 := c1
      refine Gl.iconst X (n := 1) (v := (1 : Int32)) (pc' := 611) (by decide +kernel) rfl rfl ?_
      refine Gl.goto X (off := 4) (tgt := 615) (by decide +kernel) (by decide) ?_
      refine Gl.callVI (z := m_M_fact) (st := [.int r]) (bb := 107) (pc' := 618) [.int (xs (6 * k + 1)), .int (xs (6 * k + 2)), .int (1 : Int32)] X (g_M_fact (xs (6 * k + 1)) (xs (6 * k + 2)) (1 : Int32) w1) hr2 ok_m_M_fact lkL_61 sh_107 rfl rfl rfl (Nat.le_of_ble_eq_true rfl) (Nat.le_of_ble_eq_true rfl) (Nat.le_of_ble_eq_true rfl) hcs rfl (by decide +kernel) rfl ?_
      refine Gl.icmp_eq X (off := 1298) (tgt := 1916) (pc' := 621) (by decide +kernel) (by decide) rfl (fun c1 => ?_) (fun c1 => absurd rfl c1)
      exact hcont w2 hw2
theorem law_undo {p : Program} {l : Launch} {e : Env} {s : State} {m : MethodId} {below : List Frame} {meth : Method} {c : Code} {b o LL : Nat} {xs : Nat → Int32} {D : va_G} {yy : Nat → ClassId} {cells slots : Nat} (X : gC p s m meth c b LL xs o D yy) {k : Nat} {x4 : Int32} (hk : 6 * k + 6 ≤ LL ∧ LL ≤ 3072) (e4 : x4 = nI (6 * k)) (hcs : cells ≤ 601024 ∧ slots ≤ 7293034) {I : gW → Prop} (hstep : zSt_undo I) (hcont : ∀ w : gW, I w → Gl p l e s m below meth c b o D yy cells slots 1916 [(4, .int x4), (0, .ref b), (1, .ref (o + 0)), (2, .ref (o + 107)), (3, .ref (o + 135))] [] w) (w : gW) (hw : I w) : Gl p l e s m below meth c b o D yy cells slots 623 [(4, .int x4), (0, .ref b), (1, .ref (o + 0)), (2, .ref (o + 107)), (3, .ref (o + 135))] [] w := by
  refine Gl.aload_n X (q := 1) (pc' := 624) (by decide +kernel) rfl 2 rfl ?_
  obtain ⟨r, w1, w2, hr1, hr2, hw2⟩ := hstep w hw
  refine Gl.callVI (z := m_X_undo) (st := []) (bb := 0) (pc' := 627) [] X (g_X_undo w) hr1 ok_m_X_undo lkL_62 sh_0 rfl rfl rfl (Nat.le_of_ble_eq_true rfl) (Nat.le_of_ble_eq_true rfl) (Nat.le_of_ble_eq_true rfl) hcs rfl (by decide +kernel) rfl ?_
  refine Gl.aload_n X (q := 2) (pc' := 628) (by decide +kernel) rfl 3 rfl ?_
  refine Gl.callVI (z := m_M_undo) (st := [.int r]) (bb := 107) (pc' := 631) [] X (g_M_undo w1) hr2 ok_m_M_undo lkL_65 sh_107 rfl rfl rfl (Nat.le_of_ble_eq_true rfl) (Nat.le_of_ble_eq_true rfl) (Nat.le_of_ble_eq_true rfl) hcs rfl (by decide +kernel) rfl ?_
  refine Gl.icmp_eq X (off := 1285) (tgt := 1916) (pc' := 634) (by decide +kernel) (by decide) rfl (fun c1 => ?_) (fun c1 => absurd rfl c1)
  exact hcont w2 hw2
theorem law_lives {p : Program} {l : Launch} {e : Env} {s : State} {m : MethodId} {below : List Frame} {meth : Method} {c : Code} {b o LL : Nat} {xs : Nat → Int32} {D : va_G} {yy : Nat → ClassId} {cells slots : Nat} (X : gC p s m meth c b LL xs o D yy) {k : Nat} {x4 : Int32} (hk : 6 * k + 6 ≤ LL ∧ LL ≤ 3072) (e4 : x4 = nI (6 * k)) (hcs : cells ≤ 601024 ∧ slots ≤ 7293034) {I : gW → Prop} (hstep : zSt_lives I) (hcont : ∀ w : gW, I w → Gl p l e s m below meth c b o D yy cells slots 1916 [(4, .int x4), (0, .ref b), (1, .ref (o + 0)), (2, .ref (o + 107)), (3, .ref (o + 135))] [] w) (w : gW) (hw : I w) : Gl p l e s m below meth c b o D yy cells slots 636 [(4, .int x4), (0, .ref b), (1, .ref (o + 0)), (2, .ref (o + 107)), (3, .ref (o + 135))] [] w := by
  refine Gl.aload_n X (q := 1) (pc' := 637) (by decide +kernel) rfl 2 rfl ?_
  refine Gl.aload_n X (q := 0) (pc' := 638) (by decide +kernel) rfl 1 rfl ?_
  refine Gl.iload X (i := 4) (pc' := 640) (by decide +kernel) rfl 0 rfl ?_
  refine Gl.iconst X (n := 1) (v := (1 : Int32)) (pc' := 641) (by decide +kernel) rfl rfl ?_
  refine Gl.iadd X (pc' := 642) (by decide +kernel) rfl ?_
  refine Gl.sld X (i := x4 + (1 : Int32)) (gl_in hk e4 X.1 (j := 1) ⟨by decide, rfl⟩) (pc' := 643) (by decide +kernel) rfl ?_
  rw [gl_cl hk e4 X.1 (j := 1) (v := (1 : Int32)) ⟨by decide, rfl⟩]
  refine Gl.if_eq X (off := 7) (tgt := 650) (pc' := 646) (by decide +kernel) (by decide) rfl (fun c1 => ?_) (fun c1 => ?_)
  · have q1 := c1
    refine Gl.iconst X (n := 0) (v := (0 : Int32)) (pc' := 651) (by decide +kernel) rfl rfl ?_
    refine Gl.aload_n X (q := 0) (pc' := 652) (by decide +kernel) rfl 1 rfl ?_
    refine Gl.iload X (i := 4) (pc' := 654) (by decide +kernel) rfl 0 rfl ?_
    refine Gl.iconst X (n := 2) (v := (2 : Int32)) (pc' := 655) (by decide +kernel) rfl rfl ?_
    refine Gl.iadd X (pc' := 656) (by decide +kernel) rfl ?_
    refine Gl.sld X (i := x4 + (2 : Int32)) (gl_in hk e4 X.1 (j := 2) ⟨by decide, rfl⟩) (pc' := 657) (by decide +kernel) rfl ?_
    rw [gl_cl hk e4 X.1 (j := 2) (v := (2 : Int32)) ⟨by decide, rfl⟩]
    obtain ⟨r, w1, w2, hr1, hr2, hw2⟩ := hstep (0 : Int32) (xs (6 * k + 2)) (Or.inl rfl) w hw
    refine Gl.callVI (z := m_X_lives) (st := []) (bb := 0) (pc' := 660) [.int (0 : Int32), .int (xs (6 * k + 2))] X (g_X_lives (0 : Int32) (xs (6 * k + 2)) w) hr1 ok_m_X_lives lkL_66 sh_0 rfl rfl rfl (Nat.le_of_ble_eq_true rfl) (Nat.le_of_ble_eq_true rfl) (Nat.le_of_ble_eq_true rfl) hcs rfl (by decide +kernel) rfl ?_
    refine Gl.aload_n X (q := 2) (pc' := 661) (by decide +kernel) rfl 3 rfl ?_
    refine Gl.aload_n X (q := 0) (pc' := 662) (by decide +kernel) rfl 1 rfl ?_
    refine Gl.iload X (i := 4) (pc' := 664) (by decide +kernel) rfl 0 rfl ?_
    refine Gl.iconst X (n := 1) (v := (1 : Int32)) (pc' := 665) (by decide +kernel) rfl rfl ?_
    refine Gl.iadd X (pc' := 666) (by decide +kernel) rfl ?_
    refine Gl.sld X (i := x4 + (1 : Int32)) (gl_in hk e4 X.1 (j := 1) ⟨by decide, rfl⟩) (pc' := 667) (by decide +kernel) rfl ?_
    rw [gl_cl hk e4 X.1 (j := 1) (v := (1 : Int32)) ⟨by decide, rfl⟩]
    refine Gl.if_eq X (off := 7) (tgt := 674) (pc' := 670) (by decide +kernel) (by decide) rfl (fun c1 => ?_) (fun c1 => ?_)
    · have q2 := c1
      refine Gl.iconst X (n := 0) (v := (0 : Int32)) (pc' := 675) (by decide +kernel) rfl rfl ?_
      refine Gl.aload_n X (q := 0) (pc' := 676) (by decide +kernel) rfl 1 rfl ?_
      refine Gl.iload X (i := 4) (pc' := 678) (by decide +kernel) rfl 0 rfl ?_
      refine Gl.iconst X (n := 2) (v := (2 : Int32)) (pc' := 679) (by decide +kernel) rfl rfl ?_
      refine Gl.iadd X (pc' := 680) (by decide +kernel) rfl ?_
      refine Gl.sld X (i := x4 + (2 : Int32)) (gl_in hk e4 X.1 (j := 2) ⟨by decide, rfl⟩) (pc' := 681) (by decide +kernel) rfl ?_
      rw [gl_cl hk e4 X.1 (j := 2) (v := (2 : Int32)) ⟨by decide, rfl⟩]
      refine Gl.callVI (z := m_M_lives) (st := [.int r]) (bb := 107) (pc' := 684) [.int (0 : Int32), .int (xs (6 * k + 2))] X (g_M_lives (0 : Int32) (xs (6 * k + 2)) w1) hr2 ok_m_M_lives lkL_70 sh_107 rfl rfl rfl (Nat.le_of_ble_eq_true rfl) (Nat.le_of_ble_eq_true rfl) (Nat.le_of_ble_eq_true rfl) hcs rfl (by decide +kernel) rfl ?_
      refine Gl.icmp_eq X (off := 1232) (tgt := 1916) (pc' := 687) (by decide +kernel) (by decide) rfl (fun c1 => ?_) (fun c1 => absurd rfl c1)
      exact hcont w2 hw2
    · exact absurd q1 c1
  · have q3 := c1
    refine Gl.iconst X (n := 1) (v := (1 : Int32)) (pc' := 647) (by decide +kernel) rfl rfl ?_
    refine Gl.goto X (off := 4) (tgt := 651) (by decide +kernel) (by decide) ?_
    refine Gl.aload_n X (q := 0) (pc' := 652) (by decide +kernel) rfl 1 rfl ?_
    refine Gl.iload X (i := 4) (pc' := 654) (by decide +kernel) rfl 0 rfl ?_
    refine Gl.iconst X (n := 2) (v := (2 : Int32)) (pc' := 655) (by decide +kernel) rfl rfl ?_
    refine Gl.iadd X (pc' := 656) (by decide +kernel) rfl ?_
    refine Gl.sld X (i := x4 + (2 : Int32)) (gl_in hk e4 X.1 (j := 2) ⟨by decide, rfl⟩) (pc' := 657) (by decide +kernel) rfl ?_
    rw [gl_cl hk e4 X.1 (j := 2) (v := (2 : Int32)) ⟨by decide, rfl⟩]
    obtain ⟨r, w1, w2, hr1, hr2, hw2⟩ := hstep (1 : Int32) (xs (6 * k + 2)) (Or.inr rfl) w hw
    refine Gl.callVI (z := m_X_lives) (st := []) (bb := 0) (pc' := 660) [.int (1 : Int32), .int (xs (6 * k + 2))] X (g_X_lives (1 : Int32) (xs (6 * k + 2)) w) hr1 ok_m_X_lives lkL_66 sh_0 rfl rfl rfl (Nat.le_of_ble_eq_true rfl) (Nat.le_of_ble_eq_true rfl) (Nat.le_of_ble_eq_true rfl) hcs rfl (by decide +kernel) rfl ?_
    refine Gl.aload_n X (q := 2) (pc' := 661) (by decide +kernel) rfl 3 rfl ?_
    refine Gl.aload_n X (q := 0) (pc' := 662) (by decide +kernel) rfl 1 rfl ?_
    refine Gl.iload X (i := 4) (pc' := 664) (by decide +kernel) rfl 0 rfl ?_
    refine Gl.iconst X (n := 1) (v := (1 : Int32)) (pc' := 665) (by decide +kernel) rfl rfl ?_
    refine Gl.iadd X (pc' := 666) (by decide +kernel) rfl ?_
    refine Gl.sld X (i := x4 + (1 : Int32)) (gl_in hk e4 X.1 (j := 1) ⟨by decide, rfl⟩) (pc' := 667) (by decide +kernel) rfl ?_
    rw [gl_cl hk e4 X.1 (j := 1) (v := (1 : Int32)) ⟨by decide, rfl⟩]
    refine Gl.if_eq X (off := 7) (tgt := 674) (pc' := 670) (by decide +kernel) (by decide) rfl (fun c1 => ?_) (fun c1 => ?_)
    · exact absurd c1 q3
    · have q4 := c1
      refine Gl.iconst X (n := 1) (v := (1 : Int32)) (pc' := 671) (by decide +kernel) rfl rfl ?_
      refine Gl.goto X (off := 4) (tgt := 675) (by decide +kernel) (by decide) ?_
      refine Gl.aload_n X (q := 0) (pc' := 676) (by decide +kernel) rfl 1 rfl ?_
      refine Gl.iload X (i := 4) (pc' := 678) (by decide +kernel) rfl 0 rfl ?_
      refine Gl.iconst X (n := 2) (v := (2 : Int32)) (pc' := 679) (by decide +kernel) rfl rfl ?_
      refine Gl.iadd X (pc' := 680) (by decide +kernel) rfl ?_
      refine Gl.sld X (i := x4 + (2 : Int32)) (gl_in hk e4 X.1 (j := 2) ⟨by decide, rfl⟩) (pc' := 681) (by decide +kernel) rfl ?_
      rw [gl_cl hk e4 X.1 (j := 2) (v := (2 : Int32)) ⟨by decide, rfl⟩]
      refine Gl.callVI (z := m_M_lives) (st := [.int r]) (bb := 107) (pc' := 684) [.int (1 : Int32), .int (xs (6 * k + 2))] X (g_M_lives (1 : Int32) (xs (6 * k + 2)) w1) hr2 ok_m_M_lives lkL_70 sh_107 rfl rfl rfl (Nat.le_of_ble_eq_true rfl) (Nat.le_of_ble_eq_true rfl) (Nat.le_of_ble_eq_true rfl) hcs rfl (by decide +kernel) rfl ?_
      refine Gl.icmp_eq X (off := 1232) (tgt := 1916) (pc' := 687) (by decide +kernel) (by decide) rfl (fun c1 => ?_) (fun c1 => absurd rfl c1)
      exact hcont w2 hw2
theorem law_holds {p : Program} {l : Launch} {e : Env} {s : State} {m : MethodId} {below : List Frame} {meth : Method} {c : Code} {b o LL : Nat} {xs : Nat → Int32} {D : va_G} {yy : Nat → ClassId} {cells slots : Nat} (X : gC p s m meth c b LL xs o D yy) {k : Nat} {x4 : Int32} (hk : 6 * k + 6 ≤ LL ∧ LL ≤ 3072) (e4 : x4 = nI (6 * k)) (hcs : cells ≤ 601024 ∧ slots ≤ 7293034) {I : gW → Prop} (hstep : zSt_holds I) (hcont : ∀ w : gW, I w → Gl p l e s m below meth c b o D yy cells slots 1916 [(4, .int x4), (0, .ref b), (1, .ref (o + 0)), (2, .ref (o + 107)), (3, .ref (o + 135))] [] w) (w : gW) (hw : I w) : Gl p l e s m below meth c b o D yy cells slots 689 [(4, .int x4), (0, .ref b), (1, .ref (o + 0)), (2, .ref (o + 107)), (3, .ref (o + 135))] [] w := by
  refine Gl.aload_n X (q := 1) (pc' := 690) (by decide +kernel) rfl 2 rfl ?_
  refine Gl.aload_n X (q := 0) (pc' := 691) (by decide +kernel) rfl 1 rfl ?_
  refine Gl.iload X (i := 4) (pc' := 693) (by decide +kernel) rfl 0 rfl ?_
  refine Gl.iconst X (n := 1) (v := (1 : Int32)) (pc' := 694) (by decide +kernel) rfl rfl ?_
  refine Gl.iadd X (pc' := 695) (by decide +kernel) rfl ?_
  refine Gl.sld X (i := x4 + (1 : Int32)) (gl_in hk e4 X.1 (j := 1) ⟨by decide, rfl⟩) (pc' := 696) (by decide +kernel) rfl ?_
  rw [gl_cl hk e4 X.1 (j := 1) (v := (1 : Int32)) ⟨by decide, rfl⟩]
  refine Gl.aload_n X (q := 0) (pc' := 697) (by decide +kernel) rfl 1 rfl ?_
  refine Gl.iload X (i := 4) (pc' := 699) (by decide +kernel) rfl 0 rfl ?_
  refine Gl.iconst X (n := 2) (v := (2 : Int32)) (pc' := 700) (by decide +kernel) rfl rfl ?_
  refine Gl.iadd X (pc' := 701) (by decide +kernel) rfl ?_
  refine Gl.sld X (i := x4 + (2 : Int32)) (gl_in hk e4 X.1 (j := 2) ⟨by decide, rfl⟩) (pc' := 702) (by decide +kernel) rfl ?_
  rw [gl_cl hk e4 X.1 (j := 2) (v := (2 : Int32)) ⟨by decide, rfl⟩]
  refine Gl.aload_n X (q := 0) (pc' := 703) (by decide +kernel) rfl 1 rfl ?_
  refine Gl.iload X (i := 4) (pc' := 705) (by decide +kernel) rfl 0 rfl ?_
  refine Gl.iconst X (n := 3) (v := (3 : Int32)) (pc' := 706) (by decide +kernel) rfl rfl ?_
  refine Gl.iadd X (pc' := 707) (by decide +kernel) rfl ?_
  refine Gl.sld X (i := x4 + (3 : Int32)) (gl_in hk e4 X.1 (j := 3) ⟨by decide, rfl⟩) (pc' := 708) (by decide +kernel) rfl ?_
  rw [gl_cl hk e4 X.1 (j := 3) (v := (3 : Int32)) ⟨by decide, rfl⟩]
  obtain ⟨r, w1, w2, hr1, hr2, hw2⟩ := hstep (xs (6 * k + 1)) (xs (6 * k + 2)) (xs (6 * k + 3)) w hw
  refine Gl.callVI (z := m_X_holds) (st := []) (bb := 0) (pc' := 711) [.int (xs (6 * k + 1)), .int (xs (6 * k + 2)), .int (xs (6 * k + 3))] X (g_X_holds (xs (6 * k + 1)) (xs (6 * k + 2)) (xs (6 * k + 3)) w) hr1 ok_m_X_holds lkL_71 sh_0 rfl rfl rfl (Nat.le_of_ble_eq_true rfl) (Nat.le_of_ble_eq_true rfl) (Nat.le_of_ble_eq_true rfl) hcs rfl (by decide +kernel) rfl ?_
  refine Gl.aload_n X (q := 2) (pc' := 712) (by decide +kernel) rfl 3 rfl ?_
  refine Gl.aload_n X (q := 0) (pc' := 713) (by decide +kernel) rfl 1 rfl ?_
  refine Gl.iload X (i := 4) (pc' := 715) (by decide +kernel) rfl 0 rfl ?_
  refine Gl.iconst X (n := 1) (v := (1 : Int32)) (pc' := 716) (by decide +kernel) rfl rfl ?_
  refine Gl.iadd X (pc' := 717) (by decide +kernel) rfl ?_
  refine Gl.sld X (i := x4 + (1 : Int32)) (gl_in hk e4 X.1 (j := 1) ⟨by decide, rfl⟩) (pc' := 718) (by decide +kernel) rfl ?_
  rw [gl_cl hk e4 X.1 (j := 1) (v := (1 : Int32)) ⟨by decide, rfl⟩]
  refine Gl.aload_n X (q := 0) (pc' := 719) (by decide +kernel) rfl 1 rfl ?_
  refine Gl.iload X (i := 4) (pc' := 721) (by decide +kernel) rfl 0 rfl ?_
  refine Gl.iconst X (n := 2) (v := (2 : Int32)) (pc' := 722) (by decide +kernel) rfl rfl ?_
  refine Gl.iadd X (pc' := 723) (by decide +kernel) rfl ?_
  refine Gl.sld X (i := x4 + (2 : Int32)) (gl_in hk e4 X.1 (j := 2) ⟨by decide, rfl⟩) (pc' := 724) (by decide +kernel) rfl ?_
  rw [gl_cl hk e4 X.1 (j := 2) (v := (2 : Int32)) ⟨by decide, rfl⟩]
  refine Gl.aload_n X (q := 0) (pc' := 725) (by decide +kernel) rfl 1 rfl ?_
  refine Gl.iload X (i := 4) (pc' := 727) (by decide +kernel) rfl 0 rfl ?_
  refine Gl.iconst X (n := 3) (v := (3 : Int32)) (pc' := 728) (by decide +kernel) rfl rfl ?_
  refine Gl.iadd X (pc' := 729) (by decide +kernel) rfl ?_
  refine Gl.sld X (i := x4 + (3 : Int32)) (gl_in hk e4 X.1 (j := 3) ⟨by decide, rfl⟩) (pc' := 730) (by decide +kernel) rfl ?_
  rw [gl_cl hk e4 X.1 (j := 3) (v := (3 : Int32)) ⟨by decide, rfl⟩]
  refine Gl.callVI (z := m_M_holds) (st := [.int r]) (bb := 107) (pc' := 733) [.int (xs (6 * k + 1)), .int (xs (6 * k + 2)), .int (xs (6 * k + 3))] X (g_M_holds (xs (6 * k + 1)) (xs (6 * k + 2)) (xs (6 * k + 3)) w1) hr2 ok_m_M_holds lkL_75 sh_107 rfl rfl rfl (Nat.le_of_ble_eq_true rfl) (Nat.le_of_ble_eq_true rfl) (Nat.le_of_ble_eq_true rfl) hcs rfl (by decide +kernel) rfl ?_
  refine Gl.icmp_eq X (off := 1183) (tgt := 1916) (pc' := 736) (by decide +kernel) (by decide) rfl (fun c1 => ?_) (fun c1 => absurd rfl c1)
  exact hcont w2 hw2
theorem law_when {p : Program} {l : Launch} {e : Env} {s : State} {m : MethodId} {below : List Frame} {meth : Method} {c : Code} {b o LL : Nat} {xs : Nat → Int32} {D : va_G} {yy : Nat → ClassId} {cells slots : Nat} (X : gC p s m meth c b LL xs o D yy) {k : Nat} {x4 : Int32} (hk : 6 * k + 6 ≤ LL ∧ LL ≤ 3072) (e4 : x4 = nI (6 * k)) (hcs : cells ≤ 601024 ∧ slots ≤ 7293034) {I : gW → Prop} (hstep : zSt_when I) (hcont : ∀ w : gW, I w → Gl p l e s m below meth c b o D yy cells slots 1916 [(4, .int x4), (0, .ref b), (1, .ref (o + 0)), (2, .ref (o + 107)), (3, .ref (o + 135))] [] w) (w : gW) (hw : I w) : Gl p l e s m below meth c b o D yy cells slots 738 [(4, .int x4), (0, .ref b), (1, .ref (o + 0)), (2, .ref (o + 107)), (3, .ref (o + 135))] [] w := by
  refine Gl.aload_n X (q := 1) (pc' := 739) (by decide +kernel) rfl 2 rfl ?_
  refine Gl.aload_n X (q := 0) (pc' := 740) (by decide +kernel) rfl 1 rfl ?_
  refine Gl.iload X (i := 4) (pc' := 742) (by decide +kernel) rfl 0 rfl ?_
  refine Gl.iconst X (n := 1) (v := (1 : Int32)) (pc' := 743) (by decide +kernel) rfl rfl ?_
  refine Gl.iadd X (pc' := 744) (by decide +kernel) rfl ?_
  refine Gl.sld X (i := x4 + (1 : Int32)) (gl_in hk e4 X.1 (j := 1) ⟨by decide, rfl⟩) (pc' := 745) (by decide +kernel) rfl ?_
  rw [gl_cl hk e4 X.1 (j := 1) (v := (1 : Int32)) ⟨by decide, rfl⟩]
  obtain ⟨r, w1, w2, hr1, hr2, hw2⟩ := hstep (xs (6 * k + 1)) w hw
  refine Gl.callVI (z := m_X_when) (st := []) (bb := 0) (pc' := 748) [.int (xs (6 * k + 1))] X (g_X_when (xs (6 * k + 1)) w) hr1 ok_m_X_when lkL_76 sh_0 rfl rfl rfl (Nat.le_of_ble_eq_true rfl) (Nat.le_of_ble_eq_true rfl) (Nat.le_of_ble_eq_true rfl) hcs rfl (by decide +kernel) rfl ?_
  refine Gl.aload_n X (q := 2) (pc' := 749) (by decide +kernel) rfl 3 rfl ?_
  refine Gl.aload_n X (q := 0) (pc' := 750) (by decide +kernel) rfl 1 rfl ?_
  refine Gl.iload X (i := 4) (pc' := 752) (by decide +kernel) rfl 0 rfl ?_
  refine Gl.iconst X (n := 1) (v := (1 : Int32)) (pc' := 753) (by decide +kernel) rfl rfl ?_
  refine Gl.iadd X (pc' := 754) (by decide +kernel) rfl ?_
  refine Gl.sld X (i := x4 + (1 : Int32)) (gl_in hk e4 X.1 (j := 1) ⟨by decide, rfl⟩) (pc' := 755) (by decide +kernel) rfl ?_
  rw [gl_cl hk e4 X.1 (j := 1) (v := (1 : Int32)) ⟨by decide, rfl⟩]
  refine Gl.callVI (z := m_M_when) (st := [.int r]) (bb := 107) (pc' := 758) [.int (xs (6 * k + 1))] X (g_M_when (xs (6 * k + 1)) w1) hr2 ok_m_M_when lkL_79 sh_107 rfl rfl rfl (Nat.le_of_ble_eq_true rfl) (Nat.le_of_ble_eq_true rfl) (Nat.le_of_ble_eq_true rfl) hcs rfl (by decide +kernel) rfl ?_
  refine Gl.icmp_eq X (off := 1158) (tgt := 1916) (pc' := 761) (by decide +kernel) (by decide) rfl (fun c1 => ?_) (fun c1 => absurd rfl c1)
  exact hcont w2 hw2
theorem law_breaks {p : Program} {l : Launch} {e : Env} {s : State} {m : MethodId} {below : List Frame} {meth : Method} {c : Code} {b o LL : Nat} {xs : Nat → Int32} {D : va_G} {yy : Nat → ClassId} {cells slots : Nat} (X : gC p s m meth c b LL xs o D yy) {k : Nat} {x4 : Int32} (hk : 6 * k + 6 ≤ LL ∧ LL ≤ 3072) (e4 : x4 = nI (6 * k)) (hcs : cells ≤ 601024 ∧ slots ≤ 7293034) {I : gW → Prop} (hstep : zSt_breaks I) (hcont : ∀ w : gW, I w → Gl p l e s m below meth c b o D yy cells slots 1916 [(4, .int x4), (0, .ref b), (1, .ref (o + 0)), (2, .ref (o + 107)), (3, .ref (o + 135))] [] w) (w : gW) (hw : I w) : Gl p l e s m below meth c b o D yy cells slots 763 [(4, .int x4), (0, .ref b), (1, .ref (o + 0)), (2, .ref (o + 107)), (3, .ref (o + 135))] [] w := by
  refine Gl.aload_n X (q := 1) (pc' := 764) (by decide +kernel) rfl 2 rfl ?_
  obtain ⟨r, w1, w2, hr1, hr2, hw2⟩ := hstep w hw
  refine Gl.callVI (z := m_X_breaks) (st := []) (bb := 0) (pc' := 767) [] X (g_X_breaks w) hr1 ok_m_X_breaks lkL_80 sh_0 rfl rfl rfl (Nat.le_of_ble_eq_true rfl) (Nat.le_of_ble_eq_true rfl) (Nat.le_of_ble_eq_true rfl) hcs rfl (by decide +kernel) rfl ?_
  refine Gl.aload_n X (q := 2) (pc' := 768) (by decide +kernel) rfl 3 rfl ?_
  refine Gl.callVI (z := m_M_breaks) (st := [.int r]) (bb := 107) (pc' := 771) [] X (g_M_breaks w1) hr2 ok_m_M_breaks lkL_83 sh_107 rfl rfl rfl (Nat.le_of_ble_eq_true rfl) (Nat.le_of_ble_eq_true rfl) (Nat.le_of_ble_eq_true rfl) hcs rfl (by decide +kernel) rfl ?_
  refine Gl.icmp_eq X (off := 1145) (tgt := 1916) (pc' := 774) (by decide +kernel) (by decide) rfl (fun c1 => ?_) (fun c1 => absurd rfl c1)
  exact hcont w2 hw2
theorem law_clash {p : Program} {l : Launch} {e : Env} {s : State} {m : MethodId} {below : List Frame} {meth : Method} {c : Code} {b o LL : Nat} {xs : Nat → Int32} {D : va_G} {yy : Nat → ClassId} {cells slots : Nat} (X : gC p s m meth c b LL xs o D yy) {k : Nat} {x4 : Int32} (hk : 6 * k + 6 ≤ LL ∧ LL ≤ 3072) (e4 : x4 = nI (6 * k)) (hcs : cells ≤ 601024 ∧ slots ≤ 7293034) {I : gW → Prop} (hstep : zSt_clash I) (hcont : ∀ w : gW, I w → Gl p l e s m below meth c b o D yy cells slots 1916 [(4, .int x4), (0, .ref b), (1, .ref (o + 0)), (2, .ref (o + 107)), (3, .ref (o + 135))] [] w) (w : gW) (hw : I w) : Gl p l e s m below meth c b o D yy cells slots 776 [(4, .int x4), (0, .ref b), (1, .ref (o + 0)), (2, .ref (o + 107)), (3, .ref (o + 135))] [] w := by
  refine Gl.aload_n X (q := 1) (pc' := 777) (by decide +kernel) rfl 2 rfl ?_
  obtain ⟨r, w1, w2, hr1, hr2, hw2⟩ := hstep w hw
  refine Gl.callVI (z := m_X_clash) (st := []) (bb := 0) (pc' := 780) [] X (g_X_clash w) hr1 ok_m_X_clash lkL_84 sh_0 rfl rfl rfl (Nat.le_of_ble_eq_true rfl) (Nat.le_of_ble_eq_true rfl) (Nat.le_of_ble_eq_true rfl) hcs rfl (by decide +kernel) rfl ?_
  refine Gl.aload_n X (q := 2) (pc' := 781) (by decide +kernel) rfl 3 rfl ?_
  refine Gl.callVI (z := m_M_clash) (st := [.int r]) (bb := 107) (pc' := 784) [] X (g_M_clash w1) hr2 ok_m_M_clash lkL_87 sh_107 rfl rfl rfl (Nat.le_of_ble_eq_true rfl) (Nat.le_of_ble_eq_true rfl) (Nat.le_of_ble_eq_true rfl) hcs rfl (by decide +kernel) rfl ?_
  refine Gl.icmp_eq X (off := 1132) (tgt := 1916) (pc' := 787) (by decide +kernel) (by decide) rfl (fun c1 => ?_) (fun c1 => absurd rfl c1)
  exact hcont w2 hw2
theorem law_may {p : Program} {l : Launch} {e : Env} {s : State} {m : MethodId} {below : List Frame} {meth : Method} {c : Code} {b o LL : Nat} {xs : Nat → Int32} {D : va_G} {yy : Nat → ClassId} {cells slots : Nat} (X : gC p s m meth c b LL xs o D yy) {k : Nat} {x4 : Int32} (hk : 6 * k + 6 ≤ LL ∧ LL ≤ 3072) (e4 : x4 = nI (6 * k)) (hcs : cells ≤ 601024 ∧ slots ≤ 7293034) {I : gW → Prop} (hstep : zSt_may I) (hcont : ∀ w : gW, I w → Gl p l e s m below meth c b o D yy cells slots 1916 [(4, .int x4), (0, .ref b), (1, .ref (o + 0)), (2, .ref (o + 107)), (3, .ref (o + 135))] [] w) (w : gW) (hw : I w) : Gl p l e s m below meth c b o D yy cells slots 789 [(4, .int x4), (0, .ref b), (1, .ref (o + 0)), (2, .ref (o + 107)), (3, .ref (o + 135))] [] w := by
  refine Gl.aload_n X (q := 1) (pc' := 790) (by decide +kernel) rfl 2 rfl ?_
  refine Gl.aload_n X (q := 0) (pc' := 791) (by decide +kernel) rfl 1 rfl ?_
  refine Gl.iload X (i := 4) (pc' := 793) (by decide +kernel) rfl 0 rfl ?_
  refine Gl.iconst X (n := 1) (v := (1 : Int32)) (pc' := 794) (by decide +kernel) rfl rfl ?_
  refine Gl.iadd X (pc' := 795) (by decide +kernel) rfl ?_
  refine Gl.sld X (i := x4 + (1 : Int32)) (gl_in hk e4 X.1 (j := 1) ⟨by decide, rfl⟩) (pc' := 796) (by decide +kernel) rfl ?_
  rw [gl_cl hk e4 X.1 (j := 1) (v := (1 : Int32)) ⟨by decide, rfl⟩]
  obtain ⟨r, w1, w2, hr1, hr2, hw2⟩ := hstep (xs (6 * k + 1)) w hw
  refine Gl.callVI (z := m_X_may) (st := []) (bb := 0) (pc' := 799) [.int (xs (6 * k + 1))] X (g_X_may (xs (6 * k + 1)) w) hr1 ok_m_X_may lkL_88 sh_0 rfl rfl rfl (Nat.le_of_ble_eq_true rfl) (Nat.le_of_ble_eq_true rfl) (Nat.le_of_ble_eq_true rfl) hcs rfl (by decide +kernel) rfl ?_
  refine Gl.aload_n X (q := 2) (pc' := 800) (by decide +kernel) rfl 3 rfl ?_
  refine Gl.aload_n X (q := 0) (pc' := 801) (by decide +kernel) rfl 1 rfl ?_
  refine Gl.iload X (i := 4) (pc' := 803) (by decide +kernel) rfl 0 rfl ?_
  refine Gl.iconst X (n := 1) (v := (1 : Int32)) (pc' := 804) (by decide +kernel) rfl rfl ?_
  refine Gl.iadd X (pc' := 805) (by decide +kernel) rfl ?_
  refine Gl.sld X (i := x4 + (1 : Int32)) (gl_in hk e4 X.1 (j := 1) ⟨by decide, rfl⟩) (pc' := 806) (by decide +kernel) rfl ?_
  rw [gl_cl hk e4 X.1 (j := 1) (v := (1 : Int32)) ⟨by decide, rfl⟩]
  refine Gl.callVI (z := m_M_may) (st := [.int r]) (bb := 107) (pc' := 809) [.int (xs (6 * k + 1))] X (g_M_may (xs (6 * k + 1)) w1) hr2 ok_m_M_may lkL_91 sh_107 rfl rfl rfl (Nat.le_of_ble_eq_true rfl) (Nat.le_of_ble_eq_true rfl) (Nat.le_of_ble_eq_true rfl) hcs rfl (by decide +kernel) rfl ?_
  refine Gl.icmp_eq X (off := 1107) (tgt := 1916) (pc' := 812) (by decide +kernel) (by decide) rfl (fun c1 => ?_) (fun c1 => absurd rfl c1)
  exact hcont w2 hw2
theorem law_most {p : Program} {l : Launch} {e : Env} {s : State} {m : MethodId} {below : List Frame} {meth : Method} {c : Code} {b o LL : Nat} {xs : Nat → Int32} {D : va_G} {yy : Nat → ClassId} {cells slots : Nat} (X : gC p s m meth c b LL xs o D yy) {k : Nat} {x4 : Int32} (hk : 6 * k + 6 ≤ LL ∧ LL ≤ 3072) (e4 : x4 = nI (6 * k)) (hcs : cells ≤ 601024 ∧ slots ≤ 7293034) {I : gW → Prop} (hstep : zSt_most I) (hcont : ∀ w : gW, I w → Gl p l e s m below meth c b o D yy cells slots 1916 [(4, .int x4), (0, .ref b), (1, .ref (o + 0)), (2, .ref (o + 107)), (3, .ref (o + 135))] [] w) (w : gW) (hw : I w) : Gl p l e s m below meth c b o D yy cells slots 814 [(4, .int x4), (0, .ref b), (1, .ref (o + 0)), (2, .ref (o + 107)), (3, .ref (o + 135))] [] w := by
  refine Gl.aload_n X (q := 1) (pc' := 815) (by decide +kernel) rfl 2 rfl ?_
  refine Gl.aload_n X (q := 0) (pc' := 816) (by decide +kernel) rfl 1 rfl ?_
  refine Gl.iload X (i := 4) (pc' := 818) (by decide +kernel) rfl 0 rfl ?_
  refine Gl.iconst X (n := 1) (v := (1 : Int32)) (pc' := 819) (by decide +kernel) rfl rfl ?_
  refine Gl.iadd X (pc' := 820) (by decide +kernel) rfl ?_
  refine Gl.sld X (i := x4 + (1 : Int32)) (gl_in hk e4 X.1 (j := 1) ⟨by decide, rfl⟩) (pc' := 821) (by decide +kernel) rfl ?_
  rw [gl_cl hk e4 X.1 (j := 1) (v := (1 : Int32)) ⟨by decide, rfl⟩]
  refine Gl.aload_n X (q := 0) (pc' := 822) (by decide +kernel) rfl 1 rfl ?_
  refine Gl.iload X (i := 4) (pc' := 824) (by decide +kernel) rfl 0 rfl ?_
  refine Gl.iconst X (n := 2) (v := (2 : Int32)) (pc' := 825) (by decide +kernel) rfl rfl ?_
  refine Gl.iadd X (pc' := 826) (by decide +kernel) rfl ?_
  refine Gl.sld X (i := x4 + (2 : Int32)) (gl_in hk e4 X.1 (j := 2) ⟨by decide, rfl⟩) (pc' := 827) (by decide +kernel) rfl ?_
  rw [gl_cl hk e4 X.1 (j := 2) (v := (2 : Int32)) ⟨by decide, rfl⟩]
  obtain ⟨r, w1, w2, hr1, hr2, hw2⟩ := hstep (xs (6 * k + 1)) (xs (6 * k + 2)) w hw
  refine Gl.callVI (z := m_X_most) (st := []) (bb := 0) (pc' := 830) [.int (xs (6 * k + 1)), .int (xs (6 * k + 2))] X (g_X_most (xs (6 * k + 1)) (xs (6 * k + 2)) w) hr1 ok_m_X_most lkL_92 sh_0 rfl rfl rfl (Nat.le_of_ble_eq_true rfl) (Nat.le_of_ble_eq_true rfl) (Nat.le_of_ble_eq_true rfl) hcs rfl (by decide +kernel) rfl ?_
  refine Gl.aload_n X (q := 2) (pc' := 831) (by decide +kernel) rfl 3 rfl ?_
  refine Gl.aload_n X (q := 0) (pc' := 832) (by decide +kernel) rfl 1 rfl ?_
  refine Gl.iload X (i := 4) (pc' := 834) (by decide +kernel) rfl 0 rfl ?_
  refine Gl.iconst X (n := 1) (v := (1 : Int32)) (pc' := 835) (by decide +kernel) rfl rfl ?_
  refine Gl.iadd X (pc' := 836) (by decide +kernel) rfl ?_
  refine Gl.sld X (i := x4 + (1 : Int32)) (gl_in hk e4 X.1 (j := 1) ⟨by decide, rfl⟩) (pc' := 837) (by decide +kernel) rfl ?_
  rw [gl_cl hk e4 X.1 (j := 1) (v := (1 : Int32)) ⟨by decide, rfl⟩]
  refine Gl.aload_n X (q := 0) (pc' := 838) (by decide +kernel) rfl 1 rfl ?_
  refine Gl.iload X (i := 4) (pc' := 840) (by decide +kernel) rfl 0 rfl ?_
  refine Gl.iconst X (n := 2) (v := (2 : Int32)) (pc' := 841) (by decide +kernel) rfl rfl ?_
  refine Gl.iadd X (pc' := 842) (by decide +kernel) rfl ?_
  refine Gl.sld X (i := x4 + (2 : Int32)) (gl_in hk e4 X.1 (j := 2) ⟨by decide, rfl⟩) (pc' := 843) (by decide +kernel) rfl ?_
  rw [gl_cl hk e4 X.1 (j := 2) (v := (2 : Int32)) ⟨by decide, rfl⟩]
  refine Gl.callVI (z := m_M_most) (st := [.int r]) (bb := 107) (pc' := 846) [.int (xs (6 * k + 1)), .int (xs (6 * k + 2))] X (g_M_most (xs (6 * k + 1)) (xs (6 * k + 2)) w1) hr2 ok_m_M_most lkL_95 sh_107 rfl rfl rfl (Nat.le_of_ble_eq_true rfl) (Nat.le_of_ble_eq_true rfl) (Nat.le_of_ble_eq_true rfl) hcs rfl (by decide +kernel) rfl ?_
  refine Gl.icmp_eq X (off := 1070) (tgt := 1916) (pc' := 849) (by decide +kernel) (by decide) rfl (fun c1 => ?_) (fun c1 => absurd rfl c1)
  exact hcont w2 hw2
theorem law_hinders {p : Program} {l : Launch} {e : Env} {s : State} {m : MethodId} {below : List Frame} {meth : Method} {c : Code} {b o LL : Nat} {xs : Nat → Int32} {D : va_G} {yy : Nat → ClassId} {cells slots : Nat} (X : gC p s m meth c b LL xs o D yy) {k : Nat} {x4 : Int32} (hk : 6 * k + 6 ≤ LL ∧ LL ≤ 3072) (e4 : x4 = nI (6 * k)) (hcs : cells ≤ 601024 ∧ slots ≤ 7293034) {I : gW → Prop} (hstep : zSt_hinders I) (hcont : ∀ w : gW, I w → Gl p l e s m below meth c b o D yy cells slots 1916 [(4, .int x4), (0, .ref b), (1, .ref (o + 0)), (2, .ref (o + 107)), (3, .ref (o + 135))] [] w) (w : gW) (hw : I w) : Gl p l e s m below meth c b o D yy cells slots 851 [(4, .int x4), (0, .ref b), (1, .ref (o + 0)), (2, .ref (o + 107)), (3, .ref (o + 135))] [] w := by
  refine Gl.aload_n X (q := 1) (pc' := 852) (by decide +kernel) rfl 2 rfl ?_
  refine Gl.aload_n X (q := 0) (pc' := 853) (by decide +kernel) rfl 1 rfl ?_
  refine Gl.iload X (i := 4) (pc' := 855) (by decide +kernel) rfl 0 rfl ?_
  refine Gl.iconst X (n := 1) (v := (1 : Int32)) (pc' := 856) (by decide +kernel) rfl rfl ?_
  refine Gl.iadd X (pc' := 857) (by decide +kernel) rfl ?_
  refine Gl.sld X (i := x4 + (1 : Int32)) (gl_in hk e4 X.1 (j := 1) ⟨by decide, rfl⟩) (pc' := 858) (by decide +kernel) rfl ?_
  rw [gl_cl hk e4 X.1 (j := 1) (v := (1 : Int32)) ⟨by decide, rfl⟩]
  obtain ⟨r, w1, w2, hr1, hr2, hw2⟩ := hstep (xs (6 * k + 1)) w hw
  refine Gl.callVI (z := m_X_hinders) (st := []) (bb := 0) (pc' := 861) [.int (xs (6 * k + 1))] X (g_X_hinders (xs (6 * k + 1)) w) hr1 ok_m_X_hinders lkL_96 sh_0 rfl rfl rfl (Nat.le_of_ble_eq_true rfl) (Nat.le_of_ble_eq_true rfl) (Nat.le_of_ble_eq_true rfl) hcs rfl (by decide +kernel) rfl ?_
  refine Gl.aload_n X (q := 2) (pc' := 862) (by decide +kernel) rfl 3 rfl ?_
  refine Gl.aload_n X (q := 0) (pc' := 863) (by decide +kernel) rfl 1 rfl ?_
  refine Gl.iload X (i := 4) (pc' := 865) (by decide +kernel) rfl 0 rfl ?_
  refine Gl.iconst X (n := 1) (v := (1 : Int32)) (pc' := 866) (by decide +kernel) rfl rfl ?_
  refine Gl.iadd X (pc' := 867) (by decide +kernel) rfl ?_
  refine Gl.sld X (i := x4 + (1 : Int32)) (gl_in hk e4 X.1 (j := 1) ⟨by decide, rfl⟩) (pc' := 868) (by decide +kernel) rfl ?_
  rw [gl_cl hk e4 X.1 (j := 1) (v := (1 : Int32)) ⟨by decide, rfl⟩]
  refine Gl.callVI (z := m_M_hinders) (st := [.int r]) (bb := 107) (pc' := 871) [.int (xs (6 * k + 1))] X (g_M_hinders (xs (6 * k + 1)) w1) hr2 ok_m_M_hinders lkL_99 sh_107 rfl rfl rfl (Nat.le_of_ble_eq_true rfl) (Nat.le_of_ble_eq_true rfl) (Nat.le_of_ble_eq_true rfl) hcs rfl (by decide +kernel) rfl ?_
  refine Gl.icmp_eq X (off := 1045) (tgt := 1916) (pc' := 874) (by decide +kernel) (by decide) rfl (fun c1 => ?_) (fun c1 => absurd rfl c1)
  exact hcont w2 hw2
theorem law_must {p : Program} {l : Launch} {e : Env} {s : State} {m : MethodId} {below : List Frame} {meth : Method} {c : Code} {b o LL : Nat} {xs : Nat → Int32} {D : va_G} {yy : Nat → ClassId} {cells slots : Nat} (X : gC p s m meth c b LL xs o D yy) {k : Nat} {x4 : Int32} (hk : 6 * k + 6 ≤ LL ∧ LL ≤ 3072) (e4 : x4 = nI (6 * k)) (hcs : cells ≤ 601024 ∧ slots ≤ 7293034) {I : gW → Prop} (hstep : zSt_must I) (hcont : ∀ w : gW, I w → Gl p l e s m below meth c b o D yy cells slots 1916 [(4, .int x4), (0, .ref b), (1, .ref (o + 0)), (2, .ref (o + 107)), (3, .ref (o + 135))] [] w) (w : gW) (hw : I w) : Gl p l e s m below meth c b o D yy cells slots 876 [(4, .int x4), (0, .ref b), (1, .ref (o + 0)), (2, .ref (o + 107)), (3, .ref (o + 135))] [] w := by
  refine Gl.aload_n X (q := 1) (pc' := 877) (by decide +kernel) rfl 2 rfl ?_
  refine Gl.aload_n X (q := 0) (pc' := 878) (by decide +kernel) rfl 1 rfl ?_
  refine Gl.iload X (i := 4) (pc' := 880) (by decide +kernel) rfl 0 rfl ?_
  refine Gl.iconst X (n := 1) (v := (1 : Int32)) (pc' := 881) (by decide +kernel) rfl rfl ?_
  refine Gl.iadd X (pc' := 882) (by decide +kernel) rfl ?_
  refine Gl.sld X (i := x4 + (1 : Int32)) (gl_in hk e4 X.1 (j := 1) ⟨by decide, rfl⟩) (pc' := 883) (by decide +kernel) rfl ?_
  rw [gl_cl hk e4 X.1 (j := 1) (v := (1 : Int32)) ⟨by decide, rfl⟩]
  obtain ⟨r, w1, w2, hr1, hr2, hw2⟩ := hstep (xs (6 * k + 1)) w hw
  refine Gl.callVI (z := m_X_must) (st := []) (bb := 0) (pc' := 886) [.int (xs (6 * k + 1))] X (g_X_must (xs (6 * k + 1)) w) hr1 ok_m_X_must lkL_100 sh_0 rfl rfl rfl (Nat.le_of_ble_eq_true rfl) (Nat.le_of_ble_eq_true rfl) (Nat.le_of_ble_eq_true rfl) hcs rfl (by decide +kernel) rfl ?_
  refine Gl.aload_n X (q := 2) (pc' := 887) (by decide +kernel) rfl 3 rfl ?_
  refine Gl.aload_n X (q := 0) (pc' := 888) (by decide +kernel) rfl 1 rfl ?_
  refine Gl.iload X (i := 4) (pc' := 890) (by decide +kernel) rfl 0 rfl ?_
  refine Gl.iconst X (n := 1) (v := (1 : Int32)) (pc' := 891) (by decide +kernel) rfl rfl ?_
  refine Gl.iadd X (pc' := 892) (by decide +kernel) rfl ?_
  refine Gl.sld X (i := x4 + (1 : Int32)) (gl_in hk e4 X.1 (j := 1) ⟨by decide, rfl⟩) (pc' := 893) (by decide +kernel) rfl ?_
  rw [gl_cl hk e4 X.1 (j := 1) (v := (1 : Int32)) ⟨by decide, rfl⟩]
  refine Gl.callVI (z := m_M_must) (st := [.int r]) (bb := 107) (pc' := 896) [.int (xs (6 * k + 1))] X (g_M_must (xs (6 * k + 1)) w1) hr2 ok_m_M_must lkL_103 sh_107 rfl rfl rfl (Nat.le_of_ble_eq_true rfl) (Nat.le_of_ble_eq_true rfl) (Nat.le_of_ble_eq_true rfl) hcs rfl (by decide +kernel) rfl ?_
  refine Gl.icmp_eq X (off := 1020) (tgt := 1916) (pc' := 899) (by decide +kernel) (by decide) rfl (fun c1 => ?_) (fun c1 => absurd rfl c1)
  exact hcont w2 hw2
theorem law_care {p : Program} {l : Launch} {e : Env} {s : State} {m : MethodId} {below : List Frame} {meth : Method} {c : Code} {b o LL : Nat} {xs : Nat → Int32} {D : va_G} {yy : Nat → ClassId} {cells slots : Nat} (X : gC p s m meth c b LL xs o D yy) {k : Nat} {x4 : Int32} (hk : 6 * k + 6 ≤ LL ∧ LL ≤ 3072) (e4 : x4 = nI (6 * k)) (hcs : cells ≤ 601024 ∧ slots ≤ 7293034) {I : gW → Prop} (hstep : zSt_care I) (hcont : ∀ w : gW, I w → Gl p l e s m below meth c b o D yy cells slots 1916 [(4, .int x4), (0, .ref b), (1, .ref (o + 0)), (2, .ref (o + 107)), (3, .ref (o + 135))] [] w) (w : gW) (hw : I w) : Gl p l e s m below meth c b o D yy cells slots 901 [(4, .int x4), (0, .ref b), (1, .ref (o + 0)), (2, .ref (o + 107)), (3, .ref (o + 135))] [] w := by
  refine Gl.aload_n X (q := 1) (pc' := 902) (by decide +kernel) rfl 2 rfl ?_
  refine Gl.aload_n X (q := 0) (pc' := 903) (by decide +kernel) rfl 1 rfl ?_
  refine Gl.iload X (i := 4) (pc' := 905) (by decide +kernel) rfl 0 rfl ?_
  refine Gl.iconst X (n := 1) (v := (1 : Int32)) (pc' := 906) (by decide +kernel) rfl rfl ?_
  refine Gl.iadd X (pc' := 907) (by decide +kernel) rfl ?_
  refine Gl.sld X (i := x4 + (1 : Int32)) (gl_in hk e4 X.1 (j := 1) ⟨by decide, rfl⟩) (pc' := 908) (by decide +kernel) rfl ?_
  rw [gl_cl hk e4 X.1 (j := 1) (v := (1 : Int32)) ⟨by decide, rfl⟩]
  refine Gl.aload_n X (q := 0) (pc' := 909) (by decide +kernel) rfl 1 rfl ?_
  refine Gl.iload X (i := 4) (pc' := 911) (by decide +kernel) rfl 0 rfl ?_
  refine Gl.iconst X (n := 2) (v := (2 : Int32)) (pc' := 912) (by decide +kernel) rfl rfl ?_
  refine Gl.iadd X (pc' := 913) (by decide +kernel) rfl ?_
  refine Gl.sld X (i := x4 + (2 : Int32)) (gl_in hk e4 X.1 (j := 2) ⟨by decide, rfl⟩) (pc' := 914) (by decide +kernel) rfl ?_
  rw [gl_cl hk e4 X.1 (j := 2) (v := (2 : Int32)) ⟨by decide, rfl⟩]
  refine Gl.aload_n X (q := 0) (pc' := 915) (by decide +kernel) rfl 1 rfl ?_
  refine Gl.iload X (i := 4) (pc' := 917) (by decide +kernel) rfl 0 rfl ?_
  refine Gl.iconst X (n := 3) (v := (3 : Int32)) (pc' := 918) (by decide +kernel) rfl rfl ?_
  refine Gl.iadd X (pc' := 919) (by decide +kernel) rfl ?_
  refine Gl.sld X (i := x4 + (3 : Int32)) (gl_in hk e4 X.1 (j := 3) ⟨by decide, rfl⟩) (pc' := 920) (by decide +kernel) rfl ?_
  rw [gl_cl hk e4 X.1 (j := 3) (v := (3 : Int32)) ⟨by decide, rfl⟩]
  obtain ⟨r, w1, w2, hr1, hr2, hw2⟩ := hstep (xs (6 * k + 1)) (xs (6 * k + 2)) (xs (6 * k + 3)) w hw
  refine Gl.callVI (z := m_X_care) (st := []) (bb := 0) (pc' := 923) [.int (xs (6 * k + 1)), .int (xs (6 * k + 2)), .int (xs (6 * k + 3))] X (g_X_care (xs (6 * k + 1)) (xs (6 * k + 2)) (xs (6 * k + 3)) w) hr1 ok_m_X_care lkL_104 sh_0 rfl rfl rfl (Nat.le_of_ble_eq_true rfl) (Nat.le_of_ble_eq_true rfl) (Nat.le_of_ble_eq_true rfl) hcs rfl (by decide +kernel) rfl ?_
  refine Gl.aload_n X (q := 2) (pc' := 924) (by decide +kernel) rfl 3 rfl ?_
  refine Gl.aload_n X (q := 0) (pc' := 925) (by decide +kernel) rfl 1 rfl ?_
  refine Gl.iload X (i := 4) (pc' := 927) (by decide +kernel) rfl 0 rfl ?_
  refine Gl.iconst X (n := 1) (v := (1 : Int32)) (pc' := 928) (by decide +kernel) rfl rfl ?_
  refine Gl.iadd X (pc' := 929) (by decide +kernel) rfl ?_
  refine Gl.sld X (i := x4 + (1 : Int32)) (gl_in hk e4 X.1 (j := 1) ⟨by decide, rfl⟩) (pc' := 930) (by decide +kernel) rfl ?_
  rw [gl_cl hk e4 X.1 (j := 1) (v := (1 : Int32)) ⟨by decide, rfl⟩]
  refine Gl.aload_n X (q := 0) (pc' := 931) (by decide +kernel) rfl 1 rfl ?_
  refine Gl.iload X (i := 4) (pc' := 933) (by decide +kernel) rfl 0 rfl ?_
  refine Gl.iconst X (n := 2) (v := (2 : Int32)) (pc' := 934) (by decide +kernel) rfl rfl ?_
  refine Gl.iadd X (pc' := 935) (by decide +kernel) rfl ?_
  refine Gl.sld X (i := x4 + (2 : Int32)) (gl_in hk e4 X.1 (j := 2) ⟨by decide, rfl⟩) (pc' := 936) (by decide +kernel) rfl ?_
  rw [gl_cl hk e4 X.1 (j := 2) (v := (2 : Int32)) ⟨by decide, rfl⟩]
  refine Gl.aload_n X (q := 0) (pc' := 937) (by decide +kernel) rfl 1 rfl ?_
  refine Gl.iload X (i := 4) (pc' := 939) (by decide +kernel) rfl 0 rfl ?_
  refine Gl.iconst X (n := 3) (v := (3 : Int32)) (pc' := 940) (by decide +kernel) rfl rfl ?_
  refine Gl.iadd X (pc' := 941) (by decide +kernel) rfl ?_
  refine Gl.sld X (i := x4 + (3 : Int32)) (gl_in hk e4 X.1 (j := 3) ⟨by decide, rfl⟩) (pc' := 942) (by decide +kernel) rfl ?_
  rw [gl_cl hk e4 X.1 (j := 3) (v := (3 : Int32)) ⟨by decide, rfl⟩]
  refine Gl.callVI (z := m_M_care) (st := [.int r]) (bb := 107) (pc' := 945) [.int (xs (6 * k + 1)), .int (xs (6 * k + 2)), .int (xs (6 * k + 3))] X (g_M_care (xs (6 * k + 1)) (xs (6 * k + 2)) (xs (6 * k + 3)) w1) hr2 ok_m_M_care lkL_107 sh_107 rfl rfl rfl (Nat.le_of_ble_eq_true rfl) (Nat.le_of_ble_eq_true rfl) (Nat.le_of_ble_eq_true rfl) hcs rfl (by decide +kernel) rfl ?_
  refine Gl.icmp_eq X (off := 971) (tgt := 1916) (pc' := 948) (by decide +kernel) (by decide) rfl (fun c1 => ?_) (fun c1 => absurd rfl c1)
  exact hcont w2 hw2
theorem law_perjured {p : Program} {l : Launch} {e : Env} {s : State} {m : MethodId} {below : List Frame} {meth : Method} {c : Code} {b o LL : Nat} {xs : Nat → Int32} {D : va_G} {yy : Nat → ClassId} {cells slots : Nat} (X : gC p s m meth c b LL xs o D yy) {k : Nat} {x4 : Int32} (hk : 6 * k + 6 ≤ LL ∧ LL ≤ 3072) (e4 : x4 = nI (6 * k)) (hcs : cells ≤ 601024 ∧ slots ≤ 7293034) {I : gW → Prop} (hstep : zSt_perjured I) (hcont : ∀ w : gW, I w → Gl p l e s m below meth c b o D yy cells slots 1916 [(4, .int x4), (0, .ref b), (1, .ref (o + 0)), (2, .ref (o + 107)), (3, .ref (o + 135))] [] w) (w : gW) (hw : I w) : Gl p l e s m below meth c b o D yy cells slots 950 [(4, .int x4), (0, .ref b), (1, .ref (o + 0)), (2, .ref (o + 107)), (3, .ref (o + 135))] [] w := by
  refine Gl.aload_n X (q := 1) (pc' := 951) (by decide +kernel) rfl 2 rfl ?_
  refine Gl.aload_n X (q := 0) (pc' := 952) (by decide +kernel) rfl 1 rfl ?_
  refine Gl.iload X (i := 4) (pc' := 954) (by decide +kernel) rfl 0 rfl ?_
  refine Gl.iconst X (n := 1) (v := (1 : Int32)) (pc' := 955) (by decide +kernel) rfl rfl ?_
  refine Gl.iadd X (pc' := 956) (by decide +kernel) rfl ?_
  refine Gl.sld X (i := x4 + (1 : Int32)) (gl_in hk e4 X.1 (j := 1) ⟨by decide, rfl⟩) (pc' := 957) (by decide +kernel) rfl ?_
  rw [gl_cl hk e4 X.1 (j := 1) (v := (1 : Int32)) ⟨by decide, rfl⟩]
  obtain ⟨r, w1, w2, hr1, hr2, hw2⟩ := hstep (xs (6 * k + 1)) w hw
  refine Gl.callVI (z := m_X_perjured) (st := []) (bb := 0) (pc' := 960) [.int (xs (6 * k + 1))] X (g_X_perjured (xs (6 * k + 1)) w) hr1 ok_m_X_perjured lkL_108 sh_0 rfl rfl rfl (Nat.le_of_ble_eq_true rfl) (Nat.le_of_ble_eq_true rfl) (Nat.le_of_ble_eq_true rfl) hcs rfl (by decide +kernel) rfl ?_
  refine Gl.aload_n X (q := 2) (pc' := 961) (by decide +kernel) rfl 3 rfl ?_
  refine Gl.aload_n X (q := 0) (pc' := 962) (by decide +kernel) rfl 1 rfl ?_
  refine Gl.iload X (i := 4) (pc' := 964) (by decide +kernel) rfl 0 rfl ?_
  refine Gl.iconst X (n := 1) (v := (1 : Int32)) (pc' := 965) (by decide +kernel) rfl rfl ?_
  refine Gl.iadd X (pc' := 966) (by decide +kernel) rfl ?_
  refine Gl.sld X (i := x4 + (1 : Int32)) (gl_in hk e4 X.1 (j := 1) ⟨by decide, rfl⟩) (pc' := 967) (by decide +kernel) rfl ?_
  rw [gl_cl hk e4 X.1 (j := 1) (v := (1 : Int32)) ⟨by decide, rfl⟩]
  refine Gl.callVI (z := m_M_perjured) (st := [.int r]) (bb := 107) (pc' := 970) [.int (xs (6 * k + 1))] X (g_M_perjured (xs (6 * k + 1)) w1) hr2 ok_m_M_perjured lkL_111 sh_107 rfl rfl rfl (Nat.le_of_ble_eq_true rfl) (Nat.le_of_ble_eq_true rfl) (Nat.le_of_ble_eq_true rfl) hcs rfl (by decide +kernel) rfl ?_
  refine Gl.icmp_eq X (off := 946) (tgt := 1916) (pc' := 973) (by decide +kernel) (by decide) rfl (fun c1 => ?_) (fun c1 => absurd rfl c1)
  exact hcont w2 hw2
theorem law_guilt {p : Program} {l : Launch} {e : Env} {s : State} {m : MethodId} {below : List Frame} {meth : Method} {c : Code} {b o LL : Nat} {xs : Nat → Int32} {D : va_G} {yy : Nat → ClassId} {cells slots : Nat} (X : gC p s m meth c b LL xs o D yy) {k : Nat} {x4 : Int32} (hk : 6 * k + 6 ≤ LL ∧ LL ≤ 3072) (e4 : x4 = nI (6 * k)) (hcs : cells ≤ 601024 ∧ slots ≤ 7293034) {I : gW → Prop} (hstep : zSt_guilt I) (hcont : ∀ w : gW, I w → Gl p l e s m below meth c b o D yy cells slots 1916 [(4, .int x4), (0, .ref b), (1, .ref (o + 0)), (2, .ref (o + 107)), (3, .ref (o + 135))] [] w) (w : gW) (hw : I w) : Gl p l e s m below meth c b o D yy cells slots 975 [(4, .int x4), (0, .ref b), (1, .ref (o + 0)), (2, .ref (o + 107)), (3, .ref (o + 135))] [] w := by
  refine Gl.aload_n X (q := 1) (pc' := 976) (by decide +kernel) rfl 2 rfl ?_
  refine Gl.aload_n X (q := 0) (pc' := 977) (by decide +kernel) rfl 1 rfl ?_
  refine Gl.iload X (i := 4) (pc' := 979) (by decide +kernel) rfl 0 rfl ?_
  refine Gl.iconst X (n := 1) (v := (1 : Int32)) (pc' := 980) (by decide +kernel) rfl rfl ?_
  refine Gl.iadd X (pc' := 981) (by decide +kernel) rfl ?_
  refine Gl.sld X (i := x4 + (1 : Int32)) (gl_in hk e4 X.1 (j := 1) ⟨by decide, rfl⟩) (pc' := 982) (by decide +kernel) rfl ?_
  rw [gl_cl hk e4 X.1 (j := 1) (v := (1 : Int32)) ⟨by decide, rfl⟩]
  obtain ⟨r, w1, w2, hr1, hr2, hw2⟩ := hstep (xs (6 * k + 1)) w hw
  refine Gl.callVI (z := m_X_guilt) (st := []) (bb := 0) (pc' := 985) [.int (xs (6 * k + 1))] X (g_X_guilt (xs (6 * k + 1)) w) hr1 ok_m_X_guilt lkL_112 sh_0 rfl rfl rfl (Nat.le_of_ble_eq_true rfl) (Nat.le_of_ble_eq_true rfl) (Nat.le_of_ble_eq_true rfl) hcs rfl (by decide +kernel) rfl ?_
  refine Gl.aload_n X (q := 2) (pc' := 986) (by decide +kernel) rfl 3 rfl ?_
  refine Gl.aload_n X (q := 0) (pc' := 987) (by decide +kernel) rfl 1 rfl ?_
  refine Gl.iload X (i := 4) (pc' := 989) (by decide +kernel) rfl 0 rfl ?_
  refine Gl.iconst X (n := 1) (v := (1 : Int32)) (pc' := 990) (by decide +kernel) rfl rfl ?_
  refine Gl.iadd X (pc' := 991) (by decide +kernel) rfl ?_
  refine Gl.sld X (i := x4 + (1 : Int32)) (gl_in hk e4 X.1 (j := 1) ⟨by decide, rfl⟩) (pc' := 992) (by decide +kernel) rfl ?_
  rw [gl_cl hk e4 X.1 (j := 1) (v := (1 : Int32)) ⟨by decide, rfl⟩]
  refine Gl.callVI (z := m_M_guilt) (st := [.int r]) (bb := 107) (pc' := 995) [.int (xs (6 * k + 1))] X (g_M_guilt (xs (6 * k + 1)) w1) hr2 ok_m_M_guilt lkL_115 sh_107 rfl rfl rfl (Nat.le_of_ble_eq_true rfl) (Nat.le_of_ble_eq_true rfl) (Nat.le_of_ble_eq_true rfl) hcs rfl (by decide +kernel) rfl ?_
  refine Gl.icmp_eq X (off := 921) (tgt := 1916) (pc' := 998) (by decide +kernel) (by decide) rfl (fun c1 => ?_) (fun c1 => absurd rfl c1)
  exact hcont w2 hw2
theorem law_blame {p : Program} {l : Launch} {e : Env} {s : State} {m : MethodId} {below : List Frame} {meth : Method} {c : Code} {b o LL : Nat} {xs : Nat → Int32} {D : va_G} {yy : Nat → ClassId} {cells slots : Nat} (X : gC p s m meth c b LL xs o D yy) {k : Nat} {x4 : Int32} (hk : 6 * k + 6 ≤ LL ∧ LL ≤ 3072) (e4 : x4 = nI (6 * k)) (hcs : cells ≤ 601024 ∧ slots ≤ 7293034) {I : gW → Prop} (hstep : zSt_blame I) (hcont : ∀ w : gW, I w → Gl p l e s m below meth c b o D yy cells slots 1916 [(4, .int x4), (0, .ref b), (1, .ref (o + 0)), (2, .ref (o + 107)), (3, .ref (o + 135))] [] w) (w : gW) (hw : I w) : Gl p l e s m below meth c b o D yy cells slots 1000 [(4, .int x4), (0, .ref b), (1, .ref (o + 0)), (2, .ref (o + 107)), (3, .ref (o + 135))] [] w := by
  refine Gl.aload_n X (q := 1) (pc' := 1001) (by decide +kernel) rfl 2 rfl ?_
  refine Gl.aload_n X (q := 0) (pc' := 1002) (by decide +kernel) rfl 1 rfl ?_
  refine Gl.iload X (i := 4) (pc' := 1004) (by decide +kernel) rfl 0 rfl ?_
  refine Gl.iconst X (n := 1) (v := (1 : Int32)) (pc' := 1005) (by decide +kernel) rfl rfl ?_
  refine Gl.iadd X (pc' := 1006) (by decide +kernel) rfl ?_
  refine Gl.sld X (i := x4 + (1 : Int32)) (gl_in hk e4 X.1 (j := 1) ⟨by decide, rfl⟩) (pc' := 1007) (by decide +kernel) rfl ?_
  rw [gl_cl hk e4 X.1 (j := 1) (v := (1 : Int32)) ⟨by decide, rfl⟩]
  obtain ⟨r, w1, w2, hr1, hr2, hw2⟩ := hstep (xs (6 * k + 1)) w hw
  refine Gl.callVI (z := m_X_blame) (st := []) (bb := 0) (pc' := 1010) [.int (xs (6 * k + 1))] X (g_X_blame (xs (6 * k + 1)) w) hr1 ok_m_X_blame lkL_116 sh_0 rfl rfl rfl (Nat.le_of_ble_eq_true rfl) (Nat.le_of_ble_eq_true rfl) (Nat.le_of_ble_eq_true rfl) hcs rfl (by decide +kernel) rfl ?_
  refine Gl.aload_n X (q := 2) (pc' := 1011) (by decide +kernel) rfl 3 rfl ?_
  refine Gl.aload_n X (q := 0) (pc' := 1012) (by decide +kernel) rfl 1 rfl ?_
  refine Gl.iload X (i := 4) (pc' := 1014) (by decide +kernel) rfl 0 rfl ?_
  refine Gl.iconst X (n := 1) (v := (1 : Int32)) (pc' := 1015) (by decide +kernel) rfl rfl ?_
  refine Gl.iadd X (pc' := 1016) (by decide +kernel) rfl ?_
  refine Gl.sld X (i := x4 + (1 : Int32)) (gl_in hk e4 X.1 (j := 1) ⟨by decide, rfl⟩) (pc' := 1017) (by decide +kernel) rfl ?_
  rw [gl_cl hk e4 X.1 (j := 1) (v := (1 : Int32)) ⟨by decide, rfl⟩]
  refine Gl.callVI (z := m_M_blame) (st := [.int r]) (bb := 107) (pc' := 1020) [.int (xs (6 * k + 1))] X (g_M_blame (xs (6 * k + 1)) w1) hr2 ok_m_M_blame lkL_119 sh_107 rfl rfl rfl (Nat.le_of_ble_eq_true rfl) (Nat.le_of_ble_eq_true rfl) (Nat.le_of_ble_eq_true rfl) hcs rfl (by decide +kernel) rfl ?_
  refine Gl.icmp_eq X (off := 896) (tgt := 1916) (pc' := 1023) (by decide +kernel) (by decide) rfl (fun c1 => ?_) (fun c1 => absurd rfl c1)
  exact hcont w2 hw2
theorem law_worth {p : Program} {l : Launch} {e : Env} {s : State} {m : MethodId} {below : List Frame} {meth : Method} {c : Code} {b o LL : Nat} {xs : Nat → Int32} {D : va_G} {yy : Nat → ClassId} {cells slots : Nat} (X : gC p s m meth c b LL xs o D yy) {k : Nat} {x4 : Int32} (hk : 6 * k + 6 ≤ LL ∧ LL ≤ 3072) (e4 : x4 = nI (6 * k)) (hcs : cells ≤ 601024 ∧ slots ≤ 7293034) {I : gW → Prop} (hstep : zSt_worth I) (hcont : ∀ w : gW, I w → Gl p l e s m below meth c b o D yy cells slots 1916 [(4, .int x4), (0, .ref b), (1, .ref (o + 0)), (2, .ref (o + 107)), (3, .ref (o + 135))] [] w) (w : gW) (hw : I w) : Gl p l e s m below meth c b o D yy cells slots 1025 [(4, .int x4), (0, .ref b), (1, .ref (o + 0)), (2, .ref (o + 107)), (3, .ref (o + 135))] [] w := by
  refine Gl.aload_n X (q := 1) (pc' := 1026) (by decide +kernel) rfl 2 rfl ?_
  refine Gl.aload_n X (q := 0) (pc' := 1027) (by decide +kernel) rfl 1 rfl ?_
  refine Gl.iload X (i := 4) (pc' := 1029) (by decide +kernel) rfl 0 rfl ?_
  refine Gl.iconst X (n := 1) (v := (1 : Int32)) (pc' := 1030) (by decide +kernel) rfl rfl ?_
  refine Gl.iadd X (pc' := 1031) (by decide +kernel) rfl ?_
  refine Gl.sld X (i := x4 + (1 : Int32)) (gl_in hk e4 X.1 (j := 1) ⟨by decide, rfl⟩) (pc' := 1032) (by decide +kernel) rfl ?_
  rw [gl_cl hk e4 X.1 (j := 1) (v := (1 : Int32)) ⟨by decide, rfl⟩]
  refine Gl.aload_n X (q := 0) (pc' := 1033) (by decide +kernel) rfl 1 rfl ?_
  refine Gl.iload X (i := 4) (pc' := 1035) (by decide +kernel) rfl 0 rfl ?_
  refine Gl.iconst X (n := 2) (v := (2 : Int32)) (pc' := 1036) (by decide +kernel) rfl rfl ?_
  refine Gl.iadd X (pc' := 1037) (by decide +kernel) rfl ?_
  refine Gl.sld X (i := x4 + (2 : Int32)) (gl_in hk e4 X.1 (j := 2) ⟨by decide, rfl⟩) (pc' := 1038) (by decide +kernel) rfl ?_
  rw [gl_cl hk e4 X.1 (j := 2) (v := (2 : Int32)) ⟨by decide, rfl⟩]
  refine Gl.aload_n X (q := 0) (pc' := 1039) (by decide +kernel) rfl 1 rfl ?_
  refine Gl.iload X (i := 4) (pc' := 1041) (by decide +kernel) rfl 0 rfl ?_
  refine Gl.iconst X (n := 3) (v := (3 : Int32)) (pc' := 1042) (by decide +kernel) rfl rfl ?_
  refine Gl.iadd X (pc' := 1043) (by decide +kernel) rfl ?_
  refine Gl.sld X (i := x4 + (3 : Int32)) (gl_in hk e4 X.1 (j := 3) ⟨by decide, rfl⟩) (pc' := 1044) (by decide +kernel) rfl ?_
  rw [gl_cl hk e4 X.1 (j := 3) (v := (3 : Int32)) ⟨by decide, rfl⟩]
  refine Gl.aload_n X (q := 0) (pc' := 1045) (by decide +kernel) rfl 1 rfl ?_
  refine Gl.iload X (i := 4) (pc' := 1047) (by decide +kernel) rfl 0 rfl ?_
  refine Gl.iconst X (n := 4) (v := (4 : Int32)) (pc' := 1048) (by decide +kernel) rfl rfl ?_
  refine Gl.iadd X (pc' := 1049) (by decide +kernel) rfl ?_
  refine Gl.sld X (i := x4 + (4 : Int32)) (gl_in hk e4 X.1 (j := 4) ⟨by decide, rfl⟩) (pc' := 1050) (by decide +kernel) rfl ?_
  rw [gl_cl hk e4 X.1 (j := 4) (v := (4 : Int32)) ⟨by decide, rfl⟩]
  refine Gl.if_eq X (off := 7) (tgt := 1057) (pc' := 1053) (by decide +kernel) (by decide) rfl (fun c1 => ?_) (fun c1 => ?_)
  · have q1 := c1
    refine Gl.iconst X (n := 0) (v := (0 : Int32)) (pc' := 1058) (by decide +kernel) rfl rfl ?_
    obtain ⟨r, w1, w2, hr1, hr2, hw2⟩ := hstep (xs (6 * k + 1)) (xs (6 * k + 2)) (xs (6 * k + 3)) (0 : Int32) (Or.inl rfl) w hw
    refine Gl.callVI (z := m_X_worth) (st := []) (bb := 0) (pc' := 1061) [.int (xs (6 * k + 1)), .int (xs (6 * k + 2)), .int (xs (6 * k + 3)), .int (0 : Int32)] X (g_X_worth (xs (6 * k + 1)) (xs (6 * k + 2)) (xs (6 * k + 3)) (0 : Int32) w) hr1 ok_m_X_worth lkL_120 sh_0 rfl rfl rfl (Nat.le_of_ble_eq_true rfl) (Nat.le_of_ble_eq_true rfl) (Nat.le_of_ble_eq_true rfl) hcs rfl (by decide +kernel) rfl ?_
    refine Gl.aload_n X (q := 2) (pc' := 1062) (by decide +kernel) rfl 3 rfl ?_
    refine Gl.aload_n X (q := 0) (pc' := 1063) (by decide +kernel) rfl 1 rfl ?_
    refine Gl.iload X (i := 4) (pc' := 1065) (by decide +kernel) rfl 0 rfl ?_
    refine Gl.iconst X (n := 1) (v := (1 : Int32)) (pc' := 1066) (by decide +kernel) rfl rfl ?_
    refine Gl.iadd X (pc' := 1067) (by decide +kernel) rfl ?_
    refine Gl.sld X (i := x4 + (1 : Int32)) (gl_in hk e4 X.1 (j := 1) ⟨by decide, rfl⟩) (pc' := 1068) (by decide +kernel) rfl ?_
    rw [gl_cl hk e4 X.1 (j := 1) (v := (1 : Int32)) ⟨by decide, rfl⟩]
    refine Gl.aload_n X (q := 0) (pc' := 1069) (by decide +kernel) rfl 1 rfl ?_
    refine Gl.iload X (i := 4) (pc' := 1071) (by decide +kernel) rfl 0 rfl ?_
    refine Gl.iconst X (n := 2) (v := (2 : Int32)) (pc' := 1072) (by decide +kernel) rfl rfl ?_
    refine Gl.iadd X (pc' := 1073) (by decide +kernel) rfl ?_
    refine Gl.sld X (i := x4 + (2 : Int32)) (gl_in hk e4 X.1 (j := 2) ⟨by decide, rfl⟩) (pc' := 1074) (by decide +kernel) rfl ?_
    rw [gl_cl hk e4 X.1 (j := 2) (v := (2 : Int32)) ⟨by decide, rfl⟩]
    refine Gl.aload_n X (q := 0) (pc' := 1075) (by decide +kernel) rfl 1 rfl ?_
    refine Gl.iload X (i := 4) (pc' := 1077) (by decide +kernel) rfl 0 rfl ?_
    refine Gl.iconst X (n := 3) (v := (3 : Int32)) (pc' := 1078) (by decide +kernel) rfl rfl ?_
    refine Gl.iadd X (pc' := 1079) (by decide +kernel) rfl ?_
    refine Gl.sld X (i := x4 + (3 : Int32)) (gl_in hk e4 X.1 (j := 3) ⟨by decide, rfl⟩) (pc' := 1080) (by decide +kernel) rfl ?_
    rw [gl_cl hk e4 X.1 (j := 3) (v := (3 : Int32)) ⟨by decide, rfl⟩]
    refine Gl.aload_n X (q := 0) (pc' := 1081) (by decide +kernel) rfl 1 rfl ?_
    refine Gl.iload X (i := 4) (pc' := 1083) (by decide +kernel) rfl 0 rfl ?_
    refine Gl.iconst X (n := 4) (v := (4 : Int32)) (pc' := 1084) (by decide +kernel) rfl rfl ?_
    refine Gl.iadd X (pc' := 1085) (by decide +kernel) rfl ?_
    refine Gl.sld X (i := x4 + (4 : Int32)) (gl_in hk e4 X.1 (j := 4) ⟨by decide, rfl⟩) (pc' := 1086) (by decide +kernel) rfl ?_
    rw [gl_cl hk e4 X.1 (j := 4) (v := (4 : Int32)) ⟨by decide, rfl⟩]
    refine Gl.if_eq X (off := 7) (tgt := 1093) (pc' := 1089) (by decide +kernel) (by decide) rfl (fun c1 => ?_) (fun c1 => ?_)
    · have q2 := c1
      refine Gl.iconst X (n := 0) (v := (0 : Int32)) (pc' := 1094) (by decide +kernel) rfl rfl ?_
      refine Gl.callVI (z := m_M_worth) (st := [.int r]) (bb := 107) (pc' := 1097) [.int (xs (6 * k + 1)), .int (xs (6 * k + 2)), .int (xs (6 * k + 3)), .int (0 : Int32)] X (g_M_worth (xs (6 * k + 1)) (xs (6 * k + 2)) (xs (6 * k + 3)) (0 : Int32) w1) hr2 ok_m_M_worth lkL_124 sh_107 rfl rfl rfl (Nat.le_of_ble_eq_true rfl) (Nat.le_of_ble_eq_true rfl) (Nat.le_of_ble_eq_true rfl) hcs rfl (by decide +kernel) rfl ?_
      refine Gl.icmp_eq X (off := 819) (tgt := 1916) (pc' := 1100) (by decide +kernel) (by decide) rfl (fun c1 => ?_) (fun c1 => absurd rfl c1)
      exact hcont w2 hw2
    · exact absurd q1 c1
  · have q3 := c1
    refine Gl.iconst X (n := 1) (v := (1 : Int32)) (pc' := 1054) (by decide +kernel) rfl rfl ?_
    refine Gl.goto X (off := 4) (tgt := 1058) (by decide +kernel) (by decide) ?_
    obtain ⟨r, w1, w2, hr1, hr2, hw2⟩ := hstep (xs (6 * k + 1)) (xs (6 * k + 2)) (xs (6 * k + 3)) (1 : Int32) (Or.inr rfl) w hw
    refine Gl.callVI (z := m_X_worth) (st := []) (bb := 0) (pc' := 1061) [.int (xs (6 * k + 1)), .int (xs (6 * k + 2)), .int (xs (6 * k + 3)), .int (1 : Int32)] X (g_X_worth (xs (6 * k + 1)) (xs (6 * k + 2)) (xs (6 * k + 3)) (1 : Int32) w) hr1 ok_m_X_worth lkL_120 sh_0 rfl rfl rfl (Nat.le_of_ble_eq_true rfl) (Nat.le_of_ble_eq_true rfl) (Nat.le_of_ble_eq_true rfl) hcs rfl (by decide +kernel) rfl ?_
    refine Gl.aload_n X (q := 2) (pc' := 1062) (by decide +kernel) rfl 3 rfl ?_
    refine Gl.aload_n X (q := 0) (pc' := 1063) (by decide +kernel) rfl 1 rfl ?_
    refine Gl.iload X (i := 4) (pc' := 1065) (by decide +kernel) rfl 0 rfl ?_
    refine Gl.iconst X (n := 1) (v := (1 : Int32)) (pc' := 1066) (by decide +kernel) rfl rfl ?_
    refine Gl.iadd X (pc' := 1067) (by decide +kernel) rfl ?_
    refine Gl.sld X (i := x4 + (1 : Int32)) (gl_in hk e4 X.1 (j := 1) ⟨by decide, rfl⟩) (pc' := 1068) (by decide +kernel) rfl ?_
    rw [gl_cl hk e4 X.1 (j := 1) (v := (1 : Int32)) ⟨by decide, rfl⟩]
    refine Gl.aload_n X (q := 0) (pc' := 1069) (by decide +kernel) rfl 1 rfl ?_
    refine Gl.iload X (i := 4) (pc' := 1071) (by decide +kernel) rfl 0 rfl ?_
    refine Gl.iconst X (n := 2) (v := (2 : Int32)) (pc' := 1072) (by decide +kernel) rfl rfl ?_
    refine Gl.iadd X (pc' := 1073) (by decide +kernel) rfl ?_
    refine Gl.sld X (i := x4 + (2 : Int32)) (gl_in hk e4 X.1 (j := 2) ⟨by decide, rfl⟩) (pc' := 1074) (by decide +kernel) rfl ?_
    rw [gl_cl hk e4 X.1 (j := 2) (v := (2 : Int32)) ⟨by decide, rfl⟩]
    refine Gl.aload_n X (q := 0) (pc' := 1075) (by decide +kernel) rfl 1 rfl ?_
    refine Gl.iload X (i := 4) (pc' := 1077) (by decide +kernel) rfl 0 rfl ?_
    refine Gl.iconst X (n := 3) (v := (3 : Int32)) (pc' := 1078) (by decide +kernel) rfl rfl ?_
    refine Gl.iadd X (pc' := 1079) (by decide +kernel) rfl ?_
    refine Gl.sld X (i := x4 + (3 : Int32)) (gl_in hk e4 X.1 (j := 3) ⟨by decide, rfl⟩) (pc' := 1080) (by decide +kernel) rfl ?_
    rw [gl_cl hk e4 X.1 (j := 3) (v := (3 : Int32)) ⟨by decide, rfl⟩]
    refine Gl.aload_n X (q := 0) (pc' := 1081) (by decide +kernel) rfl 1 rfl ?_
    refine Gl.iload X (i := 4) (pc' := 1083) (by decide +kernel) rfl 0 rfl ?_
    refine Gl.iconst X (n := 4) (v := (4 : Int32)) (pc' := 1084) (by decide +kernel) rfl rfl ?_
    refine Gl.iadd X (pc' := 1085) (by decide +kernel) rfl ?_
    refine Gl.sld X (i := x4 + (4 : Int32)) (gl_in hk e4 X.1 (j := 4) ⟨by decide, rfl⟩) (pc' := 1086) (by decide +kernel) rfl ?_
    rw [gl_cl hk e4 X.1 (j := 4) (v := (4 : Int32)) ⟨by decide, rfl⟩]
    refine Gl.if_eq X (off := 7) (tgt := 1093) (pc' := 1089) (by decide +kernel) (by decide) rfl (fun c1 => ?_) (fun c1 => ?_)
    · exact absurd c1 q3
    · have q4 := c1
      refine Gl.iconst X (n := 1) (v := (1 : Int32)) (pc' := 1090) (by decide +kernel) rfl rfl ?_
      refine Gl.goto X (off := 4) (tgt := 1094) (by decide +kernel) (by decide) ?_
      refine Gl.callVI (z := m_M_worth) (st := [.int r]) (bb := 107) (pc' := 1097) [.int (xs (6 * k + 1)), .int (xs (6 * k + 2)), .int (xs (6 * k + 3)), .int (1 : Int32)] X (g_M_worth (xs (6 * k + 1)) (xs (6 * k + 2)) (xs (6 * k + 3)) (1 : Int32) w1) hr2 ok_m_M_worth lkL_124 sh_107 rfl rfl rfl (Nat.le_of_ble_eq_true rfl) (Nat.le_of_ble_eq_true rfl) (Nat.le_of_ble_eq_true rfl) hcs rfl (by decide +kernel) rfl ?_
      refine Gl.icmp_eq X (off := 819) (tgt := 1916) (pc' := 1100) (by decide +kernel) (by decide) rfl (fun c1 => ?_) (fun c1 => absurd rfl c1)
      exact hcont w2 hw2
theorem law_weigh {p : Program} {l : Launch} {e : Env} {s : State} {m : MethodId} {below : List Frame} {meth : Method} {c : Code} {b o LL : Nat} {xs : Nat → Int32} {D : va_G} {yy : Nat → ClassId} {cells slots : Nat} (X : gC p s m meth c b LL xs o D yy) {k : Nat} {x4 : Int32} (hk : 6 * k + 6 ≤ LL ∧ LL ≤ 3072) (e4 : x4 = nI (6 * k)) (hcs : cells ≤ 601024 ∧ slots ≤ 7293034) {I : gW → Prop} (hstep : zSt_weigh I) (hcont : ∀ w : gW, I w → Gl p l e s m below meth c b o D yy cells slots 1916 [(4, .int x4), (0, .ref b), (1, .ref (o + 0)), (2, .ref (o + 107)), (3, .ref (o + 135))] [] w) (w : gW) (hw : I w) : Gl p l e s m below meth c b o D yy cells slots 1102 [(4, .int x4), (0, .ref b), (1, .ref (o + 0)), (2, .ref (o + 107)), (3, .ref (o + 135))] [] w := by
  refine Gl.aload_n X (q := 1) (pc' := 1103) (by decide +kernel) rfl 2 rfl ?_
  refine Gl.aload_n X (q := 0) (pc' := 1104) (by decide +kernel) rfl 1 rfl ?_
  refine Gl.iload X (i := 4) (pc' := 1106) (by decide +kernel) rfl 0 rfl ?_
  refine Gl.iconst X (n := 1) (v := (1 : Int32)) (pc' := 1107) (by decide +kernel) rfl rfl ?_
  refine Gl.iadd X (pc' := 1108) (by decide +kernel) rfl ?_
  refine Gl.sld X (i := x4 + (1 : Int32)) (gl_in hk e4 X.1 (j := 1) ⟨by decide, rfl⟩) (pc' := 1109) (by decide +kernel) rfl ?_
  rw [gl_cl hk e4 X.1 (j := 1) (v := (1 : Int32)) ⟨by decide, rfl⟩]
  refine Gl.aload_n X (q := 0) (pc' := 1110) (by decide +kernel) rfl 1 rfl ?_
  refine Gl.iload X (i := 4) (pc' := 1112) (by decide +kernel) rfl 0 rfl ?_
  refine Gl.iconst X (n := 2) (v := (2 : Int32)) (pc' := 1113) (by decide +kernel) rfl rfl ?_
  refine Gl.iadd X (pc' := 1114) (by decide +kernel) rfl ?_
  refine Gl.sld X (i := x4 + (2 : Int32)) (gl_in hk e4 X.1 (j := 2) ⟨by decide, rfl⟩) (pc' := 1115) (by decide +kernel) rfl ?_
  rw [gl_cl hk e4 X.1 (j := 2) (v := (2 : Int32)) ⟨by decide, rfl⟩]
  refine Gl.aload_n X (q := 0) (pc' := 1116) (by decide +kernel) rfl 1 rfl ?_
  refine Gl.iload X (i := 4) (pc' := 1118) (by decide +kernel) rfl 0 rfl ?_
  refine Gl.iconst X (n := 3) (v := (3 : Int32)) (pc' := 1119) (by decide +kernel) rfl rfl ?_
  refine Gl.iadd X (pc' := 1120) (by decide +kernel) rfl ?_
  refine Gl.sld X (i := x4 + (3 : Int32)) (gl_in hk e4 X.1 (j := 3) ⟨by decide, rfl⟩) (pc' := 1121) (by decide +kernel) rfl ?_
  rw [gl_cl hk e4 X.1 (j := 3) (v := (3 : Int32)) ⟨by decide, rfl⟩]
  obtain ⟨r, w1, w2, hr1, hr2, hw2⟩ := hstep (xs (6 * k + 1)) (xs (6 * k + 2)) (xs (6 * k + 3)) w hw
  refine Gl.callVI (z := m_X_weigh) (st := []) (bb := 0) (pc' := 1124) [.int (xs (6 * k + 1)), .int (xs (6 * k + 2)), .int (xs (6 * k + 3))] X (g_X_weigh (xs (6 * k + 1)) (xs (6 * k + 2)) (xs (6 * k + 3)) w) hr1 ok_m_X_weigh lkL_125 sh_0 rfl rfl rfl (Nat.le_of_ble_eq_true rfl) (Nat.le_of_ble_eq_true rfl) (Nat.le_of_ble_eq_true rfl) hcs rfl (by decide +kernel) rfl ?_
  refine Gl.aload_n X (q := 2) (pc' := 1125) (by decide +kernel) rfl 3 rfl ?_
  refine Gl.aload_n X (q := 0) (pc' := 1126) (by decide +kernel) rfl 1 rfl ?_
  refine Gl.iload X (i := 4) (pc' := 1128) (by decide +kernel) rfl 0 rfl ?_
  refine Gl.iconst X (n := 1) (v := (1 : Int32)) (pc' := 1129) (by decide +kernel) rfl rfl ?_
  refine Gl.iadd X (pc' := 1130) (by decide +kernel) rfl ?_
  refine Gl.sld X (i := x4 + (1 : Int32)) (gl_in hk e4 X.1 (j := 1) ⟨by decide, rfl⟩) (pc' := 1131) (by decide +kernel) rfl ?_
  rw [gl_cl hk e4 X.1 (j := 1) (v := (1 : Int32)) ⟨by decide, rfl⟩]
  refine Gl.aload_n X (q := 0) (pc' := 1132) (by decide +kernel) rfl 1 rfl ?_
  refine Gl.iload X (i := 4) (pc' := 1134) (by decide +kernel) rfl 0 rfl ?_
  refine Gl.iconst X (n := 2) (v := (2 : Int32)) (pc' := 1135) (by decide +kernel) rfl rfl ?_
  refine Gl.iadd X (pc' := 1136) (by decide +kernel) rfl ?_
  refine Gl.sld X (i := x4 + (2 : Int32)) (gl_in hk e4 X.1 (j := 2) ⟨by decide, rfl⟩) (pc' := 1137) (by decide +kernel) rfl ?_
  rw [gl_cl hk e4 X.1 (j := 2) (v := (2 : Int32)) ⟨by decide, rfl⟩]
  refine Gl.aload_n X (q := 0) (pc' := 1138) (by decide +kernel) rfl 1 rfl ?_
  refine Gl.iload X (i := 4) (pc' := 1140) (by decide +kernel) rfl 0 rfl ?_
  refine Gl.iconst X (n := 3) (v := (3 : Int32)) (pc' := 1141) (by decide +kernel) rfl rfl ?_
  refine Gl.iadd X (pc' := 1142) (by decide +kernel) rfl ?_
  refine Gl.sld X (i := x4 + (3 : Int32)) (gl_in hk e4 X.1 (j := 3) ⟨by decide, rfl⟩) (pc' := 1143) (by decide +kernel) rfl ?_
  rw [gl_cl hk e4 X.1 (j := 3) (v := (3 : Int32)) ⟨by decide, rfl⟩]
  refine Gl.callVI (z := m_M_weigh) (st := [.int r]) (bb := 107) (pc' := 1146) [.int (xs (6 * k + 1)), .int (xs (6 * k + 2)), .int (xs (6 * k + 3))] X (g_M_weigh (xs (6 * k + 1)) (xs (6 * k + 2)) (xs (6 * k + 3)) w1) hr2 ok_m_M_weigh lkL_129 sh_107 rfl rfl rfl (Nat.le_of_ble_eq_true rfl) (Nat.le_of_ble_eq_true rfl) (Nat.le_of_ble_eq_true rfl) hcs rfl (by decide +kernel) rfl ?_
  refine Gl.icmp_eq X (off := 770) (tgt := 1916) (pc' := 1149) (by decide +kernel) (by decide) rfl (fun c1 => ?_) (fun c1 => absurd rfl c1)
  exact hcont w2 hw2
theorem law_odds {p : Program} {l : Launch} {e : Env} {s : State} {m : MethodId} {below : List Frame} {meth : Method} {c : Code} {b o LL : Nat} {xs : Nat → Int32} {D : va_G} {yy : Nat → ClassId} {cells slots : Nat} (X : gC p s m meth c b LL xs o D yy) {k : Nat} {x4 : Int32} (hk : 6 * k + 6 ≤ LL ∧ LL ≤ 3072) (e4 : x4 = nI (6 * k)) (hcs : cells ≤ 601024 ∧ slots ≤ 7293034) {I : gW → Prop} (hstep : zSt_odds I) (hcont : ∀ w : gW, I w → Gl p l e s m below meth c b o D yy cells slots 1916 [(4, .int x4), (0, .ref b), (1, .ref (o + 0)), (2, .ref (o + 107)), (3, .ref (o + 135))] [] w) (w : gW) (hw : I w) : Gl p l e s m below meth c b o D yy cells slots 1151 [(4, .int x4), (0, .ref b), (1, .ref (o + 0)), (2, .ref (o + 107)), (3, .ref (o + 135))] [] w := by
  refine Gl.aload_n X (q := 1) (pc' := 1152) (by decide +kernel) rfl 2 rfl ?_
  refine Gl.aload_n X (q := 0) (pc' := 1153) (by decide +kernel) rfl 1 rfl ?_
  refine Gl.iload X (i := 4) (pc' := 1155) (by decide +kernel) rfl 0 rfl ?_
  refine Gl.iconst X (n := 1) (v := (1 : Int32)) (pc' := 1156) (by decide +kernel) rfl rfl ?_
  refine Gl.iadd X (pc' := 1157) (by decide +kernel) rfl ?_
  refine Gl.sld X (i := x4 + (1 : Int32)) (gl_in hk e4 X.1 (j := 1) ⟨by decide, rfl⟩) (pc' := 1158) (by decide +kernel) rfl ?_
  rw [gl_cl hk e4 X.1 (j := 1) (v := (1 : Int32)) ⟨by decide, rfl⟩]
  refine Gl.aload_n X (q := 0) (pc' := 1159) (by decide +kernel) rfl 1 rfl ?_
  refine Gl.iload X (i := 4) (pc' := 1161) (by decide +kernel) rfl 0 rfl ?_
  refine Gl.iconst X (n := 2) (v := (2 : Int32)) (pc' := 1162) (by decide +kernel) rfl rfl ?_
  refine Gl.iadd X (pc' := 1163) (by decide +kernel) rfl ?_
  refine Gl.sld X (i := x4 + (2 : Int32)) (gl_in hk e4 X.1 (j := 2) ⟨by decide, rfl⟩) (pc' := 1164) (by decide +kernel) rfl ?_
  rw [gl_cl hk e4 X.1 (j := 2) (v := (2 : Int32)) ⟨by decide, rfl⟩]
  refine Gl.aload_n X (q := 0) (pc' := 1165) (by decide +kernel) rfl 1 rfl ?_
  refine Gl.iload X (i := 4) (pc' := 1167) (by decide +kernel) rfl 0 rfl ?_
  refine Gl.iconst X (n := 3) (v := (3 : Int32)) (pc' := 1168) (by decide +kernel) rfl rfl ?_
  refine Gl.iadd X (pc' := 1169) (by decide +kernel) rfl ?_
  refine Gl.sld X (i := x4 + (3 : Int32)) (gl_in hk e4 X.1 (j := 3) ⟨by decide, rfl⟩) (pc' := 1170) (by decide +kernel) rfl ?_
  rw [gl_cl hk e4 X.1 (j := 3) (v := (3 : Int32)) ⟨by decide, rfl⟩]
  obtain ⟨r, w1, w2, hr1, hr2, hw2⟩ := hstep (xs (6 * k + 1)) (xs (6 * k + 2)) (xs (6 * k + 3)) w hw
  refine Gl.callVJ (z := m_X_odds) (st := []) (bb := 0) (pc' := 1173) [.int (xs (6 * k + 1)), .int (xs (6 * k + 2)), .int (xs (6 * k + 3))] X (g_X_odds (xs (6 * k + 1)) (xs (6 * k + 2)) (xs (6 * k + 3)) w) hr1 ok_m_X_odds lkL_130 sh_0 rfl rfl rfl (Nat.le_of_ble_eq_true rfl) (Nat.le_of_ble_eq_true rfl) (Nat.le_of_ble_eq_true rfl) hcs rfl (by decide +kernel) rfl ?_
  refine Gl.aload_n X (q := 2) (pc' := 1174) (by decide +kernel) rfl 3 rfl ?_
  refine Gl.aload_n X (q := 0) (pc' := 1175) (by decide +kernel) rfl 1 rfl ?_
  refine Gl.iload X (i := 4) (pc' := 1177) (by decide +kernel) rfl 0 rfl ?_
  refine Gl.iconst X (n := 1) (v := (1 : Int32)) (pc' := 1178) (by decide +kernel) rfl rfl ?_
  refine Gl.iadd X (pc' := 1179) (by decide +kernel) rfl ?_
  refine Gl.sld X (i := x4 + (1 : Int32)) (gl_in hk e4 X.1 (j := 1) ⟨by decide, rfl⟩) (pc' := 1180) (by decide +kernel) rfl ?_
  rw [gl_cl hk e4 X.1 (j := 1) (v := (1 : Int32)) ⟨by decide, rfl⟩]
  refine Gl.aload_n X (q := 0) (pc' := 1181) (by decide +kernel) rfl 1 rfl ?_
  refine Gl.iload X (i := 4) (pc' := 1183) (by decide +kernel) rfl 0 rfl ?_
  refine Gl.iconst X (n := 2) (v := (2 : Int32)) (pc' := 1184) (by decide +kernel) rfl rfl ?_
  refine Gl.iadd X (pc' := 1185) (by decide +kernel) rfl ?_
  refine Gl.sld X (i := x4 + (2 : Int32)) (gl_in hk e4 X.1 (j := 2) ⟨by decide, rfl⟩) (pc' := 1186) (by decide +kernel) rfl ?_
  rw [gl_cl hk e4 X.1 (j := 2) (v := (2 : Int32)) ⟨by decide, rfl⟩]
  refine Gl.aload_n X (q := 0) (pc' := 1187) (by decide +kernel) rfl 1 rfl ?_
  refine Gl.iload X (i := 4) (pc' := 1189) (by decide +kernel) rfl 0 rfl ?_
  refine Gl.iconst X (n := 3) (v := (3 : Int32)) (pc' := 1190) (by decide +kernel) rfl rfl ?_
  refine Gl.iadd X (pc' := 1191) (by decide +kernel) rfl ?_
  refine Gl.sld X (i := x4 + (3 : Int32)) (gl_in hk e4 X.1 (j := 3) ⟨by decide, rfl⟩) (pc' := 1192) (by decide +kernel) rfl ?_
  rw [gl_cl hk e4 X.1 (j := 3) (v := (3 : Int32)) ⟨by decide, rfl⟩]
  refine Gl.callVJ (z := m_M_odds) (st := [.long r]) (bb := 107) (pc' := 1195) [.int (xs (6 * k + 1)), .int (xs (6 * k + 2)), .int (xs (6 * k + 3))] X (g_M_odds (xs (6 * k + 1)) (xs (6 * k + 2)) (xs (6 * k + 3)) w1) hr2 ok_m_M_odds lkL_134 sh_107 rfl rfl rfl (Nat.le_of_ble_eq_true rfl) (Nat.le_of_ble_eq_true rfl) (Nat.le_of_ble_eq_true rfl) hcs rfl (by decide +kernel) rfl ?_
  refine Gl.lcmp X (pc' := 1196) (by decide +kernel) rfl ?_
  refine Gl.if_eq X (off := 720) (tgt := 1916) (pc' := 1199) (by decide +kernel) (by decide) rfl (fun c1 => ?_) (fun c1 => absurd (gl_cmp r) c1)
  exact hcont w2 hw2
theorem law_question {p : Program} {l : Launch} {e : Env} {s : State} {m : MethodId} {below : List Frame} {meth : Method} {c : Code} {b o LL : Nat} {xs : Nat → Int32} {D : va_G} {yy : Nat → ClassId} {cells slots : Nat} (X : gC p s m meth c b LL xs o D yy) {k : Nat} {x4 : Int32} (hk : 6 * k + 6 ≤ LL ∧ LL ≤ 3072) (e4 : x4 = nI (6 * k)) (hcs : cells ≤ 601024 ∧ slots ≤ 7293034) {I : gW → Prop} (hstep : zSt_question I) (hcont : ∀ w : gW, I w → Gl p l e s m below meth c b o D yy cells slots 1916 [(4, .int x4), (0, .ref b), (1, .ref (o + 0)), (2, .ref (o + 107)), (3, .ref (o + 135))] [] w) (w : gW) (hw : I w) : Gl p l e s m below meth c b o D yy cells slots 1201 [(4, .int x4), (0, .ref b), (1, .ref (o + 0)), (2, .ref (o + 107)), (3, .ref (o + 135))] [] w := by
  refine Gl.aload_n X (q := 1) (pc' := 1202) (by decide +kernel) rfl 2 rfl ?_
  refine Gl.aload_n X (q := 0) (pc' := 1203) (by decide +kernel) rfl 1 rfl ?_
  refine Gl.iload X (i := 4) (pc' := 1205) (by decide +kernel) rfl 0 rfl ?_
  refine Gl.iconst X (n := 1) (v := (1 : Int32)) (pc' := 1206) (by decide +kernel) rfl rfl ?_
  refine Gl.iadd X (pc' := 1207) (by decide +kernel) rfl ?_
  refine Gl.sld X (i := x4 + (1 : Int32)) (gl_in hk e4 X.1 (j := 1) ⟨by decide, rfl⟩) (pc' := 1208) (by decide +kernel) rfl ?_
  rw [gl_cl hk e4 X.1 (j := 1) (v := (1 : Int32)) ⟨by decide, rfl⟩]
  obtain ⟨r, w1, w2, hr1, hr2, hw2⟩ := hstep (xs (6 * k + 1)) w hw
  refine Gl.callVI (z := m_X_question) (st := []) (bb := 0) (pc' := 1211) [.int (xs (6 * k + 1))] X (g_X_question (xs (6 * k + 1)) w) hr1 ok_m_X_question lkL_135 sh_0 rfl rfl rfl (Nat.le_of_ble_eq_true rfl) (Nat.le_of_ble_eq_true rfl) (Nat.le_of_ble_eq_true rfl) hcs rfl (by decide +kernel) rfl ?_
  refine Gl.aload_n X (q := 2) (pc' := 1212) (by decide +kernel) rfl 3 rfl ?_
  refine Gl.aload_n X (q := 0) (pc' := 1213) (by decide +kernel) rfl 1 rfl ?_
  refine Gl.iload X (i := 4) (pc' := 1215) (by decide +kernel) rfl 0 rfl ?_
  refine Gl.iconst X (n := 1) (v := (1 : Int32)) (pc' := 1216) (by decide +kernel) rfl rfl ?_
  refine Gl.iadd X (pc' := 1217) (by decide +kernel) rfl ?_
  refine Gl.sld X (i := x4 + (1 : Int32)) (gl_in hk e4 X.1 (j := 1) ⟨by decide, rfl⟩) (pc' := 1218) (by decide +kernel) rfl ?_
  rw [gl_cl hk e4 X.1 (j := 1) (v := (1 : Int32)) ⟨by decide, rfl⟩]
  refine Gl.callVI (z := m_M_question) (st := [.int r]) (bb := 107) (pc' := 1221) [.int (xs (6 * k + 1))] X (g_M_question (xs (6 * k + 1)) w1) hr2 ok_m_M_question lkL_138 sh_107 rfl rfl rfl (Nat.le_of_ble_eq_true rfl) (Nat.le_of_ble_eq_true rfl) (Nat.le_of_ble_eq_true rfl) hcs rfl (by decide +kernel) rfl ?_
  refine Gl.icmp_eq X (off := 695) (tgt := 1916) (pc' := 1224) (by decide +kernel) (by decide) rfl (fun c1 => ?_) (fun c1 => absurd rfl c1)
  exact hcont w2 hw2
theorem law_settled {p : Program} {l : Launch} {e : Env} {s : State} {m : MethodId} {below : List Frame} {meth : Method} {c : Code} {b o LL : Nat} {xs : Nat → Int32} {D : va_G} {yy : Nat → ClassId} {cells slots : Nat} (X : gC p s m meth c b LL xs o D yy) {k : Nat} {x4 : Int32} (hk : 6 * k + 6 ≤ LL ∧ LL ≤ 3072) (e4 : x4 = nI (6 * k)) (hcs : cells ≤ 601024 ∧ slots ≤ 7293034) {I : gW → Prop} (hstep : zSt_settled I) (hcont : ∀ w : gW, I w → Gl p l e s m below meth c b o D yy cells slots 1916 [(4, .int x4), (0, .ref b), (1, .ref (o + 0)), (2, .ref (o + 107)), (3, .ref (o + 135))] [] w) (w : gW) (hw : I w) : Gl p l e s m below meth c b o D yy cells slots 1226 [(4, .int x4), (0, .ref b), (1, .ref (o + 0)), (2, .ref (o + 107)), (3, .ref (o + 135))] [] w := by
  refine Gl.aload_n X (q := 1) (pc' := 1227) (by decide +kernel) rfl 2 rfl ?_
  refine Gl.aload_n X (q := 0) (pc' := 1228) (by decide +kernel) rfl 1 rfl ?_
  refine Gl.iload X (i := 4) (pc' := 1230) (by decide +kernel) rfl 0 rfl ?_
  refine Gl.iconst X (n := 1) (v := (1 : Int32)) (pc' := 1231) (by decide +kernel) rfl rfl ?_
  refine Gl.iadd X (pc' := 1232) (by decide +kernel) rfl ?_
  refine Gl.sld X (i := x4 + (1 : Int32)) (gl_in hk e4 X.1 (j := 1) ⟨by decide, rfl⟩) (pc' := 1233) (by decide +kernel) rfl ?_
  rw [gl_cl hk e4 X.1 (j := 1) (v := (1 : Int32)) ⟨by decide, rfl⟩]
  refine Gl.aload_n X (q := 0) (pc' := 1234) (by decide +kernel) rfl 1 rfl ?_
  refine Gl.iload X (i := 4) (pc' := 1236) (by decide +kernel) rfl 0 rfl ?_
  refine Gl.iconst X (n := 2) (v := (2 : Int32)) (pc' := 1237) (by decide +kernel) rfl rfl ?_
  refine Gl.iadd X (pc' := 1238) (by decide +kernel) rfl ?_
  refine Gl.sld X (i := x4 + (2 : Int32)) (gl_in hk e4 X.1 (j := 2) ⟨by decide, rfl⟩) (pc' := 1239) (by decide +kernel) rfl ?_
  rw [gl_cl hk e4 X.1 (j := 2) (v := (2 : Int32)) ⟨by decide, rfl⟩]
  obtain ⟨r, w1, w2, hr1, hr2, hw2⟩ := hstep (xs (6 * k + 1)) (xs (6 * k + 2)) w hw
  refine Gl.callVI (z := m_X_settled) (st := []) (bb := 0) (pc' := 1242) [.int (xs (6 * k + 1)), .int (xs (6 * k + 2))] X (g_X_settled (xs (6 * k + 1)) (xs (6 * k + 2)) w) hr1 ok_m_X_settled lkL_139 sh_0 rfl rfl rfl (Nat.le_of_ble_eq_true rfl) (Nat.le_of_ble_eq_true rfl) (Nat.le_of_ble_eq_true rfl) hcs rfl (by decide +kernel) rfl ?_
  refine Gl.aload_n X (q := 2) (pc' := 1243) (by decide +kernel) rfl 3 rfl ?_
  refine Gl.aload_n X (q := 0) (pc' := 1244) (by decide +kernel) rfl 1 rfl ?_
  refine Gl.iload X (i := 4) (pc' := 1246) (by decide +kernel) rfl 0 rfl ?_
  refine Gl.iconst X (n := 1) (v := (1 : Int32)) (pc' := 1247) (by decide +kernel) rfl rfl ?_
  refine Gl.iadd X (pc' := 1248) (by decide +kernel) rfl ?_
  refine Gl.sld X (i := x4 + (1 : Int32)) (gl_in hk e4 X.1 (j := 1) ⟨by decide, rfl⟩) (pc' := 1249) (by decide +kernel) rfl ?_
  rw [gl_cl hk e4 X.1 (j := 1) (v := (1 : Int32)) ⟨by decide, rfl⟩]
  refine Gl.aload_n X (q := 0) (pc' := 1250) (by decide +kernel) rfl 1 rfl ?_
  refine Gl.iload X (i := 4) (pc' := 1252) (by decide +kernel) rfl 0 rfl ?_
  refine Gl.iconst X (n := 2) (v := (2 : Int32)) (pc' := 1253) (by decide +kernel) rfl rfl ?_
  refine Gl.iadd X (pc' := 1254) (by decide +kernel) rfl ?_
  refine Gl.sld X (i := x4 + (2 : Int32)) (gl_in hk e4 X.1 (j := 2) ⟨by decide, rfl⟩) (pc' := 1255) (by decide +kernel) rfl ?_
  rw [gl_cl hk e4 X.1 (j := 2) (v := (2 : Int32)) ⟨by decide, rfl⟩]
  refine Gl.callVI (z := m_M_settled) (st := [.int r]) (bb := 107) (pc' := 1258) [.int (xs (6 * k + 1)), .int (xs (6 * k + 2))] X (g_M_settled (xs (6 * k + 1)) (xs (6 * k + 2)) w1) hr2 ok_m_M_settled lkL_142 sh_107 rfl rfl rfl (Nat.le_of_ble_eq_true rfl) (Nat.le_of_ble_eq_true rfl) (Nat.le_of_ble_eq_true rfl) hcs rfl (by decide +kernel) rfl ?_
  refine Gl.icmp_eq X (off := 658) (tgt := 1916) (pc' := 1261) (by decide +kernel) (by decide) rfl (fun c1 => ?_) (fun c1 => absurd rfl c1)
  exact hcont w2 hw2
theorem law_rings {p : Program} {l : Launch} {e : Env} {s : State} {m : MethodId} {below : List Frame} {meth : Method} {c : Code} {b o LL : Nat} {xs : Nat → Int32} {D : va_G} {yy : Nat → ClassId} {cells slots : Nat} (X : gC p s m meth c b LL xs o D yy) {k : Nat} {x4 : Int32} (hk : 6 * k + 6 ≤ LL ∧ LL ≤ 3072) (e4 : x4 = nI (6 * k)) (hcs : cells ≤ 601024 ∧ slots ≤ 7293034) {I : gW → Prop} (hstep : zSt_rings I) (hcont : ∀ w : gW, I w → Gl p l e s m below meth c b o D yy cells slots 1916 [(4, .int x4), (0, .ref b), (1, .ref (o + 0)), (2, .ref (o + 107)), (3, .ref (o + 135))] [] w) (w : gW) (hw : I w) : Gl p l e s m below meth c b o D yy cells slots 1263 [(4, .int x4), (0, .ref b), (1, .ref (o + 0)), (2, .ref (o + 107)), (3, .ref (o + 135))] [] w := by
  refine Gl.aload_n X (q := 1) (pc' := 1264) (by decide +kernel) rfl 2 rfl ?_
  refine Gl.aload_n X (q := 0) (pc' := 1265) (by decide +kernel) rfl 1 rfl ?_
  refine Gl.iload X (i := 4) (pc' := 1267) (by decide +kernel) rfl 0 rfl ?_
  refine Gl.iconst X (n := 1) (v := (1 : Int32)) (pc' := 1268) (by decide +kernel) rfl rfl ?_
  refine Gl.iadd X (pc' := 1269) (by decide +kernel) rfl ?_
  refine Gl.sld X (i := x4 + (1 : Int32)) (gl_in hk e4 X.1 (j := 1) ⟨by decide, rfl⟩) (pc' := 1270) (by decide +kernel) rfl ?_
  rw [gl_cl hk e4 X.1 (j := 1) (v := (1 : Int32)) ⟨by decide, rfl⟩]
  refine Gl.aload_n X (q := 0) (pc' := 1271) (by decide +kernel) rfl 1 rfl ?_
  refine Gl.iload X (i := 4) (pc' := 1273) (by decide +kernel) rfl 0 rfl ?_
  refine Gl.iconst X (n := 2) (v := (2 : Int32)) (pc' := 1274) (by decide +kernel) rfl rfl ?_
  refine Gl.iadd X (pc' := 1275) (by decide +kernel) rfl ?_
  refine Gl.sld X (i := x4 + (2 : Int32)) (gl_in hk e4 X.1 (j := 2) ⟨by decide, rfl⟩) (pc' := 1276) (by decide +kernel) rfl ?_
  rw [gl_cl hk e4 X.1 (j := 2) (v := (2 : Int32)) ⟨by decide, rfl⟩]
  obtain ⟨r, w1, w2, hr1, hr2, hw2⟩ := hstep (xs (6 * k + 1)) (xs (6 * k + 2)) w hw
  refine Gl.callVI (z := m_X_rings) (st := []) (bb := 0) (pc' := 1279) [.int (xs (6 * k + 1)), .int (xs (6 * k + 2))] X (g_X_rings (xs (6 * k + 1)) (xs (6 * k + 2)) w) hr1 ok_m_X_rings lkL_143 sh_0 rfl rfl rfl (Nat.le_of_ble_eq_true rfl) (Nat.le_of_ble_eq_true rfl) (Nat.le_of_ble_eq_true rfl) hcs rfl (by decide +kernel) rfl ?_
  refine Gl.aload_n X (q := 2) (pc' := 1280) (by decide +kernel) rfl 3 rfl ?_
  refine Gl.aload_n X (q := 0) (pc' := 1281) (by decide +kernel) rfl 1 rfl ?_
  refine Gl.iload X (i := 4) (pc' := 1283) (by decide +kernel) rfl 0 rfl ?_
  refine Gl.iconst X (n := 1) (v := (1 : Int32)) (pc' := 1284) (by decide +kernel) rfl rfl ?_
  refine Gl.iadd X (pc' := 1285) (by decide +kernel) rfl ?_
  refine Gl.sld X (i := x4 + (1 : Int32)) (gl_in hk e4 X.1 (j := 1) ⟨by decide, rfl⟩) (pc' := 1286) (by decide +kernel) rfl ?_
  rw [gl_cl hk e4 X.1 (j := 1) (v := (1 : Int32)) ⟨by decide, rfl⟩]
  refine Gl.aload_n X (q := 0) (pc' := 1287) (by decide +kernel) rfl 1 rfl ?_
  refine Gl.iload X (i := 4) (pc' := 1289) (by decide +kernel) rfl 0 rfl ?_
  refine Gl.iconst X (n := 2) (v := (2 : Int32)) (pc' := 1290) (by decide +kernel) rfl rfl ?_
  refine Gl.iadd X (pc' := 1291) (by decide +kernel) rfl ?_
  refine Gl.sld X (i := x4 + (2 : Int32)) (gl_in hk e4 X.1 (j := 2) ⟨by decide, rfl⟩) (pc' := 1292) (by decide +kernel) rfl ?_
  rw [gl_cl hk e4 X.1 (j := 2) (v := (2 : Int32)) ⟨by decide, rfl⟩]
  refine Gl.callVI (z := m_M_rings) (st := [.int r]) (bb := 107) (pc' := 1295) [.int (xs (6 * k + 1)), .int (xs (6 * k + 2))] X (g_M_rings (xs (6 * k + 1)) (xs (6 * k + 2)) w1) hr2 ok_m_M_rings lkL_146 sh_107 rfl rfl rfl (Nat.le_of_ble_eq_true rfl) (Nat.le_of_ble_eq_true rfl) (Nat.le_of_ble_eq_true rfl) hcs rfl (by decide +kernel) rfl ?_
  refine Gl.icmp_eq X (off := 621) (tgt := 1916) (pc' := 1298) (by decide +kernel) (by decide) rfl (fun c1 => ?_) (fun c1 => absurd rfl c1)
  exact hcont w2 hw2
theorem law_fall {p : Program} {l : Launch} {e : Env} {s : State} {m : MethodId} {below : List Frame} {meth : Method} {c : Code} {b o LL : Nat} {xs : Nat → Int32} {D : va_G} {yy : Nat → ClassId} {cells slots : Nat} (X : gC p s m meth c b LL xs o D yy) {k : Nat} {x4 : Int32} (hk : 6 * k + 6 ≤ LL ∧ LL ≤ 3072) (e4 : x4 = nI (6 * k)) (hcs : cells ≤ 601024 ∧ slots ≤ 7293034) {I : gW → Prop} (hstep : zSt_fall I) (hcont : ∀ w : gW, I w → Gl p l e s m below meth c b o D yy cells slots 1916 [(4, .int x4), (0, .ref b), (1, .ref (o + 0)), (2, .ref (o + 107)), (3, .ref (o + 135))] [] w) (w : gW) (hw : I w) : Gl p l e s m below meth c b o D yy cells slots 1300 [(4, .int x4), (0, .ref b), (1, .ref (o + 0)), (2, .ref (o + 107)), (3, .ref (o + 135))] [] w := by
  refine Gl.aload_n X (q := 1) (pc' := 1301) (by decide +kernel) rfl 2 rfl ?_
  refine Gl.aload_n X (q := 0) (pc' := 1302) (by decide +kernel) rfl 1 rfl ?_
  refine Gl.iload X (i := 4) (pc' := 1304) (by decide +kernel) rfl 0 rfl ?_
  refine Gl.iconst X (n := 1) (v := (1 : Int32)) (pc' := 1305) (by decide +kernel) rfl rfl ?_
  refine Gl.iadd X (pc' := 1306) (by decide +kernel) rfl ?_
  refine Gl.sld X (i := x4 + (1 : Int32)) (gl_in hk e4 X.1 (j := 1) ⟨by decide, rfl⟩) (pc' := 1307) (by decide +kernel) rfl ?_
  rw [gl_cl hk e4 X.1 (j := 1) (v := (1 : Int32)) ⟨by decide, rfl⟩]
  obtain ⟨r, w1, w2, hr1, hr2, hw2⟩ := hstep (xs (6 * k + 1)) w hw
  refine Gl.callVI (z := m_X_fall) (st := []) (bb := 0) (pc' := 1310) [.int (xs (6 * k + 1))] X (g_X_fall (xs (6 * k + 1)) w) hr1 ok_m_X_fall lkL_147 sh_0 rfl rfl rfl (Nat.le_of_ble_eq_true rfl) (Nat.le_of_ble_eq_true rfl) (Nat.le_of_ble_eq_true rfl) hcs rfl (by decide +kernel) rfl ?_
  refine Gl.aload_n X (q := 2) (pc' := 1311) (by decide +kernel) rfl 3 rfl ?_
  refine Gl.aload_n X (q := 0) (pc' := 1312) (by decide +kernel) rfl 1 rfl ?_
  refine Gl.iload X (i := 4) (pc' := 1314) (by decide +kernel) rfl 0 rfl ?_
  refine Gl.iconst X (n := 1) (v := (1 : Int32)) (pc' := 1315) (by decide +kernel) rfl rfl ?_
  refine Gl.iadd X (pc' := 1316) (by decide +kernel) rfl ?_
  refine Gl.sld X (i := x4 + (1 : Int32)) (gl_in hk e4 X.1 (j := 1) ⟨by decide, rfl⟩) (pc' := 1317) (by decide +kernel) rfl ?_
  rw [gl_cl hk e4 X.1 (j := 1) (v := (1 : Int32)) ⟨by decide, rfl⟩]
  refine Gl.callVI (z := m_M_fall) (st := [.int r]) (bb := 107) (pc' := 1320) [.int (xs (6 * k + 1))] X (g_M_fall (xs (6 * k + 1)) w1) hr2 ok_m_M_fall lkL_150 sh_107 rfl rfl rfl (Nat.le_of_ble_eq_true rfl) (Nat.le_of_ble_eq_true rfl) (Nat.le_of_ble_eq_true rfl) hcs rfl (by decide +kernel) rfl ?_
  refine Gl.icmp_eq X (off := 596) (tgt := 1916) (pc' := 1323) (by decide +kernel) (by decide) rfl (fun c1 => ?_) (fun c1 => absurd rfl c1)
  exact hcont w2 hw2
theorem law_stake {p : Program} {l : Launch} {e : Env} {s : State} {m : MethodId} {below : List Frame} {meth : Method} {c : Code} {b o LL : Nat} {xs : Nat → Int32} {D : va_G} {yy : Nat → ClassId} {cells slots : Nat} (X : gC p s m meth c b LL xs o D yy) {k : Nat} {x4 : Int32} (hk : 6 * k + 6 ≤ LL ∧ LL ≤ 3072) (e4 : x4 = nI (6 * k)) (hcs : cells ≤ 601024 ∧ slots ≤ 7293034) {I : gW → Prop} (hstep : zSt_stake I) (hcont : ∀ w : gW, I w → Gl p l e s m below meth c b o D yy cells slots 1916 [(4, .int x4), (0, .ref b), (1, .ref (o + 0)), (2, .ref (o + 107)), (3, .ref (o + 135))] [] w) (w : gW) (hw : I w) : Gl p l e s m below meth c b o D yy cells slots 1325 [(4, .int x4), (0, .ref b), (1, .ref (o + 0)), (2, .ref (o + 107)), (3, .ref (o + 135))] [] w := by
  refine Gl.aload_n X (q := 1) (pc' := 1326) (by decide +kernel) rfl 2 rfl ?_
  refine Gl.aload_n X (q := 0) (pc' := 1327) (by decide +kernel) rfl 1 rfl ?_
  refine Gl.iload X (i := 4) (pc' := 1329) (by decide +kernel) rfl 0 rfl ?_
  refine Gl.iconst X (n := 1) (v := (1 : Int32)) (pc' := 1330) (by decide +kernel) rfl rfl ?_
  refine Gl.iadd X (pc' := 1331) (by decide +kernel) rfl ?_
  refine Gl.sld X (i := x4 + (1 : Int32)) (gl_in hk e4 X.1 (j := 1) ⟨by decide, rfl⟩) (pc' := 1332) (by decide +kernel) rfl ?_
  rw [gl_cl hk e4 X.1 (j := 1) (v := (1 : Int32)) ⟨by decide, rfl⟩]
  refine Gl.aload_n X (q := 0) (pc' := 1333) (by decide +kernel) rfl 1 rfl ?_
  refine Gl.iload X (i := 4) (pc' := 1335) (by decide +kernel) rfl 0 rfl ?_
  refine Gl.iconst X (n := 2) (v := (2 : Int32)) (pc' := 1336) (by decide +kernel) rfl rfl ?_
  refine Gl.iadd X (pc' := 1337) (by decide +kernel) rfl ?_
  refine Gl.sld X (i := x4 + (2 : Int32)) (gl_in hk e4 X.1 (j := 2) ⟨by decide, rfl⟩) (pc' := 1338) (by decide +kernel) rfl ?_
  rw [gl_cl hk e4 X.1 (j := 2) (v := (2 : Int32)) ⟨by decide, rfl⟩]
  obtain ⟨r, w1, w2, hr1, hr2, hw2⟩ := hstep (xs (6 * k + 1)) (xs (6 * k + 2)) w hw
  refine Gl.callVI (z := m_X_stake) (st := []) (bb := 0) (pc' := 1341) [.int (xs (6 * k + 1)), .int (xs (6 * k + 2))] X (g_X_stake (xs (6 * k + 1)) (xs (6 * k + 2)) w) hr1 ok_m_X_stake lkL_151 sh_0 rfl rfl rfl (Nat.le_of_ble_eq_true rfl) (Nat.le_of_ble_eq_true rfl) (Nat.le_of_ble_eq_true rfl) hcs rfl (by decide +kernel) rfl ?_
  refine Gl.aload_n X (q := 2) (pc' := 1342) (by decide +kernel) rfl 3 rfl ?_
  refine Gl.aload_n X (q := 0) (pc' := 1343) (by decide +kernel) rfl 1 rfl ?_
  refine Gl.iload X (i := 4) (pc' := 1345) (by decide +kernel) rfl 0 rfl ?_
  refine Gl.iconst X (n := 1) (v := (1 : Int32)) (pc' := 1346) (by decide +kernel) rfl rfl ?_
  refine Gl.iadd X (pc' := 1347) (by decide +kernel) rfl ?_
  refine Gl.sld X (i := x4 + (1 : Int32)) (gl_in hk e4 X.1 (j := 1) ⟨by decide, rfl⟩) (pc' := 1348) (by decide +kernel) rfl ?_
  rw [gl_cl hk e4 X.1 (j := 1) (v := (1 : Int32)) ⟨by decide, rfl⟩]
  refine Gl.aload_n X (q := 0) (pc' := 1349) (by decide +kernel) rfl 1 rfl ?_
  refine Gl.iload X (i := 4) (pc' := 1351) (by decide +kernel) rfl 0 rfl ?_
  refine Gl.iconst X (n := 2) (v := (2 : Int32)) (pc' := 1352) (by decide +kernel) rfl rfl ?_
  refine Gl.iadd X (pc' := 1353) (by decide +kernel) rfl ?_
  refine Gl.sld X (i := x4 + (2 : Int32)) (gl_in hk e4 X.1 (j := 2) ⟨by decide, rfl⟩) (pc' := 1354) (by decide +kernel) rfl ?_
  rw [gl_cl hk e4 X.1 (j := 2) (v := (2 : Int32)) ⟨by decide, rfl⟩]
  refine Gl.callVI (z := m_M_stake) (st := [.int r]) (bb := 107) (pc' := 1357) [.int (xs (6 * k + 1)), .int (xs (6 * k + 2))] X (g_M_stake (xs (6 * k + 1)) (xs (6 * k + 2)) w1) hr2 ok_m_M_stake lkL_155 sh_107 rfl rfl rfl (Nat.le_of_ble_eq_true rfl) (Nat.le_of_ble_eq_true rfl) (Nat.le_of_ble_eq_true rfl) hcs rfl (by decide +kernel) rfl ?_
  refine Gl.icmp_eq X (off := 559) (tgt := 1916) (pc' := 1360) (by decide +kernel) (by decide) rfl (fun c1 => ?_) (fun c1 => absurd rfl c1)
  exact hcont w2 hw2
theorem law_duel {p : Program} {l : Launch} {e : Env} {s : State} {m : MethodId} {below : List Frame} {meth : Method} {c : Code} {b o LL : Nat} {xs : Nat → Int32} {D : va_G} {yy : Nat → ClassId} {cells slots : Nat} (X : gC p s m meth c b LL xs o D yy) {k : Nat} {x4 : Int32} (hk : 6 * k + 6 ≤ LL ∧ LL ≤ 3072) (e4 : x4 = nI (6 * k)) (hcs : cells ≤ 601024 ∧ slots ≤ 7293034) {I : gW → Prop} (hstep : zSt_duel I) (hcont : ∀ w : gW, I w → Gl p l e s m below meth c b o D yy cells slots 1916 [(4, .int x4), (0, .ref b), (1, .ref (o + 0)), (2, .ref (o + 107)), (3, .ref (o + 135))] [] w) (w : gW) (hw : I w) : Gl p l e s m below meth c b o D yy cells slots 1362 [(4, .int x4), (0, .ref b), (1, .ref (o + 0)), (2, .ref (o + 107)), (3, .ref (o + 135))] [] w := by
  refine Gl.aload_n X (q := 1) (pc' := 1363) (by decide +kernel) rfl 2 rfl ?_
  refine Gl.aload_n X (q := 0) (pc' := 1364) (by decide +kernel) rfl 1 rfl ?_
  refine Gl.iload X (i := 4) (pc' := 1366) (by decide +kernel) rfl 0 rfl ?_
  refine Gl.iconst X (n := 1) (v := (1 : Int32)) (pc' := 1367) (by decide +kernel) rfl rfl ?_
  refine Gl.iadd X (pc' := 1368) (by decide +kernel) rfl ?_
  refine Gl.sld X (i := x4 + (1 : Int32)) (gl_in hk e4 X.1 (j := 1) ⟨by decide, rfl⟩) (pc' := 1369) (by decide +kernel) rfl ?_
  rw [gl_cl hk e4 X.1 (j := 1) (v := (1 : Int32)) ⟨by decide, rfl⟩]
  refine Gl.aload_n X (q := 0) (pc' := 1370) (by decide +kernel) rfl 1 rfl ?_
  refine Gl.iload X (i := 4) (pc' := 1372) (by decide +kernel) rfl 0 rfl ?_
  refine Gl.iconst X (n := 2) (v := (2 : Int32)) (pc' := 1373) (by decide +kernel) rfl rfl ?_
  refine Gl.iadd X (pc' := 1374) (by decide +kernel) rfl ?_
  refine Gl.sld X (i := x4 + (2 : Int32)) (gl_in hk e4 X.1 (j := 2) ⟨by decide, rfl⟩) (pc' := 1375) (by decide +kernel) rfl ?_
  rw [gl_cl hk e4 X.1 (j := 2) (v := (2 : Int32)) ⟨by decide, rfl⟩]
  refine Gl.aload_n X (q := 0) (pc' := 1376) (by decide +kernel) rfl 1 rfl ?_
  refine Gl.iload X (i := 4) (pc' := 1378) (by decide +kernel) rfl 0 rfl ?_
  refine Gl.iconst X (n := 3) (v := (3 : Int32)) (pc' := 1379) (by decide +kernel) rfl rfl ?_
  refine Gl.iadd X (pc' := 1380) (by decide +kernel) rfl ?_
  refine Gl.sld X (i := x4 + (3 : Int32)) (gl_in hk e4 X.1 (j := 3) ⟨by decide, rfl⟩) (pc' := 1381) (by decide +kernel) rfl ?_
  rw [gl_cl hk e4 X.1 (j := 3) (v := (3 : Int32)) ⟨by decide, rfl⟩]
  obtain ⟨r, w1, w2, hr1, hr2, hw2⟩ := hstep (xs (6 * k + 1)) (xs (6 * k + 2)) (xs (6 * k + 3)) w hw
  refine Gl.callVI (z := m_X_duel) (st := []) (bb := 0) (pc' := 1384) [.int (xs (6 * k + 1)), .int (xs (6 * k + 2)), .int (xs (6 * k + 3))] X (g_X_duel (xs (6 * k + 1)) (xs (6 * k + 2)) (xs (6 * k + 3)) w) hr1 ok_m_X_duel lkL_156 sh_0 rfl rfl rfl (Nat.le_of_ble_eq_true rfl) (Nat.le_of_ble_eq_true rfl) (Nat.le_of_ble_eq_true rfl) hcs rfl (by decide +kernel) rfl ?_
  refine Gl.aload_n X (q := 2) (pc' := 1385) (by decide +kernel) rfl 3 rfl ?_
  refine Gl.aload_n X (q := 0) (pc' := 1386) (by decide +kernel) rfl 1 rfl ?_
  refine Gl.iload X (i := 4) (pc' := 1388) (by decide +kernel) rfl 0 rfl ?_
  refine Gl.iconst X (n := 1) (v := (1 : Int32)) (pc' := 1389) (by decide +kernel) rfl rfl ?_
  refine Gl.iadd X (pc' := 1390) (by decide +kernel) rfl ?_
  refine Gl.sld X (i := x4 + (1 : Int32)) (gl_in hk e4 X.1 (j := 1) ⟨by decide, rfl⟩) (pc' := 1391) (by decide +kernel) rfl ?_
  rw [gl_cl hk e4 X.1 (j := 1) (v := (1 : Int32)) ⟨by decide, rfl⟩]
  refine Gl.aload_n X (q := 0) (pc' := 1392) (by decide +kernel) rfl 1 rfl ?_
  refine Gl.iload X (i := 4) (pc' := 1394) (by decide +kernel) rfl 0 rfl ?_
  refine Gl.iconst X (n := 2) (v := (2 : Int32)) (pc' := 1395) (by decide +kernel) rfl rfl ?_
  refine Gl.iadd X (pc' := 1396) (by decide +kernel) rfl ?_
  refine Gl.sld X (i := x4 + (2 : Int32)) (gl_in hk e4 X.1 (j := 2) ⟨by decide, rfl⟩) (pc' := 1397) (by decide +kernel) rfl ?_
  rw [gl_cl hk e4 X.1 (j := 2) (v := (2 : Int32)) ⟨by decide, rfl⟩]
  refine Gl.aload_n X (q := 0) (pc' := 1398) (by decide +kernel) rfl 1 rfl ?_
  refine Gl.iload X (i := 4) (pc' := 1400) (by decide +kernel) rfl 0 rfl ?_
  refine Gl.iconst X (n := 3) (v := (3 : Int32)) (pc' := 1401) (by decide +kernel) rfl rfl ?_
  refine Gl.iadd X (pc' := 1402) (by decide +kernel) rfl ?_
  refine Gl.sld X (i := x4 + (3 : Int32)) (gl_in hk e4 X.1 (j := 3) ⟨by decide, rfl⟩) (pc' := 1403) (by decide +kernel) rfl ?_
  rw [gl_cl hk e4 X.1 (j := 3) (v := (3 : Int32)) ⟨by decide, rfl⟩]
  refine Gl.callVI (z := m_M_duel) (st := [.int r]) (bb := 107) (pc' := 1406) [.int (xs (6 * k + 1)), .int (xs (6 * k + 2)), .int (xs (6 * k + 3))] X (g_M_duel (xs (6 * k + 1)) (xs (6 * k + 2)) (xs (6 * k + 3)) w1) hr2 ok_m_M_duel lkL_159 sh_107 rfl rfl rfl (Nat.le_of_ble_eq_true rfl) (Nat.le_of_ble_eq_true rfl) (Nat.le_of_ble_eq_true rfl) hcs rfl (by decide +kernel) rfl ?_
  refine Gl.icmp_eq X (off := 510) (tgt := 1916) (pc' := 1409) (by decide +kernel) (by decide) rfl (fun c1 => ?_) (fun c1 => absurd rfl c1)
  exact hcont w2 hw2
theorem law_bait {p : Program} {l : Launch} {e : Env} {s : State} {m : MethodId} {below : List Frame} {meth : Method} {c : Code} {b o LL : Nat} {xs : Nat → Int32} {D : va_G} {yy : Nat → ClassId} {cells slots : Nat} (X : gC p s m meth c b LL xs o D yy) {k : Nat} {x4 : Int32} (hk : 6 * k + 6 ≤ LL ∧ LL ≤ 3072) (e4 : x4 = nI (6 * k)) (hcs : cells ≤ 601024 ∧ slots ≤ 7293034) {I : gW → Prop} (hstep : zSt_bait I) (hcont : ∀ w : gW, I w → Gl p l e s m below meth c b o D yy cells slots 1916 [(4, .int x4), (0, .ref b), (1, .ref (o + 0)), (2, .ref (o + 107)), (3, .ref (o + 135))] [] w) (w : gW) (hw : I w) : Gl p l e s m below meth c b o D yy cells slots 1411 [(4, .int x4), (0, .ref b), (1, .ref (o + 0)), (2, .ref (o + 107)), (3, .ref (o + 135))] [] w := by
  refine Gl.aload_n X (q := 1) (pc' := 1412) (by decide +kernel) rfl 2 rfl ?_
  refine Gl.aload_n X (q := 0) (pc' := 1413) (by decide +kernel) rfl 1 rfl ?_
  refine Gl.iload X (i := 4) (pc' := 1415) (by decide +kernel) rfl 0 rfl ?_
  refine Gl.iconst X (n := 1) (v := (1 : Int32)) (pc' := 1416) (by decide +kernel) rfl rfl ?_
  refine Gl.iadd X (pc' := 1417) (by decide +kernel) rfl ?_
  refine Gl.sld X (i := x4 + (1 : Int32)) (gl_in hk e4 X.1 (j := 1) ⟨by decide, rfl⟩) (pc' := 1418) (by decide +kernel) rfl ?_
  rw [gl_cl hk e4 X.1 (j := 1) (v := (1 : Int32)) ⟨by decide, rfl⟩]
  refine Gl.aload_n X (q := 0) (pc' := 1419) (by decide +kernel) rfl 1 rfl ?_
  refine Gl.iload X (i := 4) (pc' := 1421) (by decide +kernel) rfl 0 rfl ?_
  refine Gl.iconst X (n := 2) (v := (2 : Int32)) (pc' := 1422) (by decide +kernel) rfl rfl ?_
  refine Gl.iadd X (pc' := 1423) (by decide +kernel) rfl ?_
  refine Gl.sld X (i := x4 + (2 : Int32)) (gl_in hk e4 X.1 (j := 2) ⟨by decide, rfl⟩) (pc' := 1424) (by decide +kernel) rfl ?_
  rw [gl_cl hk e4 X.1 (j := 2) (v := (2 : Int32)) ⟨by decide, rfl⟩]
  obtain ⟨r, w1, w2, hr1, hr2, hw2⟩ := hstep (xs (6 * k + 1)) (xs (6 * k + 2)) w hw
  refine Gl.callVI (z := m_X_bait) (st := []) (bb := 0) (pc' := 1427) [.int (xs (6 * k + 1)), .int (xs (6 * k + 2))] X (g_X_bait (xs (6 * k + 1)) (xs (6 * k + 2)) w) hr1 ok_m_X_bait lkL_160 sh_0 rfl rfl rfl (Nat.le_of_ble_eq_true rfl) (Nat.le_of_ble_eq_true rfl) (Nat.le_of_ble_eq_true rfl) hcs rfl (by decide +kernel) rfl ?_
  refine Gl.aload_n X (q := 2) (pc' := 1428) (by decide +kernel) rfl 3 rfl ?_
  refine Gl.aload_n X (q := 0) (pc' := 1429) (by decide +kernel) rfl 1 rfl ?_
  refine Gl.iload X (i := 4) (pc' := 1431) (by decide +kernel) rfl 0 rfl ?_
  refine Gl.iconst X (n := 1) (v := (1 : Int32)) (pc' := 1432) (by decide +kernel) rfl rfl ?_
  refine Gl.iadd X (pc' := 1433) (by decide +kernel) rfl ?_
  refine Gl.sld X (i := x4 + (1 : Int32)) (gl_in hk e4 X.1 (j := 1) ⟨by decide, rfl⟩) (pc' := 1434) (by decide +kernel) rfl ?_
  rw [gl_cl hk e4 X.1 (j := 1) (v := (1 : Int32)) ⟨by decide, rfl⟩]
  refine Gl.aload_n X (q := 0) (pc' := 1435) (by decide +kernel) rfl 1 rfl ?_
  refine Gl.iload X (i := 4) (pc' := 1437) (by decide +kernel) rfl 0 rfl ?_
  refine Gl.iconst X (n := 2) (v := (2 : Int32)) (pc' := 1438) (by decide +kernel) rfl rfl ?_
  refine Gl.iadd X (pc' := 1439) (by decide +kernel) rfl ?_
  refine Gl.sld X (i := x4 + (2 : Int32)) (gl_in hk e4 X.1 (j := 2) ⟨by decide, rfl⟩) (pc' := 1440) (by decide +kernel) rfl ?_
  rw [gl_cl hk e4 X.1 (j := 2) (v := (2 : Int32)) ⟨by decide, rfl⟩]
  refine Gl.callVI (z := m_M_bait) (st := [.int r]) (bb := 107) (pc' := 1443) [.int (xs (6 * k + 1)), .int (xs (6 * k + 2))] X (g_M_bait (xs (6 * k + 1)) (xs (6 * k + 2)) w1) hr2 ok_m_M_bait lkL_163 sh_107 rfl rfl rfl (Nat.le_of_ble_eq_true rfl) (Nat.le_of_ble_eq_true rfl) (Nat.le_of_ble_eq_true rfl) hcs rfl (by decide +kernel) rfl ?_
  refine Gl.icmp_eq X (off := 473) (tgt := 1916) (pc' := 1446) (by decide +kernel) (by decide) rfl (fun c1 => ?_) (fun c1 => absurd rfl c1)
  exact hcont w2 hw2
theorem law_plan {p : Program} {l : Launch} {e : Env} {s : State} {m : MethodId} {below : List Frame} {meth : Method} {c : Code} {b o LL : Nat} {xs : Nat → Int32} {D : va_G} {yy : Nat → ClassId} {cells slots : Nat} (X : gC p s m meth c b LL xs o D yy) {k : Nat} {x4 : Int32} (hk : 6 * k + 6 ≤ LL ∧ LL ≤ 3072) (e4 : x4 = nI (6 * k)) (hcs : cells ≤ 601024 ∧ slots ≤ 7293034) {I : gW → Prop} (hstep : zSt_plan I) (hcont : ∀ w : gW, I w → Gl p l e s m below meth c b o D yy cells slots 1916 [(4, .int x4), (0, .ref b), (1, .ref (o + 0)), (2, .ref (o + 107)), (3, .ref (o + 135))] [] w) (w : gW) (hw : I w) : Gl p l e s m below meth c b o D yy cells slots 1448 [(4, .int x4), (0, .ref b), (1, .ref (o + 0)), (2, .ref (o + 107)), (3, .ref (o + 135))] [] w := by
  refine Gl.aload_n X (q := 1) (pc' := 1449) (by decide +kernel) rfl 2 rfl ?_
  refine Gl.aload_n X (q := 0) (pc' := 1450) (by decide +kernel) rfl 1 rfl ?_
  refine Gl.iload X (i := 4) (pc' := 1452) (by decide +kernel) rfl 0 rfl ?_
  refine Gl.iconst X (n := 1) (v := (1 : Int32)) (pc' := 1453) (by decide +kernel) rfl rfl ?_
  refine Gl.iadd X (pc' := 1454) (by decide +kernel) rfl ?_
  refine Gl.sld X (i := x4 + (1 : Int32)) (gl_in hk e4 X.1 (j := 1) ⟨by decide, rfl⟩) (pc' := 1455) (by decide +kernel) rfl ?_
  rw [gl_cl hk e4 X.1 (j := 1) (v := (1 : Int32)) ⟨by decide, rfl⟩]
  refine Gl.aload_n X (q := 0) (pc' := 1456) (by decide +kernel) rfl 1 rfl ?_
  refine Gl.iload X (i := 4) (pc' := 1458) (by decide +kernel) rfl 0 rfl ?_
  refine Gl.iconst X (n := 2) (v := (2 : Int32)) (pc' := 1459) (by decide +kernel) rfl rfl ?_
  refine Gl.iadd X (pc' := 1460) (by decide +kernel) rfl ?_
  refine Gl.sld X (i := x4 + (2 : Int32)) (gl_in hk e4 X.1 (j := 2) ⟨by decide, rfl⟩) (pc' := 1461) (by decide +kernel) rfl ?_
  rw [gl_cl hk e4 X.1 (j := 2) (v := (2 : Int32)) ⟨by decide, rfl⟩]
  refine Gl.aload_n X (q := 0) (pc' := 1462) (by decide +kernel) rfl 1 rfl ?_
  refine Gl.iload X (i := 4) (pc' := 1464) (by decide +kernel) rfl 0 rfl ?_
  refine Gl.iconst X (n := 3) (v := (3 : Int32)) (pc' := 1465) (by decide +kernel) rfl rfl ?_
  refine Gl.iadd X (pc' := 1466) (by decide +kernel) rfl ?_
  refine Gl.sld X (i := x4 + (3 : Int32)) (gl_in hk e4 X.1 (j := 3) ⟨by decide, rfl⟩) (pc' := 1467) (by decide +kernel) rfl ?_
  rw [gl_cl hk e4 X.1 (j := 3) (v := (3 : Int32)) ⟨by decide, rfl⟩]
  obtain ⟨r, w1, w2, hr1, hr2, hw2⟩ := hstep (xs (6 * k + 1)) (xs (6 * k + 2)) (xs (6 * k + 3)) w hw
  refine Gl.callVI (z := m_X_plan) (st := []) (bb := 0) (pc' := 1470) [.int (xs (6 * k + 1)), .int (xs (6 * k + 2)), .int (xs (6 * k + 3))] X (g_X_plan (xs (6 * k + 1)) (xs (6 * k + 2)) (xs (6 * k + 3)) w) hr1 ok_m_X_plan lkL_164 sh_0 rfl rfl rfl (Nat.le_of_ble_eq_true rfl) (Nat.le_of_ble_eq_true rfl) (Nat.le_of_ble_eq_true rfl) hcs rfl (by decide +kernel) rfl ?_
  refine Gl.aload_n X (q := 2) (pc' := 1471) (by decide +kernel) rfl 3 rfl ?_
  refine Gl.aload_n X (q := 0) (pc' := 1472) (by decide +kernel) rfl 1 rfl ?_
  refine Gl.iload X (i := 4) (pc' := 1474) (by decide +kernel) rfl 0 rfl ?_
  refine Gl.iconst X (n := 1) (v := (1 : Int32)) (pc' := 1475) (by decide +kernel) rfl rfl ?_
  refine Gl.iadd X (pc' := 1476) (by decide +kernel) rfl ?_
  refine Gl.sld X (i := x4 + (1 : Int32)) (gl_in hk e4 X.1 (j := 1) ⟨by decide, rfl⟩) (pc' := 1477) (by decide +kernel) rfl ?_
  rw [gl_cl hk e4 X.1 (j := 1) (v := (1 : Int32)) ⟨by decide, rfl⟩]
  refine Gl.aload_n X (q := 0) (pc' := 1478) (by decide +kernel) rfl 1 rfl ?_
  refine Gl.iload X (i := 4) (pc' := 1480) (by decide +kernel) rfl 0 rfl ?_
  refine Gl.iconst X (n := 2) (v := (2 : Int32)) (pc' := 1481) (by decide +kernel) rfl rfl ?_
  refine Gl.iadd X (pc' := 1482) (by decide +kernel) rfl ?_
  refine Gl.sld X (i := x4 + (2 : Int32)) (gl_in hk e4 X.1 (j := 2) ⟨by decide, rfl⟩) (pc' := 1483) (by decide +kernel) rfl ?_
  rw [gl_cl hk e4 X.1 (j := 2) (v := (2 : Int32)) ⟨by decide, rfl⟩]
  refine Gl.aload_n X (q := 0) (pc' := 1484) (by decide +kernel) rfl 1 rfl ?_
  refine Gl.iload X (i := 4) (pc' := 1486) (by decide +kernel) rfl 0 rfl ?_
  refine Gl.iconst X (n := 3) (v := (3 : Int32)) (pc' := 1487) (by decide +kernel) rfl rfl ?_
  refine Gl.iadd X (pc' := 1488) (by decide +kernel) rfl ?_
  refine Gl.sld X (i := x4 + (3 : Int32)) (gl_in hk e4 X.1 (j := 3) ⟨by decide, rfl⟩) (pc' := 1489) (by decide +kernel) rfl ?_
  rw [gl_cl hk e4 X.1 (j := 3) (v := (3 : Int32)) ⟨by decide, rfl⟩]
  refine Gl.callVI (z := m_M_plan) (st := [.int r]) (bb := 107) (pc' := 1492) [.int (xs (6 * k + 1)), .int (xs (6 * k + 2)), .int (xs (6 * k + 3))] X (g_M_plan (xs (6 * k + 1)) (xs (6 * k + 2)) (xs (6 * k + 3)) w1) hr2 ok_m_M_plan lkL_167 sh_107 rfl rfl rfl (Nat.le_of_ble_eq_true rfl) (Nat.le_of_ble_eq_true rfl) (Nat.le_of_ble_eq_true rfl) hcs rfl (by decide +kernel) rfl ?_
  refine Gl.icmp_eq X (off := 424) (tgt := 1916) (pc' := 1495) (by decide +kernel) (by decide) rfl (fun c1 => ?_) (fun c1 => absurd rfl c1)
  exact hcont w2 hw2
theorem law_implies {p : Program} {l : Launch} {e : Env} {s : State} {m : MethodId} {below : List Frame} {meth : Method} {c : Code} {b o LL : Nat} {xs : Nat → Int32} {D : va_G} {yy : Nat → ClassId} {cells slots : Nat} (X : gC p s m meth c b LL xs o D yy) {k : Nat} {x4 : Int32} (hk : 6 * k + 6 ≤ LL ∧ LL ≤ 3072) (e4 : x4 = nI (6 * k)) (hcs : cells ≤ 601024 ∧ slots ≤ 7293034) {I : gW → Prop} (hstep : zSt_implies I) (hcont : ∀ w : gW, I w → Gl p l e s m below meth c b o D yy cells slots 1916 [(4, .int x4), (0, .ref b), (1, .ref (o + 0)), (2, .ref (o + 107)), (3, .ref (o + 135))] [] w) (w : gW) (hw : I w) : Gl p l e s m below meth c b o D yy cells slots 1497 [(4, .int x4), (0, .ref b), (1, .ref (o + 0)), (2, .ref (o + 107)), (3, .ref (o + 135))] [] w := by
  refine Gl.aload_n X (q := 1) (pc' := 1498) (by decide +kernel) rfl 2 rfl ?_
  refine Gl.aload_n X (q := 0) (pc' := 1499) (by decide +kernel) rfl 1 rfl ?_
  refine Gl.iload X (i := 4) (pc' := 1501) (by decide +kernel) rfl 0 rfl ?_
  refine Gl.iconst X (n := 1) (v := (1 : Int32)) (pc' := 1502) (by decide +kernel) rfl rfl ?_
  refine Gl.iadd X (pc' := 1503) (by decide +kernel) rfl ?_
  refine Gl.sld X (i := x4 + (1 : Int32)) (gl_in hk e4 X.1 (j := 1) ⟨by decide, rfl⟩) (pc' := 1504) (by decide +kernel) rfl ?_
  rw [gl_cl hk e4 X.1 (j := 1) (v := (1 : Int32)) ⟨by decide, rfl⟩]
  refine Gl.aload_n X (q := 0) (pc' := 1505) (by decide +kernel) rfl 1 rfl ?_
  refine Gl.iload X (i := 4) (pc' := 1507) (by decide +kernel) rfl 0 rfl ?_
  refine Gl.iconst X (n := 2) (v := (2 : Int32)) (pc' := 1508) (by decide +kernel) rfl rfl ?_
  refine Gl.iadd X (pc' := 1509) (by decide +kernel) rfl ?_
  refine Gl.sld X (i := x4 + (2 : Int32)) (gl_in hk e4 X.1 (j := 2) ⟨by decide, rfl⟩) (pc' := 1510) (by decide +kernel) rfl ?_
  rw [gl_cl hk e4 X.1 (j := 2) (v := (2 : Int32)) ⟨by decide, rfl⟩]
  refine Gl.aload_n X (q := 0) (pc' := 1511) (by decide +kernel) rfl 1 rfl ?_
  refine Gl.iload X (i := 4) (pc' := 1513) (by decide +kernel) rfl 0 rfl ?_
  refine Gl.iconst X (n := 3) (v := (3 : Int32)) (pc' := 1514) (by decide +kernel) rfl rfl ?_
  refine Gl.iadd X (pc' := 1515) (by decide +kernel) rfl ?_
  refine Gl.sld X (i := x4 + (3 : Int32)) (gl_in hk e4 X.1 (j := 3) ⟨by decide, rfl⟩) (pc' := 1516) (by decide +kernel) rfl ?_
  rw [gl_cl hk e4 X.1 (j := 3) (v := (3 : Int32)) ⟨by decide, rfl⟩]
  obtain ⟨r, w1, w2, hr1, hr2, hw2⟩ := hstep (xs (6 * k + 1)) (xs (6 * k + 2)) (xs (6 * k + 3)) w hw
  refine Gl.callVI (z := m_X_implies) (st := []) (bb := 0) (pc' := 1519) [.int (xs (6 * k + 1)), .int (xs (6 * k + 2)), .int (xs (6 * k + 3))] X (g_X_implies (xs (6 * k + 1)) (xs (6 * k + 2)) (xs (6 * k + 3)) w) hr1 ok_m_X_implies lkL_168 sh_0 rfl rfl rfl (Nat.le_of_ble_eq_true rfl) (Nat.le_of_ble_eq_true rfl) (Nat.le_of_ble_eq_true rfl) hcs rfl (by decide +kernel) rfl ?_
  refine Gl.aload_n X (q := 2) (pc' := 1520) (by decide +kernel) rfl 3 rfl ?_
  refine Gl.aload_n X (q := 0) (pc' := 1521) (by decide +kernel) rfl 1 rfl ?_
  refine Gl.iload X (i := 4) (pc' := 1523) (by decide +kernel) rfl 0 rfl ?_
  refine Gl.iconst X (n := 1) (v := (1 : Int32)) (pc' := 1524) (by decide +kernel) rfl rfl ?_
  refine Gl.iadd X (pc' := 1525) (by decide +kernel) rfl ?_
  refine Gl.sld X (i := x4 + (1 : Int32)) (gl_in hk e4 X.1 (j := 1) ⟨by decide, rfl⟩) (pc' := 1526) (by decide +kernel) rfl ?_
  rw [gl_cl hk e4 X.1 (j := 1) (v := (1 : Int32)) ⟨by decide, rfl⟩]
  refine Gl.aload_n X (q := 0) (pc' := 1527) (by decide +kernel) rfl 1 rfl ?_
  refine Gl.iload X (i := 4) (pc' := 1529) (by decide +kernel) rfl 0 rfl ?_
  refine Gl.iconst X (n := 2) (v := (2 : Int32)) (pc' := 1530) (by decide +kernel) rfl rfl ?_
  refine Gl.iadd X (pc' := 1531) (by decide +kernel) rfl ?_
  refine Gl.sld X (i := x4 + (2 : Int32)) (gl_in hk e4 X.1 (j := 2) ⟨by decide, rfl⟩) (pc' := 1532) (by decide +kernel) rfl ?_
  rw [gl_cl hk e4 X.1 (j := 2) (v := (2 : Int32)) ⟨by decide, rfl⟩]
  refine Gl.aload_n X (q := 0) (pc' := 1533) (by decide +kernel) rfl 1 rfl ?_
  refine Gl.iload X (i := 4) (pc' := 1535) (by decide +kernel) rfl 0 rfl ?_
  refine Gl.iconst X (n := 3) (v := (3 : Int32)) (pc' := 1536) (by decide +kernel) rfl rfl ?_
  refine Gl.iadd X (pc' := 1537) (by decide +kernel) rfl ?_
  refine Gl.sld X (i := x4 + (3 : Int32)) (gl_in hk e4 X.1 (j := 3) ⟨by decide, rfl⟩) (pc' := 1538) (by decide +kernel) rfl ?_
  rw [gl_cl hk e4 X.1 (j := 3) (v := (3 : Int32)) ⟨by decide, rfl⟩]
  refine Gl.callVI (z := m_M_implies) (st := [.int r]) (bb := 107) (pc' := 1541) [.int (xs (6 * k + 1)), .int (xs (6 * k + 2)), .int (xs (6 * k + 3))] X (g_M_implies (xs (6 * k + 1)) (xs (6 * k + 2)) (xs (6 * k + 3)) w1) hr2 ok_m_M_implies lkL_171 sh_107 rfl rfl rfl (Nat.le_of_ble_eq_true rfl) (Nat.le_of_ble_eq_true rfl) (Nat.le_of_ble_eq_true rfl) hcs rfl (by decide +kernel) rfl ?_
  refine Gl.icmp_eq X (off := 375) (tgt := 1916) (pc' := 1544) (by decide +kernel) (by decide) rfl (fun c1 => ?_) (fun c1 => absurd rfl c1)
  exact hcont w2 hw2
theorem law_same {p : Program} {l : Launch} {e : Env} {s : State} {m : MethodId} {below : List Frame} {meth : Method} {c : Code} {b o LL : Nat} {xs : Nat → Int32} {D : va_G} {yy : Nat → ClassId} {cells slots : Nat} (X : gC p s m meth c b LL xs o D yy) {k : Nat} {x4 : Int32} (hk : 6 * k + 6 ≤ LL ∧ LL ≤ 3072) (e4 : x4 = nI (6 * k)) (hcs : cells ≤ 601024 ∧ slots ≤ 7293034) {I : gW → Prop} (hstep : zSt_same I) (hcont : ∀ w : gW, I w → Gl p l e s m below meth c b o D yy cells slots 1916 [(4, .int x4), (0, .ref b), (1, .ref (o + 0)), (2, .ref (o + 107)), (3, .ref (o + 135))] [] w) (w : gW) (hw : I w) : Gl p l e s m below meth c b o D yy cells slots 1546 [(4, .int x4), (0, .ref b), (1, .ref (o + 0)), (2, .ref (o + 107)), (3, .ref (o + 135))] [] w := by
  refine Gl.aload_n X (q := 1) (pc' := 1547) (by decide +kernel) rfl 2 rfl ?_
  refine Gl.aload_n X (q := 0) (pc' := 1548) (by decide +kernel) rfl 1 rfl ?_
  refine Gl.iload X (i := 4) (pc' := 1550) (by decide +kernel) rfl 0 rfl ?_
  refine Gl.iconst X (n := 1) (v := (1 : Int32)) (pc' := 1551) (by decide +kernel) rfl rfl ?_
  refine Gl.iadd X (pc' := 1552) (by decide +kernel) rfl ?_
  refine Gl.sld X (i := x4 + (1 : Int32)) (gl_in hk e4 X.1 (j := 1) ⟨by decide, rfl⟩) (pc' := 1553) (by decide +kernel) rfl ?_
  rw [gl_cl hk e4 X.1 (j := 1) (v := (1 : Int32)) ⟨by decide, rfl⟩]
  refine Gl.aload_n X (q := 0) (pc' := 1554) (by decide +kernel) rfl 1 rfl ?_
  refine Gl.iload X (i := 4) (pc' := 1556) (by decide +kernel) rfl 0 rfl ?_
  refine Gl.iconst X (n := 2) (v := (2 : Int32)) (pc' := 1557) (by decide +kernel) rfl rfl ?_
  refine Gl.iadd X (pc' := 1558) (by decide +kernel) rfl ?_
  refine Gl.sld X (i := x4 + (2 : Int32)) (gl_in hk e4 X.1 (j := 2) ⟨by decide, rfl⟩) (pc' := 1559) (by decide +kernel) rfl ?_
  rw [gl_cl hk e4 X.1 (j := 2) (v := (2 : Int32)) ⟨by decide, rfl⟩]
  obtain ⟨r, w1, w2, hr1, hr2, hw2⟩ := hstep (xs (6 * k + 1)) (xs (6 * k + 2)) w hw
  refine Gl.callVI (z := m_X_same) (st := []) (bb := 0) (pc' := 1562) [.int (xs (6 * k + 1)), .int (xs (6 * k + 2))] X (g_X_same (xs (6 * k + 1)) (xs (6 * k + 2)) w) hr1 ok_m_X_same lkL_172 sh_0 rfl rfl rfl (Nat.le_of_ble_eq_true rfl) (Nat.le_of_ble_eq_true rfl) (Nat.le_of_ble_eq_true rfl) hcs rfl (by decide +kernel) rfl ?_
  refine Gl.aload_n X (q := 2) (pc' := 1563) (by decide +kernel) rfl 3 rfl ?_
  refine Gl.aload_n X (q := 0) (pc' := 1564) (by decide +kernel) rfl 1 rfl ?_
  refine Gl.iload X (i := 4) (pc' := 1566) (by decide +kernel) rfl 0 rfl ?_
  refine Gl.iconst X (n := 1) (v := (1 : Int32)) (pc' := 1567) (by decide +kernel) rfl rfl ?_
  refine Gl.iadd X (pc' := 1568) (by decide +kernel) rfl ?_
  refine Gl.sld X (i := x4 + (1 : Int32)) (gl_in hk e4 X.1 (j := 1) ⟨by decide, rfl⟩) (pc' := 1569) (by decide +kernel) rfl ?_
  rw [gl_cl hk e4 X.1 (j := 1) (v := (1 : Int32)) ⟨by decide, rfl⟩]
  refine Gl.aload_n X (q := 0) (pc' := 1570) (by decide +kernel) rfl 1 rfl ?_
  refine Gl.iload X (i := 4) (pc' := 1572) (by decide +kernel) rfl 0 rfl ?_
  refine Gl.iconst X (n := 2) (v := (2 : Int32)) (pc' := 1573) (by decide +kernel) rfl rfl ?_
  refine Gl.iadd X (pc' := 1574) (by decide +kernel) rfl ?_
  refine Gl.sld X (i := x4 + (2 : Int32)) (gl_in hk e4 X.1 (j := 2) ⟨by decide, rfl⟩) (pc' := 1575) (by decide +kernel) rfl ?_
  rw [gl_cl hk e4 X.1 (j := 2) (v := (2 : Int32)) ⟨by decide, rfl⟩]
  refine Gl.callVI (z := m_M_same) (st := [.int r]) (bb := 107) (pc' := 1578) [.int (xs (6 * k + 1)), .int (xs (6 * k + 2))] X (g_M_same (xs (6 * k + 1)) (xs (6 * k + 2)) w1) hr2 ok_m_M_same lkL_175 sh_107 rfl rfl rfl (Nat.le_of_ble_eq_true rfl) (Nat.le_of_ble_eq_true rfl) (Nat.le_of_ble_eq_true rfl) hcs rfl (by decide +kernel) rfl ?_
  refine Gl.icmp_eq X (off := 338) (tgt := 1916) (pc' := 1581) (by decide +kernel) (by decide) rfl (fun c1 => ?_) (fun c1 => absurd rfl c1)
  exact hcont w2 hw2
theorem law_days {p : Program} {l : Launch} {e : Env} {s : State} {m : MethodId} {below : List Frame} {meth : Method} {c : Code} {b o LL : Nat} {xs : Nat → Int32} {D : va_G} {yy : Nat → ClassId} {cells slots : Nat} (X : gC p s m meth c b LL xs o D yy) {k : Nat} {x4 : Int32} (hk : 6 * k + 6 ≤ LL ∧ LL ≤ 3072) (e4 : x4 = nI (6 * k)) (hcs : cells ≤ 601024 ∧ slots ≤ 7293034) {I : gW → Prop} (hstep : zSt_days I) (hcont : ∀ w : gW, I w → Gl p l e s m below meth c b o D yy cells slots 1916 [(4, .int x4), (0, .ref b), (1, .ref (o + 0)), (2, .ref (o + 107)), (3, .ref (o + 135))] [] w) (w : gW) (hw : I w) : Gl p l e s m below meth c b o D yy cells slots 1583 [(4, .int x4), (0, .ref b), (1, .ref (o + 0)), (2, .ref (o + 107)), (3, .ref (o + 135))] [] w := by
  refine Gl.aload_n X (q := 1) (pc' := 1584) (by decide +kernel) rfl 2 rfl ?_
  refine Gl.aload_n X (q := 0) (pc' := 1585) (by decide +kernel) rfl 1 rfl ?_
  refine Gl.iload X (i := 4) (pc' := 1587) (by decide +kernel) rfl 0 rfl ?_
  refine Gl.iconst X (n := 1) (v := (1 : Int32)) (pc' := 1588) (by decide +kernel) rfl rfl ?_
  refine Gl.iadd X (pc' := 1589) (by decide +kernel) rfl ?_
  refine Gl.sld X (i := x4 + (1 : Int32)) (gl_in hk e4 X.1 (j := 1) ⟨by decide, rfl⟩) (pc' := 1590) (by decide +kernel) rfl ?_
  rw [gl_cl hk e4 X.1 (j := 1) (v := (1 : Int32)) ⟨by decide, rfl⟩]
  obtain ⟨r, w1, w2, hr1, hr2, hw2⟩ := hstep (xs (6 * k + 1)) w hw
  refine Gl.callVI (z := m_X_days) (st := []) (bb := 0) (pc' := 1593) [.int (xs (6 * k + 1))] X (g_X_days (xs (6 * k + 1)) w) hr1 ok_m_X_days lkL_176 sh_0 rfl rfl rfl (Nat.le_of_ble_eq_true rfl) (Nat.le_of_ble_eq_true rfl) (Nat.le_of_ble_eq_true rfl) hcs rfl (by decide +kernel) rfl ?_
  refine Gl.aload_n X (q := 2) (pc' := 1594) (by decide +kernel) rfl 3 rfl ?_
  refine Gl.aload_n X (q := 0) (pc' := 1595) (by decide +kernel) rfl 1 rfl ?_
  refine Gl.iload X (i := 4) (pc' := 1597) (by decide +kernel) rfl 0 rfl ?_
  refine Gl.iconst X (n := 1) (v := (1 : Int32)) (pc' := 1598) (by decide +kernel) rfl rfl ?_
  refine Gl.iadd X (pc' := 1599) (by decide +kernel) rfl ?_
  refine Gl.sld X (i := x4 + (1 : Int32)) (gl_in hk e4 X.1 (j := 1) ⟨by decide, rfl⟩) (pc' := 1600) (by decide +kernel) rfl ?_
  rw [gl_cl hk e4 X.1 (j := 1) (v := (1 : Int32)) ⟨by decide, rfl⟩]
  refine Gl.callVI (z := m_M_days) (st := [.int r]) (bb := 107) (pc' := 1603) [.int (xs (6 * k + 1))] X (g_M_days (xs (6 * k + 1)) w1) hr2 ok_m_M_days lkL_179 sh_107 rfl rfl rfl (Nat.le_of_ble_eq_true rfl) (Nat.le_of_ble_eq_true rfl) (Nat.le_of_ble_eq_true rfl) hcs rfl (by decide +kernel) rfl ?_
  refine Gl.icmp_eq X (off := 313) (tgt := 1916) (pc' := 1606) (by decide +kernel) (by decide) rfl (fun c1 => ?_) (fun c1 => absurd rfl c1)
  exact hcont w2 hw2
theorem law_near {p : Program} {l : Launch} {e : Env} {s : State} {m : MethodId} {below : List Frame} {meth : Method} {c : Code} {b o LL : Nat} {xs : Nat → Int32} {D : va_G} {yy : Nat → ClassId} {cells slots : Nat} (X : gC p s m meth c b LL xs o D yy) {k : Nat} {x4 : Int32} (hk : 6 * k + 6 ≤ LL ∧ LL ≤ 3072) (e4 : x4 = nI (6 * k)) (hcs : cells ≤ 601024 ∧ slots ≤ 7293034) {I : gW → Prop} (hstep : zSt_near I) (hcont : ∀ w : gW, I w → Gl p l e s m below meth c b o D yy cells slots 1916 [(4, .int x4), (0, .ref b), (1, .ref (o + 0)), (2, .ref (o + 107)), (3, .ref (o + 135))] [] w) (w : gW) (hw : I w) : Gl p l e s m below meth c b o D yy cells slots 1608 [(4, .int x4), (0, .ref b), (1, .ref (o + 0)), (2, .ref (o + 107)), (3, .ref (o + 135))] [] w := by
  refine Gl.aload_n X (q := 1) (pc' := 1609) (by decide +kernel) rfl 2 rfl ?_
  refine Gl.aload_n X (q := 0) (pc' := 1610) (by decide +kernel) rfl 1 rfl ?_
  refine Gl.iload X (i := 4) (pc' := 1612) (by decide +kernel) rfl 0 rfl ?_
  refine Gl.iconst X (n := 1) (v := (1 : Int32)) (pc' := 1613) (by decide +kernel) rfl rfl ?_
  refine Gl.iadd X (pc' := 1614) (by decide +kernel) rfl ?_
  refine Gl.sld X (i := x4 + (1 : Int32)) (gl_in hk e4 X.1 (j := 1) ⟨by decide, rfl⟩) (pc' := 1615) (by decide +kernel) rfl ?_
  rw [gl_cl hk e4 X.1 (j := 1) (v := (1 : Int32)) ⟨by decide, rfl⟩]
  refine Gl.aload_n X (q := 0) (pc' := 1616) (by decide +kernel) rfl 1 rfl ?_
  refine Gl.iload X (i := 4) (pc' := 1618) (by decide +kernel) rfl 0 rfl ?_
  refine Gl.iconst X (n := 2) (v := (2 : Int32)) (pc' := 1619) (by decide +kernel) rfl rfl ?_
  refine Gl.iadd X (pc' := 1620) (by decide +kernel) rfl ?_
  refine Gl.sld X (i := x4 + (2 : Int32)) (gl_in hk e4 X.1 (j := 2) ⟨by decide, rfl⟩) (pc' := 1621) (by decide +kernel) rfl ?_
  rw [gl_cl hk e4 X.1 (j := 2) (v := (2 : Int32)) ⟨by decide, rfl⟩]
  obtain ⟨r, w1, w2, hr1, hr2, hw2⟩ := hstep (xs (6 * k + 1)) (xs (6 * k + 2)) w hw
  refine Gl.callVI (z := m_X_near) (st := []) (bb := 0) (pc' := 1624) [.int (xs (6 * k + 1)), .int (xs (6 * k + 2))] X (g_X_near (xs (6 * k + 1)) (xs (6 * k + 2)) w) hr1 ok_m_X_near lkL_180 sh_0 rfl rfl rfl (Nat.le_of_ble_eq_true rfl) (Nat.le_of_ble_eq_true rfl) (Nat.le_of_ble_eq_true rfl) hcs rfl (by decide +kernel) rfl ?_
  refine Gl.aload_n X (q := 2) (pc' := 1625) (by decide +kernel) rfl 3 rfl ?_
  refine Gl.aload_n X (q := 0) (pc' := 1626) (by decide +kernel) rfl 1 rfl ?_
  refine Gl.iload X (i := 4) (pc' := 1628) (by decide +kernel) rfl 0 rfl ?_
  refine Gl.iconst X (n := 1) (v := (1 : Int32)) (pc' := 1629) (by decide +kernel) rfl rfl ?_
  refine Gl.iadd X (pc' := 1630) (by decide +kernel) rfl ?_
  refine Gl.sld X (i := x4 + (1 : Int32)) (gl_in hk e4 X.1 (j := 1) ⟨by decide, rfl⟩) (pc' := 1631) (by decide +kernel) rfl ?_
  rw [gl_cl hk e4 X.1 (j := 1) (v := (1 : Int32)) ⟨by decide, rfl⟩]
  refine Gl.aload_n X (q := 0) (pc' := 1632) (by decide +kernel) rfl 1 rfl ?_
  refine Gl.iload X (i := 4) (pc' := 1634) (by decide +kernel) rfl 0 rfl ?_
  refine Gl.iconst X (n := 2) (v := (2 : Int32)) (pc' := 1635) (by decide +kernel) rfl rfl ?_
  refine Gl.iadd X (pc' := 1636) (by decide +kernel) rfl ?_
  refine Gl.sld X (i := x4 + (2 : Int32)) (gl_in hk e4 X.1 (j := 2) ⟨by decide, rfl⟩) (pc' := 1637) (by decide +kernel) rfl ?_
  rw [gl_cl hk e4 X.1 (j := 2) (v := (2 : Int32)) ⟨by decide, rfl⟩]
  refine Gl.callVI (z := m_M_near) (st := [.int r]) (bb := 107) (pc' := 1640) [.int (xs (6 * k + 1)), .int (xs (6 * k + 2))] X (g_M_near (xs (6 * k + 1)) (xs (6 * k + 2)) w1) hr2 ok_m_M_near lkL_183 sh_107 rfl rfl rfl (Nat.le_of_ble_eq_true rfl) (Nat.le_of_ble_eq_true rfl) (Nat.le_of_ble_eq_true rfl) hcs rfl (by decide +kernel) rfl ?_
  refine Gl.icmp_eq X (off := 276) (tgt := 1916) (pc' := 1643) (by decide +kernel) (by decide) rfl (fun c1 => ?_) (fun c1 => absurd rfl c1)
  exact hcont w2 hw2
theorem law_alibi {p : Program} {l : Launch} {e : Env} {s : State} {m : MethodId} {below : List Frame} {meth : Method} {c : Code} {b o LL : Nat} {xs : Nat → Int32} {D : va_G} {yy : Nat → ClassId} {cells slots : Nat} (X : gC p s m meth c b LL xs o D yy) {k : Nat} {x4 : Int32} (hk : 6 * k + 6 ≤ LL ∧ LL ≤ 3072) (e4 : x4 = nI (6 * k)) (hcs : cells ≤ 601024 ∧ slots ≤ 7293034) {I : gW → Prop} (hstep : zSt_alibi I) (hcont : ∀ w : gW, I w → Gl p l e s m below meth c b o D yy cells slots 1916 [(4, .int x4), (0, .ref b), (1, .ref (o + 0)), (2, .ref (o + 107)), (3, .ref (o + 135))] [] w) (w : gW) (hw : I w) : Gl p l e s m below meth c b o D yy cells slots 1645 [(4, .int x4), (0, .ref b), (1, .ref (o + 0)), (2, .ref (o + 107)), (3, .ref (o + 135))] [] w := by
  refine Gl.aload_n X (q := 1) (pc' := 1646) (by decide +kernel) rfl 2 rfl ?_
  refine Gl.aload_n X (q := 0) (pc' := 1647) (by decide +kernel) rfl 1 rfl ?_
  refine Gl.iload X (i := 4) (pc' := 1649) (by decide +kernel) rfl 0 rfl ?_
  refine Gl.iconst X (n := 1) (v := (1 : Int32)) (pc' := 1650) (by decide +kernel) rfl rfl ?_
  refine Gl.iadd X (pc' := 1651) (by decide +kernel) rfl ?_
  refine Gl.sld X (i := x4 + (1 : Int32)) (gl_in hk e4 X.1 (j := 1) ⟨by decide, rfl⟩) (pc' := 1652) (by decide +kernel) rfl ?_
  rw [gl_cl hk e4 X.1 (j := 1) (v := (1 : Int32)) ⟨by decide, rfl⟩]
  refine Gl.aload_n X (q := 0) (pc' := 1653) (by decide +kernel) rfl 1 rfl ?_
  refine Gl.iload X (i := 4) (pc' := 1655) (by decide +kernel) rfl 0 rfl ?_
  refine Gl.iconst X (n := 2) (v := (2 : Int32)) (pc' := 1656) (by decide +kernel) rfl rfl ?_
  refine Gl.iadd X (pc' := 1657) (by decide +kernel) rfl ?_
  refine Gl.sld X (i := x4 + (2 : Int32)) (gl_in hk e4 X.1 (j := 2) ⟨by decide, rfl⟩) (pc' := 1658) (by decide +kernel) rfl ?_
  rw [gl_cl hk e4 X.1 (j := 2) (v := (2 : Int32)) ⟨by decide, rfl⟩]
  obtain ⟨r, w1, w2, hr1, hr2, hw2⟩ := hstep (xs (6 * k + 1)) (xs (6 * k + 2)) w hw
  refine Gl.callVI (z := m_X_alibi) (st := []) (bb := 0) (pc' := 1661) [.int (xs (6 * k + 1)), .int (xs (6 * k + 2))] X (g_X_alibi (xs (6 * k + 1)) (xs (6 * k + 2)) w) hr1 ok_m_X_alibi lkL_184 sh_0 rfl rfl rfl (Nat.le_of_ble_eq_true rfl) (Nat.le_of_ble_eq_true rfl) (Nat.le_of_ble_eq_true rfl) hcs rfl (by decide +kernel) rfl ?_
  refine Gl.aload_n X (q := 2) (pc' := 1662) (by decide +kernel) rfl 3 rfl ?_
  refine Gl.aload_n X (q := 0) (pc' := 1663) (by decide +kernel) rfl 1 rfl ?_
  refine Gl.iload X (i := 4) (pc' := 1665) (by decide +kernel) rfl 0 rfl ?_
  refine Gl.iconst X (n := 1) (v := (1 : Int32)) (pc' := 1666) (by decide +kernel) rfl rfl ?_
  refine Gl.iadd X (pc' := 1667) (by decide +kernel) rfl ?_
  refine Gl.sld X (i := x4 + (1 : Int32)) (gl_in hk e4 X.1 (j := 1) ⟨by decide, rfl⟩) (pc' := 1668) (by decide +kernel) rfl ?_
  rw [gl_cl hk e4 X.1 (j := 1) (v := (1 : Int32)) ⟨by decide, rfl⟩]
  refine Gl.aload_n X (q := 0) (pc' := 1669) (by decide +kernel) rfl 1 rfl ?_
  refine Gl.iload X (i := 4) (pc' := 1671) (by decide +kernel) rfl 0 rfl ?_
  refine Gl.iconst X (n := 2) (v := (2 : Int32)) (pc' := 1672) (by decide +kernel) rfl rfl ?_
  refine Gl.iadd X (pc' := 1673) (by decide +kernel) rfl ?_
  refine Gl.sld X (i := x4 + (2 : Int32)) (gl_in hk e4 X.1 (j := 2) ⟨by decide, rfl⟩) (pc' := 1674) (by decide +kernel) rfl ?_
  rw [gl_cl hk e4 X.1 (j := 2) (v := (2 : Int32)) ⟨by decide, rfl⟩]
  refine Gl.callVI (z := m_M_alibi) (st := [.int r]) (bb := 107) (pc' := 1677) [.int (xs (6 * k + 1)), .int (xs (6 * k + 2))] X (g_M_alibi (xs (6 * k + 1)) (xs (6 * k + 2)) w1) hr2 ok_m_M_alibi lkL_187 sh_107 rfl rfl rfl (Nat.le_of_ble_eq_true rfl) (Nat.le_of_ble_eq_true rfl) (Nat.le_of_ble_eq_true rfl) hcs rfl (by decide +kernel) rfl ?_
  refine Gl.icmp_eq X (off := 239) (tgt := 1916) (pc' := 1680) (by decide +kernel) (by decide) rfl (fun c1 => ?_) (fun c1 => absurd rfl c1)
  exact hcont w2 hw2
theorem law_hands {p : Program} {l : Launch} {e : Env} {s : State} {m : MethodId} {below : List Frame} {meth : Method} {c : Code} {b o LL : Nat} {xs : Nat → Int32} {D : va_G} {yy : Nat → ClassId} {cells slots : Nat} (X : gC p s m meth c b LL xs o D yy) {k : Nat} {x4 : Int32} (hk : 6 * k + 6 ≤ LL ∧ LL ≤ 3072) (e4 : x4 = nI (6 * k)) (hcs : cells ≤ 601024 ∧ slots ≤ 7293034) {I : gW → Prop} (hstep : zSt_hands I) (hcont : ∀ w : gW, I w → Gl p l e s m below meth c b o D yy cells slots 1916 [(4, .int x4), (0, .ref b), (1, .ref (o + 0)), (2, .ref (o + 107)), (3, .ref (o + 135))] [] w) (w : gW) (hw : I w) : Gl p l e s m below meth c b o D yy cells slots 1682 [(4, .int x4), (0, .ref b), (1, .ref (o + 0)), (2, .ref (o + 107)), (3, .ref (o + 135))] [] w := by
  refine Gl.aload_n X (q := 1) (pc' := 1683) (by decide +kernel) rfl 2 rfl ?_
  obtain ⟨r, w1, w2, hr1, hr2, hw2⟩ := hstep w hw
  refine Gl.callVI (z := m_X_hands) (st := []) (bb := 0) (pc' := 1686) [] X (g_X_hands w) hr1 ok_m_X_hands lkL_188 sh_0 rfl rfl rfl (Nat.le_of_ble_eq_true rfl) (Nat.le_of_ble_eq_true rfl) (Nat.le_of_ble_eq_true rfl) hcs rfl (by decide +kernel) rfl ?_
  refine Gl.aload_n X (q := 2) (pc' := 1687) (by decide +kernel) rfl 3 rfl ?_
  refine Gl.callVI (z := m_M_hands) (st := [.int r]) (bb := 107) (pc' := 1690) [] X (g_M_hands w1) hr2 ok_m_M_hands lkL_191 sh_107 rfl rfl rfl (Nat.le_of_ble_eq_true rfl) (Nat.le_of_ble_eq_true rfl) (Nat.le_of_ble_eq_true rfl) hcs rfl (by decide +kernel) rfl ?_
  refine Gl.icmp_eq X (off := 226) (tgt := 1916) (pc' := 1693) (by decide +kernel) (by decide) rfl (fun c1 => ?_) (fun c1 => absurd rfl c1)
  exact hcont w2 hw2
theorem law_mean {p : Program} {l : Launch} {e : Env} {s : State} {m : MethodId} {below : List Frame} {meth : Method} {c : Code} {b o LL : Nat} {xs : Nat → Int32} {D : va_G} {yy : Nat → ClassId} {cells slots : Nat} (X : gC p s m meth c b LL xs o D yy) {k : Nat} {x4 : Int32} (hk : 6 * k + 6 ≤ LL ∧ LL ≤ 3072) (e4 : x4 = nI (6 * k)) (hcs : cells ≤ 601024 ∧ slots ≤ 7293034) {I : gW → Prop} (hstep : zSt_mean I) (hcont : ∀ w : gW, I w → Gl p l e s m below meth c b o D yy cells slots 1916 [(4, .int x4), (0, .ref b), (1, .ref (o + 0)), (2, .ref (o + 107)), (3, .ref (o + 135))] [] w) (w : gW) (hw : I w) : Gl p l e s m below meth c b o D yy cells slots 1695 [(4, .int x4), (0, .ref b), (1, .ref (o + 0)), (2, .ref (o + 107)), (3, .ref (o + 135))] [] w := by
  refine Gl.aload_n X (q := 1) (pc' := 1696) (by decide +kernel) rfl 2 rfl ?_
  refine Gl.aload_n X (q := 0) (pc' := 1697) (by decide +kernel) rfl 1 rfl ?_
  refine Gl.iload X (i := 4) (pc' := 1699) (by decide +kernel) rfl 0 rfl ?_
  refine Gl.iconst X (n := 1) (v := (1 : Int32)) (pc' := 1700) (by decide +kernel) rfl rfl ?_
  refine Gl.iadd X (pc' := 1701) (by decide +kernel) rfl ?_
  refine Gl.sld X (i := x4 + (1 : Int32)) (gl_in hk e4 X.1 (j := 1) ⟨by decide, rfl⟩) (pc' := 1702) (by decide +kernel) rfl ?_
  rw [gl_cl hk e4 X.1 (j := 1) (v := (1 : Int32)) ⟨by decide, rfl⟩]
  obtain ⟨r, w1, w2, hr1, hr2, hw2⟩ := hstep (xs (6 * k + 1)) w hw
  refine Gl.callVJ (z := m_X_mean) (st := []) (bb := 0) (pc' := 1705) [.int (xs (6 * k + 1))] X (g_X_mean (xs (6 * k + 1)) w) hr1 ok_m_X_mean lkL_192 sh_0 rfl rfl rfl (Nat.le_of_ble_eq_true rfl) (Nat.le_of_ble_eq_true rfl) (Nat.le_of_ble_eq_true rfl) hcs rfl (by decide +kernel) rfl ?_
  refine Gl.aload_n X (q := 2) (pc' := 1706) (by decide +kernel) rfl 3 rfl ?_
  refine Gl.aload_n X (q := 0) (pc' := 1707) (by decide +kernel) rfl 1 rfl ?_
  refine Gl.iload X (i := 4) (pc' := 1709) (by decide +kernel) rfl 0 rfl ?_
  refine Gl.iconst X (n := 1) (v := (1 : Int32)) (pc' := 1710) (by decide +kernel) rfl rfl ?_
  refine Gl.iadd X (pc' := 1711) (by decide +kernel) rfl ?_
  refine Gl.sld X (i := x4 + (1 : Int32)) (gl_in hk e4 X.1 (j := 1) ⟨by decide, rfl⟩) (pc' := 1712) (by decide +kernel) rfl ?_
  rw [gl_cl hk e4 X.1 (j := 1) (v := (1 : Int32)) ⟨by decide, rfl⟩]
  refine Gl.callVJ (z := m_M_mean) (st := [.long r]) (bb := 107) (pc' := 1715) [.int (xs (6 * k + 1))] X (g_M_mean (xs (6 * k + 1)) w1) hr2 ok_m_M_mean lkL_196 sh_107 rfl rfl rfl (Nat.le_of_ble_eq_true rfl) (Nat.le_of_ble_eq_true rfl) (Nat.le_of_ble_eq_true rfl) hcs rfl (by decide +kernel) rfl ?_
  refine Gl.lcmp X (pc' := 1716) (by decide +kernel) rfl ?_
  refine Gl.if_eq X (off := 200) (tgt := 1916) (pc' := 1719) (by decide +kernel) (by decide) rfl (fun c1 => ?_) (fun c1 => absurd (gl_cmp r) c1)
  exact hcont w2 hw2
theorem law_likeliest {p : Program} {l : Launch} {e : Env} {s : State} {m : MethodId} {below : List Frame} {meth : Method} {c : Code} {b o LL : Nat} {xs : Nat → Int32} {D : va_G} {yy : Nat → ClassId} {cells slots : Nat} (X : gC p s m meth c b LL xs o D yy) {k : Nat} {x4 : Int32} (hk : 6 * k + 6 ≤ LL ∧ LL ≤ 3072) (e4 : x4 = nI (6 * k)) (hcs : cells ≤ 601024 ∧ slots ≤ 7293034) {I : gW → Prop} (hstep : zSt_likeliest I) (hcont : ∀ w : gW, I w → Gl p l e s m below meth c b o D yy cells slots 1916 [(4, .int x4), (0, .ref b), (1, .ref (o + 0)), (2, .ref (o + 107)), (3, .ref (o + 135))] [] w) (w : gW) (hw : I w) : Gl p l e s m below meth c b o D yy cells slots 1721 [(4, .int x4), (0, .ref b), (1, .ref (o + 0)), (2, .ref (o + 107)), (3, .ref (o + 135))] [] w := by
  refine Gl.aload_n X (q := 1) (pc' := 1722) (by decide +kernel) rfl 2 rfl ?_
  obtain ⟨r, w1, w2, hr1, hr2, hw2⟩ := hstep w hw
  refine Gl.callVI (z := m_X_likeliest) (st := []) (bb := 0) (pc' := 1725) [] X (g_X_likeliest w) hr1 ok_m_X_likeliest lkL_197 sh_0 rfl rfl rfl (Nat.le_of_ble_eq_true rfl) (Nat.le_of_ble_eq_true rfl) (Nat.le_of_ble_eq_true rfl) hcs rfl (by decide +kernel) rfl ?_
  refine Gl.aload_n X (q := 2) (pc' := 1726) (by decide +kernel) rfl 3 rfl ?_
  refine Gl.callVI (z := m_M_likeliest) (st := [.int r]) (bb := 107) (pc' := 1729) [] X (g_M_likeliest w1) hr2 ok_m_M_likeliest lkL_200 sh_107 rfl rfl rfl (Nat.le_of_ble_eq_true rfl) (Nat.le_of_ble_eq_true rfl) (Nat.le_of_ble_eq_true rfl) hcs rfl (by decide +kernel) rfl ?_
  refine Gl.icmp_eq X (off := 187) (tgt := 1916) (pc' := 1732) (by decide +kernel) (by decide) rfl (fun c1 => ?_) (fun c1 => absurd rfl c1)
  exact hcont w2 hw2
theorem law_drawn {p : Program} {l : Launch} {e : Env} {s : State} {m : MethodId} {below : List Frame} {meth : Method} {c : Code} {b o LL : Nat} {xs : Nat → Int32} {D : va_G} {yy : Nat → ClassId} {cells slots : Nat} (X : gC p s m meth c b LL xs o D yy) {k : Nat} {x4 : Int32} (hk : 6 * k + 6 ≤ LL ∧ LL ≤ 3072) (e4 : x4 = nI (6 * k)) (hcs : cells ≤ 601024 ∧ slots ≤ 7293034) {I : gW → Prop} (hstep : zSt_drawn I) (hcont : ∀ w : gW, I w → Gl p l e s m below meth c b o D yy cells slots 1916 [(4, .int x4), (0, .ref b), (1, .ref (o + 0)), (2, .ref (o + 107)), (3, .ref (o + 135))] [] w) (w : gW) (hw : I w) : Gl p l e s m below meth c b o D yy cells slots 1734 [(4, .int x4), (0, .ref b), (1, .ref (o + 0)), (2, .ref (o + 107)), (3, .ref (o + 135))] [] w := by
  refine Gl.aload_n X (q := 1) (pc' := 1735) (by decide +kernel) rfl 2 rfl ?_
  refine Gl.aload_n X (q := 0) (pc' := 1736) (by decide +kernel) rfl 1 rfl ?_
  refine Gl.iload X (i := 4) (pc' := 1738) (by decide +kernel) rfl 0 rfl ?_
  refine Gl.iconst X (n := 1) (v := (1 : Int32)) (pc' := 1739) (by decide +kernel) rfl rfl ?_
  refine Gl.iadd X (pc' := 1740) (by decide +kernel) rfl ?_
  refine Gl.sld X (i := x4 + (1 : Int32)) (gl_in hk e4 X.1 (j := 1) ⟨by decide, rfl⟩) (pc' := 1741) (by decide +kernel) rfl ?_
  rw [gl_cl hk e4 X.1 (j := 1) (v := (1 : Int32)) ⟨by decide, rfl⟩]
  refine Gl.i2l X (pc' := 1742) (by decide +kernel) rfl ?_
  refine Gl.bipush X (n := 32) (v := (32 : Int32)) (pc' := 1744) (by decide +kernel) rfl rfl ?_
  refine Gl.lshl X (pc' := 1745) (by decide +kernel) rfl ?_
  refine Gl.aload_n X (q := 0) (pc' := 1746) (by decide +kernel) rfl 1 rfl ?_
  refine Gl.iload X (i := 4) (pc' := 1748) (by decide +kernel) rfl 0 rfl ?_
  refine Gl.iconst X (n := 2) (v := (2 : Int32)) (pc' := 1749) (by decide +kernel) rfl rfl ?_
  refine Gl.iadd X (pc' := 1750) (by decide +kernel) rfl ?_
  refine Gl.sld X (i := x4 + (2 : Int32)) (gl_in hk e4 X.1 (j := 2) ⟨by decide, rfl⟩) (pc' := 1751) (by decide +kernel) rfl ?_
  rw [gl_cl hk e4 X.1 (j := 2) (v := (2 : Int32)) ⟨by decide, rfl⟩]
  refine Gl.i2l X (pc' := 1752) (by decide +kernel) rfl ?_
  refine Gl.ldc2 X (idx := 201) (v := (4294967295 : Int64)) (pc' := 1755) (by decide +kernel) rfl (gl_tbl _ (g_in9 48 (by decide +kernel) (by decide +kernel))) ?_
  refine Gl.land X (pc' := 1756) (by decide +kernel) rfl ?_
  refine Gl.lor X (pc' := 1757) (by decide +kernel) rfl ?_
  obtain ⟨r, w1, w2, hr1, hr2, hw2⟩ := hstep ((zslL ((xs (6 * k + 1)).toInt64) (32 : Int32)) ||| (((xs (6 * k + 2)).toInt64) &&& ((4294967295 : Int64)))) w hw
  refine Gl.callVI (z := m_X_drawn) (st := []) (bb := 0) (pc' := 1760) [.long ((zslL ((xs (6 * k + 1)).toInt64) (32 : Int32)) ||| (((xs (6 * k + 2)).toInt64) &&& ((4294967295 : Int64))))] X (g_X_drawn ((zslL ((xs (6 * k + 1)).toInt64) (32 : Int32)) ||| (((xs (6 * k + 2)).toInt64) &&& ((4294967295 : Int64)))) w) hr1 ok_m_X_drawn lkL_203 sh_0 rfl rfl rfl (Nat.le_of_ble_eq_true rfl) (Nat.le_of_ble_eq_true rfl) (Nat.le_of_ble_eq_true rfl) hcs rfl (by decide +kernel) rfl ?_
  refine Gl.aload_n X (q := 2) (pc' := 1761) (by decide +kernel) rfl 3 rfl ?_
  refine Gl.aload_n X (q := 0) (pc' := 1762) (by decide +kernel) rfl 1 rfl ?_
  refine Gl.iload X (i := 4) (pc' := 1764) (by decide +kernel) rfl 0 rfl ?_
  refine Gl.iconst X (n := 1) (v := (1 : Int32)) (pc' := 1765) (by decide +kernel) rfl rfl ?_
  refine Gl.iadd X (pc' := 1766) (by decide +kernel) rfl ?_
  refine Gl.sld X (i := x4 + (1 : Int32)) (gl_in hk e4 X.1 (j := 1) ⟨by decide, rfl⟩) (pc' := 1767) (by decide +kernel) rfl ?_
  rw [gl_cl hk e4 X.1 (j := 1) (v := (1 : Int32)) ⟨by decide, rfl⟩]
  refine Gl.i2l X (pc' := 1768) (by decide +kernel) rfl ?_
  refine Gl.bipush X (n := 32) (v := (32 : Int32)) (pc' := 1770) (by decide +kernel) rfl rfl ?_
  refine Gl.lshl X (pc' := 1771) (by decide +kernel) rfl ?_
  refine Gl.aload_n X (q := 0) (pc' := 1772) (by decide +kernel) rfl 1 rfl ?_
  refine Gl.iload X (i := 4) (pc' := 1774) (by decide +kernel) rfl 0 rfl ?_
  refine Gl.iconst X (n := 2) (v := (2 : Int32)) (pc' := 1775) (by decide +kernel) rfl rfl ?_
  refine Gl.iadd X (pc' := 1776) (by decide +kernel) rfl ?_
  refine Gl.sld X (i := x4 + (2 : Int32)) (gl_in hk e4 X.1 (j := 2) ⟨by decide, rfl⟩) (pc' := 1777) (by decide +kernel) rfl ?_
  rw [gl_cl hk e4 X.1 (j := 2) (v := (2 : Int32)) ⟨by decide, rfl⟩]
  refine Gl.i2l X (pc' := 1778) (by decide +kernel) rfl ?_
  refine Gl.ldc2 X (idx := 201) (v := (4294967295 : Int64)) (pc' := 1781) (by decide +kernel) rfl (gl_tbl _ (g_in9 48 (by decide +kernel) (by decide +kernel))) ?_
  refine Gl.land X (pc' := 1782) (by decide +kernel) rfl ?_
  refine Gl.lor X (pc' := 1783) (by decide +kernel) rfl ?_
  refine Gl.callVI (z := m_M_drawn) (st := [.int r]) (bb := 107) (pc' := 1786) [.long ((zslL ((xs (6 * k + 1)).toInt64) (32 : Int32)) ||| (((xs (6 * k + 2)).toInt64) &&& ((4294967295 : Int64))))] X (g_M_drawn ((zslL ((xs (6 * k + 1)).toInt64) (32 : Int32)) ||| (((xs (6 * k + 2)).toInt64) &&& ((4294967295 : Int64)))) w1) hr2 ok_m_M_drawn lkL_207 sh_107 rfl rfl rfl (Nat.le_of_ble_eq_true rfl) (Nat.le_of_ble_eq_true rfl) (Nat.le_of_ble_eq_true rfl) hcs rfl (by decide +kernel) rfl ?_
  refine Gl.icmp_eq X (off := 130) (tgt := 1916) (pc' := 1789) (by decide +kernel) (by decide) rfl (fun c1 => ?_) (fun c1 => absurd rfl c1)
  exact hcont w2 hw2
theorem law_busy {p : Program} {l : Launch} {e : Env} {s : State} {m : MethodId} {below : List Frame} {meth : Method} {c : Code} {b o LL : Nat} {xs : Nat → Int32} {D : va_G} {yy : Nat → ClassId} {cells slots : Nat} (X : gC p s m meth c b LL xs o D yy) {k : Nat} {x4 : Int32} (hk : 6 * k + 6 ≤ LL ∧ LL ≤ 3072) (e4 : x4 = nI (6 * k)) (hcs : cells ≤ 601024 ∧ slots ≤ 7293034) {I : gW → Prop} (hstep : zSt_busy I) (hcont : ∀ w : gW, I w → Gl p l e s m below meth c b o D yy cells slots 1916 [(4, .int x4), (0, .ref b), (1, .ref (o + 0)), (2, .ref (o + 107)), (3, .ref (o + 135))] [] w) (w : gW) (hw : I w) : Gl p l e s m below meth c b o D yy cells slots 1791 [(4, .int x4), (0, .ref b), (1, .ref (o + 0)), (2, .ref (o + 107)), (3, .ref (o + 135))] [] w := by
  refine Gl.aload_n X (q := 1) (pc' := 1792) (by decide +kernel) rfl 2 rfl ?_
  refine Gl.aload_n X (q := 0) (pc' := 1793) (by decide +kernel) rfl 1 rfl ?_
  refine Gl.iload X (i := 4) (pc' := 1795) (by decide +kernel) rfl 0 rfl ?_
  refine Gl.iconst X (n := 1) (v := (1 : Int32)) (pc' := 1796) (by decide +kernel) rfl rfl ?_
  refine Gl.iadd X (pc' := 1797) (by decide +kernel) rfl ?_
  refine Gl.sld X (i := x4 + (1 : Int32)) (gl_in hk e4 X.1 (j := 1) ⟨by decide, rfl⟩) (pc' := 1798) (by decide +kernel) rfl ?_
  rw [gl_cl hk e4 X.1 (j := 1) (v := (1 : Int32)) ⟨by decide, rfl⟩]
  obtain ⟨r, w1, w2, hr1, hr2, hw2⟩ := hstep (xs (6 * k + 1)) w hw
  refine Gl.callVI (z := m_X_busy) (st := []) (bb := 0) (pc' := 1801) [.int (xs (6 * k + 1))] X (g_X_busy (xs (6 * k + 1)) w) hr1 ok_m_X_busy lkL_208 sh_0 rfl rfl rfl (Nat.le_of_ble_eq_true rfl) (Nat.le_of_ble_eq_true rfl) (Nat.le_of_ble_eq_true rfl) hcs rfl (by decide +kernel) rfl ?_
  refine Gl.aload_n X (q := 2) (pc' := 1802) (by decide +kernel) rfl 3 rfl ?_
  refine Gl.aload_n X (q := 0) (pc' := 1803) (by decide +kernel) rfl 1 rfl ?_
  refine Gl.iload X (i := 4) (pc' := 1805) (by decide +kernel) rfl 0 rfl ?_
  refine Gl.iconst X (n := 1) (v := (1 : Int32)) (pc' := 1806) (by decide +kernel) rfl rfl ?_
  refine Gl.iadd X (pc' := 1807) (by decide +kernel) rfl ?_
  refine Gl.sld X (i := x4 + (1 : Int32)) (gl_in hk e4 X.1 (j := 1) ⟨by decide, rfl⟩) (pc' := 1808) (by decide +kernel) rfl ?_
  rw [gl_cl hk e4 X.1 (j := 1) (v := (1 : Int32)) ⟨by decide, rfl⟩]
  refine Gl.callVI (z := m_M_busy) (st := [.int r]) (bb := 107) (pc' := 1811) [.int (xs (6 * k + 1))] X (g_M_busy (xs (6 * k + 1)) w1) hr2 ok_m_M_busy lkL_211 sh_107 rfl rfl rfl (Nat.le_of_ble_eq_true rfl) (Nat.le_of_ble_eq_true rfl) (Nat.le_of_ble_eq_true rfl) hcs rfl (by decide +kernel) rfl ?_
  refine Gl.icmp_eq X (off := 105) (tgt := 1916) (pc' := 1814) (by decide +kernel) (by decide) rfl (fun c1 => ?_) (fun c1 => absurd rfl c1)
  exact hcont w2 hw2
theorem law_rows {p : Program} {l : Launch} {e : Env} {s : State} {m : MethodId} {below : List Frame} {meth : Method} {c : Code} {b o LL : Nat} {xs : Nat → Int32} {D : va_G} {yy : Nat → ClassId} {cells slots : Nat} (X : gC p s m meth c b LL xs o D yy) {k : Nat} {x4 : Int32} (hk : 6 * k + 6 ≤ LL ∧ LL ≤ 3072) (e4 : x4 = nI (6 * k)) (hcs : cells ≤ 601024 ∧ slots ≤ 7293034) {I : gW → Prop} (hstep : zSt_rows I) (hcont : ∀ w : gW, I w → Gl p l e s m below meth c b o D yy cells slots 1916 [(4, .int x4), (0, .ref b), (1, .ref (o + 0)), (2, .ref (o + 107)), (3, .ref (o + 135))] [] w) (w : gW) (hw : I w) : Gl p l e s m below meth c b o D yy cells slots 1816 [(4, .int x4), (0, .ref b), (1, .ref (o + 0)), (2, .ref (o + 107)), (3, .ref (o + 135))] [] w := by
  refine Gl.aload_n X (q := 1) (pc' := 1817) (by decide +kernel) rfl 2 rfl ?_
  refine Gl.aload_n X (q := 0) (pc' := 1818) (by decide +kernel) rfl 1 rfl ?_
  refine Gl.iload X (i := 4) (pc' := 1820) (by decide +kernel) rfl 0 rfl ?_
  refine Gl.iconst X (n := 1) (v := (1 : Int32)) (pc' := 1821) (by decide +kernel) rfl rfl ?_
  refine Gl.iadd X (pc' := 1822) (by decide +kernel) rfl ?_
  refine Gl.sld X (i := x4 + (1 : Int32)) (gl_in hk e4 X.1 (j := 1) ⟨by decide, rfl⟩) (pc' := 1823) (by decide +kernel) rfl ?_
  rw [gl_cl hk e4 X.1 (j := 1) (v := (1 : Int32)) ⟨by decide, rfl⟩]
  refine Gl.aload_n X (q := 0) (pc' := 1824) (by decide +kernel) rfl 1 rfl ?_
  refine Gl.iload X (i := 4) (pc' := 1826) (by decide +kernel) rfl 0 rfl ?_
  refine Gl.iconst X (n := 2) (v := (2 : Int32)) (pc' := 1827) (by decide +kernel) rfl rfl ?_
  refine Gl.iadd X (pc' := 1828) (by decide +kernel) rfl ?_
  refine Gl.sld X (i := x4 + (2 : Int32)) (gl_in hk e4 X.1 (j := 2) ⟨by decide, rfl⟩) (pc' := 1829) (by decide +kernel) rfl ?_
  rw [gl_cl hk e4 X.1 (j := 2) (v := (2 : Int32)) ⟨by decide, rfl⟩]
  refine Gl.aload_n X (q := 0) (pc' := 1830) (by decide +kernel) rfl 1 rfl ?_
  refine Gl.iload X (i := 4) (pc' := 1832) (by decide +kernel) rfl 0 rfl ?_
  refine Gl.iconst X (n := 3) (v := (3 : Int32)) (pc' := 1833) (by decide +kernel) rfl rfl ?_
  refine Gl.iadd X (pc' := 1834) (by decide +kernel) rfl ?_
  refine Gl.sld X (i := x4 + (3 : Int32)) (gl_in hk e4 X.1 (j := 3) ⟨by decide, rfl⟩) (pc' := 1835) (by decide +kernel) rfl ?_
  rw [gl_cl hk e4 X.1 (j := 3) (v := (3 : Int32)) ⟨by decide, rfl⟩]
  obtain ⟨r, w1, w2, hr1, hr2, hw2⟩ := hstep (xs (6 * k + 1)) (xs (6 * k + 2)) (xs (6 * k + 3)) w hw
  refine Gl.callVI (z := m_X_rows) (st := []) (bb := 0) (pc' := 1838) [.int (xs (6 * k + 1)), .int (xs (6 * k + 2)), .int (xs (6 * k + 3))] X (g_X_rows (xs (6 * k + 1)) (xs (6 * k + 2)) (xs (6 * k + 3)) w) hr1 ok_m_X_rows lkL_212 sh_0 rfl rfl rfl (Nat.le_of_ble_eq_true rfl) (Nat.le_of_ble_eq_true rfl) (Nat.le_of_ble_eq_true rfl) hcs rfl (by decide +kernel) rfl ?_
  refine Gl.aload_n X (q := 2) (pc' := 1839) (by decide +kernel) rfl 3 rfl ?_
  refine Gl.aload_n X (q := 0) (pc' := 1840) (by decide +kernel) rfl 1 rfl ?_
  refine Gl.iload X (i := 4) (pc' := 1842) (by decide +kernel) rfl 0 rfl ?_
  refine Gl.iconst X (n := 1) (v := (1 : Int32)) (pc' := 1843) (by decide +kernel) rfl rfl ?_
  refine Gl.iadd X (pc' := 1844) (by decide +kernel) rfl ?_
  refine Gl.sld X (i := x4 + (1 : Int32)) (gl_in hk e4 X.1 (j := 1) ⟨by decide, rfl⟩) (pc' := 1845) (by decide +kernel) rfl ?_
  rw [gl_cl hk e4 X.1 (j := 1) (v := (1 : Int32)) ⟨by decide, rfl⟩]
  refine Gl.aload_n X (q := 0) (pc' := 1846) (by decide +kernel) rfl 1 rfl ?_
  refine Gl.iload X (i := 4) (pc' := 1848) (by decide +kernel) rfl 0 rfl ?_
  refine Gl.iconst X (n := 2) (v := (2 : Int32)) (pc' := 1849) (by decide +kernel) rfl rfl ?_
  refine Gl.iadd X (pc' := 1850) (by decide +kernel) rfl ?_
  refine Gl.sld X (i := x4 + (2 : Int32)) (gl_in hk e4 X.1 (j := 2) ⟨by decide, rfl⟩) (pc' := 1851) (by decide +kernel) rfl ?_
  rw [gl_cl hk e4 X.1 (j := 2) (v := (2 : Int32)) ⟨by decide, rfl⟩]
  refine Gl.aload_n X (q := 0) (pc' := 1852) (by decide +kernel) rfl 1 rfl ?_
  refine Gl.iload X (i := 4) (pc' := 1854) (by decide +kernel) rfl 0 rfl ?_
  refine Gl.iconst X (n := 3) (v := (3 : Int32)) (pc' := 1855) (by decide +kernel) rfl rfl ?_
  refine Gl.iadd X (pc' := 1856) (by decide +kernel) rfl ?_
  refine Gl.sld X (i := x4 + (3 : Int32)) (gl_in hk e4 X.1 (j := 3) ⟨by decide, rfl⟩) (pc' := 1857) (by decide +kernel) rfl ?_
  rw [gl_cl hk e4 X.1 (j := 3) (v := (3 : Int32)) ⟨by decide, rfl⟩]
  refine Gl.callVI (z := m_M_rows) (st := [.int r]) (bb := 107) (pc' := 1860) [.int (xs (6 * k + 1)), .int (xs (6 * k + 2)), .int (xs (6 * k + 3))] X (g_M_rows (xs (6 * k + 1)) (xs (6 * k + 2)) (xs (6 * k + 3)) w1) hr2 ok_m_M_rows lkL_215 sh_107 rfl rfl rfl (Nat.le_of_ble_eq_true rfl) (Nat.le_of_ble_eq_true rfl) (Nat.le_of_ble_eq_true rfl) hcs rfl (by decide +kernel) rfl ?_
  refine Gl.icmp_eq X (off := 56) (tgt := 1916) (pc' := 1863) (by decide +kernel) (by decide) rfl (fun c1 => ?_) (fun c1 => absurd rfl c1)
  exact hcont w2 hw2
theorem law_image {p : Program} {l : Launch} {e : Env} {s : State} {m : MethodId} {below : List Frame} {meth : Method} {c : Code} {b o LL : Nat} {xs : Nat → Int32} {D : va_G} {yy : Nat → ClassId} {cells slots : Nat} (X : gC p s m meth c b LL xs o D yy) {k : Nat} {x4 : Int32} (hk : 6 * k + 6 ≤ LL ∧ LL ≤ 3072) (e4 : x4 = nI (6 * k)) (hcs : cells ≤ 601024 ∧ slots ≤ 7293034) {I : gW → Prop} (hstep : zSt_image I) (hcont : ∀ w : gW, I w → Gl p l e s m below meth c b o D yy cells slots 1916 [(4, .int x4), (0, .ref b), (1, .ref (o + 0)), (2, .ref (o + 107)), (3, .ref (o + 135))] [] w) (w : gW) (hw : I w) : Gl p l e s m below meth c b o D yy cells slots 1865 [(4, .int x4), (0, .ref b), (1, .ref (o + 0)), (2, .ref (o + 107)), (3, .ref (o + 135))] [] w := by
  refine Gl.aload_n X (q := 1) (pc' := 1866) (by decide +kernel) rfl 2 rfl ?_
  obtain ⟨r, w1, w2, hr1, hr2, hw2⟩ := hstep w hw
  refine Gl.callVI (z := m_X_image) (st := []) (bb := 0) (pc' := 1869) [] X (g_X_image w) hr1 ok_m_X_image lkL_216 sh_0 rfl rfl rfl (Nat.le_of_ble_eq_true rfl) (Nat.le_of_ble_eq_true rfl) (Nat.le_of_ble_eq_true rfl) hcs rfl (by decide +kernel) rfl ?_
  refine Gl.aload_n X (q := 2) (pc' := 1870) (by decide +kernel) rfl 3 rfl ?_
  refine Gl.callVI (z := m_M_image) (st := [.int r]) (bb := 107) (pc' := 1873) [] X (g_M_image w1) hr2 ok_m_M_image lkL_219 sh_107 rfl rfl rfl (Nat.le_of_ble_eq_true rfl) (Nat.le_of_ble_eq_true rfl) (Nat.le_of_ble_eq_true rfl) hcs rfl (by decide +kernel) rfl ?_
  refine Gl.icmp_eq X (off := 43) (tgt := 1916) (pc' := 1876) (by decide +kernel) (by decide) rfl (fun c1 => ?_) (fun c1 => absurd rfl c1)
  exact hcont w2 hw2
theorem law_back {p : Program} {l : Launch} {e : Env} {s : State} {m : MethodId} {below : List Frame} {meth : Method} {c : Code} {b o LL : Nat} {xs : Nat → Int32} {D : va_G} {yy : Nat → ClassId} {cells slots : Nat} (X : gC p s m meth c b LL xs o D yy) {k : Nat} {x4 : Int32} (hk : 6 * k + 6 ≤ LL ∧ LL ≤ 3072) (e4 : x4 = nI (6 * k)) (hcs : cells ≤ 601024 ∧ slots ≤ 7293034) {I : gW → Prop} (hstep : zSt_back I) (hcont : ∀ w : gW, I w → Gl p l e s m below meth c b o D yy cells slots 1916 [(4, .int x4), (0, .ref b), (1, .ref (o + 0)), (2, .ref (o + 107)), (3, .ref (o + 135))] [] w) (w : gW) (hw : I w) : Gl p l e s m below meth c b o D yy cells slots 1878 [(4, .int x4), (0, .ref b), (1, .ref (o + 0)), (2, .ref (o + 107)), (3, .ref (o + 135))] [] w := by
  refine Gl.aload_n X (q := 1) (pc' := 1879) (by decide +kernel) rfl 2 rfl ?_
  obtain ⟨r, w1, w2, hr1, hr2, hw2⟩ := hstep w hw
  refine Gl.callVI (z := m_X_back) (st := []) (bb := 0) (pc' := 1882) [] X (g_X_back w) hr1 ok_m_X_back lkL_220 sh_0 rfl rfl rfl (Nat.le_of_ble_eq_true rfl) (Nat.le_of_ble_eq_true rfl) (Nat.le_of_ble_eq_true rfl) hcs rfl (by decide +kernel) rfl ?_
  refine Gl.aload_n X (q := 2) (pc' := 1883) (by decide +kernel) rfl 3 rfl ?_
  refine Gl.callVI (z := m_M_back) (st := [.int r]) (bb := 107) (pc' := 1886) [] X (g_M_back w1) hr2 ok_m_M_back lkL_223 sh_107 rfl rfl rfl (Nat.le_of_ble_eq_true rfl) (Nat.le_of_ble_eq_true rfl) (Nat.le_of_ble_eq_true rfl) hcs rfl (by decide +kernel) rfl ?_
  refine Gl.icmp_eq X (off := 30) (tgt := 1916) (pc' := 1889) (by decide +kernel) (by decide) rfl (fun c1 => ?_) (fun c1 => absurd rfl c1)
  exact hcont w2 hw2
theorem law_count {p : Program} {l : Launch} {e : Env} {s : State} {m : MethodId} {below : List Frame} {meth : Method} {c : Code} {b o LL : Nat} {xs : Nat → Int32} {D : va_G} {yy : Nat → ClassId} {cells slots : Nat} (X : gC p s m meth c b LL xs o D yy) {k : Nat} {x4 : Int32} (hk : 6 * k + 6 ≤ LL ∧ LL ≤ 3072) (e4 : x4 = nI (6 * k)) (hcs : cells ≤ 601024 ∧ slots ≤ 7293034) {I : gW → Prop} (hstep : zSt_count I) (hcont : ∀ w : gW, I w → Gl p l e s m below meth c b o D yy cells slots 1916 [(4, .int x4), (0, .ref b), (1, .ref (o + 0)), (2, .ref (o + 107)), (3, .ref (o + 135))] [] w) (w : gW) (hw : I w) : Gl p l e s m below meth c b o D yy cells slots 1891 [(4, .int x4), (0, .ref b), (1, .ref (o + 0)), (2, .ref (o + 107)), (3, .ref (o + 135))] [] w := by
  refine Gl.aload_n X (q := 1) (pc' := 1892) (by decide +kernel) rfl 2 rfl ?_
  refine Gl.aload_n X (q := 0) (pc' := 1893) (by decide +kernel) rfl 1 rfl ?_
  refine Gl.iload X (i := 4) (pc' := 1895) (by decide +kernel) rfl 0 rfl ?_
  refine Gl.iconst X (n := 1) (v := (1 : Int32)) (pc' := 1896) (by decide +kernel) rfl rfl ?_
  refine Gl.iadd X (pc' := 1897) (by decide +kernel) rfl ?_
  refine Gl.sld X (i := x4 + (1 : Int32)) (gl_in hk e4 X.1 (j := 1) ⟨by decide, rfl⟩) (pc' := 1898) (by decide +kernel) rfl ?_
  rw [gl_cl hk e4 X.1 (j := 1) (v := (1 : Int32)) ⟨by decide, rfl⟩]
  obtain ⟨r, w1, w2, hr1, hr2, hw2⟩ := hstep (xs (6 * k + 1)) w hw
  refine Gl.callVI (z := m_X_count) (st := []) (bb := 0) (pc' := 1901) [.int (xs (6 * k + 1))] X (g_X_count (xs (6 * k + 1)) w) hr1 ok_m_X_count lkL_224 sh_0 rfl rfl rfl (Nat.le_of_ble_eq_true rfl) (Nat.le_of_ble_eq_true rfl) (Nat.le_of_ble_eq_true rfl) hcs rfl (by decide +kernel) rfl ?_
  refine Gl.aload_n X (q := 2) (pc' := 1902) (by decide +kernel) rfl 3 rfl ?_
  refine Gl.aload_n X (q := 0) (pc' := 1903) (by decide +kernel) rfl 1 rfl ?_
  refine Gl.iload X (i := 4) (pc' := 1905) (by decide +kernel) rfl 0 rfl ?_
  refine Gl.iconst X (n := 1) (v := (1 : Int32)) (pc' := 1906) (by decide +kernel) rfl rfl ?_
  refine Gl.iadd X (pc' := 1907) (by decide +kernel) rfl ?_
  refine Gl.sld X (i := x4 + (1 : Int32)) (gl_in hk e4 X.1 (j := 1) ⟨by decide, rfl⟩) (pc' := 1908) (by decide +kernel) rfl ?_
  rw [gl_cl hk e4 X.1 (j := 1) (v := (1 : Int32)) ⟨by decide, rfl⟩]
  refine Gl.callVI (z := m_M_count) (st := [.int r]) (bb := 107) (pc' := 1911) [.int (xs (6 * k + 1))] X (g_M_count (xs (6 * k + 1)) w1) hr2 ok_m_M_count lkL_227 sh_107 rfl rfl rfl (Nat.le_of_ble_eq_true rfl) (Nat.le_of_ble_eq_true rfl) (Nat.le_of_ble_eq_true rfl) hcs rfl (by decide +kernel) rfl ?_
  refine Gl.icmp_eq X (off := 5) (tgt := 1916) (pc' := 1914) (by decide +kernel) (by decide) rfl (fun c1 => ?_) (fun c1 => absurd rfl c1)
  exact hcont w2 hw2
