/-! PURE: fact, undo -/
section
variable {w : gW}
theorem b1_and {a : Int32} (h : a = 0 ∨ a = 1) : a &&& 1 = a := by
  rcases h with h | h <;> subst h <;> decide
def ftX (w : gW) (S F : Nat) (a b c : Int32) : gW := zsI (zsI (zsI (zsI (zsI w 64 (S + F) 2) 61 F a) 62 F b) 63 F c) 59 7 (nI (F + 1))
def ftM (w : gW) (S F : Nat) (a b c : Int32) : gW := zsI (zsI (zsI (zsI (zsI (zsI (zsI w 107 0 0) 123 F a) 124 F b) 125 F c) 107 36 (nI (F + 1))) 126 (S + F) 0) 107 37 (nI (S + F + 1))
theorem ftM_lo (S F : Nat) (a b c : Int32) : zLO w (ftM (ftX w S F a b c) S F a b c) := by
  unfold ftM ftX
  exact ((((((((((((zLO.rf w).sI _ rfl).sI _ rfl).sI _ rfl).sI _ rfl).sI _ rfl).sI _ rfl).sI _ rfl).sI _ rfl).sI _ rfl).sI _ rfl).sI _ rfl).sI _ rfl
theorem ft61 (S F : Nat) (a b c : Int32) (j : Nat) : (ftM (ftX w S F a b c) S F a b c).1 61 j = if j = F then a else w.1 61 j := by simp [ftM, ftX, zsI_g]
theorem ft62 (S F : Nat) (a b c : Int32) (j : Nat) : (ftM (ftX w S F a b c) S F a b c).1 62 j = if j = F then b else w.1 62 j := by simp [ftM, ftX, zsI_g]
theorem ft63 (S F : Nat) (a b c : Int32) (j : Nat) : (ftM (ftX w S F a b c) S F a b c).1 63 j = if j = F then c else w.1 63 j := by simp [ftM, ftX, zsI_g]
theorem ft64 (S F : Nat) (a b c : Int32) (j : Nat) : (ftM (ftX w S F a b c) S F a b c).1 64 j = if j = S + F then 2 else w.1 64 j := by simp [ftM, ftX, zsI_g]
theorem ft123 (S F : Nat) (a b c : Int32) (j : Nat) : (ftM (ftX w S F a b c) S F a b c).1 123 j = if j = F then a else w.1 123 j := by simp [ftM, ftX, zsI_g]
theorem ft124 (S F : Nat) (a b c : Int32) (j : Nat) : (ftM (ftX w S F a b c) S F a b c).1 124 j = if j = F then b else w.1 124 j := by simp [ftM, ftX, zsI_g]
theorem ft125 (S F : Nat) (a b c : Int32) (j : Nat) : (ftM (ftX w S F a b c) S F a b c).1 125 j = if j = F then c else w.1 125 j := by simp [ftM, ftX, zsI_g]
theorem ft126 (S F : Nat) (a b c : Int32) (j : Nat) : (ftM (ftX w S F a b c) S F a b c).1 126 j = if j = S + F then 0 else w.1 126 j := by simp [ftM, ftX, zsI_g]
theorem An_addFact' {S F : Nat} (h1 : w.1 59 6 = nI S) (h2 : w.1 59 7 = nI F) (hS : S ≤ 10) (hF : F < 20) {c : Int32} (hc : c = 0 ∨ c = 1) (a b : Int32) : f_An_addFact a b c w = some ((), ftX w S F a b c) := by
  unfold f_An_addFact f_An_addAct f_An_actCount
  have q20 : ¬ (20 : Int32) ≤ nI F := by rw [show (20 : Int32) = nI 20 from rfl, n_le (by omega) (by omega)]; omega
  have i20 : inb (nI F) 20 := z_inbn (by omega) (by decide)
  rw [h2, zl_s, if_neg (nI_pos (by omega)), if_neg q20, zb_s, h1, nI_add, if_neg (nI_pos (by omega)), if_pos (by rw [n_lt (by omega) (by omega)]; omega), if_pos (z_inbn (by omega) (by decide)), zl_s, zb_s, if_neg z10, if_pos i20, zl_s, z_ix (by omega), z_ix (by omega), if_pos i20, zl_s, if_pos i20, zl_s, zl_s, b1_and hc]
  have o : (zsI (zsI (zsI (zsI w 64 (S + F) 2) 61 F a) 62 F b) 63 F c).1 59 7 = nI F := h2
  rw [o, n_1]
  rfl
theorem q_fact (J : zJ w) (a b c : Int32) (hc : c = 0 ∨ c = 1) : ∃ (r : Int32) (w1 w2 : gW), f_X_fact a b c w = some (r, w1) ∧ f_M_fact a b c w1 = some (r, w2) ∧ zJ w2 := by
  have J0 := J
  obtain ⟨K, R, C, T, G, M⟩ := J
  have h10 := K.S10
  have h20 := K.F20
  have h5 := K.D5
  have h6 := K.Y6
  have hk : zEk w w := (zE.rf w).k
  have hE : zE w (zsI w 107 0 0) := (zE.rf w).m0
  generalize hS : yS w = S at h10
  generalize hF : yF w = F at h20
  have kS1 : w.1 59 6 = nI S := by rw [← hS]; exact K.C.2.2.2.2.1.1
  have kS2 : w.1 107 35 = nI S := by rw [← hS]; exact K.C.2.2.2.2.1.2
  have kF1 : w.1 59 7 = nI F := by rw [← hF]; exact K.C.2.2.2.2.2.1.1
  have kF2 : w.1 107 36 = nI F := by rw [← hF]; exact K.C.2.2.2.2.2.1.2
  have kA : w.1 107 37 = nI (S + F) := by rw [← nI_add, ← hS, ← hF]; exact K.C.2.2.2.2.2.2
  by_cases ok : gE w a = true ∧ gT w b = true ∧ F < 20
  · obtain ⟨q1, q2, q3⟩ := ok
    have l := ftM_lo (w := w) S F a b c
    have p1 : a = nI (ix a) ∧ ix a < yD w := z_nIx (of_decide_eq_true q1)
    have p2 : b = nI (ix b) ∧ (ix b < yY w ∨ ix b = 9) := by
      obtain ⟨y, e, l⟩ := gT_t q2
      have hy : y < 2 ^ 31 := by rcases l with z | z <;> omega
      rw [e, z_ix hy]
      exact ⟨rfl, l⟩
    have hD0 : 0 < yD w := by omega
    have eS : yS (ftM (ftX w S F a b c) S F a b c) = S := hS
    have eF : yF (ftM (ftX w S F a b c) S F a b c) = F + 1 := by
      show ix (nI (F + 1)) = F + 1
      exact z_ix (by omega)
    have N : jNum (ftM (ftX w S F a b c) S F a b c) := by
      unfold jNum jC
      rw [eS, eF, yD_l l, yY_l l, yO_l l]
      have n := K.1
      unfold jNum jC at n
      rw [hS, hF] at n
      refine ⟨⟨⟨n.1.1.1, n.1.1.2.1, n.1.1.2.2.1, by omega, by omega⟩, n.1.2.1, n.1.2.2.1, n.1.2.2.2.1, ⟨kS1, kS2⟩, ⟨rfl, rfl⟩, ?_⟩, Or.inr ?_⟩
      · show nI (S + F + 1) = nI S + nI (F + 1)
        rw [nI_add]
        congr 1
      · rcases n.2 with z | z
        · omega
        · exact z
    have R' : jRec (ftM (ftX w S F a b c) S F a b c) := by
      obtain ⟨r1, r2, r3, r4⟩ := R
      rw [hS] at r1 r3
      rw [hF] at r2 r3
      unfold jRec
      rw [eS, eF, yD_l l, yY_l l, yO_l l]
      refine ⟨r1, fun i hi => ?_, pAc_fct r3 (fun j hj => ⟨?_, ?_⟩) ?_ ?_, r4⟩
      · rw [ft61, ft62, ft63, ft123, ft124, ft125]
        by_cases e : i = F
        · rw [if_pos e, if_pos e, if_pos e, if_pos e, if_pos e, if_pos e]
          exact ⟨⟨rfl, rfl, rfl⟩, p1, p2, hc⟩
        · rw [if_neg e, if_neg e, if_neg e, if_neg e, if_neg e, if_neg e]
          exact r2 i (by omega)
      · rw [ft64, if_neg hj]
      · rw [ft126, if_neg hj]
      · rw [ft64, if_pos rfl]
      · rw [ft126, if_pos rfl]
    have K' : zK (ftM (ftX w S F a b c) S F a b c) := zK_l K l N
    have hcc : ∀ x y, (zScrI x y || decide (107 ≤ x)) = false → (ftX w S F a b c).1 x y = (ftM (ftX w S F a b c) S F a b c).1 x y := by
      intro x y q
      rw [Bool.or_eq_false_iff, decide_eq_false_iff_not] at q
      unfold ftM
      rw [z_o _ _ _ _ _ _ (by omega), z_o _ _ _ _ _ _ (by omega), z_o _ _ _ _ _ _ (by omega), z_o _ _ _ _ _ _ (by omega), z_o _ _ _ _ _ _ (by omega), z_o _ _ _ _ _ _ (by omega), z_o _ _ _ _ _ _ (by omega)]
    obtain ⟨x, e1, K2, R2, C2, hx⟩ := rev_step (w1 := ftX w S F a b c) (i2 := (ftM (ftX w S F a b c) S F a b c).1) K' R' hcc
    refine ⟨nI (F + 1), ((ftX w S F a b c).1, x), ((ftM (ftX w S F a b c) S F a b c).1, x), ?_, ?_, K2, R2, C2, ?_, ?_, ?_⟩
    · unfold f_X_fact f_An_factCount
      rw [La_hasDateB K hk, zb_s, q1, q2, Bool.and_true, if_neg bt0, zb_s, kF1, if_pos (by rw [show (20 : Int32) = nI 20 from rfl, n_lt (by omega) (by omega)]; exact q3), An_addFact' kS1 kF1 h10 q3 hc, zb_s, e1, zb_s, zb_s]
      rfl
    · unfold f_M_fact
      have o21 : (zsI ((ftX w S F a b c).1, x) 107 0 0).1 107 21 = nI (yD w) := K.C.2.1.2
      have o22 : (zsI ((ftX w S F a b c).1, x) 107 0 0).1 107 22 = nI (yY w) := K.C.2.2.1.2
      have o36 : (zsI ((ftX w S F a b c).1, x) 107 0 0).1 107 36 = nI F := kF2
      have o37 : (zsI ((ftX w S F a b c).1, x) 107 0 0).1 107 37 = nI (S + F) := kA
      have q5' : ¬ nI F = (20 : Int32) := by rw [show (20 : Int32) = nI 20 from rfl, n_eq (by omega) (by omega)]; omega
      have iF : inb (nI F) 20 := z_inbn q3 (by decide)
      have iA : inb (nI (S + F)) 30 := z_inbn (by omega) (by decide)
      have g1 : bI (decide (0 ≤ a.toInt ∧ a.toInt < (yD w : Int))) = bI true := congrArg bI q1
      generalize hW : zsI ((ftX w S F a b c).1, x) 107 0 0 = W at *
      have a1 : (zsI W 123 F a).1 107 36 = nI F := o36
      have a2 : (zsI (zsI W 123 F a) 124 F b).1 107 36 = nI F := o36
      have a3 : (zsI (zsI (zsI W 123 F a) 124 F b) 125 F c).1 107 36 = nI F := o36
      have a4 : (zsI (zsI (zsI (zsI W 123 F a) 124 F b) 125 F c) 107 36 (nI (F + 1))).1 107 37 = nI (S + F) := o37
      have a5 : (zsI (zsI (zsI (zsI (zsI W 123 F a) 124 F b) 125 F c) 107 36 (nI (F + 1))) 126 (S + F) ((0 : Int32) &&& 1)).1 107 37 = nI (S + F) := o37
      rw [zl_s, o36, if_neg q5', M_isDeed a W o21 h5, zb_s, zbl_b, g1, if_neg bt0, M_factDay b W o22 (by omega), zb_s, dt_b K b, q2, if_neg bt0, o36, if_pos iF, zl_s, z_ix (by omega), a1, if_pos iF, zl_s, z_ix (by omega), a2, if_pos iF, zl_s, z_ix (by omega), b1_and hc, zl_s, a3, n_1, a4, if_pos iA, zl_s, z_ix (by omega), zl_s, a5, n_1, ← hW]
      rfl
    · exact jTap_c T rfl rfl rfl rfl
    · exact jGai_c G rfl rfl
    · exact jIma_c M (l.tr ⟨fun _ _ _ => rfl, fun a b q => congrFun (hx a (zCr_f q)) b⟩) ⟨⟨rfl, rfl⟩, ⟨rfl, rfl⟩, ⟨rfl, rfl, rfl⟩, ⟨rfl, rfl, rfl, rfl, rfl, rfl⟩, rfl, rfl, rfl⟩
  · refine ⟨-1, w, zsI w 107 0 0, ?_, ?_, zJ_E hE J0⟩
    · unfold f_X_fact f_An_factCount
      rw [La_hasDateB K hk, zb_s]
      by_cases q : (gE w a && gT w b) = true
      · rw [q, if_neg bt0, zb_s, kF1, if_neg]
        rw [show (20 : Int32) = nI 20 from rfl, n_lt (by omega) (by omega)]
        rw [Bool.and_eq_true] at q
        exact fun z => ok ⟨q.1, q.2, z⟩
      · have e : (gE w a && gT w b) = false := by
          cases e : (gE w a && gT w b) with
          | false => rfl
          | true => exact absurd e q
        rw [e, if_pos bf0]
    · unfold f_M_fact
      rw [zl_s, hE.k.i rfl, kF2]
      by_cases q5 : nI F = (20 : Int32)
      · rw [if_pos q5]
      · rw [if_neg q5, M_isDeedB K hE.k, zb_s]
        cases g1 : gE w a with
        | false => rw [if_pos bf0]
        | true =>
          rw [if_neg bt0, M_factDayB K hE.k, zb_s]
          cases g2 : gT w b with
          | false => rw [if_pos bf0]
          | true =>
            refine absurd ⟨g1, g2, ?_⟩ ok
            apply Nat.lt_of_not_le
            intro z
            exact q5 (by rw [show F = 20 by omega]; rfl)
/-- undone: one sworn one less, or one fact less -/
theorem undo_S (J : zJ w) {S F n : Nat} (hS : yS w = S + 1) (hF : yF w = F) (hn : S + F = n) (hA : pAc (w.1 64) (w.1 126) S F) : ∃ x : Nat → Nat → Int64, f_Co_review (zsI w 59 6 (nI S)) = some ((), ((zsI w 59 6 (nI S)).1, x)) ∧ zJ ((zsI (zsI (zsI (zsI w 59 6 (nI S)) 107 0 0) 107 37 (nI n)) 107 35 (nI S)).1, x) := by
  obtain ⟨K, R, C, T, G, M⟩ := J
  have h10 := K.S10
  have h20 := K.F20
  have l : zLO w (zsI (zsI (zsI (zsI w 59 6 (nI S)) 107 0 0) 107 37 (nI n)) 107 35 (nI S)) := ((((zLO.rf w).sI _ rfl).sI _ rfl).sI _ rfl).sI _ rfl
  generalize hv : zsI (zsI (zsI (zsI w 59 6 (nI S)) 107 0 0) 107 37 (nI n)) 107 35 (nI S) = v at l
  have eS : yS v = S := by
    rw [← hv]
    show ix (nI S) = S
    exact z_ix (by omega)
  have eF : yF v = F := by rw [← hv]; exact hF
  have N : jNum v := by
    unfold jNum jC
    rw [eS, eF, yD_l l, yY_l l, yO_l l, ← hv]
    have m := K.1
    unfold jNum jC at m
    rw [hS, hF] at m
    refine ⟨⟨⟨m.1.1.1, m.1.1.2.1, m.1.1.2.2.1, by omega, by omega⟩, m.1.2.1, m.1.2.2.1, m.1.2.2.2.1, ⟨rfl, rfl⟩, m.1.2.2.2.2.2.1, ?_⟩, Or.inr ?_⟩
    · show nI n = nI S + nI F
      rw [nI_add, hn]
    · rcases m.2 with z | z
      · omega
      · exact z
  have R' : jRec v := by
    obtain ⟨r1, r2, r3, r4⟩ := R
    rw [hS] at r1
    rw [hF] at r2
    unfold jRec
    rw [eS, eF, yD_l l, yY_l l, yO_l l, ← hv]
    exact ⟨pSw_le r1 (by omega), r2, hA, r4⟩
  have hcc : ∀ x y, (zScrI x y || decide (107 ≤ x)) = false → (zsI w 59 6 (nI S)).1 x y = v.1 x y := by
    intro x y q
    rw [Bool.or_eq_false_iff, decide_eq_false_iff_not] at q
    have h : x ≠ 107 := by omega
    rw [← hv]
    exact ((z_o _ _ _ _ _ _ h).trans ((z_o _ _ _ _ _ _ h).trans (z_o _ _ _ _ _ _ h))).symm
  have K' : zK v := zK_l K l N
  have ev : v = (v.1, (zsI w 59 6 (nI S)).2) := by rw [← hv]; rfl
  have K3 : zK (v.1, (zsI w 59 6 (nI S)).2) := by rw [← ev]; exact K'
  have R3 : jRec (v.1, (zsI w 59 6 (nI S)).2) := by rw [← ev]; exact R'
  obtain ⟨x, e1, K2, R2, C2, hx⟩ := rev_step (w1 := zsI w 59 6 (nI S)) (i2 := v.1) K3 R3 hcc
  refine ⟨x, e1, K2, R2, C2, ?_, ?_, ?_⟩
  · exact jTap_c (w := (v.1, x)) T (by rw [← hv]; rfl) (by rw [← hv]; rfl) (by rw [← hv]; rfl) (by rw [← hv]; rfl)
  · exact jGai_c (w := (v.1, x)) G (by rw [← hv]; rfl) (by rw [← hv]; rfl)
  · refine jIma_c (w := (v.1, x)) M (l.tr ⟨fun _ _ _ => rfl, fun a b q => ?_⟩) (by rw [← hv]; exact ⟨⟨rfl, rfl⟩, ⟨rfl, rfl⟩, ⟨rfl, rfl, rfl⟩, ⟨rfl, rfl, rfl, rfl, rfl, rfl⟩, rfl, rfl, rfl⟩)
    have := congrFun (hx a (zCr_f q)) b
    rw [← hv]
    exact this
theorem undo_F (J : zJ w) {S F n : Nat} (hS : yS w = S) (hF : yF w = F + 1) (hn : S + F = n) (hA : pAc (w.1 64) (w.1 126) S F) : ∃ x : Nat → Nat → Int64, f_Co_review (zsI w 59 7 (nI F)) = some ((), ((zsI w 59 7 (nI F)).1, x)) ∧ zJ ((zsI (zsI (zsI (zsI w 59 7 (nI F)) 107 0 0) 107 37 (nI n)) 107 36 (nI F)).1, x) := by
  obtain ⟨K, R, C, T, G, M⟩ := J
  have h10 := K.S10
  have h20 := K.F20
  have l : zLO w (zsI (zsI (zsI (zsI w 59 7 (nI F)) 107 0 0) 107 37 (nI n)) 107 36 (nI F)) := ((((zLO.rf w).sI _ rfl).sI _ rfl).sI _ rfl).sI _ rfl
  generalize hv : zsI (zsI (zsI (zsI w 59 7 (nI F)) 107 0 0) 107 37 (nI n)) 107 36 (nI F) = v at l
  have eS : yS v = S := by rw [← hv]; exact hS
  have eF : yF v = F := by
    rw [← hv]
    show ix (nI F) = F
    exact z_ix (by omega)
  have N : jNum v := by
    unfold jNum jC
    rw [eS, eF, yD_l l, yY_l l, yO_l l, ← hv]
    have m := K.1
    unfold jNum jC at m
    rw [hS, hF] at m
    refine ⟨⟨⟨m.1.1.1, m.1.1.2.1, m.1.1.2.2.1, by omega, by omega⟩, m.1.2.1, m.1.2.2.1, m.1.2.2.2.1, m.1.2.2.2.2.1, ⟨rfl, rfl⟩, ?_⟩, Or.inr ?_⟩
    · show nI n = nI S + nI F
      rw [nI_add, hn]
    · rcases m.2 with z | z
      · omega
      · exact z
  have R' : jRec v := by
    obtain ⟨r1, r2, r3, r4⟩ := R
    rw [hS] at r1
    rw [hF] at r2
    unfold jRec
    rw [eS, eF, yD_l l, yY_l l, yO_l l, ← hv]
    exact ⟨r1, pFc_le r2 (by omega), hA, r4⟩
  have hcc : ∀ x y, (zScrI x y || decide (107 ≤ x)) = false → (zsI w 59 7 (nI F)).1 x y = v.1 x y := by
    intro x y q
    rw [Bool.or_eq_false_iff, decide_eq_false_iff_not] at q
    have h : x ≠ 107 := by omega
    rw [← hv]
    exact ((z_o _ _ _ _ _ _ h).trans ((z_o _ _ _ _ _ _ h).trans (z_o _ _ _ _ _ _ h))).symm
  have K' : zK v := zK_l K l N
  have ev : v = (v.1, (zsI w 59 7 (nI F)).2) := by rw [← hv]; rfl
  have K3 : zK (v.1, (zsI w 59 7 (nI F)).2) := by rw [← ev]; exact K'
  have R3 : jRec (v.1, (zsI w 59 7 (nI F)).2) := by rw [← ev]; exact R'
  obtain ⟨x, e1, K2, R2, C2, hx⟩ := rev_step (w1 := zsI w 59 7 (nI F)) (i2 := v.1) K3 R3 hcc
  refine ⟨x, e1, K2, R2, C2, ?_, ?_, ?_⟩
  · exact jTap_c (w := (v.1, x)) T (by rw [← hv]; rfl) (by rw [← hv]; rfl) (by rw [← hv]; rfl) (by rw [← hv]; rfl)
  · exact jGai_c (w := (v.1, x)) G (by rw [← hv]; rfl) (by rw [← hv]; rfl)
  · refine jIma_c (w := (v.1, x)) M (l.tr ⟨fun _ _ _ => rfl, fun a b q => ?_⟩) (by rw [← hv]; exact ⟨⟨rfl, rfl⟩, ⟨rfl, rfl⟩, ⟨rfl, rfl, rfl⟩, ⟨rfl, rfl, rfl, rfl, rfl, rfl⟩, rfl, rfl, rfl⟩)
    have := congrFun (hx a (zCr_f q)) b
    rw [← hv]
    exact this
theorem n_sub1 (n : Nat) : nI (n + 1) - (1 : Int32) = nI n := by
  rw [show (1 : Int32) = nI 1 from rfl, n_sub (by omega)]
  rfl
theorem q_undo (J : zJ w) : ∃ (r : Int32) (w1 w2 : gW), f_X_undo w = some (r, w1) ∧ f_M_undo w1 = some (r, w2) ∧ zJ w2 := by
  have K := J.K
  have h10 := K.S10
  have h20 := K.F20
  have kS1 := K.C.2.2.2.2.1.1
  have kS2 := K.C.2.2.2.2.1.2
  have kF1 := K.C.2.2.2.2.2.1.1
  have kF2 := K.C.2.2.2.2.2.1.2
  have kA : w.1 107 37 = nI (yS w + yF w) := by rw [← nI_add]; exact K.C.2.2.2.2.2.2
  have hact : f_An_actCount w = some (nI (yS w + yF w), w) := by
    unfold f_An_actCount
    rw [kS1, kF1, nI_add]
  by_cases q0 : yS w + yF w = 0
  · refine ⟨-1, w, zsI w 107 0 0, ?_, ?_, zJ_E (zE.rf w).m0 J⟩
    · unfold f_X_undo
      rw [hact, zb_s, if_pos (by rw [q0]; rfl)]
    · unfold f_M_undo
      have o : (zsI w 107 0 0).1 107 37 = nI (yS w + yF w) := kA
      rw [zl_s, o, if_pos (by rw [q0]; rfl)]
  · obtain ⟨n, en⟩ : ∃ n, yS w + yF w = n + 1 := ⟨yS w + yF w - 1, by omega⟩
    have hne : ¬ nI (n + 1) = 0 := nI_ne0 (by omega) (by omega)
    have i30 : inb (nI n) 30 := z_inbn (by omega) (by decide)
    have q30 : nI n < nI 30 := by rw [n_lt (by omega) (by omega)]; omega
    rcases pAc_drop J.R.2.2.1 en with ⟨a1, a2, m, em, hA⟩ | ⟨a1, a2, m, em, hA⟩
    · obtain ⟨x, e1, J2⟩ := undo_S J em rfl (show m + yF w = n by omega) hA
      refine ⟨nI n, ((zsI w 59 6 (nI m)).1, x), _, ?_, ?_, J2⟩
      · unfold f_X_undo f_An_dropAct
        rw [hact, zb_s, en, if_neg hne, hact, zb_s, en, n_sub1, zl_s, if_neg (nI_pos (by omega)), if_pos q30, if_pos i30, z_ix (by omega), a1, if_pos rfl, kS1, em, n_sub1, zl_s, zb_s, e1, zb_s]
        unfold f_An_actCount
        have o1 : ((zsI w 59 6 (nI m)).1, x).1 59 6 = nI m := rfl
        have o2 : ((zsI w 59 6 (nI m)).1, x).1 59 7 = nI (yF w) := kF1
        rw [o1, o2, nI_add, zb_s, show m + yF w = n by omega]
      · unfold f_M_undo f_M_undo_b59
        have o37 : (zsI ((zsI w 59 6 (nI m)).1, x) 107 0 0).1 107 37 = nI (n + 1) := by rw [← en]; exact kA
        have o35 : (zsI (zsI ((zsI w 59 6 (nI m)).1, x) 107 0 0) 107 37 (nI n)).1 107 35 = nI (m + 1) := by rw [← em]; exact kS2
        have o126 : (zsI (zsI ((zsI w 59 6 (nI m)).1, x) 107 0 0) 107 37 (nI n)).1 126 n = 1 := a2
        have p37 : (zsI (zsI ((zsI w 59 6 (nI m)).1, x) 107 0 0) 107 37 (nI n)).1 107 37 = nI n := rfl
        rw [zl_s, o37, if_neg hne, n_sub1, zl_s, p37, if_pos i30, z_ix (by omega), o126, if_neg z10, o35, n_sub1, zl_s]
        rfl
    · obtain ⟨x, e1, J2⟩ := undo_F J rfl em (show yS w + m = n by omega) hA
      refine ⟨nI n, ((zsI w 59 7 (nI m)).1, x), _, ?_, ?_, J2⟩
      · have n21 : ¬ (2 : Int32) = 1 := by decide
        unfold f_X_undo f_An_dropAct
        rw [hact, zb_s, en, if_neg hne, hact, zb_s, en, n_sub1, zl_s, if_neg (nI_pos (by omega)), if_pos q30, if_pos i30, z_ix (by omega), a1, if_neg n21, kF1, em, n_sub1, zl_s, zb_s, e1, zb_s]
        unfold f_An_actCount
        have o1 : ((zsI w 59 7 (nI m)).1, x).1 59 6 = nI (yS w) := kS1
        have o2 : ((zsI w 59 7 (nI m)).1, x).1 59 7 = nI m := rfl
        rw [o1, o2, nI_add, zb_s, show yS w + m = n by omega]
      · unfold f_M_undo f_M_undo_b59
        have o37 : (zsI ((zsI w 59 7 (nI m)).1, x) 107 0 0).1 107 37 = nI (n + 1) := by rw [← en]; exact kA
        have o36 : (zsI (zsI ((zsI w 59 7 (nI m)).1, x) 107 0 0) 107 37 (nI n)).1 107 36 = nI (m + 1) := by rw [← em]; exact kF2
        have o126 : (zsI (zsI ((zsI w 59 7 (nI m)).1, x) 107 0 0) 107 37 (nI n)).1 126 n = 0 := a2
        have p37 : (zsI (zsI ((zsI w 59 7 (nI m)).1, x) 107 0 0) 107 37 (nI n)).1 107 37 = nI n := rfl
        rw [zl_s, o37, if_neg hne, n_sub1, zl_s, p37, if_pos i30, z_ix (by omega), o126, if_pos z00, o36, n_sub1, zl_s]
        rfl
end
