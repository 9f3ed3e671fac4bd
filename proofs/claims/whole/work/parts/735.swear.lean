/-! PURE: swear, fact, undo -/
theorem pAc_add {A B A' B' : Nat → Int32} {ns nf : Nat} (h : pAc A B ns nf) (e : ∀ a, a ≠ ns + nf → A' a = A a ∧ B' a = B a) (n1 : A' (ns + nf) = 1) (n2 : B' (ns + nf) = 1) : pAc A' B' (ns + 1) nf := by
  refine ⟨fun a ha => ?_, ?_⟩
  · by_cases q : a = ns + nf
    · subst q; exact Or.inl ⟨n1, n2⟩
    · rw [(e a q).1, (e a q).2]; exact h.1 a (by omega)
  · rw [show ns + 1 + nf = ns + nf + 1 by omega, fb_ct_succ, n1, if_pos (by decide)]
    rw [fb_ct_cong (q := fun a => decide (A a = 1)) (fun k hk => by rw [(e k (by omega)).1]), h.2]
theorem pAc_fct {A B A' B' : Nat → Int32} {ns nf : Nat} (h : pAc A B ns nf) (e : ∀ a, a ≠ ns + nf → A' a = A a ∧ B' a = B a) (n1 : A' (ns + nf) = 2) (n2 : B' (ns + nf) = 0) : pAc A' B' ns (nf + 1) := by
  refine ⟨fun a ha => ?_, ?_⟩
  · by_cases q : a = ns + nf
    · subst q; exact Or.inr ⟨n1, n2⟩
    · rw [(e a q).1, (e a q).2]; exact h.1 a (by omega)
  · rw [show ns + (nf + 1) = ns + nf + 1 by omega, fb_ct_succ, n1, if_neg (by decide)]
    rw [fb_ct_cong (q := fun a => decide (A a = 1)) (fun k hk => by rw [(e k (by omega)).1]), h.2]
    rfl
theorem pAc_drop {A B : Nat → Int32} {ns nf n : Nat} (h : pAc A B ns nf) (e : ns + nf = n + 1) : (A n = 1 ∧ B n = 1 ∧ ∃ m, ns = m + 1 ∧ pAc A B m nf) ∨ (A n = 2 ∧ B n = 0 ∧ ∃ m, nf = m + 1 ∧ pAc A B ns m) := by
  have c := h.2
  rw [e, fb_ct_succ] at c
  have l := fb_ct_le (fun a => decide (A a = 1)) n
  rcases h.1 n (by omega) with ⟨a, b⟩ | ⟨a, b⟩
  · rw [a, if_pos (by decide)] at c
    refine Or.inl ⟨a, b, ns - 1, by omega, fun i hi => h.1 i (by omega), ?_⟩
    rw [show ns - 1 + nf = n by omega]
    omega
  · rw [a, if_neg (by decide)] at c
    refine Or.inr ⟨a, b, nf - 1, by omega, fun i hi => h.1 i (by omega), ?_⟩
    rw [show ns + (nf - 1) = n by omega]
    omega
theorem pSw_le {S P O Y C : Nat → Int32} {ns m no ny : Nat} (h : pSw S P O Y C ns no ny) (hm : m ≤ ns) : pSw S P O Y C m no ny := fun i hi => h i (by omega)
theorem pFc_le {A B C A' B' C' : Nat → Int32} {nf m nd ny : Nat} (h : pFc A B C A' B' C' nf nd ny) (hm : m ≤ nf) : pFc A B C A' B' C' m nd ny := fun i hi => h i (by omega)
section
variable {u w : gW}
theorem jTap_c (T : jTap u) (h1 : w.1 1 1 = u.1 1 1) (h2 : w.1 107 5 = u.1 107 5) (h3 : w.1 2 = u.1 2) (h4 : w.1 108 = u.1 108) : jTap w := by
  obtain ⟨n, f, t1, t2, t3, t4⟩ := T
  exact ⟨n, f, t1, h1.trans t2, h2.trans t3, by rw [h3, h4]; exact t4⟩
theorem jGai_c (G : jGai u) (h1 : w.1 18 = u.1 18) (h2 : w.1 131 = u.1 131) : jGai w := by
  unfold jGai
  rw [h1, h2]
  exact G
def zIm (u w : gW) : Prop := (w.1 0 11 = u.1 0 11 ∧ w.1 107 58 = u.1 107 58) ∧ (w.1 66 6 = u.1 66 6 ∧ w.1 66 7 = u.1 66 7) ∧ (w.1 107 55 = u.1 107 55 ∧ w.1 107 56 = u.1 107 56 ∧ w.1 107 57 = u.1 107 57) ∧ (w.1 67 = u.1 67 ∧ w.1 68 = u.1 68 ∧ w.1 69 = u.1 69 ∧ w.1 70 = u.1 70 ∧ w.1 71 = u.1 71 ∧ w.1 72 = u.1 72) ∧ w.1 132 = u.1 132 ∧ w.1 133 = u.1 133 ∧ w.1 134 = u.1 134
theorem jIma_c (M : jIma u) (l : zLO u w) (h : zIm u w) : jIma w := by
  obtain ⟨⟨a1, a2⟩, ⟨b1, b2⟩, ⟨c1, c2, c3⟩, ⟨d1, d2, d3, d4, d5, d6⟩, e1, e2, e3⟩ := h
  unfold jIma
  rw [yD_l l, yY_l l, yO_l l, a1, a2, b1, b2, c1, c2, c3, d1, d2, d3, d4, d5, d6, e1, e2, e3]
  exact M
theorem M_isSeenDay_r {nd ny : Nat} (a : Int32) (v : gW) (h1 : v.1 107 21 = nI nd) (h2 : v.1 107 22 = nI ny) (l1 : nd ≤ 5) (l2 : ny ≤ 9) : f_M_isSeenDay a v = some (bI (decide (0 < nd ∧ 0 ≤ a.toInt ∧ a.toInt ≤ (ny : Int))), v) := by
  unfold f_M_isSeenDay
  rw [h1, h2]
  by_cases q0 : nI nd ≤ 0
  · have q : ¬ (0 < nd ∧ 0 ≤ a.toInt ∧ a.toInt ≤ (ny : Int)) := fun z => nI_nle z.1 (by omega) q0
    rw [if_pos q0, decide_eq_false q]; rfl
  · have q0' : 0 < nd := by
      apply Nat.pos_of_ne_zero
      intro z
      rw [z] at q0
      exact q0 (by decide)
    rw [if_neg q0, M_isIn, i_l, i_l, i_nI (by omega), zb_s, show (0 : Int64).toInt = 0 from rfl]
    by_cases q1 : 0 ≤ a.toInt ∧ a.toInt ≤ ((ny : Nat) : Int)
    · have q : 0 < nd ∧ 0 ≤ a.toInt ∧ a.toInt ≤ (ny : Int) := ⟨q0', q1⟩
      rw [if_pos q1, if_neg z10, decide_eq_true q]; rfl
    · have q : ¬ (0 < nd ∧ 0 ≤ a.toInt ∧ a.toInt ≤ (ny : Int)) := fun z => q1 z.2
      rw [if_neg q1, if_pos z00, decide_eq_false q]; rfl
def swOk (w : gW) (a b c d : Int32) : Prop := (0 ≤ a.toInt ∧ a.toInt < (6 : Nat)) ∧ gO w b = true ∧ gD w c = true ∧ (0 ≤ d.toInt ∧ d.toInt < (100 : Nat)) ∧ yS w < 10
theorem X_swear_no (K : zK w) {a b c d : Int32} (h : ¬ swOk w a b c d) : f_X_swear a b c d w = some (-1, w) := by
  have hk : zEk w w := (zE.rf w).k
  have h10 := K.S10
  unfold f_X_swear
  have no : f_X_swear_b32 a b c d w = some (-1, w) := by
    unfold f_X_swear_b32 f_X_swear_b33
    rw [if_pos z00]
  rw [X_isPerson', zb_s]
  by_cases q1 : 0 ≤ a.toInt ∧ a.toInt < (6 : Nat)
  · rw [decide_eq_true q1, if_neg bt0, X_isSuch' K hk, zb_s]
    by_cases q2 : (gO w b && gD w c) = true
    · rw [q2, if_neg bt0]
      rw [Bool.and_eq_true] at q2
      by_cases q3 : 0 ≤ d.toInt ∧ d.toInt < (100 : Nat)
      · rw [rg_pos (m := 100) rfl q3]
        unfold f_X_swear_b33 f_An_swornCount
        have q4 : ¬ nI (yS w) < (10 : Int32) := by
          rw [show (10 : Int32) = nI 10 from rfl, n_lt (by omega) (by omega)]
          exact fun z => h ⟨q1, q2.1, q2.2, q3, z⟩
        rw [if_neg z10, zb_s, K.C.2.2.2.2.1.1, if_neg q4]
      · rw [rg_neg (m := 100) rfl q3]
        exact no
    · have e : (gO w b && gD w c) = false := by
        cases e : (gO w b && gD w c) with
        | false => rfl
        | true => exact absurd e q2
      rw [e, if_pos bf0]
      exact no
  · rw [decide_eq_false q1, if_pos bf0]
    exact no
theorem M_swear_no (K : zK w) {a b c d : Int32} (h : ¬ swOk w a b c d) : f_M_swear a b c d w = some (-1, zsI w 107 0 0) := by
  have hE : zE w (zsI w 107 0 0) := (zE.rf w).m0
  have h10 := K.S10
  unfold f_M_swear
  rw [zl_s, hE.k.i rfl, K.C.2.2.2.2.1.2]
  by_cases q5 : nI (yS w) = (10 : Int32)
  · rw [if_pos q5]
  · rw [if_neg q5, isIn_lit a 6 rfl, zb_s]
    by_cases q1 : 0 ≤ a.toInt ∧ a.toInt < (6 : Nat)
    · rw [decide_eq_true q1, if_neg bt0, M_isOathB K hE.k, zb_s]
      cases g1 : gO w b with
      | false => rw [if_pos bf0]
      | true =>
        rw [if_neg bt0, M_isSeenDay' K hE.k, zb_s]
        cases g2 : gD w c with
        | false => rw [if_pos bf0]
        | true =>
          rw [if_neg bt0, isIn_lit d 100 rfl, zb_s]
          have q3 : ¬ (0 ≤ d.toInt ∧ d.toInt < ((100 : Nat) : Int)) := fun q3 => h ⟨q1, g1, g2, q3, by
            apply Nat.lt_of_not_le
            intro z
            exact q5 (by rw [show yS w = 10 by omega]; rfl)⟩
          rw [decide_eq_false q3, if_pos bf0]
    · rw [decide_eq_false q1, if_pos bf0]
def swX (w : gW) (S F : Nat) (a b c d : Int32) : gW := zsI (zsI (zsI (zsI (zsI (zsI w 64 (S + F) 1) 60 (S * 4) a) 60 (S * 4 + 1) b) 60 (S * 4 + 2) c) 60 (S * 4 + 3) d) 59 6 (nI (S + 1))
def swM (w : gW) (S F : Nat) (a b c d : Int32) : gW := zsI (zsI (zsI (zsI (zsI (zsI (zsI (zsI w 107 0 0) 119 S a) 120 S b) 121 S c) 122 S d) 107 35 (nI (S + 1))) 126 (S + F) 1) 107 37 (nI (S + F + 1))
theorem An_addSworn' {S F : Nat} (h1 : w.1 59 6 = nI S) (h2 : w.1 59 7 = nI F) (hS : S < 10) (hF : F ≤ 20) (a b c d : Int32) : f_An_addSworn a b c d w = some ((), swX w S F a b c d) := by
  unfold f_An_addSworn f_An_addAct f_An_actCount
  have e4 : nI S * (4 : Int32) = nI (S * 4) := by rw [show (4 : Int32) = nI 4 from rfl, pk_mul]
  have q40 : ¬ nI 40 < nI (S * 4) + (4 : Int32) := by rw [show (4 : Int32) = nI 4 from rfl, nI_add, n_lt (by omega) (by omega)]; omega
  rw [h1, e4, zl_s, if_neg (nI_pos (by omega)), if_neg q40, zb_s, h2, nI_add, if_neg (nI_pos (by omega)), if_pos (by rw [n_lt (by omega) (by omega)]; omega), if_pos (z_inbn (by omega) (by decide)), zl_s, zb_s, if_neg z10, if_pos (z_inbn (by omega) (by decide)), zl_s, z_ix (by omega), z_ix (by omega), n_1, if_pos (z_inbn (by omega) (by decide)), zl_s, z_ix (by omega), n_2, if_pos (z_inbn (by omega) (by decide)), zl_s, z_ix (by omega), n_3, if_pos (z_inbn (by omega) (by decide)), zl_s, z_ix (by omega), zl_s]
  rw [z_o _ _ _ _ _ _ (by decide), z_o _ _ _ _ _ _ (by decide), z_o _ _ _ _ _ _ (by decide), z_o _ _ _ _ _ _ (by decide), z_o _ _ _ _ _ _ (by decide), h1, n_1]
  rfl
theorem swM_lo (S F : Nat) (a b c d : Int32) : zLO w (swM (swX w S F a b c d) S F a b c d) := by
  unfold swM swX
  exact (((((((((((((((zLO.rf w).sI _ rfl).sI _ rfl).sI _ rfl).sI _ rfl).sI _ rfl).sI _ rfl).sI _ rfl).sI _ rfl).sI _ rfl).sI _ rfl).sI _ rfl).sI _ rfl).sI _ rfl).sI _ rfl)
theorem sw60 (S F : Nat) (a b c d : Int32) (j : Nat) : (swM (swX w S F a b c d) S F a b c d).1 60 j = if j = S * 4 + 3 then d else if j = S * 4 + 2 then c else if j = S * 4 + 1 then b else if j = S * 4 then a else w.1 60 j := by
  simp [swM, swX, zsI_g]
theorem sw64 (S F : Nat) (a b c d : Int32) (j : Nat) : (swM (swX w S F a b c d) S F a b c d).1 64 j = if j = S + F then 1 else w.1 64 j := by
  simp [swM, swX, zsI_g]
theorem sw119 (S F : Nat) (a b c d : Int32) (j : Nat) : (swM (swX w S F a b c d) S F a b c d).1 119 j = if j = S then a else w.1 119 j := by
  simp [swM, swX, zsI_g]
theorem sw120 (S F : Nat) (a b c d : Int32) (j : Nat) : (swM (swX w S F a b c d) S F a b c d).1 120 j = if j = S then b else w.1 120 j := by
  simp [swM, swX, zsI_g]
theorem sw121 (S F : Nat) (a b c d : Int32) (j : Nat) : (swM (swX w S F a b c d) S F a b c d).1 121 j = if j = S then c else w.1 121 j := by
  simp [swM, swX, zsI_g]
theorem sw122 (S F : Nat) (a b c d : Int32) (j : Nat) : (swM (swX w S F a b c d) S F a b c d).1 122 j = if j = S then d else w.1 122 j := by
  simp [swM, swX, zsI_g]
theorem sw126 (S F : Nat) (a b c d : Int32) (j : Nat) : (swM (swX w S F a b c d) S F a b c d).1 126 j = if j = S + F then 1 else w.1 126 j := by
  simp [swM, swX, zsI_g]
theorem zCr_f {a : Nat} (q : zKL a = false) : zCr a = false := by
  cases e : zCr a with
  | false => rfl
  | true => rw [zCr_kl e] at q; cases q
theorem q_swear (J : zJ w) (a b c d : Int32) : ∃ (r : Int32) (w1 w2 : gW), f_X_swear a b c d w = some (r, w1) ∧ f_M_swear a b c d w1 = some (r, w2) ∧ zJ w2 := by
  obtain ⟨K, R, C, T, G, M⟩ := J
  by_cases ok : swOk w a b c d
  · have h10 := K.S10
    have h20 := K.F20
    have h5 := K.D5
    have h6 := K.Y6
    have h8 := K.O8
    obtain ⟨q1, q2, q3, q4, q5⟩ := ok
    have hk : zEk w w := (zE.rf w).k
    generalize hS : yS w = S at q5 h10
    generalize hF : yF w = F at h20
    have kS1 : w.1 59 6 = nI S := by rw [← hS]; exact K.C.2.2.2.2.1.1
    have kS2 : w.1 107 35 = nI S := by rw [← hS]; exact K.C.2.2.2.2.1.2
    have kF1 : w.1 59 7 = nI F := by rw [← hF]; exact K.C.2.2.2.2.2.1.1
    have kF2 : w.1 107 36 = nI F := by rw [← hF]; exact K.C.2.2.2.2.2.1.2
    have kA : w.1 107 37 = nI (S + F) := by rw [← nI_add, ← hS, ← hF]; exact K.C.2.2.2.2.2.2
    have l := swM_lo (w := w) S F a b c d
    have p1 : a = nI (ix a) ∧ ix a < 6 := z_nIx q1
    have p2 : b = nI (ix b) ∧ ix b < yO w := z_nIx (of_decide_eq_true q2)
    have p3 : c = nI (ix c) ∧ ix c ≤ yY w := by
      obtain ⟨s, e, l, -⟩ := gD_t q3
      rw [e, z_ix (by omega)]
      exact ⟨rfl, l⟩
    have p4 : d = nI (ix d) ∧ ix d ≤ 99 := by
      obtain ⟨e, l⟩ := z_nIx q4
      exact ⟨e, by omega⟩
    have hD0 : 0 < yD w := (of_decide_eq_true q3).1
    -- the records of the new world
    have eS : yS (swM (swX w S F a b c d) S F a b c d) = S + 1 := by
      show ix (nI (S + 1)) = S + 1
      exact z_ix (by omega)
    have eF : yF (swM (swX w S F a b c d) S F a b c d) = F := hF
    have N : jNum (swM (swX w S F a b c d) S F a b c d) := by
      unfold jNum jC
      rw [eS, eF, yD_l l, yY_l l, yO_l l]
      have n := K.1
      unfold jNum jC at n
      rw [hS, hF] at n
      refine ⟨⟨⟨n.1.1.1, n.1.1.2.1, n.1.1.2.2.1, by omega, by omega⟩, n.1.2.1, n.1.2.2.1, n.1.2.2.2.1, ⟨rfl, rfl⟩, ⟨kF1, kF2⟩, ?_⟩, Or.inr ?_⟩
      · show nI (S + F + 1) = nI (S + 1) + nI F
        rw [nI_add]
        congr 1
        omega
      · rcases n.2 with z | z
        · omega
        · exact z
    have R' : jRec (swM (swX w S F a b c d) S F a b c d) := by
      obtain ⟨r1, r2, r3, r4⟩ := R
      rw [hS] at r1 r3
      rw [hF] at r2 r3
      unfold jRec
      rw [eS, eF, yD_l l, yY_l l, yO_l l]
      refine ⟨fun i hi => ?_, r2, pAc_add r3 (fun j hj => ⟨?_, ?_⟩) ?_ ?_, r4⟩
      · by_cases e : i = S
        · subst e
          refine ⟨⟨?_, ?_, ?_, ?_⟩, ?_, ?_, ?_, ?_⟩
          · rw [sw60, sw119, if_neg (by omega), if_neg (by omega), if_neg (by omega), if_pos (by omega), if_pos rfl]
          · rw [sw60, sw120, if_neg (by omega), if_neg (by omega), if_pos (by omega), if_pos rfl]
          · rw [sw60, sw121, if_neg (by omega), if_pos (by omega), if_pos rfl]
          · rw [sw60, sw122, if_pos (by omega), if_pos rfl]
          · rw [sw119, if_pos rfl]; exact p1
          · rw [sw120, if_pos rfl]; exact p2
          · rw [sw121, if_pos rfl]; exact p3
          · rw [sw122, if_pos rfl]; exact p4
        · have o60 : ∀ j, j < 4 * S → (swM (swX w S F a b c d) S F a b c d).1 60 j = w.1 60 j := fun j hj => by
            rw [sw60, if_neg (by omega), if_neg (by omega), if_neg (by omega), if_neg (by omega)]
          have o119 : (swM (swX w S F a b c d) S F a b c d).1 119 i = w.1 119 i := by rw [sw119, if_neg e]
          have o120 : (swM (swX w S F a b c d) S F a b c d).1 120 i = w.1 120 i := by rw [sw120, if_neg e]
          have o121 : (swM (swX w S F a b c d) S F a b c d).1 121 i = w.1 121 i := by rw [sw121, if_neg e]
          have o122 : (swM (swX w S F a b c d) S F a b c d).1 122 i = w.1 122 i := by rw [sw122, if_neg e]
          rw [o60 _ (by omega), o60 _ (by omega), o60 _ (by omega), o60 _ (by omega), o119, o120, o121, o122]
          exact r1 i (by omega)
      · rw [sw64, if_neg hj]
      · rw [sw126, if_neg hj]
      · rw [sw64, if_pos rfl]
      · rw [sw126, if_pos rfl]
    have K' : zK (swM (swX w S F a b c d) S F a b c d) := zK_l K l N
    have hc : ∀ x y, (zScrI x y || decide (107 ≤ x)) = false → (swX w S F a b c d).1 x y = (swM (swX w S F a b c d) S F a b c d).1 x y := by
      intro x y q
      rw [Bool.or_eq_false_iff, decide_eq_false_iff_not] at q
      unfold swM
      rw [z_o _ _ _ _ _ _ (by omega), z_o _ _ _ _ _ _ (by omega), z_o _ _ _ _ _ _ (by omega), z_o _ _ _ _ _ _ (by omega), z_o _ _ _ _ _ _ (by omega), z_o _ _ _ _ _ _ (by omega), z_o _ _ _ _ _ _ (by omega), z_o _ _ _ _ _ _ (by omega)]
    obtain ⟨x, e1, K2, R2, C2, hx⟩ := rev_step (w1 := swX w S F a b c d) (i2 := (swM (swX w S F a b c d) S F a b c d).1) K' R' hc
    refine ⟨nI (S + 1), ((swX w S F a b c d).1, x), ((swM (swX w S F a b c d) S F a b c d).1, x), ?_, ?_, K2, R2, C2, ?_, ?_, ?_⟩
    · unfold f_X_swear
      rw [X_isPerson', zb_s, decide_eq_true q1, if_neg bt0, X_isSuch' K hk, zb_s, q2, q3, Bool.and_true, if_neg bt0, rg_pos (m := 100) rfl q4]
      unfold f_X_swear_b33 f_An_swornCount
      rw [if_neg z10, zb_s, kS1, if_pos (by rw [show (10 : Int32) = nI 10 from rfl, n_lt (by omega) (by omega)]; exact q5), An_addSworn' kS1 kF1 q5 h20, zb_s, e1, zb_s, zb_s]
      rfl
    · unfold f_M_swear
      have o6 : (zsI ((swX w S F a b c d).1, x) 107 0 0).1 107 6 = nI (yO w) := K.C.2.2.2.1.2
      have o35 : (zsI ((swX w S F a b c d).1, x) 107 0 0).1 107 35 = nI S := kS2
      have o37 : (zsI ((swX w S F a b c d).1, x) 107 0 0).1 107 37 = nI (S + F) := kA
      have o21 : (zsI ((swX w S F a b c d).1, x) 107 0 0).1 107 21 = nI (yD w) := K.C.2.1.2
      have o22 : (zsI ((swX w S F a b c d).1, x) 107 0 0).1 107 22 = nI (yY w) := K.C.2.2.1.2
      have q5' : ¬ nI S = (10 : Int32) := by rw [show (10 : Int32) = nI 10 from rfl, n_eq (by omega) (by omega)]; omega
      have iS : inb (nI S) 10 := z_inbn q5 (by decide)
      have iA : inb (nI (S + F)) 30 := z_inbn (by omega) (by decide)
      have g1 : bI (decide (0 ≤ b.toInt ∧ b.toInt < (yO w : Int))) = bI true := congrArg bI q2
      have g2 : bI (decide (0 < yD w ∧ 0 ≤ c.toInt ∧ c.toInt ≤ (yY w : Int))) = bI true := congrArg bI q3
      rw [zl_s, o35, if_neg q5', isIn_lit a 6 rfl, zb_s, decide_eq_true q1, if_neg bt0, M_isOath b _ o6 h8, zb_s, zbl_b, g1, if_neg bt0, M_isSeenDay_r c _ o21 o22 h5 (by omega), zb_s, g2, if_neg bt0, isIn_lit d 100 rfl, zb_s, decide_eq_true q4, if_neg bt0]
      generalize hW : zsI ((swX w S F a b c d).1, x) 107 0 0 = W at *
      have a1 : (zsI W 119 S a).1 107 35 = nI S := o35
      have a2 : (zsI (zsI W 119 S a) 120 S b).1 107 35 = nI S := o35
      have a3 : (zsI (zsI (zsI W 119 S a) 120 S b) 121 S c).1 107 35 = nI S := o35
      have a4 : (zsI (zsI (zsI (zsI W 119 S a) 120 S b) 121 S c) 122 S d).1 107 35 = nI S := o35
      have a5 : (zsI (zsI (zsI (zsI (zsI W 119 S a) 120 S b) 121 S c) 122 S d) 107 35 (nI (S + 1))).1 107 37 = nI (S + F) := o37
      have a6 : (zsI (zsI (zsI (zsI (zsI (zsI W 119 S a) 120 S b) 121 S c) 122 S d) 107 35 (nI (S + 1))) 126 (S + F) ((1 : Int32) &&& 1)).1 107 37 = nI (S + F) := o37
      rw [o35, if_pos iS, zl_s, z_ix (by omega), a1, if_pos iS, zl_s, z_ix (by omega), a2, if_pos iS, zl_s, z_ix (by omega), a3, if_pos iS, zl_s, z_ix (by omega), zl_s, a4, n_1, a5, if_pos iA, zl_s, z_ix (by omega), zl_s, a6, n_1, ← hW]
      rfl
    · exact jTap_c T rfl rfl rfl rfl
    · exact jGai_c G rfl rfl
    · exact jIma_c M (l.tr ⟨fun _ _ _ => rfl, fun a b q => congrFun (hx a (zCr_f q)) b⟩) ⟨⟨rfl, rfl⟩, ⟨rfl, rfl⟩, ⟨rfl, rfl, rfl⟩, ⟨rfl, rfl, rfl, rfl, rfl, rfl⟩, rfl, rfl, rfl⟩
  · exact ⟨-1, w, zsI w 107 0 0, X_swear_no K ok, M_swear_no K ok, zJ_E (zE.rf w).m0 ⟨K, R, C, T, G, M⟩⟩
end
