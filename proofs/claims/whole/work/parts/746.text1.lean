/-! PURE: a text as an oath -/
theorem mb_cp : ∀ c, c < 256 → ((nI c).toInt8.toInt32).toInt8.toInt32 = (nI c).toInt8.toInt32 := by decide +kernel
theorem pAll_v {f : Nat → Nat} {n : Nat} (h : (pAll f n).1 = true) : cVal 15 (pAll f n).2.2 ∧ (pAll f n).2.2.length ≤ n := by
  have hG := pOa_G (m := 13) (fun p hp => pU_G f n 6 p hp) 0 (Nat.zero_le n)
  unfold pAll at h ⊢
  by_cases c : (pOa f n (pU f n 6) 0).1 = true
  · rw [if_pos c] at h ⊢
    by_cases c2 : sg f n (pOa f n (pU f n 6) 0).2.1 = 0
    · rw [if_pos c2]
      have a := hG.1 c
      refine ⟨a.2.2.2.1, ?_⟩
      show (pOa f n (pU f n 6) 0).2.2.length ≤ n
      omega
    · rw [if_neg c2] at h; cases h
  · rw [if_neg c] at h; cases h
theorem map_em (em : List Nat) (g : Nat → Nat) (hg : ∀ i, i < em.length → g i = em.getD i 0) : (List.range em.length).map g = em := by
  apply List.ext_getElem
  · rw [List.length_map, List.length_range]
  · intro i h1 h2
    rw [List.getElem_map, List.getElem_range, hg i h2, List.getD_eq_getElem?_getD, List.getElem?_eq_getElem h2]
    rfl
section
variable {w : gW}
theorem M_fault1r {n : Nat} {f : Nat → Nat} (hn : w.1 107 5 = nI n) (h120 : n ≤ 120) (h : ∀ j, j < n → 0 < f j ∧ f j < 256 ∧ w.1 108 j = (nI (f j)).toInt8.toInt32) : ∃ v : gW, f_M_fault (1 : Int32) w = some ((if (pAll f n).1 = true then -1 else nI (pAll f n).2.1), v) ∧ zE w v := by
  obtain ⟨v, e1, e2, e3⟩ := M_readOath' (w := zsI w 107 0 0) (n := n) (f := f) hn (TX_of h120 h)
  unfold f_M_fault f_M_fault_b33
  rw [zl_s, isIn_lit (1 : Int32) 2 rfl, zb_s, decide_eq_true (show 0 ≤ (1 : Int32).toInt ∧ (1 : Int32).toInt < ((2 : Nat) : Int) from ⟨by decide, by decide⟩), if_neg bt0, if_neg z10, e1, zb_s, e3]
  exact ⟨v, rfl, zMr.e (zE.rf w).m0 e2⟩
theorem M_fault0r {n : Nat} {f : Nat → Nat} (hn : w.1 107 5 = nI n) (h120 : n ≤ 120) (h : ∀ j, j < n → 0 < f j ∧ f j < 256 ∧ w.1 108 j = (nI (f j)).toInt8.toInt32) : ∃ v : gW, f_M_fault (0 : Int32) w = some ((if (pLd f n).1 = true then -1 else nI (pLd f n).2.1), v) ∧ zE w v ∧ ((pLd f n).1 = true → v.1 107 24 = nI (pLd f n).2.2.1 ∧ v.1 107 23 = nI (pLd f n).2.2.2.1 ∧ dftM v (pLd f n).2.2.2.1 (pLd f n).2.2.2.2) := by
  obtain ⟨v, e1, e2, e3, e4⟩ := rd_land (w := zsI w 107 0 0) (n := n) (f := f) hn (TX_of h120 h)
  unfold f_M_fault f_M_fault_b33
  rw [zl_s, isIn_lit (0 : Int32) 2 rfl, zb_s, decide_eq_true (show 0 ≤ (0 : Int32).toInt ∧ (0 : Int32).toInt < ((2 : Nat) : Int) from ⟨by decide, by decide⟩), if_neg bt0, if_pos z00, e1, zb_s, e3]
  exact ⟨v, rfl, zMr.e (zE.rf w).m0 e2, e4⟩
/-- the copy of the tape -/
theorem M_copy {o n : Nat} (ho : o < 8) (h120 : n ≤ 120) (h6 : w.1 107 6 = nI o) : ∃ v : gW, f_M_text_b57 (nI n) (0 : Int32) w = some (nI o, v) ∧ v.2 = w.2 ∧ v.1 110 o = nI n ∧ v.1 107 6 = nI (o + 1) ∧ (∀ i, i < n → v.1 109 (120 * o + i) = (w.1 108 i).toInt8.toInt32) ∧ ∀ a b, ¬ (a = 109 ∧ 120 * o ≤ b ∧ b < 120 * o + n) → ¬ (a = 110 ∧ b = o) → ¬ (a = 107 ∧ b = 6) → v.1 a b = w.1 a b := by
  have key := zfx_ind (fun _ _ _ => none) f_M_text_b57_s (fun m kk => ∀ j v, j + m = n → v.2 = w.2 → (∀ i, i < j → v.1 109 (120 * o + i) = (w.1 108 i).toInt8.toInt32) → (∀ a b, ¬ (a = 109 ∧ 120 * o ≤ b ∧ b < 120 * o + n) → v.1 a b = w.1 a b) → ∃ v' : gW, kk (nI n) (nI j) v = some (nI o, v') ∧ v'.2 = w.2 ∧ v'.1 110 o = nI n ∧ v'.1 107 6 = nI (o + 1) ∧ (∀ i, i < n → v'.1 109 (120 * o + i) = (w.1 108 i).toInt8.toInt32) ∧ ∀ a b, ¬ (a = 109 ∧ 120 * o ≤ b ∧ b < 120 * o + n) → ¬ (a = 110 ∧ b = o) → ¬ (a = 107 ∧ b = 6) → v'.1 a b = w.1 a b) (fun m kk ih j v hj h2 hc hf => by
    unfold f_M_text_b57_s
    have v6 : v.1 107 6 = nI o := (hf 107 6 (by omega)).trans h6
    rw [v6]
    cases m with
    | zero =>
      have w6 : (zsI v 110 o (nI n)).1 107 6 = nI o := v6
      have w7 : (zsI (zsI v 110 o (nI n)) 107 6 (nI (o + 1))).1 107 6 = nI (o + 1) := rfl
      rw [if_pos (by rw [n_le (by omega) (by omega)]; omega), if_pos (z_inbn ho (by decide)), zl_s, z_ix (by omega), zl_s, w6, n_1, w7, n_sub1]
      refine ⟨_, rfl, h2, ?_, rfl, fun i hi => ?_, fun a b q1 q2 q3 => ?_⟩
      · rw [zsI_g, if_neg (by omega), zsI_g, if_pos ⟨rfl, rfl⟩]
      · rw [zsI_g, if_neg (by omega), zsI_g, if_neg (by omega)]
        exact hc i (by omega)
      · rw [zsI_g, if_neg q3, zsI_g, if_neg q2]
        exact hf a b q1
    | succ m =>
      have e : (120 : Int32) * nI o + nI j = nI (120 * o + j) := by rw [show (120 : Int32) = nI 120 from rfl, pk_mul, nI_add]
      rw [if_neg (by rw [n_le (by omega) (by omega)]; omega), if_pos (z_inbn (by omega) (by decide)), e, if_pos (z_inbn (by omega) (by decide)), zl_s, zl_s, n_1, z_ix (by omega), z_ix (by omega), hf 108 j (by omega)]
      refine ih m (by omega) (j + 1) _ (by omega) h2 (fun i hi => ?_) (fun a b q => ?_)
      · rw [zsI_g]
        by_cases z : i = j
        · subst z; rw [if_pos ⟨rfl, rfl⟩]
        · rw [if_neg (by omega)]
          exact hc i (by omega)
      · rw [zsI_g, if_neg (by omega)]
        exact hf a b q) zFU n (zfu (by omega))
  exact key 0 w (by omega) rfl (fun i hi => absurd hi (Nat.not_lt_zero i)) (fun _ _ _ => rfl)
theorem t_text1 (J : zJ w) : ∃ (r : Int32) (w1 w2 : gW), f_X_text (1 : Int32) w = some (r, w1) ∧ f_M_text (1 : Int32) w1 = some (r, w2) ∧ zJ w2 := by
  have K := J.K
  have h8 := K.O8
  have hk : zEk w w := (zE.rf w).k
  obtain ⟨n, f, T⟩ := J.2.2.2.1
  have h120 := T.1
  have i1 : (0 : Int) ≤ (1 : Int32).toInt ∧ (1 : Int32).toInt < ((2 : Nat) : Int) := ⟨by decide, by decide⟩
  have xs : f_X_text (1 : Int32) w = f_X_text_b66 (1 : Int32) w := by
    unfold f_X_text
    rw [if_neg z10]
  rw [xs]
  by_cases q8 : yO w = 8
  · refine ⟨-1, w, zsI w 107 0 0, ?_, ?_, zJ_E (zE.rf w).m0 J⟩
    · unfold f_X_text_b66
      rw [if_pos (show (1 : Int32) = 1 from rfl), Oa_size' K hk, zb_s, if_pos (by rw [q8]; decide)]
    · unfold f_M_text
      have o6 : (zsI w 107 0 0).1 107 6 = nI (yO w) := K.C.2.2.2.1.2
      rw [zl_s, isIn_lit (1 : Int32) 2 rfl, zb_s, decide_eq_true i1, if_neg bt0, if_pos (show (1 : Int32) = 1 from rfl), o6, if_pos (by rw [q8]; rfl)]
  · have ho : yO w < 8 := by omega
    generalize hO : yO w = o at ho
    have q8' : ¬ (8 : Int32) ≤ nI o := by rw [show (8 : Int32) = nI 8 from rfl, n_le (by omega) (by omega)]; omega
    have n8 : ¬ nI o = (8 : Int32) := by rw [show (8 : Int32) = nI 8 from rfl, n_eq (by omega) (by omega)]; omega
    obtain ⟨p, em, e1, hem⟩ := X_readOath K T
    rw [hO] at e1
    have cs : ∀ a b, a = 107 ∨ a = 108 → (cW w o p em).1 a b = w.1 a b := fun a b h => cW_g (by omega) (by omega) (by omega) (by omega)
    by_cases ok : (pAll f n).1 = true
    · have em_e := hem ok
      obtain ⟨cv, len⟩ := pAll_v ok
      rw [← em_e] at cv len
      have c54 : (cW w o p em).1 5 4 = nI o := by
        rw [cW_g (by omega) (by omega) (by omega) (by omega), ← hO]
        exact K.C.2.2.2.1.1
      have c11 : (cW w o p em).1 1 1 = nI n := by rw [cW_g (by omega) (by omega) (by omega) (by omega)]; exact T.2.1
      -- the class's world
      generalize hw1 : zsI (zsI (cW w o p em) 1 1 0) 5 4 (nI (o + 1)) = w1
      have x1 : f_X_text_b66 (1 : Int32) w = some (nI o, w1) := by
        have a1 : (zsI (cW w o p em) 1 1 0).1 5 4 = nI o := c54
        have a2 : (zsI (zsI (cW w o p em) 1 1 0) 5 4 (nI (o + 1))).1 5 4 = nI (o + 1) := rfl
        unfold f_X_text_b66
        rw [if_pos (show (1 : Int32) = 1 from rfl), Oa_size' K hk, hO, zb_s, if_neg q8', e1, if_pos ok, zb_s, if_pos (show (-1 : Int32) = -1 from rfl)]
        unfold f_Tp_cut f_Oa_keepDraft
        rw [if_neg (show ¬ (0 : Int32) < 0 by decide), c11, if_pos (show (0 : Int32) ≤ nI n from by rw [show (0 : Int32) = nI 0 from rfl, n_le (by omega) (by omega)]; omega), zl_s, zb_s, a1, if_pos (by rw [show (8 : Int32) = nI 8 from rfl, n_lt (by omega) (by omega)]; exact ho), zl_s, n_1, a2, n_sub1, zb_s, hw1]
      have w1_o : ∀ a b, ¬ (a = 1 ∧ b = 1) → ¬ (a = 5 ∧ b = 4) → w1.1 a b = (cW w o p em).1 a b := fun a b q1 q2 => by
        rw [← hw1, zsI_g, if_neg q2, zsI_g, if_neg q1]
      -- the model's side
      have hn1 : (zsI w1 107 0 0).1 107 5 = nI n := by
        rw [z107 _ _ _ (by decide), w1_o _ _ (by omega) (by omega), cs 107 5 (Or.inl rfl)]
        exact T.2.2.1
      obtain ⟨v, m1, m2⟩ := M_fault1r (w := zsI w1 107 0 0) (f := f) hn1 h120 (fun j hj => by
        rw [z_o _ _ _ _ _ _ (by decide), w1_o _ _ (by omega) (by omega), cs 108 j (Or.inr rfl)]
        exact ⟨(T.2.2.2 j hj).1, (T.2.2.2 j hj).2.1, (T.2.2.2 j hj).2.2.2⟩)
      rw [if_pos ok] at m1
      have v_o : ∀ a b, zScrI a b = false → v.1 a b = w1.1 a b := fun a b q => by
        rw [m2.1 a b q, zsI_g, if_neg (fun z => by obtain ⟨rfl, rfl⟩ := z; cases q)]
      have v6 : (zsI v 107 5 0).1 107 6 = nI o := by
        rw [zsI_g, if_neg (by omega), v_o 107 6 rfl, w1_o _ _ (by omega) (by omega), cs 107 6 (Or.inl rfl), ← hO]
        exact K.C.2.2.2.1.2
      obtain ⟨v', k1, k2, k3, k4, k5, k6⟩ := M_copy (w := zsI v 107 5 0) ho h120 v6
      refine ⟨nI o, w1, v', x1, ?_, ?_⟩
      · have o6 : (zsI w1 107 0 0).1 107 6 = nI o := by
          rw [z107 _ _ _ (by decide), w1_o _ _ (by omega) (by omega), cs 107 6 (Or.inl rfl), ← hO]
          exact K.C.2.2.2.1.2
        have v5 : v.1 107 5 = nI n := (m2.1 107 5 rfl).trans hn1
        unfold f_M_text f_M_text_b29
        rw [zl_s, isIn_lit (1 : Int32) 2 rfl, zb_s, decide_eq_true i1, if_neg bt0, if_pos (show (1 : Int32) = 1 from rfl), o6, if_neg n8, m1, zb_s, if_pos (show (-1 : Int32) = -1 from rfl), zl_s, zl_s, if_pos (show (1 : Int32) = 1 from rfl), v5]
        exact k1
      · -- the new world
        have E : ∀ a b, zScrI a b = false → ¬ (a = 107 ∧ b = 5) → ¬ (a = 109 ∧ 120 * o ≤ b ∧ b < 120 * o + n) → ¬ (a = 110 ∧ b = o) → ¬ (a = 107 ∧ b = 6) → ¬ (a = 1 ∧ b = 1) → ¬ (a = 5 ∧ b = 4) → ¬ (a = 16 ∧ b = o) → ¬ (a = 17 ∧ b = o) → a ≠ 7 + o → v'.1 a b = w.1 a b := by
          intro a b q0 q1 q2 q3 q4 q5 q6 q7 q8 q9
          rw [k6 a b q2 q3 q4, zsI_g, if_neg q1, v_o a b q0, w1_o a b q5 q6]
          exact cW_g (fun z => by obtain ⟨rfl, rfl⟩ := z; cases q0) q7 q8 q9
        have Ecw : ∀ a b, 7 ≤ a → a ≤ 17 → v'.1 a b = (cW w o p em).1 a b := by
          intro a b q1 q2
          have q0 : zScrI a b = false := by
            have h9 : a = 7 ∨ a = 8 ∨ a = 9 ∨ a = 10 ∨ a = 11 ∨ a = 12 ∨ a = 13 ∨ a = 14 ∨ a = 15 ∨ a = 16 ∨ a = 17 := by omega
            rcases h9 with z | z | z | z | z | z | z | z | z | z | z <;> subst z <;> rfl
          rw [k6 a b (by omega) (by omega) (by omega), zsI_g, if_neg (by omega), v_o a b q0, w1_o a b (by omega) (by omega)]
        have r2 : ∀ a, zScrL a = false → v'.2 a = w.2 a := fun a q => by
          funext b
          rw [k2]
          show v.2 a b = _
          rw [m2.2 a b q]
          show w1.2 a b = _
          rw [← hw1]
          rfl
        have l : zLa w v' := by
          refine ⟨fun a b h => ?_, fun a b h => ?_⟩
          · obtain ⟨h1, h2, h3, h4⟩ := lam_cod h
            have hs : zScrI a b = false := by
              cases e : zScrI a b with
              | false => rfl
              | true => rw [recm_s e] at h1; cases h1
            refine E a b hs (fun z => ?_) (by omega) (by omega) (fun z => ?_) (fun z => ?_) (by omega) (by omega) (by omega) (by omega)
            · obtain ⟨rfl, rfl⟩ := z; cases h1
            · obtain ⟨rfl, rfl⟩ := z; cases h
            · obtain ⟨rfl, rfl⟩ := z; cases h1
          · have : zScrL a = false := by
              unfold zKL at h
              rw [Bool.or_eq_false_iff] at h
              exact h.1
            rw [r2 a this]
        have fn : ∀ a, (∀ b, zScrI a b = false) → (18 ≤ a ∧ a ≠ 107 ∧ a ≠ 109 ∧ a ≠ 110 ∨ a = 0 ∨ a = 2) → v'.1 a = w.1 a := fun a q h => funext (fun b => E a b (q b) (by omega) (by omega) (by omega) (by omega) (by omega) (by omega) (by omega) (by omega) (by omega))
        have g7 : ∀ b, zScrI 107 b = false → b ≠ 5 → b ≠ 6 → v'.1 107 b = w.1 107 b := fun b q h1 h2 => E 107 b q (by omega) (by omega) (by omega) (by omega) (by omega) (by omega) (by omega) (by omega) (by omega)
        have a : zRa w v' := ⟨fn 119 (fun _ => rfl) (by omega), fn 120 (fun _ => rfl) (by omega), fn 121 (fun _ => rfl) (by omega), fn 122 (fun _ => rfl) (by omega), fn 123 (fun _ => rfl) (by omega), fn 124 (fun _ => rfl) (by omega), fn 125 (fun _ => rfl) (by omega), g7 35 rfl (by decide) (by decide), g7 36 rfl (by decide) (by decide)⟩
        have eO : yO v' = o + 1 := by
          unfold yO
          rw [k4]
          exact z_ix (by omega)
        have hcs : ∀ o', o' < o → ycs v' o' = ycs w o' := fun o' h => by
          have := cW_ycs w (by omega) h p em
          rw [← this]
          unfold ycs
          rw [Ecw 16 o' (by omega) (by omega)]
          congr 1
          funext i
          rw [Ecw (7 + o') i (by omega) (by omega)]
        have hnew : ycs v' o = em := by
          unfold ycs
          rw [Ecw 16 o (by omega) (by omega), cW_l, z_ix (by omega)]
          refine map_em em _ (fun i hi => ?_)
          rw [Ecw (7 + o) i (by omega) (by omega)]
          have e : (cW w o p em).1 (7 + o) i = nI (em.getD i 0) := by
            show (if 7 + o = 1 ∧ i = 2 then nI p else if 7 + o = 16 ∧ i = o then nI em.length else if 7 + o = 17 ∧ i = o then nI (nmO em) else if 7 + o = 7 + o ∧ i < em.length then nI (em.getD i 0) else w.1 (7 + o) i) = _
            rw [if_neg (by omega), if_neg (by omega), if_neg (by omega), if_pos ⟨rfl, hi⟩]
          rw [e]
          have hc := cv.2.2.1 (em.getD i 0) (by rw [List.getD_eq_getElem?_getD, List.getElem?_eq_getElem hi]; exact List.getElem_mem hi)
          exact z_ix (by have := hc.1; omega)
        refine zJ_oa J l a (fun x hx => r2 x (sc_row x hx)) (by rw [eO, hO]; omega) (fun o' h => hcs o' (by rw [hO] at h; exact h)) ?_ ?_ ⟨fn 60 (fun _ => rfl) (by omega), fn 61 (fun _ => rfl) (by omega), fn 62 (fun _ => rfl) (by omega), fn 63 (fun _ => rfl) (by omega), fn 64 (fun _ => rfl) (by omega), fn 126 (fun _ => rfl) (by omega)⟩ ⟨fn 65 (fun _ => rfl) (by omega), fn 129 (fun _ => rfl) (by omega)⟩ ?_ (jGai_c J.2.2.2.2.1 (fn 18 (fun _ => rfl) (by omega)) (fn 131 (fun _ => rfl) (by omega))) ⟨⟨congrFun (fn 0 (fun _ => rfl) (by omega)) 11, g7 58 rfl (by decide) (by decide)⟩, ⟨congrFun (fn 66 (fun _ => rfl) (by omega)) 6, congrFun (fn 66 (fun _ => rfl) (by omega)) 7⟩, ⟨g7 55 rfl (by decide) (by decide), g7 56 rfl (by decide) (by decide), g7 57 rfl (by decide) (by decide)⟩, ⟨fn 67 (fun _ => rfl) (by omega), fn 68 (fun _ => rfl) (by omega), fn 69 (fun _ => rfl) (by omega), fn 70 (fun _ => rfl) (by omega), fn 71 (fun _ => rfl) (by omega), fn 72 (fun _ => rfl) (by omega)⟩, fn 132 (fun _ => rfl) (by omega), fn 133 (fun _ => rfl) (by omega), fn 134 (fun _ => rfl) (by omega)⟩
        · have N := K.1
          unfold jNum jC at N ⊢
          rw [yD_a l, yY_a l, eO, yS_l a, yF_l a]
          refine ⟨⟨⟨N.1.1.1, N.1.1.2.1, by omega, N.1.1.2.2.2⟩, ⟨?_, ?_⟩, ⟨?_, ?_⟩, ⟨?_, k4⟩, ⟨?_, ?_⟩, ⟨?_, ?_⟩, ?_⟩, N.2⟩
          · rw [fn 19 (fun _ => rfl) (by omega)]; exact N.1.2.1.1
          · rw [g7 21 rfl (by decide) (by decide)]; exact N.1.2.1.2
          · rw [fn 19 (fun _ => rfl) (by omega)]; exact N.1.2.2.1.1
          · rw [g7 22 rfl (by decide) (by decide)]; exact N.1.2.2.1.2
          · rw [k6 5 4 (by omega) (by omega) (by omega), zsI_g, if_neg (by omega), v_o 5 4 rfl, ← hw1]; rfl
          · rw [fn 59 (fun _ => rfl) (by omega)]; exact N.1.2.2.2.2.1.1
          · rw [g7 35 rfl (by decide) (by decide)]; exact N.1.2.2.2.2.1.2
          · rw [fn 59 (fun _ => rfl) (by omega)]; exact N.1.2.2.2.2.2.1.1
          · rw [g7 36 rfl (by decide) (by decide)]; exact N.1.2.2.2.2.2.1.2
          · rw [g7 37 rfl (by decide) (by decide)]; exact N.1.2.2.2.2.2.2
        · intro o' ho'
          rw [eO] at ho'
          by_cases z : o' = o
          · subst z
            refine ⟨n, f, ⟨h120, k3, fun j hj => ⟨(T.2.2.2 j hj).1, (T.2.2.2 j hj).2.1, ?_⟩⟩, ok, by rw [hnew, em_e], ?_, fun i hi => ?_, ?_⟩
            · rw [k5 j hj, zsI_g, if_neg (by omega), v_o 108 j rfl, w1_o _ _ (by omega) (by omega), cs 108 j (Or.inr rfl), (T.2.2.2 j hj).2.2.2]
              exact mb_cp _ (T.2.2.2 j hj).2.1
            · rw [hnew, Ecw 16 o' (by omega) (by omega), cW_l]
            · rw [hnew] at hi ⊢
              rw [Ecw (7 + o') i (by omega) (by omega)]
              show (if 7 + o' = 1 ∧ i = 2 then nI p else if 7 + o' = 16 ∧ i = o' then nI em.length else if 7 + o' = 17 ∧ i = o' then nI (nmO em) else if 7 + o' = 7 + o' ∧ i < em.length then nI (em.getD i 0) else w.1 (7 + o') i) = _
              rw [if_neg (by omega), if_neg (by omega), if_neg (by omega), if_pos ⟨rfl, hi⟩]
            · rw [hnew, Ecw 17 o' (by omega) (by omega), cW_n]
          · have hlt : o' < o := by omega
            obtain ⟨n', f', ⟨n1, n2, n3⟩, p1, p2, c1, c2, c3⟩ := K.2.2 o' (by rw [hO]; exact hlt)
            refine ⟨n', f', ⟨n1, ?_, fun j hj => ⟨(n3 j hj).1, (n3 j hj).2.1, ?_⟩⟩, p1, ?_, ?_, fun i hi => ?_, ?_⟩
            · rw [E 110 o' rfl (by omega) (by omega) (by omega) (by omega) (by omega) (by omega) (by omega) (by omega) (by omega)]; exact n2
            · rw [E 109 (120 * o' + j) rfl (by omega) (by omega) (by omega) (by omega) (by omega) (by omega) (by omega) (by omega) (by omega)]; exact (n3 j hj).2.2
            · rw [hcs o' hlt]; exact p2
            · rw [hcs o' hlt, Ecw 16 o' (by omega) (by omega), cW_g (by omega) (by omega) (by omega) (by omega)]; exact c1
            · rw [hcs o' hlt] at hi ⊢
              rw [Ecw (7 + o') i (by omega) (by omega), cW_g (by omega) (by omega) (by omega) (by omega)]; exact c2 i hi
            · rw [hcs o' hlt, Ecw 17 o' (by omega) (by omega), cW_g (by omega) (by omega) (by omega) (by omega)]; exact c3
        · refine ⟨0, f, ⟨Nat.zero_le _, ?_, ?_, fun j hj => absurd hj (Nat.not_lt_zero j)⟩⟩
          · rw [k6 1 1 (by omega) (by omega) (by omega), zsI_g, if_neg (by omega), v_o 1 1 rfl, ← hw1]; rfl
          · rw [k6 107 5 (by omega) (by omega) (by omega), zsI_g, if_pos ⟨rfl, rfl⟩]; rfl
    · -- a fault
      obtain ⟨v, m1, m2⟩ := M_fault1r (w := zsI (cW w o p em) 107 0 0) (n := n) (f := f) (by rw [z107 _ _ _ (by decide), cs 107 5 (Or.inl rfl)]; exact T.2.2.1) h120 (fun j hj => by
        rw [z_o _ _ _ _ _ _ (by decide), cs 108 j (Or.inr rfl)]
        exact ⟨(T.2.2.2 j hj).1, (T.2.2.2 j hj).2.1, (T.2.2.2 j hj).2.2.2⟩)
      rw [if_neg ok] at m1
      have J1 : zJ (cW w o p em) := by rw [← hO]; exact zJ_cW J p em
      have pl : (pAll f n).2.1 < 2 ^ 31 := by
        have hG := pOa_G (m := 13) (fun p hp => pU_G f n 6 p hp) 0 (Nat.zero_le n)
        unfold pAll at ok ⊢
        by_cases c : (pOa f n (pU f n 6) 0).1 = true
        · rw [if_pos c] at ok ⊢
          have a := (hG.1 c).2.1
          by_cases c2 : sg f n (pOa f n (pU f n 6) 0).2.1 = 0
          · rw [if_pos c2] at ok; exact absurd rfl ok
          · rw [if_neg c2]
            have := sk_le (f := f) a
            show sk f n _ < _
            omega
        · rw [if_neg c]
          have a := (hG.2 (by cases e : (pOa f n (pU f n 6) 0).1 with
            | false => rfl
            | true => exact absurd e c)).2.1
          show (pOa f n (pU f n 6) 0).2.1 < _
          omega
      have nm : ¬ nI (pAll f n).2.1 = (-1 : Int32) := by rw [n_m1 pl]; exact id
      refine ⟨-1, cW w o p em, v, ?_, ?_, zJ_E m2 (zJ_E (zE.rf _).m0 J1)⟩
      · unfold f_X_text_b66
        rw [if_pos (show (1 : Int32) = 1 from rfl), Oa_size' K hk, hO, zb_s, if_neg q8', e1, if_neg ok, zb_s, if_neg nm]
      · have o6 : (zsI (cW w o p em) 107 0 0).1 107 6 = nI o := by
          rw [z107 _ _ _ (by decide), cs 107 6 (Or.inl rfl), ← hO]
          exact K.C.2.2.2.1.2
        unfold f_M_text f_M_text_b29
        rw [zl_s, isIn_lit (1 : Int32) 2 rfl, zb_s, decide_eq_true i1, if_neg bt0, if_pos (show (1 : Int32) = 1 from rfl), o6, if_neg n8, m1, zb_s, if_neg nm]
end
