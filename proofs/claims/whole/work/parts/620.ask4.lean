/-! PURE: drawn, rows, alibi, hands -/
section
variable {u : gW}
theorem zus33 (y : Int64) : ∃ q, q < 2 ^ 31 ∧ zusL y (33 : Int32) = lN q := by
  have h := uN_lt y
  refine ⟨uN y / 2 ^ 33, by omega, uN_inj ?_⟩
  rw [show (33 : Int32) = nI 33 from rfl, uN_sk y (by decide)]
  exact (Nat.mod_eq_of_lt (show uN y / 2 ^ 33 < 18446744073709551616 by omega)).symm
theorem there21 (K : zK u) {w : gW} (h : zE u w) : w.1 107 21 = nI (yD u) := (h.k.i rfl).trans K.C.2.1.2
theorem M_fitsMany (J : zJ u) {w : gW} (h : zE u w) : ∃ w' : gW, f_M_fitsMany w = some (nI (fb_ct (yfi u) (yT u)), w') ∧ zE u w' := by
  have K := J.K
  have ht := K.T7
  have key := zfx_ind (fun _ _ _ => none) f_M_fitsMany_b4_s (fun m kk => ∀ k v, k + m = yT u → zE u v → ∃ w' : gW, kk (nI (fb_ct (yfi u) k)) (nI k) v = some (nI (fb_ct (yfi u) (yT u)), w') ∧ zE u w') (fun m kk ih k v hk hv => by
    unfold f_M_fitsMany_b4_s
    rw [hv.k.i rfl, K.L.2.2.2.2.1]
    cases m with
    | zero =>
      rw [if_pos (by rw [n_le (by omega) (by omega)]; omega), show k = yT u by omega]
      exact ⟨v, rfl, hv⟩
    | succ m =>
      rw [if_neg (by rw [n_le (by omega) (by omega)]; omega), if_pos (z_inbn (by omega) (by decide))]
      obtain ⟨w3, l3, m3, h3, F3⟩ := M_lf K J.R hv (k := k) (by omega)
      rw [F3]
      have s1 : fb_ct (yfi u) (k + 1) = fb_ct (yfi u) k + if yfi u k = true then 1 else 0 := fb_ct_succ _ _
      have go : ∀ c, fb_ct (yfi u) k + c = fb_ct (yfi u) (k + 1) → ∃ w' : gW, f_M_fitsMany_b35 kk (nI k) (nI (fb_ct (yfi u) k)) (nI c) w3 = some (nI (fb_ct (yfi u) (yT u)), w') ∧ zE u w' := by
        intro c hc
        unfold f_M_fitsMany_b35
        rw [nI_add, hc, zl_s, zl_s, n_1]
        exact ih m (by omega) (k + 1) w3 (by omega) h3
      cases hf : yfi u k with
      | false => rw [if_pos bf0]; exact go 0 (by rw [s1, hf]; rfl)
      | true => rw [if_neg bt0]; exact go 1 (by rw [s1, hf]; rfl)) zFU (yT u) (zfu (by omega))
  exact key 0 w (by omega) h
theorem ct_one {p : Nat → Bool} {i j : Nat} (hi : p i = true) (hj : p j = true) (e : fb_ct p i = fb_ct p j) : i = j := by
  apply Classical.byContradiction
  intro z
  rcases Nat.lt_or_gt_of_ne z with z | z
  · have := fb_ct_lt z hi; omega
  · have := fb_ct_lt z hj; omega
theorem ct_kth {p : Nat → Bool} {j : Nat} : ∀ {n : Nat}, j < fb_ct p n → ∃ k, k < n ∧ p k = true ∧ fb_ct p k = j
  | 0, h => absurd h (Nat.not_lt_zero j)
  | n + 1, h => by
    by_cases q : j < fb_ct p n
    · obtain ⟨k, a, b⟩ := ct_kth q
      exact ⟨k, by omega, b⟩
    · rw [fb_ct_succ] at h
      refine ⟨n, by omega, ?_, ?_⟩
      · cases e : p n with
        | true => rfl
        | false => rw [e] at h; simp at h; omega
      · split at h <;> omega
theorem q_drawn (J : zJ u) (a : Int64) : zQ u (f_X_drawn a) (f_M_drawn a) := by
  have K := J.K
  have ht := K.T7
  have h5 := K.D5
  have hn := nW_le K
  by_cases gd : 0 < yD u
  · obtain ⟨q, hq, eq⟩ := zus33 ((a * (6364136223846793005 : Int64)) + (1442695040888963407 : Int64))
    have hc := fb_ct_le (yfi u) (yT u)
    have hz : ¬ nI (yD u) = 0 := nI_ne0 gd (by omega)
    by_cases c0 : fb_ct (yfi u) (yT u) = 0
    · refine ⟨-1, fun v hv => ⟨v, ?_, hv⟩, fun v hv => ?_⟩
      · unfold f_X_drawn f_Ch_drawnBy f_Co_fitting
        rw [La_isThere' K hv.k, zb_s, decide_eq_true gd, if_neg bt0, zb_s, La_words' K hv.k, zb_s, show f_Ro_size 76 (nI ((yT u + 63) / 64)) v = _ from Ro_size' K row_76 v, zb_s, ct_fit K J.C hv, c0, if_neg (show ¬ 0 < nI 0 by decide), zb_s]
      · obtain ⟨v1, e1, e2⟩ := M_fitsMany J hv.m0
        refine ⟨v1, ?_, e2⟩
        unfold f_M_drawn
        rw [zl_s, there21 K hv.m0, if_neg hz, e1, zb_s, c0, if_pos (show nI 0 = 0 from rfl)]
    · have hpos : 0 < nI (fb_ct (yfi u) (yT u)) := by rw [show (0 : Int32) = nI 0 from rfl, n_lt (by omega) (by omega)]; omega
      have hl : (nI (fb_ct (yfi u) (yT u))).toInt64 = lN (fb_ct (yfi u) (yT u)) := nI_l (by omega)
      have hl0 : ¬ lN (fb_ct (yfi u) (yT u)) = 0 := by
        intro z
        have z2 : lN (fb_ct (yfi u) (yT u)) = lN 0 := z
        exact c0 ((pk_lEQ (by omega) (by omega)).mp z2)
      have hidx : (lN q - lN q / lN (fb_ct (yfi u) (yT u)) * lN (fb_ct (yfi u) (yT u))).toInt32 = nI (q % fb_ct (yfi u) (yT u)) := by
        rw [pk_lRem (by omega) (by omega) (by omega), lN_i]
      have hj : q % fb_ct (yfi u) (yT u) < fb_ct (yfi u) (yT u) := Nat.mod_lt _ (by omega)
      generalize q % fb_ct (yfi u) (yT u) = j at hidx hj
      obtain ⟨k, k1, k2, k3⟩ := ct_kth hj
      refine ⟨nI (yN u k), fun v hv => ⟨v, ?_, hv⟩, fun v hv => ?_⟩
      · unfold f_X_drawn f_Ch_drawnBy f_Co_fitting
        rw [La_isThere' K hv.k, zb_s, decide_eq_true gd, if_neg bt0, zb_s, La_words' K hv.k, zb_s, show f_Ro_size 76 (nI ((yT u + 63) / 64)) v = _ from Ro_size' K row_76 v, zb_s, ct_fit K J.C hv, if_pos hpos, zl_s, zb_s, La_words' K hv.k, zb_s, hl, if_pos hl0, eq, hidx]
        have hcut : ∀ k, k ≤ yT u → fb_ct (zbt v 76) k = fb_ct (yfi u) k := fun k hk => fb_ct_cong (fun i hi => by rw [fit_b J.C hv (by omega), decide_eq_true (by omega), Bool.true_and])
        rcases Ro_pick' K row_76 v (j := j) (by omega) with ⟨i, i1, i2, i3, i4⟩ | ⟨i1, -⟩
        · rw [fit_b J.C hv (by omega), Bool.and_eq_true, decide_eq_true_eq] at i2
          rw [hcut i (by omega)] at i3
          have : i = k := ct_one i2.2 k2 (by omega)
          subst this
          rw [show f_Ro_pick 76 (nI ((yT u + 63) / 64)) (nI j) v = _ from i4, zb_s, La_numberAt' K hv.k k1, zb_s, zb_s]
        · rw [ct_fit K J.C hv] at i1
          omega
      · obtain ⟨v1, e1, e2⟩ := M_fitsMany J hv.m0
        have hne : ¬ nI (fb_ct (yfi u) (yT u)) = 0 := nI_ne0 (by omega) (by omega)
        have fin : ∀ fu x (y i : Nat) w, y < 2 ^ 31 → i ≤ yT u → zE u w → zfx (fun _ _ _ _ => none) f_M_drawn_b53_s (fu + 1) x (nI y) (nI i) w = some (nI y, w) := by
          intro fu x y i w hy hi hw
          rw [zfx_s]
          unfold f_M_drawn_b53_s f_M_drawn_b112
          rw [hw.k.i rfl, K.L.2.2.2.2.1]
          by_cases z : yT u ≤ i
          · rw [if_pos (by rw [n_le (by omega) (by omega)]; exact z)]
          · have hm1 : ¬ nI y = (-1 : Int32) := by rw [n_m1 hy]; exact id
            rw [if_neg (by rw [n_le (by omega) (by omega)]; exact z), if_neg hm1]
        have key : ∀ fu m i w, m + 1 < fu → i + m = yT u → zE u w → fb_ct (yfi u) i ≤ j → i ≤ k → ∃ w' : gW, zfx (fun _ _ _ _ => none) f_M_drawn_b53_s fu (nI (j - fb_ct (yfi u) i)) (-1) (nI i) w = some (nI (yN u k), w') ∧ zE u w' := by
          intro fu
          induction fu with
          | zero => intro m i w h; exact absurd h (Nat.not_lt_zero _)
          | succ fu ih =>
            intro m i w hf hi hw hle hik
            obtain ⟨fu, rfl⟩ : ∃ f, fu = f + 1 := ⟨fu - 1, by omega⟩
            rw [zfx_s]
            have finK := fin fu
            generalize zfx (fun _ _ _ _ => none) f_M_drawn_b53_s (fu + 1) = kk at ih finK ⊢
            unfold f_M_drawn_b53_s
            rw [hw.k.i rfl, K.L.2.2.2.2.1, if_neg (by rw [n_le (by omega) (by omega)]; omega), if_pos zm1, if_pos (z_inbn (by omega) (by decide))]
            obtain ⟨w3, l3, m3, h3, F3⟩ := M_lf K J.R hw (k := i) (by omega)
            rw [F3]
            have s1 : fb_ct (yfi u) (i + 1) = fb_ct (yfi u) i + if yfi u i = true then 1 else 0 := fb_ct_succ _ _
            cases hfi : yfi u i with
            | false =>
              rw [if_pos bf0]
              unfold f_M_drawn_b106
              rw [zl_s, n_1]
              have hne2 : i ≠ k := fun z => by rw [z, k2] at hfi; cases hfi
              rw [hfi] at s1
              have s2 : fb_ct (yfi u) (i + 1) = fb_ct (yfi u) i := s1
              have := ih (m - 1) (i + 1) w3 (by omega) (by omega) h3 (by omega) (by omega)
              rw [s2] at this
              exact this
            | true =>
              rw [if_neg bt0]
              rw [hfi] at s1
              have s2 : fb_ct (yfi u) (i + 1) = fb_ct (yfi u) i + 1 := s1
              unfold f_M_drawn_b103 f_M_drawn_b106
              by_cases z : fb_ct (yfi u) i = j
              · have : i = k := ct_one hfi k2 (by omega)
                subst this
                have yl := yN_lt K i
                rw [if_pos (by rw [z, Nat.sub_self]; rfl), if_pos (z_inbn (by omega) (by decide)), z_ix (by omega), h3.k.i rfl, K.L.2.2.2.2.2.1 i (by omega), zl_s, zl_s, zl_s, n_1, finK _ _ (i + 1) w3 (by omega) (by omega) h3]
                exact ⟨w3, rfl, h3⟩
              · have hne2 : ¬ nI (j - fb_ct (yfi u) i) = 0 := nI_ne0 (by omega) (by omega)
                have em : nI (j - fb_ct (yfi u) i) + (-1 : Int32) = nI (j - fb_ct (yfi u) (i + 1)) := by
                  rw [show j - fb_ct (yfi u) i = (j - fb_ct (yfi u) (i + 1)) + 1 by omega]
                  exact pk_m1 _
                rw [if_neg hne2, em, zl_s, zl_s, n_1]
                have hik2 : i < k := by
                  apply Nat.lt_of_le_of_ne hik
                  intro z2
                  subst z2
                  exact z k3
                exact ih (m - 1) (i + 1) w3 (by omega) (by omega) h3 (by omega) (by omega)
        obtain ⟨v2, f1, f2⟩ := key zFU (yT u) 0 v1 (zfu (show yT u + 1 < 99999 by omega)) (by omega) e2 (Nat.zero_le _) (Nat.zero_le _)
        refine ⟨v2, ?_, f2⟩
        unfold f_M_drawn f_M_drawn_b53
        rw [zl_s, there21 K hv.m0, if_neg hz, e1, zb_s, if_neg hne, zl_s, hl, if_pos hl0, eq, hidx, zl_s]
        exact f1
  · have hd : yD u = 0 := by omega
    refine ⟨-1, fun v hv => ⟨v, ?_, hv⟩, fun v hv => ⟨_, ?_, hv.m0⟩⟩
    · unfold f_X_drawn
      rw [La_isThere' K hv.k, zb_s, decide_eq_false gd, if_pos bf0]
    · unfold f_M_drawn
      rw [zl_s, there21 K hv.m0, hd, if_pos (show nI 0 = 0 from rfl)]
end
