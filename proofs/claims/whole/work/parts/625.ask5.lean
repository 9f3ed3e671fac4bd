/-! PURE: rows, alibi, hands -/
section
variable {u : gW}
theorem ct_ww {q : Nat → Bool} {x : Int64} {W : Nat} (h : ∀ b, b < 64 → bL x b = q (64 * W + b)) : fb_ct q (64 * W) + fb_ct (bL x) 64 = fb_ct q (64 * (W + 1)) := by
  rw [show 64 * (W + 1) = 64 * W + 64 by omega, fb_ct_split]
  congr 1
  exact fb_ct_cong (fun k hk => h k hk)
theorem ct_end {p : Nat → Bool} : fb_ct (fun k => decide (k < yT u) && p k) (64 * nW u) = fb_ct p (yT u) := by
  refine ct_cut (fun k hk => ?_) (fun k h1 h2 => ?_) (by unfold nW; omega)
  · show (decide (k < yT u) && p k) = p k
    rw [decide_eq_true hk, Bool.true_and]
  · show (decide (k < yT u) && p k) = false
    rw [decide_eq_false (by omega), Bool.false_and]
def yRo (u : gW) (a b t k : Nat) : Bool := yfi u k && decide (yd u k a ≠ 9 ∧ yd u k b ≠ 9 ∧ (if t = 0 then yd u k a < yd u k b else if t = 1 then yd u k b < yd u k a else yd u k a = yd u k b))
theorem isIn_lit (a : Int32) {c : Int64} (m : Nat) (hc : c.toInt + 1 = (m : Int)) (w : gW) : f_M_isIn a.toInt64 0 c w = some (bI (decide (0 ≤ a.toInt ∧ a.toInt < (m : Int))), w) := by
  rw [M_in a m hc, zbl_b]
theorem q_rows (J : zJ u) (x y z : Int32) : zQ u (f_X_rows x y z) (f_M_rows x y z) := by
  have K := J.K
  have ht := K.T7
  have h5 := K.D5
  have h6 := K.Y6
  have hn := nW_le K
  by_cases g : gE u x = true ∧ gE u y = true ∧ x ≠ y ∧ (0 ≤ z.toInt ∧ z.toInt < (3 : Nat))
  · obtain ⟨g1, g2, g3, g4⟩ := g
    obtain ⟨a, rfl, ha⟩ := gE_t g1
    obtain ⟨b, rfl, hb⟩ := gE_t g2
    obtain ⟨ez, lz⟩ := z_nIx g4
    generalize ix z = t at ez lz
    subst ez
    refine ⟨nI (fb_ct (yRo u a b t) (yT u)), fun v hv => ⟨v, ?_, hv⟩, fun v hv => ?_⟩
    · have hwd : ∀ W, W < 263 → ∃ x : Int64, (∀ b', b' < 64 → (bL (x &&& v.2 76 W) b' = (decide (64 * W + b' < yT u) && yRo u a b t (64 * W + b')))) ∧ ∀ (kk : Int32 → Int32 → Int32 → Int32 → Int32 → gW → Option (Int32 × gW)) (c : Int32), (if nI t = (2 : Int32) then (zb (f_La_dayCount v) (fun v14 w15 => zb (f_La_togetherWord (nI a) (nI b) v14 (nI W) w15) (fun v16 w17 => f_Ch_ordered_b88 kk (nI a) (nI b) (nI t) c (nI W) v16 w17))) else (if nI t = (1 : Int32) then (zb (f_La_dayCount v) (fun v10 w11 => zb (f_La_beforeWord (nI b) (nI a) v10 (nI W) w11) (fun v12 w13 => f_Ch_ordered_b88 kk (nI a) (nI b) (nI t) c (nI W) v12 w13))) else (zb (f_La_dayCount v) (fun v6 w7 => zb (f_La_beforeWord (nI a) (nI b) v6 (nI W) w7) (fun v8 w9 => f_Ch_ordered_b88 kk (nI a) (nI b) (nI t) c (nI W) v8 w9))))) = f_Ch_ordered_b88 kk (nI a) (nI b) (nI t) c (nI W) x v := by
        intro W hW
        have hd : f_La_dayCount v = some (nI (yY u), v) := by unfold f_La_dayCount; rw [hv.k.i rfl, K.C.2.2.1.1]
        have hbits : ∀ (x : Int64) (P : Nat → Bool), (∀ b', b' < 64 → 64 * W + b' < yT u → bL x b' = P (64 * W + b')) → (∀ k, k < yT u → P k = decide (yd u k a ≠ 9 ∧ yd u k b ≠ 9 ∧ (if t = 0 then yd u k a < yd u k b else if t = 1 then yd u k b < yd u k a else yd u k a = yd u k b))) → ∀ b', b' < 64 → (bL (x &&& v.2 76 W) b' = (decide (64 * W + b' < yT u) && yRo u a b t (64 * W + b'))) := by
          intro x P h1 h2 b' hb'
          rw [bL_and, fit_w J.C hv hW hb']
          unfold yRo
          by_cases q : 64 * W + b' < yT u
          · rw [h1 b' hb' q, h2 _ q, decide_eq_true q, Bool.true_and, Bool.true_and, Bool.and_comm]
          · rw [decide_eq_false q, Bool.false_and, Bool.false_and, Bool.and_false]
        by_cases t2 : t = 2
        · subst t2
          refine ⟨yTo u a b W (yY u), hbits _ (fun k => decide (yd u k a = yd u k b ∧ yd u k b < yY u)) (fun b' hb' q => yTo_b K ha hb hb' q _ (by omega)) (fun k hk => ?_), fun kk c => ?_⟩
          · have a1 := (K.d9 ha k).2
            have a2 := (K.d9 hb k).2
            rw [Bool.eq_iff_iff, decide_eq_true_eq, decide_eq_true_eq, if_neg (by decide), if_neg (by decide)]
            omega
          · rw [if_pos (show nI 2 = (2 : Int32) from rfl), hd, zb_s, La_togetherWord' K hv.k (by omega) (by omega) (by omega) hW, zb_s, if_pos ⟨ha, hb⟩]
        · by_cases t1 : t = 1
          · subst t1
            refine ⟨yBe u b a W (yY u), hbits _ (fun k => decide (yd u k b < yd u k a ∧ yd u k a < yY u)) (fun b' hb' q => yBe_b K hb ha hb' q _ (by omega)) (fun k hk => ?_), fun kk c => ?_⟩
            · have a1 := (K.d9 ha k).2
              have a2 := (K.d9 hb k).2
              rw [Bool.eq_iff_iff, decide_eq_true_eq, decide_eq_true_eq, if_neg (by decide), if_pos rfl]
              omega
            · rw [if_neg (show ¬ nI 1 = (2 : Int32) by decide), if_pos (show nI 1 = (1 : Int32) from rfl), hd, zb_s, La_beforeWord' K hv.k (by omega) (by omega) (by omega) hW, zb_s, if_pos ⟨hb, ha⟩]
          · have t0 : t = 0 := by omega
            subst t0
            refine ⟨yBe u a b W (yY u), hbits _ (fun k => decide (yd u k a < yd u k b ∧ yd u k b < yY u)) (fun b' hb' q => yBe_b K ha hb hb' q _ (by omega)) (fun k hk => ?_), fun kk c => ?_⟩
            · have a1 := (K.d9 ha k).2
              have a2 := (K.d9 hb k).2
              rw [Bool.eq_iff_iff, decide_eq_true_eq, decide_eq_true_eq, if_pos rfl]
              omega
            · rw [if_neg (show ¬ nI 0 = (2 : Int32) by decide), if_neg (show ¬ nI 0 = (1 : Int32) by decide), hd, zb_s, La_beforeWord' K hv.k (by omega) (by omega) (by omega) hW, zb_s, if_pos ⟨ha, hb⟩]
      have key := zfx_ind (fun _ _ _ _ _ _ => none) f_Ch_ordered_b6_s (fun m kk => ∀ W, W + m = nW u → kk (nI a) (nI b) (nI t) (nI (fb_ct (fun k => decide (k < yT u) && yRo u a b t k) (64 * W))) (nI W) v = some (nI (fb_ct (yRo u a b t) (yT u)), v)) (fun m kk ih W hW => by
        unfold f_Ch_ordered_b6_s
        rw [La_words' K hv.k, zb_s]
        show (if nI (nW u) ≤ nI W then _ else _) = _
        cases m with
        | zero =>
          rw [if_pos (by rw [n_le (by omega) (by omega)]; omega), show W = nW u by omega, ct_end]
        | succ m =>
          rw [if_neg (by rw [n_le (by omega) (by omega)]; omega)]
          obtain ⟨x, x1, x2⟩ := hwd W (by omega)
          rw [x2]
          unfold f_Ch_ordered_b88 f_Co_fitting
          rw [zb_s, Ro_word' row_76 (by omega), zb_s, Lng_bitCount, zb_s, nI_add, ct_ww x1, zl_s, zl_s, n_1]
          exact ih m (by omega) (W + 1) (by omega)) zFU (nW u) (zfu (by omega))
      have z2 : ¬ (2 : Int32) < nI t := by rw [show (2 : Int32) = nI 2 from rfl, n_lt (by omega) (by omega)]; omega
      unfold f_X_rows f_X_rows_b32 f_Ch_ordered
      rw [La_hasDeedB K hv.k, zb_s, g1, if_neg bt0, La_hasDeedB K hv.k, zb_s, g2, if_neg bt0, if_neg g3, if_neg z10, if_neg (nI_pos (by omega)), if_neg z2, show f_Ch_ordered_b6 (nI a) (nI b) (nI t) (0 : Int32) (0 : Int32) v = _ from key 0 (by omega), zb_s]
    · have key := zfx_ind (fun _ _ _ _ _ _ => none) f_M_rows_b46_s (fun m kk => ∀ k v, k + m = yT u → zE u v → ∃ w' : gW, kk (nI a) (nI b) (nI t) (nI (fb_ct (yRo u a b t) k)) (nI k) v = some (nI (fb_ct (yRo u a b t) (yT u)), w') ∧ zE u w') (fun m kk ih k v hk hv => by
        unfold f_M_rows_b46_s
        rw [hv.k.i rfl, K.L.2.2.2.2.1]
        cases m with
        | zero =>
          rw [if_pos (by rw [n_le (by omega) (by omega)]; omega), show k = yT u by omega]
          exact ⟨v, rfl, hv⟩
        | succ m =>
          rw [if_neg (by rw [n_le (by omega) (by omega)]; omega), if_pos (z_inbn (by omega) (by decide))]
          obtain ⟨w3, l3, m3, h3, F3⟩ := M_lf K J.R hv (k := k) (by omega)
          rw [F3]
          have s1 : fb_ct (yRo u a b t) (k + 1) = fb_ct (yRo u a b t) k + if yRo u a b t k = true then 1 else 0 := fb_ct_succ _ _
          have go : ∀ c, c = fb_ct (yRo u a b t) (k + 1) → ∃ w' : gW, f_M_rows_b168 kk (nI a) (nI b) (nI t) (nI c) (nI k) w3 = some (nI (fb_ct (yRo u a b t) (yT u)), w') ∧ zE u w' := by
            intro c hc
            subst hc
            unfold f_M_rows_b168
            rw [zl_s, n_1]
            exact ih m (by omega) (k + 1) w3 (by omega) h3
          have no : yRo u a b t k = false → ∃ w' : gW, f_M_rows_b168 kk (nI a) (nI b) (nI t) (nI (fb_ct (yRo u a b t) k)) (nI k) w3 = some (nI (fb_ct (yRo u a b t) (yT u)), w') ∧ zE u w' := fun e => go _ (by rw [s1, e]; rfl)
          have i1 : inb (nI a) 5 := z_inbn (by omega) (by decide)
          have i2 : inb (nI b) 5 := z_inbn (by omega) (by decide)
          have a9 := (K.d9 ha k).1
          have b9 := (K.d9 hb k).1
          cases hf : yfi u k with
          | false =>
            rw [if_pos bf0]
            exact no (by unfold yRo; rw [hf]; rfl)
          | true =>
            have ey : yRo u a b t k = decide (yd u k a ≠ 9 ∧ yd u k b ≠ 9 ∧ (if t = 0 then yd u k a < yd u k b else if t = 1 then yd u k b < yd u k a else yd u k a = yd u k b)) := by unfold yRo; rw [hf, Bool.true_and]
            have n164 : yRo u a b t k = false → ∃ w' : gW, f_M_rows_b164 kk (nI a) (nI b) (nI t) (nI k) (nI (fb_ct (yRo u a b t) k)) w3 = some (nI (fb_ct (yRo u a b t) (yT u)), w') ∧ zE u w' := by
              intro e
              unfold f_M_rows_b164 f_M_rows_b165
              rw [show (0 : Int32) = nI 0 from rfl, nI_add, zl_s]
              exact no e
            have n160 : yRo u a b t k = true → ∃ w' : gW, f_M_rows_b160 kk (nI a) (nI b) (nI t) (nI k) (nI (fb_ct (yRo u a b t) k)) w3 = some (nI (fb_ct (yRo u a b t) (yT u)), w') ∧ zE u w' := by
              intro e
              unfold f_M_rows_b160 f_M_rows_b165
              rw [show (1 : Int32) = nI 1 from rfl, nI_add, zl_s]
              exact go _ (by rw [s1, e]; rfl)
            have e9 : ∀ y, y ≤ 9 → ((nI y = (9 : Int32)) ↔ y = 9) := fun y hy => n_eq (b := 9) (by omega) (by omega)
            rw [if_neg bt0]
            simp only [if_pos i1, if_pos i2]
            rw [z_ix (show a < 2 ^ 31 by omega), z_ix (show b < 2 ^ 31 by omega), l3 a ha, l3 b hb]
            by_cases q1 : yd u k a = 9
            · rw [if_pos ((e9 _ a9).mpr q1)]
              exact no (by rw [ey, decide_eq_false (fun z => z.1 q1)])
            rw [if_neg (fun z => q1 ((e9 _ a9).mp z))]
            by_cases q2 : yd u k b = 9
            · rw [if_pos ((e9 _ b9).mpr q2)]
              exact no (by rw [ey, decide_eq_false (fun z => z.2.1 q2)])
            rw [if_neg (fun z => q2 ((e9 _ b9).mp z))]
            have et : ∀ c, c < 3 → ((nI t = nI c) ↔ t = c) := fun c hc => n_eq (by omega) (by omega)
            by_cases t0 : t = 0
            · rw [if_pos (show nI t = 0 from (et 0 (by decide)).mpr t0)]
              have ez : yRo u a b t k = decide (yd u k a < yd u k b) := by
                rw [ey, Bool.eq_iff_iff, decide_eq_true_eq, decide_eq_true_eq, if_pos t0]
                exact ⟨fun z => z.2.2, fun z => ⟨q1, q2, z⟩⟩
              by_cases q3 : yd u k b ≤ yd u k a
              · rw [if_pos ((n_le (by omega) (by omega)).mpr q3)]
                exact n164 (by rw [ez, decide_eq_false (by omega)])
              · rw [if_neg (fun z => q3 ((n_le (by omega) (by omega)).mp z))]
                exact n160 (by rw [ez, decide_eq_true (by omega)])
            · rw [if_neg (show ¬ nI t = 0 from fun z => t0 ((et 0 (by decide)).mp z))]
              by_cases t1 : t = 1
              · rw [if_pos (show nI t = (1 : Int32) from (et 1 (by decide)).mpr t1)]
                have ez : yRo u a b t k = decide (yd u k b < yd u k a) := by
                  rw [ey, Bool.eq_iff_iff, decide_eq_true_eq, decide_eq_true_eq, if_neg t0, if_pos t1]
                  exact ⟨fun z => z.2.2, fun z => ⟨q1, q2, z⟩⟩
                by_cases q3 : yd u k a ≤ yd u k b
                · rw [if_pos ((n_le (by omega) (by omega)).mpr q3)]
                  exact n164 (by rw [ez, decide_eq_false (by omega)])
                · rw [if_neg (fun z => q3 ((n_le (by omega) (by omega)).mp z))]
                  exact n160 (by rw [ez, decide_eq_true (by omega)])
              · rw [if_neg (show ¬ nI t = (1 : Int32) from fun z => t1 ((et 1 (by decide)).mp z))]
                have ez : yRo u a b t k = decide (yd u k a = yd u k b) := by
                  rw [ey, Bool.eq_iff_iff, decide_eq_true_eq, decide_eq_true_eq, if_neg t0, if_neg t1]
                  exact ⟨fun z => z.2.2, fun z => ⟨q1, q2, z⟩⟩
                by_cases q3 : yd u k a = yd u k b
                · rw [if_pos ((n_eq (by omega) (by omega)).mpr q3)]
                  exact n160 (by rw [ez, decide_eq_true q3])
                · rw [if_neg (fun z => q3 ((n_eq (by omega) (by omega)).mp z))]
                  exact n164 (by rw [ez, decide_eq_false q3])) zFU (yT u) (zfu (by omega))
      obtain ⟨v1, e1, e2⟩ := key 0 _ (by omega) hv.m0
      refine ⟨v1, ?_, e2⟩
      unfold f_M_rows
      rw [zl_s, M_isDeedB K hv.m0.k, zb_s, g1, if_neg bt0, M_isDeedB K hv.m0.k, zb_s, g2, if_neg bt0, if_neg g3, isIn_lit (nI t) (c := 2) 3 rfl, zb_s, decide_eq_true g4, if_neg bt0]
      exact e1
  · refine ⟨-1, fun v hv => ⟨v, ?_, hv⟩, fun v hv => ⟨_, ?_, hv.m0⟩⟩
    · unfold f_X_rows f_X_rows_b31 f_X_rows_b32
      rw [La_hasDeedB K hv.k, zb_s]
      cases g1 : gE u x with
      | false => rw [if_pos bf0, if_pos z00]
      | true =>
        rw [if_neg bt0, La_hasDeedB K hv.k, zb_s]
        cases g2 : gE u y with
        | false => rw [if_pos bf0, if_pos z00]
        | true =>
          rw [if_neg bt0]
          by_cases g3 : x = y
          · rw [if_pos g3, if_pos z00]
          · rw [if_neg g3, if_neg z10]
            have g4 : ¬ (0 ≤ z.toInt ∧ z.toInt < (3 : Nat)) := fun q => g ⟨g1, g2, g3, q⟩
            by_cases c1 : z < 0
            · rw [if_pos c1]
            · have c2 : (2 : Int32) < z := by
                rw [i_lt, show (2 : Int32).toInt = 2 from rfl]
                rw [i_lt, i_0] at c1
                omega
              rw [if_neg c1, if_pos c2]
    · unfold f_M_rows
      rw [zl_s, M_isDeedB K hv.m0.k, zb_s]
      cases g1 : gE u x with
      | false => rw [if_pos bf0]
      | true =>
        rw [if_neg bt0, M_isDeedB K hv.m0.k, zb_s]
        cases g2 : gE u y with
        | false => rw [if_pos bf0]
        | true =>
          rw [if_neg bt0]
          by_cases g3 : x = y
          · rw [if_pos g3]
          · have g4 : ¬ (0 ≤ z.toInt ∧ z.toInt < (3 : Nat)) := fun q => g ⟨g1, g2, g3, q⟩
            rw [if_neg g3, isIn_lit z (c := 2) 3 rfl, zb_s, decide_eq_false g4, if_pos bf0]
end
