/-! PURE: question -/
def sQ (q : Option (Nat × Nat)) (code yes no : Nat) : Option (Nat × Nat) := if yes = 0 ∨ no = 0 then q else match q with
  | none => some (code, max yes no)
  | some p => if max yes no < p.2 then some (code, max yes no) else some p
def yY1 (u : gW) (d y k : Nat) : Bool := yfi u k && decide (yd u k d ≤ y)
def yN1 (u : gW) (d y k : Nat) : Bool := yfi u k && !decide (yd u k d ≤ y)
def qD (u : gW) (d : Nat) (q : Option (Nat × Nat)) : Nat → Option (Nat × Nat)
  | 0 => q
  | y + 1 => sQ (qD u d q y) (10 * d + y) (fb_ct (yY1 u d y) (yT u)) (fb_ct (yN1 u d y) (yT u))
def qA (u : gW) : Nat → Option (Nat × Nat)
  | 0 => none
  | d + 1 => qD u d (qA u d) (yY u)
section
variable {u : gW}
theorem yes_no (d y : Nat) : ∀ n, fb_ct (yY1 u d y) n + fb_ct (yN1 u d y) n = fb_ct (yfi u) n
  | 0 => rfl
  | n + 1 => by
    have ih := yes_no d y n
    rw [fb_ct_succ, fb_ct_succ, fb_ct_succ]
    unfold yY1 yN1 at ih ⊢
    cases yfi u n <;> cases decide (yd u n d ≤ y) <;> simp <;> omega
/-- the class's best and its part, by the option -/
def qx (q : Option (Nat × Nat)) : Int32 := match q with
  | none => -1
  | some p => nI p.1
def qp (all : Nat) (q : Option (Nat × Nat)) : Nat := match q with
  | none => all
  | some p => p.2
theorem qx_n : qx none = -1 := rfl
theorem qx_s (p : Nat × Nat) : qx (some p) = nI p.1 := rfl
theorem qp_n (a : Nat) : qp a none = a := rfl
theorem qp_s (a : Nat) (p : Nat × Nat) : qp a (some p) = p.2 := rfl
def qOk (u : gW) (q : Option (Nat × Nat)) : Prop := ∀ p, q = some p → p.1 < 100 ∧ p.2 < fb_ct (yfi u) (yT u)
theorem sQ_ok {q : Option (Nat × Nat)} {code yes no : Nat} (h : qOk u q) (hc : code < 100) (hs : yes + no = fb_ct (yfi u) (yT u)) : qOk u (sQ q code yes no) := by
  intro p hp
  unfold sQ at hp
  by_cases z : yes = 0 ∨ no = 0
  · rw [if_pos z] at hp; exact h p hp
  · rw [if_neg z] at hp
    cases q with
    | none => dsimp only at hp; cases hp; exact ⟨hc, by show max yes no < _; omega⟩
    | some p2 =>
      dsimp only at hp
      split at hp
      · cases hp; exact ⟨hc, by show max yes no < _; omega⟩
      · cases hp; exact h _ rfl
theorem qD_ok (K : zK u) {d : Nat} (hd : d < yD u) {q : Option (Nat × Nat)} (h : qOk u q) : ∀ y, y ≤ yY u → qOk u (qD u d q y)
  | 0, _ => h
  | y + 1, hy => by
    have h5 := K.D5
    have h6 := K.Y6
    exact sQ_ok (qD_ok K hd h y (by omega)) (by omega) (yes_no d y (yT u))
theorem qA_ok (K : zK u) : ∀ d, d ≤ yD u → qOk u (qA u d)
  | 0, _ => fun p hp => by cases hp
  | d + 1, hd => qD_ok K (by omega) (qA_ok K d (by omega)) (yY u) (Nat.le_refl _)
theorem Ch_count (K : zK u) (C : jCou u) {w : gW} (h : zE u w) {d y : Nat} (hd : d < yD u) (hy : y < yY u) : f_Ch_countDone (nI d) (nI (y + 1)) w = some (nI (fb_ct (yY1 u d y) (yT u)), w) := by
  have hn := nW_le K
  have ht := K.T7
  have h5 := K.D5
  have h6 := K.Y6
  have key := zfx_ind (fun _ _ _ _ _ => none) f_Ch_countDone_b5_s (fun m kk => ∀ W, W + m = nW u → kk (nI d) (nI (y + 1)) (nI (fb_ct (fun k => decide (k < yT u) && yY1 u d y k) (64 * W))) (nI W) w = some (nI (fb_ct (yY1 u d y) (yT u)), w)) (fun m kk ih W hW => by
    unfold f_Ch_countDone_b5_s f_Co_fitting
    rw [La_words' K h.k, zb_s]
    show (if nI (nW u) ≤ nI W then _ else _) = _
    cases m with
    | zero =>
      rw [if_pos (by rw [n_le (by omega) (by omega)]; omega), show W = nW u by omega, ct_end]
    | succ m =>
      rw [if_neg (by rw [n_le (by omega) (by omega)]; omega), La_seenWord' K h.k (by omega) (by omega) (by omega), zb_s, if_pos hd, zb_s, Ro_word' row_76 (by omega), zb_s, Lng_bitCount, zb_s, nI_add, ct_ww (q := fun k => decide (k < yT u) && yY1 u d y k) (fun b hb => ?_), zl_s, zl_s, n_1]
      · exact ih m (by omega) (W + 1) (by omega)
      · rw [bL_and, fit_w C h (by omega) hb]
        show _ = (decide (64 * W + b < yT u) && (yfi u (64 * W + b) && decide (yd u (64 * W + b) d ≤ y)))
        by_cases q : 64 * W + b < yT u
        · rw [ySe_b K hd (by omega) hb q, decide_eq_true q, Bool.true_and, Bool.true_and, Bool.and_comm]
          congr 1
          rw [Bool.eq_iff_iff, decide_eq_true_eq, decide_eq_true_eq]
          omega
        · rw [decide_eq_false q, Bool.false_and, Bool.false_and, Bool.and_false]) zFU (nW u) (zfu (by omega))
  exact key 0 (by omega)
theorem n_max {a b : Nat} (ha : a < 2 ^ 31) (hb : b < 2 ^ 31) : (if nI a < nI b then nI b else nI a) = nI (max a b) := by
  by_cases q : a < b
  · rw [if_pos ((n_lt ha hb).mpr q), Nat.max_eq_right (by omega)]
  · rw [if_neg (fun z => q ((n_lt ha hb).mp z)), Nat.max_eq_left (by omega)]
def qRes (u : gW) (t : Nat) : Int32 := match qA u (yD u) with
  | none => -1
  | some p => if t = 0 then nI p.1 else nI p.2
theorem X_quest (K : zK u) (C : jCou u) {w : gW} (h : zE u w) {t : Nat} (ht2 : t < 2) : f_Ch_bestQuestion (nI t) w = some (qRes u t, w) := by
  have ht := K.T7
  have h5 := K.D5
  have h6 := K.Y6
  have hall := fb_ct_le (yfi u) (yT u)
  unfold f_Ch_bestQuestion f_Co_fitting
  rw [zb_s, La_words' K h.k, zb_s, show f_Ro_size 76 (nI ((yT u + 63) / 64)) w = _ from Ro_size' K row_76 w, zb_s, ct_fit K C h]
  have key := zfx_ind (fun _ _ _ _ _ _ => none) f_Ch_bestQuestion_b26_s (fun m kk => ∀ d, d + m = yD u → kk (nI t) (nI (fb_ct (yfi u) (yT u))) (qx (qA u d)) (nI (qp (fb_ct (yfi u) (yT u)) (qA u d))) (nI d) w = some (qRes u t, w)) (fun m kk ih d hd => by
    have hok := qA_ok K d (by omega)
    unfold f_Ch_bestQuestion_b26_s f_Ch_bestQuestion_b117
    rw [La_deedCount' K h.k, zb_s]
    cases m with
    | zero =>
      rw [if_pos (by rw [n_le (by omega) (by omega)]; omega)]
      have ed : d = yD u := by omega
      subst ed
      unfold qRes
      cases e : qA u (yD u) with
      | none => rw [qx_n, if_pos zm1]
      | some p =>
        have hp := hok p e
        rw [qx_s, qp_s, if_neg (show ¬ nI p.1 = (-1 : Int32) by rw [n_m1 (by omega)]; exact id)]
        dsimp only
        by_cases t0 : t = 0
        · rw [if_pos (show nI t = 0 by rw [t0]; rfl), if_pos t0]
        · rw [if_neg (show ¬ nI t = 0 from nI_ne0 (by omega) (by omega)), if_neg t0]
    | succ m =>
      have hd2 : d < yD u := by omega
      rw [if_neg (by rw [n_le (by omega) (by omega)]; omega)]
      have inner := zfx_ind (fun _ _ _ _ _ _ _ => none) (f_Ch_bestQuestion_b41_s kk) (fun m2 k2 => ∀ y, y + m2 = yY u → k2 (nI t) (nI (fb_ct (yfi u) (yT u))) (qx (qD u d (qA u d) y)) (nI (qp (fb_ct (yfi u) (yT u)) (qD u d (qA u d) y))) (nI d) (nI y) w = some (qRes u t, w)) (fun m2 k2 ih2 y hy => by
        have hoky := qD_ok K hd2 hok y (by omega)
        unfold f_Ch_bestQuestion_b41_s
        rw [La_dayCount' K h.k, zb_s]
        cases m2 with
        | zero =>
          rw [if_pos (by rw [n_le (by omega) (by omega)]; omega), zl_s, n_1, show y = yY u by omega]
          exact ih m (by omega) (d + 1) (by omega)
        | succ m2 =>
          have hyn := yes_no (u := u) d y (yT u)
          rw [if_neg (by rw [n_le (by omega) (by omega)]; omega), n_1, Ch_count K C h hd2 (by omega), zb_s, n_sub (by omega), show fb_ct (yfi u) (yT u) - fb_ct (yY1 u d y) (yT u) = fb_ct (yN1 u d y) (yT u) by omega, n_max (by omega) (by omega), zl_s, show (10 : Int32) = nI 10 from rfl, pk_mul, nI_add]
          have go : ∀ q2, q2 = qD u d (qA u d) (y + 1) → f_Ch_bestQuestion_b96 kk k2 (nI t) (nI (fb_ct (yfi u) (yT u))) (qx q2) (nI (qp (fb_ct (yfi u) (yT u)) q2)) (nI d) (nI y) w = some (qRes u t, w) := by
            intro q2 h2
            subst h2
            unfold f_Ch_bestQuestion_b96
            rw [zl_s, n_1]
            exact ih2 m2 (by omega) (y + 1) (by omega)
          have es : qD u d (qA u d) (y + 1) = sQ (qD u d (qA u d) y) (10 * d + y) (fb_ct (yY1 u d y) (yT u)) (fb_ct (yN1 u d y) (yT u)) := rfl
          generalize fb_ct (yY1 u d y) (yT u) = ye at hyn es ⊢
          generalize fb_ct (yN1 u d y) (yT u) = no at hyn es ⊢
          generalize qD u d (qA u d) y = q at hoky es ⊢
          have hqp : qp (fb_ct (yfi u) (yT u)) q ≤ fb_ct (yfi u) (yT u) := by
            cases q with
            | none => exact Nat.le_refl _
            | some p => have := (hoky p rfl).2; rw [qp_s]; omega
          by_cases z : qp (fb_ct (yfi u) (yT u)) q ≤ max ye no
          · rw [if_pos ((n_le (by omega) (by omega)).mpr z)]
            refine go q ?_
            rw [es]
            unfold sQ
            by_cases z2 : ye = 0 ∨ no = 0
            · rw [if_pos z2]
            · rw [if_neg z2]
              cases q with
              | none => rw [qp_n] at z; omega
              | some p => rw [qp_s] at z; dsimp only; rw [if_neg (by omega)]
          · have hz : ¬ (ye = 0 ∨ no = 0) := by omega
            have e2 : qD u d (qA u d) (y + 1) = some (10 * d + y, max ye no) := by
              rw [es]
              unfold sQ
              rw [if_neg hz]
              cases q with
              | none => rfl
              | some p => rw [qp_s] at z; dsimp only; rw [if_pos (by omega)]
            rw [if_neg (fun q3 => z ((n_le (by omega) (by omega)).mp q3)), zl_s]
            exact go (some (10 * d + y, max ye no)) e2.symm) zFU (yY u) (zfu (by omega))
      exact inner 0 (by omega)) zFU (yD u) (zfu (by omega))
  exact key 0 (by omega)
theorem M_layFits (J : zJ u) {w : gW} (h : zE u w) : ∃ w' : gW, f_M_layFits w = some ((), w') ∧ zE u w' ∧ ∀ k, k < yT u → w'.1 130 k = bI (yfi u k) := by
  have K := J.K
  have ht := K.T7
  have key := zfx_ind (fun _ _ => none) f_M_layFits_b2_s (fun m kk => ∀ k v, k + m = yT u → zE u v → (∀ j, j < k → v.1 130 j = bI (yfi u j)) → ∃ w' : gW, kk (nI k) v = some ((), w') ∧ zE u w' ∧ ∀ k, k < yT u → w'.1 130 k = bI (yfi u k)) (fun m kk ih k v hk hv hp => by
    unfold f_M_layFits_b2_s
    rw [hv.k.i rfl, K.L.2.2.2.2.1]
    cases m with
    | zero =>
      rw [if_pos (by rw [n_le (by omega) (by omega)]; omega)]
      exact ⟨v, rfl, hv, fun j hj => hp j (by omega)⟩
    | succ m =>
      have i16 : inb (nI k) 16807 := z_inbn (by omega) (by decide)
      rw [if_neg (by rw [n_le (by omega) (by omega)]; omega), if_pos i16]
      obtain ⟨w3, l3, m3, h3, F3⟩ := M_lf K J.R hv (k := k) (by omega)
      rw [F3, if_pos i16, z_ix (by omega), bI_a, zl_s, zl_s, n_1]
      refine ih m (by omega) (k + 1) _ (by omega) (h3.sI _ rfl) (fun j hj => ?_)
      rw [zsI_g]
      by_cases q : j = k
      · subst q; rw [if_pos ⟨rfl, rfl⟩]
      · rw [if_neg (fun z => q z.2), m3.o (by decide) (by decide)]
        exact hp j (by omega)) zFU (yT u) (zfu (by omega))
  exact key 0 w (by omega) h (fun j hj => absurd hj (Nat.not_lt_zero j))
def ql (q : Option (Nat × Nat)) (l : Int32) : Prop := ∀ p, q = some p → l = nI p.2
theorem M_quest (J : zJ u) {w : gW} (h : zE u w) (hF : ∀ k, k < yT u → w.1 130 k = bI (yfi u k)) {t : Nat} (ht2 : t < 2) : ∃ w' : gW, f_M_question_b35 (nI t) (-1 : Int32) (0 : Int32) (0 : Int32) w = some (qRes u t, w') ∧ zE u w' := by
  have K := J.K
  have ht := K.T7
  have h5 := K.D5
  have h6 := K.Y6
  have hall := fb_ct_le (yfi u) (yT u)
  have key := zfx_ind (fun _ _ _ _ _ => none) f_M_question_b35_s (fun m kk => ∀ d l v, d + m = yD u → zE u v → (∀ k, k < yT u → v.1 130 k = bI (yfi u k)) → ql (qA u d) l → ∃ w' : gW, kk (nI t) (qx (qA u d)) l (nI d) v = some (qRes u t, w') ∧ zE u w') (fun m kk ih d l v hd hv hF hl => by
    have hok := qA_ok K d (by omega)
    unfold f_M_question_b35_s
    rw [there21 K hv]
    cases m with
    | zero =>
      rw [if_pos (by rw [n_le (by omega) (by omega)]; omega)]
      have ed : d = yD u := by omega
      subst ed
      unfold qRes
      cases e : qA u (yD u) with
      | none => rw [qx_n, if_pos zm1]; exact ⟨v, rfl, hv⟩
      | some p =>
        have hp := hok p e
        rw [qx_s, hl p e, if_neg (show ¬ nI p.1 = (-1 : Int32) by rw [n_m1 (by omega)]; exact id)]
        refine ⟨v, ?_, hv⟩
        dsimp only
        by_cases t0 : t = 0
        · rw [if_pos (show nI t = 0 by rw [t0]; rfl), if_pos t0]
        · rw [if_neg (show ¬ nI t = 0 from nI_ne0 (by omega) (by omega)), if_neg t0]
    | succ m =>
      have hd2 : d < yD u := by omega
      rw [if_neg (by rw [n_le (by omega) (by omega)]; omega)]
      have inner := zfx_ind (fun _ _ _ _ _ _ => none) (f_M_question_b47_s kk) (fun m2 k2 => ∀ y l v, y + m2 = yY u → zE u v → (∀ k, k < yT u → v.1 130 k = bI (yfi u k)) → ql (qD u d (qA u d) y) l → ∃ w' : gW, k2 (nI t) (qx (qD u d (qA u d) y)) l (nI d) (nI y) v = some (qRes u t, w') ∧ zE u w') (fun m2 k2 ih2 y l v hy hv hF hl => by
        have hoky := qD_ok K hd2 hok y (by omega)
        have e22 : v.1 107 22 = nI (yY u) := (hv.k.i rfl).trans K.C.2.2.1.2
        unfold f_M_question_b47_s
        rw [e22]
        cases m2 with
        | zero =>
          rw [if_pos (by rw [n_le (by omega) (by omega)]; omega), zl_s, n_1]
          have ey : y = yY u := by omega
          subst ey
          exact ih m (by omega) (d + 1) l v (by omega) hv hF hl
        | succ m2 =>
          rw [if_neg (by rw [n_le (by omega) (by omega)]; omega)]
          have loop := zfx_ind (fun _ _ _ _ _ _ _ _ _ => none) (f_M_question_b65_s kk k2) (fun m3 k3 => ∀ k v, k + m3 = yT u → zE u v → (∀ k, k < yT u → v.1 130 k = bI (yfi u k)) → ∃ w' : gW, k3 (nI t) (qx (qD u d (qA u d) y)) l (nI d) (nI y) (nI (fb_ct (yY1 u d y) k)) (nI (fb_ct (yN1 u d y) k)) (nI k) v = some (qRes u t, w') ∧ zE u w') (fun m3 k3 ih3 k v hk hv hF => by
            have c1 := fb_ct_le (yY1 u d y) k
            have c2 := fb_ct_le (yN1 u d y) k
            unfold f_M_question_b65_s
            rw [hv.k.i (a := 107) (b := 26) rfl, K.L.2.2.2.2.1]
            cases m3 with
            | zero =>
              rw [if_pos (by rw [n_le (by omega) (by omega)]; omega)]
              have ek : k = yT u := by omega
              subst ek
              have hyn := yes_no (u := u) d y (yT u)
              have go : ∀ q2 l2, q2 = qD u d (qA u d) (y + 1) → ql q2 l2 → ∃ w' : gW, f_M_question_b171 kk k2 (nI t) (qx q2) l2 (nI d) (nI y) v = some (qRes u t, w') ∧ zE u w' := by
                intro q2 l2 h2 h3
                subst h2
                unfold f_M_question_b171
                rw [zl_s, n_1]
                exact ih2 m2 (by omega) (y + 1) l2 v (by omega) hv hF h3
              have es : qD u d (qA u d) (y + 1) = sQ (qD u d (qA u d) y) (10 * d + y) (fb_ct (yY1 u d y) (yT u)) (fb_ct (yN1 u d y) (yT u)) := rfl
              have z0 : ∀ n, n < 40000 → ((nI n = (0 : Int32)) ↔ n = 0) := fun n hn => n_eq (b := 0) (by omega) (by omega)
              generalize fb_ct (yY1 u d y) (yT u) = ye at hyn es c1 ⊢
              generalize fb_ct (yN1 u d y) (yT u) = no at hyn es c2 ⊢
              generalize qD u d (qA u d) y = q at hoky es hl ⊢
              have take : qD u d (qA u d) (y + 1) = some (10 * d + y, max ye no) → ∃ w' : gW, f_M_question_b154 kk k2 (nI t) (nI d) (nI y) (nI ye) (nI no) v = some (qRes u t, w') ∧ zE u w' := by
                intro e
                unfold f_M_question_b154
                rw [show (10 : Int32) = nI 10 from rfl, pk_mul, nI_add, zl_s, n_max (by omega) (by omega), zl_s]
                exact go (some (10 * d + y, max ye no)) (nI (max ye no)) e.symm (fun p hp => by cases hp; rfl)
              by_cases a1 : ye = 0
              · rw [if_pos ((z0 _ (by omega)).mpr a1)]
                exact go q l (by rw [es]; unfold sQ; rw [if_pos (Or.inl a1)]) hl
              · rw [if_neg (fun z => a1 ((z0 _ (by omega)).mp z))]
                by_cases a2 : no = 0
                · rw [if_pos ((z0 _ (by omega)).mpr a2)]
                  exact go q l (by rw [es]; unfold sQ; rw [if_pos (Or.inr a2)]) hl
                · have hz : ¬ (ye = 0 ∨ no = 0) := by omega
                  rw [if_neg (fun z => a2 ((z0 _ (by omega)).mp z))]
                  cases q with
                  | none =>
                    rw [qx_n, if_pos zm1]
                    exact take (by rw [es]; unfold sQ; rw [if_neg hz])
                  | some p =>
                    have hp := hoky p rfl
                    rw [qx_s, if_neg (show ¬ nI p.1 = (-1 : Int32) by rw [n_m1 (by omega)]; exact id), n_max (by omega) (by omega), zl_s, hl p rfl]
                    by_cases a3 : max ye no < p.2
                    · rw [if_pos ((n_lt (by omega) (by omega)).mpr a3)]
                      exact take (by rw [es]; unfold sQ; rw [if_neg hz]; dsimp only; rw [if_pos a3])
                    · rw [if_neg (fun z => a3 ((n_lt (by omega) (by omega)).mp z))]
                      exact go (some p) (nI p.2) (by rw [es]; unfold sQ; rw [if_neg hz]; dsimp only; rw [if_neg a3]) (fun p2 hp2 => by cases hp2; rfl)
            | succ m3 =>
              have i16 : inb (nI k) 16807 := z_inbn (by omega) (by decide)
              rw [if_neg (by rw [n_le (by omega) (by omega)]; omega), if_pos i16, z_ix (by omega), hF k (by omega)]
              have s1 : fb_ct (yY1 u d y) (k + 1) = fb_ct (yY1 u d y) k + if yY1 u d y k = true then 1 else 0 := fb_ct_succ _ _
              have s2 : fb_ct (yN1 u d y) (k + 1) = fb_ct (yN1 u d y) k + if yN1 u d y k = true then 1 else 0 := fb_ct_succ _ _
              have go : ∀ a b v2, a = fb_ct (yY1 u d y) (k + 1) → b = fb_ct (yN1 u d y) (k + 1) → zE u v2 → (∀ k, k < yT u → v2.1 130 k = bI (yfi u k)) → ∃ w' : gW, f_M_question_b119 kk k2 k3 (nI t) (qx (qD u d (qA u d) y)) l (nI d) (nI y) (nI a) (nI b) (nI k) v2 = some (qRes u t, w') ∧ zE u w' := by
                intro a b v2 ha hb h2 hF2
                subst ha
                subst hb
                unfold f_M_question_b119
                rw [zl_s, n_1]
                exact ih3 m3 (by omega) (k + 1) v2 (by omega) h2 hF2
              cases hf : yfi u k with
              | false =>
                rw [if_pos bf0]
                have y1 : yY1 u d y k = false := by unfold yY1; rw [hf]; rfl
                have y2 : yN1 u d y k = false := by unfold yN1; rw [hf]; rfl
                exact go _ _ v (by rw [s1, y1]; rfl) (by rw [s2, y2]; rfl) hv hF
              | true =>
                obtain ⟨w1, e1, l1, m1⟩ := M_live K hv.k k
                have h1 := m1.e hv
                have hF1 : ∀ k, k < yT u → w1.1 130 k = bI (yfi u k) := fun j hj => (m1.1 130 j rfl).trans (hF j hj)
                have d9 := (K.d9 hd2 k).1
                rw [if_neg bt0, if_pos i16, hv.k.i (a := 118) rfl, K.L.2.2.2.2.2.1 k (by omega), e1, zb_s, if_pos (z_inbn (by omega) (by decide)), z_ix (by omega), l1 d hd2]
                by_cases a : yd u k d ≤ y
                · rw [if_neg (by rw [n_lt (by omega) (by omega)]; omega), zl_s, n_1]
                  have y1 : yY1 u d y k = true := by unfold yY1; rw [hf, decide_eq_true a]; rfl
                  have y2 : yN1 u d y k = false := by unfold yN1; rw [hf, decide_eq_true a]; rfl
                  exact go _ _ w1 (by rw [s1, y1]; rfl) (by rw [s2, y2]; rfl) h1 hF1
                · rw [if_pos (by rw [n_lt (by omega) (by omega)]; omega), zl_s, n_1]
                  have y1 : yY1 u d y k = false := by unfold yY1; rw [hf, decide_eq_false a]; rfl
                  have y2 : yN1 u d y k = true := by unfold yN1; rw [hf, decide_eq_false a]; rfl
                  exact go _ _ w1 (by rw [s1, y1]; rfl) (by rw [s2, y2]; rfl) h1 hF1) zFU (yT u) (zfu (by omega))
          exact loop 0 v (by omega) hv hF) zFU (yY u) (zfu (by omega))
      exact inner 0 l v (by omega) hv hF hl) zFU (yD u) (zfu (by omega))
  exact key 0 0 w (by omega) h hF (fun p hp => by cases hp)
theorem q_question (J : zJ u) (a : Int32) : zQ u (f_X_question a) (f_M_question a) := by
  have K := J.K
  have h5 := K.D5
  by_cases g : 0 < yD u ∧ (0 ≤ a.toInt ∧ a.toInt < (2 : Nat))
  · obtain ⟨gd, g3⟩ := g
    obtain ⟨ec, hc⟩ := z_nIx g3
    generalize ix a = t at ec hc
    subst ec
    refine ⟨qRes u t, fun v hv => ⟨v, ?_, hv⟩, fun v hv => ?_⟩
    · unfold f_X_question
      rw [La_isThere' K hv.k, zb_s, decide_eq_true gd, if_neg bt0, X_is01, zb_s, decide_eq_true g3, if_neg bt0, X_quest K J.C hv hc, zb_s]
    · obtain ⟨v1, e1, e2, e3⟩ := M_layFits J hv.m0
      obtain ⟨v2, f1, f2⟩ := M_quest J e2 e3 hc
      refine ⟨v2, ?_, f2⟩
      have hz : ¬ nI (yD u) = 0 := nI_ne0 gd (by omega)
      unfold f_M_question
      rw [zl_s, there21 K hv.m0, if_neg hz, isIn_lit (nI t) (c := 1) 2 rfl, zb_s, decide_eq_true g3, if_neg bt0, e1, zb_s, f1]
  · refine ⟨-1, fun v hv => ⟨v, ?_, hv⟩, fun v hv => ⟨_, ?_, hv.m0⟩⟩
    · unfold f_X_question
      rw [La_isThere' K hv.k, zb_s]
      by_cases gd : 0 < yD u
      · have g3 : ¬ (0 ≤ a.toInt ∧ a.toInt < (2 : Nat)) := fun z => g ⟨gd, z⟩
        rw [decide_eq_true gd, if_neg bt0, X_is01, zb_s, decide_eq_false g3, if_pos bf0]
      · rw [decide_eq_false gd, if_pos bf0]
    · unfold f_M_question
      rw [zl_s, there21 K hv.m0]
      by_cases hz : nI (yD u) = 0
      · rw [if_pos hz]
      · have gd : 0 < yD u := by
          apply Nat.pos_of_ne_zero
          intro z
          rw [z] at hz
          exact hz rfl
        have g3 : ¬ (0 ≤ a.toInt ∧ a.toInt < (2 : Nat)) := fun z => g ⟨gd, z⟩
        rw [if_neg hz, isIn_lit a (c := 1) 2 rfl, zb_s, decide_eq_false g3, if_pos bf0]
end
