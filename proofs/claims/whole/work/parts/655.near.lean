/-! PURE: near -/
def qF (f : Nat → Nat) (q : Option Nat) : Int32 := match q with
  | none => -1
  | some j => nI (f j)
def qN (q : Option Nat) : Int32 := match q with
  | none => -1
  | some j => nI j
theorem qF_n (f : Nat → Nat) : qF f none = -1 := rfl
theorem qF_s (f : Nat → Nat) (j : Nat) : qF f (some j) = nI (f j) := rfl
theorem qN_n : qN none = -1 := rfl
theorem qN_s (j : Nat) : qN (some j) = nI j := rfl
theorem isT_keep {P : Nat → Bool} {f : Nat → Nat} {k m : Nat} {q : Option Nat} (h : isT P f k q) (hk : k ≤ m) (hn : ∀ i, k ≤ i → i < m → P i = true → ∃ j, q = some j ∧ f i ≤ f j) : isT P f m q := by
  refine ⟨fun z i hi => ?_, fun j hj => ?_⟩
  · by_cases y : i < k
    · exact h.1 z i y
    · cases e : P i with
      | false => rfl
      | true =>
        obtain ⟨j, a, _⟩ := hn i (by omega) hi e
        rw [z] at a
        cases a
  · obtain ⟨a, b, c, d⟩ := h.2 j hj
    refine ⟨by omega, b, fun i hi p => ?_, d⟩
    by_cases y : i < k
    · exact c i y p
    · obtain ⟨j2, a2, b2⟩ := hn i (by omega) hi p
      rw [hj] at a2
      cases a2
      exact b2
theorem isT_cut {P : Nat → Bool} {f : Nat → Nat} {k m : Nat} {q : Option Nat} (h : isT P f m q) (hk : k ≤ m) (hn : ∀ i, k ≤ i → P i = false) : isT P f k q := by
  refine ⟨fun z i hi => h.1 z i (by omega), fun j hj => ?_⟩
  obtain ⟨a, b, c, d⟩ := h.2 j hj
  refine ⟨?_, b, fun i hi p => c i (by omega) p, d⟩
  apply Nat.lt_of_not_le
  intro z
  rw [hn j z] at b
  cases b
theorem lv_step {P : Nat → Bool} {f C : Nat → Nat} {c n W : Nat} {x : Int64} {v : gW} {q : Option Nat} (r : isLv c n) (hW : W < 263) (hR : lvR v c n (bL x) C) (hB : ∀ b, b < 64 → bL x b = P (64 * W + b)) (hC : ∀ b, b < 64 → P (64 * W + b) = true → C b = f (64 * W + b)) (hn : ∀ b, b < 64 → P (64 * W + b) = true → f (64 * W + b) < n) (hq : isT P f (64 * W) q) (hf : ∀ j, q = some j → f j < 100) : ∃ q', isT P f (64 * (W + 1)) q' ∧ ((q' = q ∧ ∃ t4, f_Ro_topLevel c v = some (t4, v) ∧ t4 ≤ qF f q) ∨ ∃ b, q' = some (64 * W + b) ∧ b < 64 ∧ f_Ro_topLevel c v = some (nI (f (64 * W + b)), v) ∧ ¬ nI (f (64 * W + b)) ≤ qF f q ∧ f_Ro_word c (nI (f (64 * W + b))) v = some (v.2 c (f (64 * W + b)), v) ∧ f_Ro_firstPlace (v.2 c (f (64 * W + b))) (nI W) v = some (nI (64 * W + b), v)) := by
  have n100 := r.2.2.2
  rcases lv_top r hR (fun b hb z => by rw [hB b hb] at z; rw [hC b hb z]; exact hn b hb z) with ⟨e, z⟩ | ⟨t, t1, t2, t3, ⟨b0, b1, b2, b3⟩, t4, t5⟩
  · refine ⟨q, isT_keep hq (by omega) (fun i h1 h2 p => ?_), Or.inl ⟨rfl, -1, e, ?_⟩⟩
    · have := z (i - 64 * W) (by omega)
      rw [hB _ (by omega), show 64 * W + (i - 64 * W) = i by omega, p] at this
      cases this
    · cases q with
      | none => rw [qF_n]; decide
      | some j => rw [qF_s, n_mem1 (by have := hf j rfl; omega)]; trivial
  · by_cases c4 : nI t ≤ qF f q
    · refine ⟨q, isT_keep hq (by omega) (fun i h1 h2 p => ?_), Or.inl ⟨rfl, nI t, t2, c4⟩⟩
      cases q with
      | none => rw [qF_n, n_m1le (by omega)] at c4; exact c4.elim
      | some j =>
        have hj := hf j rfl
        rw [qF_s, n_le (by omega) (by omega)] at c4
        have e1 : 64 * W + (i - 64 * W) = i := by omega
        have p2 : P (64 * W + (i - 64 * W)) = true := by rw [e1]; exact p
        have a1 := t4 (i - 64 * W) (by omega) (by rw [hB _ (by omega)]; exact p2)
        rw [hC _ (by omega) p2, e1] at a1
        exact ⟨j, rfl, by omega⟩
    · have hp : 0 < fb_ct (bL (v.2 c t)) 64 := by
        apply Nat.pos_of_ne_zero
        intro z
        have a1 := fb_ct_zero.mp z b0 b1
        rw [(t5 b0 b1).mpr ⟨b2, b3⟩] at a1
        cases a1
      obtain ⟨b, h1, h2, h3⟩ := ct_first hp
      have g1 := (t5 b h1).mp h2
      have g2 : P (64 * W + b) = true := by rw [← hB b h1]; exact g1.1
      have g3 : f (64 * W + b) = t := by rw [← hC b h1 g2]; exact g1.2
      have hlt : ∀ i, i < 64 * W → P i = true → f i < t := by
        intro i hi p
        cases q with
        | none => rw [hq.1 rfl i hi] at p; cases p
        | some j =>
          have hj := hf j rfl
          rw [qF_s, n_le (by omega) (by omega)] at c4
          have := (hq.2 j rfl).2.2.1 i hi p
          omega
      have hin : ∀ i, 64 * W ≤ i → i < 64 * (W + 1) → P i = true → C (i - 64 * W) = f i ∧ bL x (i - 64 * W) = true := by
        intro i a1 a2 p
        have e1 : 64 * W + (i - 64 * W) = i := by omega
        have p2 : P (64 * W + (i - 64 * W)) = true := by rw [e1]; exact p
        exact ⟨by rw [hC _ (by omega) p2, e1], by rw [hB _ (by omega)]; exact p2⟩
      refine ⟨some (64 * W + b), ⟨fun z => (by cases z), fun j hj => ?_⟩, Or.inr ⟨b, rfl, h1, ?_⟩⟩
      · cases hj
        refine ⟨by omega, g2, fun i hi p => ?_, fun i hi p => ?_⟩
        · by_cases y : i < 64 * W
          · have := hlt i y p; omega
          · obtain ⟨a1, a2⟩ := hin i (by omega) hi p
            have := t4 _ (by omega) a2
            omega
        · by_cases y : i < 64 * W
          · have := hlt i y p; omega
          · obtain ⟨a1, a2⟩ := hin i (by omega) (by omega) p
            have a3 := t4 _ (by omega) a2
            have a4 := h3 (i - 64 * W) (by omega)
            have a5 : ¬ C (i - 64 * W) = t := by
              intro y2
              rw [(t5 _ (by omega)).mpr ⟨a2, y2⟩] at a4
              cases a4
            omega
      · rw [g3]
        refine ⟨t2, c4, t3, ?_⟩
        unfold f_Ro_firstPlace
        rw [Lng_ntz _ v h1 h2 h3, zb_s, n_sl6 (by omega), nI_add, Nat.mul_comm W 64]
section
variable {u : gW}
def yPf (u : gW) (k : Nat) : Bool := decide (k < yT u) && yfi u k
theorem yPf_k {k : Nat} (h : k < yT u) : yPf u k = yfi u k := by unfold yPf; rw [decide_eq_true h, Bool.true_and]
theorem yPf_o {k : Nat} (h : yT u ≤ k) : yPf u k = false := by unfold yPf; rw [decide_eq_false (by omega), Bool.false_and]
def yAg (u : gW) (x k : Nat) : Nat := fb_ct (fun d => decide (yd u k d = yd u x d)) (yD u)
theorem yAg_le (x k : Nat) : yAg u x k ≤ yD u := fb_ct_le _ _
def yNr (u : gW) (x : Nat) : Option Nat := sc (yPf u) (yAg u x) (yT u)
def rNr (u : gW) (x t : Nat) : Int32 := match yNr u x with
  | none => -1
  | some j => if t = 0 then nI (yD u - yAg u x j) else nI (yN u j)
theorem Ch_near (K : zK u) (C : jCou u) {w : gW} (h : zE u w) {x t : Nat} (hx : x < yT u) (ht2 : t < 2) : ∃ w' : gW, f_Ch_nearest (nI x) (nI t) w = some (rNr u x t, w') ∧ zE u w' := by
  have hn := nW_le K
  have ht := K.T7
  have h5 := K.D5
  have key := zfx_ind (fun _ _ _ _ _ _ => none) f_Ch_nearest_b8_s (fun m kk => ∀ W q v, W + m = nW u → zE u v → isT (yPf u) (yAg u x) (64 * W) q → ∃ w' : gW, kk (nI x) (nI t) (qF (yAg u x) q) (qN q) (nI W) v = some (rNr u x t, w') ∧ zE u w') (fun m kk ih W q v hW hv hq => by
    unfold f_Ch_nearest_b8_s
    rw [La_words' K hv.k, zb_s]
    show ∃ w' : gW, (if nI (nW u) ≤ nI W then _ else _) = _ ∧ _
    cases m with
    | zero =>
      rw [if_pos (by rw [n_le (by omega) (by omega)]; omega)]
      have hT : yT u ≤ 64 * W := by
        have e : W = nW u := by omega
        rw [e]; unfold nW; omega
      have e : yNr u x = q := isT_u (sc_T _ _ _) (isT_cut hq hT (fun i hi => yPf_o hi))
      unfold rNr
      rw [e]
      cases q with
      | none => rw [qN_n, if_pos zm1]; exact ⟨v, rfl, hv⟩
      | some j =>
        have hj : j < yT u := by
          apply Nat.lt_of_not_le
          intro z
          have := (hq.2 j rfl).2.1
          rw [yPf_o z] at this
          cases this
        rw [qN_s, qF_s, if_neg (show ¬ nI j = (-1 : Int32) by rw [n_m1 (by omega)]; exact id)]
        refine ⟨v, ?_, hv⟩
        dsimp only
        by_cases t0 : t = 0
        · rw [if_pos (show nI t = 0 by rw [t0]; rfl), if_pos t0, La_deedCount' K hv.k, zb_s, n_sub (yAg_le x j)]
        · rw [if_neg (show ¬ nI t = 0 from nI_ne0 (by omega) (by omega)), if_neg t0, La_numberAt' K hv.k hj, zb_s]
    | succ m =>
      rw [if_neg (by rw [n_le (by omega) (by omega)]; omega)]
      unfold f_Co_fitting
      rw [zb_s, Ro_word' row_76 (by omega), zb_s]
      obtain ⟨v1, e1, k1, l1⟩ := lv_start lv_103 (v.2 76 W) v
      rw [e1, zb_s]
      have hv1 := k1.e (by decide) hv
      have hb : ∀ b, b < 64 → bL (v.2 76 W) b = yPf u (64 * W + b) := fun b hb => fit_w C hv (by omega) hb
      generalize v.2 76 W = y at l1 hb
      have inner := zfx_ind (fun _ _ _ _ _ _ _ => none) (f_Ch_nearest_b42_s kk) (fun m2 k2 => ∀ d v, d + m2 = yD u → zE u v → lvR v 103 9 (bL y) (fun b => fb_ct (fun j => bL (yDw u j (yd u x j) W) b) d) → ∃ w' : gW, k2 (nI x) (nI t) (qF (yAg u x) q) (qN q) (nI W) (nI d) v = some (rNr u x t, w') ∧ zE u w') (fun m2 k2 ih2 d v hd hv hl => by
        unfold f_Ch_nearest_b42_s
        rw [La_deedCount' K hv.k, zb_s]
        cases m2 with
        | zero =>
          rw [if_pos (by rw [n_le (by omega) (by omega)]; omega)]
          have go : ∀ q2, isT (yPf u) (yAg u x) (64 * (W + 1)) q2 → ∃ w' : gW, f_Ch_nearest_b122 kk (nI x) (nI t) (qF (yAg u x) q2) (qN q2) (nI W) v = some (rNr u x t, w') ∧ zE u w' := by
            intro q2 h2
            unfold f_Ch_nearest_b122
            rw [zl_s, n_1]
            exact ih m (by omega) (W + 1) q2 v (by omega) hv h2
          have hCC : ∀ b, b < 64 → yPf u (64 * W + b) = true → fb_ct (fun j => bL (yDw u j (yd u x j) W) b) d = yAg u x (64 * W + b) := by
            intro b hb1 p
            have hk : 64 * W + b < yT u := by
              apply Nat.lt_of_not_le
              intro z
              rw [yPf_o z] at p
              cases p
            rw [show d = yD u by omega]
            exact fb_ct_cong (fun j hj => yDw_b K hj (K.d9 hj x).2 hb1 hk)
          obtain ⟨q2, a1, a2⟩ := lv_step (P := yPf u) (f := yAg u x) lv_103 (by omega) hl hb hCC (fun b hb1 p => by have := yAg_le (u := u) x (64 * W + b); omega) hq (fun j _ => by have := yAg_le (u := u) x j; omega)
          rcases a2 with ⟨e, t4, f1, f2⟩ | ⟨b, e, b1, f1, f2, f3, f4⟩
          · rw [f1, zb_s, if_pos f2, ← e]
            exact go q2 a1
          · rw [f1, zb_s, if_neg f2, f1, zb_s, f3, zb_s, f4, zb_s]
            have := go q2 a1
            rw [e, qF_s, qN_s] at this
            exact this
        | succ m2 =>
          have hd2 : d < yD u := by omega
          rw [if_neg (by rw [n_le (by omega) (by omega)]; omega), La_dayAt' K hv.k hd2 (by omega), zb_s, La_dateWord' K hv.k hd2 (K.d9 hd2 x).2 (by omega), zb_s]
          obtain ⟨v2, e2, k2e, l2⟩ := lv_add lv_103 (yDw u d (yd u x d) W) hl
          rw [e2, zb_s, zl_s, n_1]
          exact ih2 m2 (by omega) (d + 1) v2 (by omega) (k2e.e (by decide) hv) l2) zFU (yD u) (zfu (by omega))
      exact inner 0 v1 (by omega) hv1 l1) zFU (nW u) (zfu (by omega))
  exact key 0 none w (by omega) h ⟨fun _ i hi => absurd hi (by omega), fun j hj => by cases hj⟩
theorem ne_eq_ct (a b : Nat → Nat) : ∀ n, fb_ct (fun d => decide (a d ≠ b d)) n + fb_ct (fun d => decide (a d = b d)) n = n
  | 0 => rfl
  | n + 1 => by
    have ih := ne_eq_ct a b n
    rw [fb_ct_succ, fb_ct_succ]
    by_cases q : a n = b n
    · rw [if_neg (by simp [q]), if_pos (by simp [q])]; omega
    · rw [if_pos (by simp [q]), if_neg (by simp [q])]; omega
def qDl (u : gW) (x : Nat) (q : Option Nat) (l : Int32) : Prop := ∀ j, q = some j → j < yT u ∧ l = nI (yD u - yAg u x j)
def qM (u : gW) (q : Option Nat) : Int32 := match q with
  | none => -1
  | some j => nI (yN u j)
theorem qM_n : qM u none = -1 := rfl
theorem qM_s (j : Nat) : qM u (some j) = nI (yN u j) := rfl
theorem M_nearL (J : zJ u) {w : gW} (h : zE u w) {x t : Nat} (hx : x < yT u) (ht2 : t < 2) : ∃ w' : gW, f_M_near_b33 (nI (yN u x)) (nI t) (-1 : Int32) (0 : Int32) (0 : Int32) w = some (rNr u x t, w') ∧ zE u w' := by
  have K := J.K
  have ht := K.T7
  have h5 := K.D5
  have key := zfx_ind (fun _ _ _ _ _ _ => none) f_M_near_b33_s (fun m kk => ∀ k l v, k + m = yT u → zE u v → qDl u x (sc (yPf u) (yAg u x) k) l → ∃ w' : gW, kk (nI (yN u x)) (nI t) (qM u (sc (yPf u) (yAg u x) k)) l (nI k) v = some (rNr u x t, w') ∧ zE u w') (fun m kk ih k l v hk hv hl => by
    unfold f_M_near_b33_s
    rw [hv.k.i (a := 107) (b := 26) rfl, K.L.2.2.2.2.1]
    cases m with
    | zero =>
      rw [if_pos (by rw [n_le (by omega) (by omega)]; omega)]
      have ek : k = yT u := by omega
      subst ek
      unfold rNr yNr
      refine ⟨v, ?_, hv⟩
      cases e : sc (yPf u) (yAg u x) (yT u) with
      | none => rw [qM_n, if_pos zm1]
      | some j =>
        have hj := hl j e
        dsimp only
        rw [qM_s, if_neg (by rw [n_m1 (by have := yN_lt K j; omega)]; exact id), hj.2]
        by_cases t0 : t = 0
        · rw [if_pos (show nI t = 0 by rw [t0]; rfl), if_pos t0]
        · rw [if_neg (show ¬ nI t = 0 from nI_ne0 (by omega) (by omega)), if_neg t0]
    | succ m =>
      have i16 : inb (nI k) 16807 := z_inbn (by omega) (by decide)
      rw [if_neg (by rw [n_le (by omega) (by omega)]; omega), if_pos i16]
      obtain ⟨w3, l3, m3, h3, F3⟩ := M_lf K J.R hv (k := k) (by omega)
      rw [F3]
      have es : sc (yPf u) (yAg u x) (k + 1) = if yPf u k = true then (match sc (yPf u) (yAg u x) k with
        | none => some k
        | some j => if yAg u x j < yAg u x k then some k else some j) else sc (yPf u) (yAg u x) k := rfl
      rw [yPf_k (show k < yT u by omega)] at es
      have go : ∀ q2 l2 v2, q2 = sc (yPf u) (yAg u x) (k + 1) → qDl u x q2 l2 → zE u v2 → ∃ w' : gW, f_M_near_b147 kk (nI (yN u x)) (nI t) (qM u q2) l2 (nI k) v2 = some (rNr u x t, w') ∧ zE u w' := by
        intro q2 l2 v2 e hl2 h2
        subst e
        unfold f_M_near_b147
        rw [zl_s, n_1]
        exact ih m (by omega) (k + 1) l2 v2 (by omega) h2 hl2
      generalize sc (yPf u) (yAg u x) (k + 1) = q2 at es go
      generalize sc (yPf u) (yAg u x) k = q at es hl ⊢
      cases hf : yfi u k with
      | false =>
        rw [if_pos bf0]
        rw [hf, if_neg (by decide)] at es
        exact go q l w3 es.symm hl h3
      | true =>
        rw [hf, if_pos rfl] at es
        rw [if_neg bt0, there21 K h3, zl_s]
        have loop := zfx_ind (fun _ _ _ _ _ _ _ _ _ => none) (f_M_near_b77_s kk) (fun m2 k2 => ∀ e, m2 ≤ yD u → e + fb_ct (fun d => decide (yd u k d ≠ yd u x d)) m2 = fb_ct (fun d => decide (yd u k d ≠ yd u x d)) (yD u) → ∃ w' : gW, k2 (nI (yN u x)) (nI t) (qM u q) l (nI k) (nI e) (nI (yn u x m2)) (nI m2 - 1) w3 = some (rNr u x t, w') ∧ zE u w') (fun m2 k2 ih2 e hm he => by
          unfold f_M_near_b77_s
          have hne := ne_eq_ct (fun d => yd u k d) (fun d => yd u x d) (yD u)
          have hag : fb_ct (fun d => decide (yd u k d = yd u x d)) (yD u) = yAg u x k := rfl
          cases m2 with
          | zero =>
            rw [if_pos (show nI 0 - (1 : Int32) < 0 by decide)]
            have e0 : fb_ct (fun d => decide (yd u k d ≠ yd u x d)) 0 = 0 := rfl
            rw [e0] at he
            have ee : e = yD u - yAg u x k := by omega
            have hk3 : w3.1 118 k = nI (yN u k) := (h3.k.i (a := 118) rfl).trans (K.L.2.2.2.2.2.1 k (by omega))
            have take : q2 = some k → ∃ w' : gW, f_M_near_b135 kk (nI (yN u x)) (nI t) (nI k) (nI e) w3 = some (rNr u x t, w') ∧ zE u w' := by
              intro e2
              unfold f_M_near_b135
              rw [if_pos i16, z_ix (by omega), hk3, zl_s]
              exact go (some k) (nI e) w3 e2.symm (fun j hj => by cases hj; exact ⟨by omega, by rw [ee]⟩) h3
            cases q with
            | none =>
              dsimp only at es
              rw [qM_n, if_pos zm1]
              exact take es
            | some j =>
              obtain ⟨hj, hl2⟩ := hl j rfl
              have hj5 := yAg_le (u := u) x j
              have hk5 := yAg_le (u := u) x k
              dsimp only at es
              rw [qM_s, if_neg (by rw [n_m1 (by have := yN_lt K j; omega)]; exact id), hl2]
              by_cases c : yAg u x j < yAg u x k
              · rw [if_pos (by rw [n_lt (by omega) (by omega)]; omega)]
                rw [if_pos c] at es
                exact take es
              · rw [if_neg (by rw [n_lt (by omega) (by omega)]; omega), ← hl2]
                rw [if_neg c] at es
                exact go (some j) l w3 es.symm hl h3
          | succ m2 =>
            have e1 : nI (m2 + 1) - (1 : Int32) = nI m2 := nI_pred m2
            have e5 : nI m2 + (-1 : Int32) = nI m2 - 1 := (Int32.sub_eq_add_neg _ _).symm
            have hb := yn_lt K x (m2 + 1) hm
            have hb2 : 10 ^ (m2 + 1) ≤ 10 ^ 5 := Nat.pow_le_pow_right (by decide) (by omega)
            have c5 : (10 : Nat) ^ 5 = 100000 := by decide
            have h9 := (K.d9 (d := m2) (by omega) x).1
            have h9k := (K.d9 (d := m2) (by omega) k).1
            have ey : yn u x (m2 + 1) = yn u x m2 * 10 + yd u x m2 := rfl
            have e3 : yn u x (m2 + 1) / 10 = yn u x m2 := by omega
            have e4 : yn u x (m2 + 1) % 10 = yd u x m2 := by omega
            have f1 : fb_ct (fun d => decide (yd u k d ≠ yd u x d)) (m2 + 1) = fb_ct (fun d => decide (yd u k d ≠ yd u x d)) m2 + if decide (yd u k m2 ≠ yd u x m2) = true then 1 else 0 := fb_ct_succ _ _
            rw [e1, if_neg (nI_pos (by omega)), if_pos (z_inbn (by omega) (by decide)), z_ix (by omega), l3 m2 (by omega), show (10 : Int32) = nI 10 from rfl, pk_rem (by omega) (by decide) (by decide), e4]
            have st : ∀ c, e + c + fb_ct (fun d => decide (yd u k d ≠ yd u x d)) m2 = fb_ct (fun d => decide (yd u k d ≠ yd u x d)) (yD u) → ∃ w' : gW, f_M_near_b104 kk k2 (nI (yN u x)) (nI t) (qM u q) l (nI k) (nI (yn u x (m2 + 1))) (nI m2) (nI e) (nI c) w3 = some (rNr u x t, w') ∧ zE u w' := by
              intro c hc
              unfold f_M_near_b104
              rw [nI_add, zl_s, show (10 : Int32) = nI 10 from rfl, pk_div (by omega) (by decide) (by decide), e3, zl_s, e5, zl_s]
              exact ih2 m2 (by omega) (e + c) (by omega) hc
            by_cases c : yd u k m2 = yd u x m2
            · rw [if_pos (by rw [c])]
              refine st 0 ?_
              rw [f1, if_neg (by simp [c])] at he
              omega
            · rw [if_neg (by rw [n_eq (by omega) (by omega)]; omega)]
              refine st 1 ?_
              rw [f1, if_pos (by simp [c])] at he
              omega) zFU (yD u) (zfu (by omega))
        have l0 := loop 0 (Nat.le_refl _) (Nat.zero_add _)
        exact l0) zFU (yT u) (zfu (by omega))
  exact key 0 0 w (by omega) h (fun j hj => by cases hj)
theorem q_near (J : zJ u) (a b : Int32) : zQ u (f_X_near a b) (f_M_near a b) := by
  have K := J.K
  have ht := K.T7
  by_cases hx : ∃ k, k < yT u ∧ a = nI (yN u k)
  · obtain ⟨x, hx, rfl⟩ := hx
    have hP : ∀ v : gW, zE u v → f_La_placeOf (nI (yN u x)) v = some (nI x, v) := by
      intro v hv
      rcases La_placeOf' K hv.k (nI (yN u x)) with ⟨k, k1, k2, k3⟩ | ⟨z, _⟩
      · rw [n_eq (by have := yN_lt K x; omega) (by have := yN_lt K k; omega)] at k2
        have e := yN_inj K hx k1 k2
        subst e
        exact k3
      · exact absurd rfl (z x hx)
    have hM : ∀ v : gW, zE u v → ∃ w', f_M_isLife (nI (yN u x)) v = some (1, w') ∧ zE u w' := by
      intro v hv
      rcases M_isLife' K hv (nI (yN u x)) with ⟨k, w', k1, k2, k3, k4, k5⟩ | ⟨z, _⟩
      · exact ⟨w', k3, k5⟩
      · exact absurd rfl (z x hx)
    by_cases g3 : 0 ≤ b.toInt ∧ b.toInt < (2 : Nat)
    · obtain ⟨ec, hc⟩ := z_nIx g3
      generalize ix b = t at ec hc
      subst ec
      refine ⟨rNr u x t, fun v hv => ?_, fun v hv => ?_⟩
      · obtain ⟨v1, e1, e2⟩ := Ch_near K J.C hv hx hc
        refine ⟨v1, ?_, e2⟩
        unfold f_X_near
        rw [hP v hv, zb_s, if_neg (by rw [n_m1 (by omega)]; exact id), X_is01, zb_s, decide_eq_true g3, if_neg bt0, e1, zb_s]
      · obtain ⟨v1, e1, e2⟩ := hM _ hv.m0
        obtain ⟨v2, f1, f2⟩ := M_nearL J e2 hx hc
        refine ⟨v2, ?_, f2⟩
        unfold f_M_near
        rw [zl_s, isIn_lit (nI t) (c := 1) 2 rfl, zb_s, decide_eq_true g3, if_neg bt0, e1, zb_s, if_neg (show ¬ (1 : Int32) = 0 by decide), f1]
    · refine ⟨-1, fun v hv => ⟨v, ?_, hv⟩, fun v hv => ⟨_, ?_, hv.m0⟩⟩
      · unfold f_X_near
        rw [hP v hv, zb_s, if_neg (by rw [n_m1 (by omega)]; exact id), X_is01, zb_s, decide_eq_false g3, if_pos bf0]
      · unfold f_M_near
        rw [zl_s, isIn_lit b (c := 1) 2 rfl, zb_s, decide_eq_false g3, if_pos bf0]
  · have hP : ∀ v : gW, zE u v → f_La_placeOf a v = some (-1, v) := by
      intro v hv
      rcases La_placeOf' K hv.k a with ⟨k, k1, k2, k3⟩ | ⟨_, z⟩
      · exact absurd ⟨k, k1, k2⟩ hx
      · exact z
    have hM : ∀ v : gW, zE u v → f_M_isLife a v = some (0, v) := by
      intro v hv
      rcases M_isLife' K hv a with ⟨k, w', k1, k2, k3, k4, k5⟩ | ⟨_, z⟩
      · exact absurd ⟨k, k1, k2⟩ hx
      · exact z
    refine ⟨-1, fun v hv => ⟨v, ?_, hv⟩, fun v hv => ⟨_, ?_, hv.m0⟩⟩
    · unfold f_X_near
      rw [hP v hv, zb_s, if_pos zm1]
    · unfold f_M_near
      rw [zl_s, isIn_lit b (c := 1) 2 rfl, zb_s]
      by_cases g3 : 0 ≤ b.toInt ∧ b.toInt < (2 : Nat)
      · rw [decide_eq_true g3, if_neg bt0, hM _ hv.m0, zb_s, if_pos rfl]
      · rw [decide_eq_false g3, if_pos bf0]
end
