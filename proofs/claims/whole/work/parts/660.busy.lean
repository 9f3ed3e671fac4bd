/-! PURE: busy -/
theorem lv_stepB {P : Nat → Bool} {f C : Nat → Nat} {c n N : Nat} {x : Int64} {v : gW} {q : Option Nat} (r : isLv c n) (hR : lvR v c n (bL x) C) (hB : ∀ b, b < 64 → bL x b = P (N + b)) (hC : ∀ b, b < 64 → P (N + b) = true → C b = f (N + b)) (hn : ∀ b, b < 64 → P (N + b) = true → f (N + b) < n) (hq : isT P f N q) (hf : ∀ j, q = some j → f j < 100) : ∃ q', isT P f (N + 64) q' ∧ ((q' = q ∧ ∃ t4, f_Ro_topLevel c v = some (t4, v) ∧ t4 ≤ qF f q) ∨ ∃ b, q' = some (N + b) ∧ b < 64 ∧ f_Ro_topLevel c v = some (nI (f (N + b)), v) ∧ ¬ nI (f (N + b)) ≤ qF f q) := by
  have n100 := r.2.2.2
  rcases lv_top r hR (fun b hb z => by rw [hB b hb] at z; rw [hC b hb z]; exact hn b hb z) with ⟨e, z⟩ | ⟨t, t1, t2, t3, ⟨b0, b1, b2, b3⟩, t4, t5⟩
  · refine ⟨q, isT_keep hq (by omega) (fun i h1 h2 p => ?_), Or.inl ⟨rfl, -1, e, ?_⟩⟩
    · have := z (i - N) (by omega)
      rw [hB _ (by omega), show N + (i - N) = i by omega, p] at this
      cases this
    · cases q with
      | none => rw [qF_n]; decide
      | some j => rw [qF_s, n_mem1 (by have := hf j rfl; omega)]; trivial
  · by_cases c4 : nI t ≤ qF f q
    · refine ⟨q, isT_keep hq (by omega) (fun i h1 h2 p => ?_), Or.inl ⟨rfl, nI t, t2, c4⟩⟩
      cases q with
      | none => rw [qF_n, n_m1le (by omega)] at c4; exact c4.elim
      | some j =>
        have hj := hf j rfl
        rw [qF_s, n_le (by omega) (by omega)] at c4
        have e1 : N + (i - N) = i := by omega
        have p2 : P (N + (i - N)) = true := by rw [e1]; exact p
        have a1 := t4 (i - N) (by omega) (by rw [hB _ (by omega)]; exact p2)
        rw [hC _ (by omega) p2, e1] at a1
        exact ⟨j, rfl, by omega⟩
    · have hp : 0 < fb_ct (bL (v.2 c t)) 64 := by
        apply Nat.pos_of_ne_zero
        intro z
        have a1 := fb_ct_zero.mp z b0 b1
        rw [(t5 b0 b1).mpr ⟨b2, b3⟩] at a1
        cases a1
      obtain ⟨b, h1, h2, h3⟩ := ct_first hp
      have g1 := (t5 b h1).mp h2
      have g2 : P (N + b) = true := by rw [← hB b h1]; exact g1.1
      have g3 : f (N + b) = t := by rw [← hC b h1 g2]; exact g1.2
      have hlt : ∀ i, i < N → P i = true → f i < t := by
        intro i hi p
        cases q with
        | none => rw [hq.1 rfl i hi] at p; cases p
        | some j =>
          have hj := hf j rfl
          rw [qF_s, n_le (by omega) (by omega)] at c4
          have := (hq.2 j rfl).2.2.1 i hi p
          omega
      have hin : ∀ i, N ≤ i → i < N + 64 → P i = true → C (i - N) = f i ∧ bL x (i - N) = true := by
        intro i a1 a2 p
        have e1 : N + (i - N) = i := by omega
        have p2 : P (N + (i - N)) = true := by rw [e1]; exact p
        exact ⟨by rw [hC _ (by omega) p2, e1], by rw [hB _ (by omega)]; exact p2⟩
      refine ⟨some (N + b), ⟨fun z => (by cases z), fun j hj => ?_⟩, Or.inr ⟨b, rfl, h1, ?_⟩⟩
      · cases hj
        refine ⟨by omega, g2, fun i hi p => ?_, fun i hi p => ?_⟩
        · by_cases y : i < N
          · have := hlt i y p; omega
          · obtain ⟨a1, a2⟩ := hin i (by omega) hi p
            have := t4 _ (by omega) a2
            omega
        · by_cases y : i < N
          · have := hlt i y p; omega
          · obtain ⟨a1, a2⟩ := hin i (by omega) (by omega) p
            have a3 := t4 _ (by omega) a2
            have a4 := h3 (i - N) (by omega)
            have a5 : ¬ C (i - N) = t := by
              intro y2
              rw [(t5 _ (by omega)).mpr ⟨a2, y2⟩] at a4
              cases a4
            omega
      · rw [g3]
        exact ⟨t2, c4⟩
section
variable {u : gW}
def yBn (u : gW) (y k : Nat) : Nat := fb_ct (fun d => decide (yd u k d = y)) (yD u)
def yTT (u : gW) : Nat := 64 * nW u
def yBP (u : gW) (p : Nat) : Bool := yPf u (p % yTT u)
def yBf (u : gW) (p : Nat) : Nat := yBn u (p / yTT u) (p % yTT u)
theorem yBf_le (p : Nat) : yBf u p ≤ yD u := fb_ct_le _ _
theorem pT {y k : Nat} (h : k < yTT u) : (y * yTT u + k) % yTT u = k ∧ (y * yTT u + k) / yTT u = y := by
  have h0 : 0 < yTT u := by omega
  rw [Nat.mul_comm y]
  exact ⟨by rw [Nat.mul_add_mod, Nat.mod_eq_of_lt h], by rw [Nat.mul_add_div h0, Nat.div_eq_of_lt h]; omega⟩
theorem yBP_k {y k : Nat} (h : k < yTT u) : yBP u (y * yTT u + k) = yPf u k := by unfold yBP; rw [(pT h).1]
theorem yBf_k {y k : Nat} (h : k < yTT u) : yBf u (y * yTT u + k) = yBn u y k := by unfold yBf; rw [(pT h).1, (pT h).2]
def yBz (u : gW) : Option Nat := sc (yBP u) (yBf u) (yY u * yTT u)
def rBz (u : gW) (t : Nat) : Int32 := match yBz u with
  | none => -1
  | some p => if t = 0 then nI (yBf u p) else if yBf u p = 0 then -1 else nI (p / yTT u)
theorem Ch_mostOn' (K : zK u) {w : gW} (h : zE u w) {y W : Nat} (hy : y < yY u) (hW : W < 263) : ∃ v : gW, f_Ch_mostOn (nI y) (nI W) w = zb (f_Ro_topLevel 103 v) (fun a b => some (a, b)) ∧ zE u v ∧ lvR v 103 9 (bL (w.2 76 W)) (fun b => fb_ct (fun j => bL (yDw u j y W) b) (yD u)) := by
  have h5 := K.D5
  unfold f_Ch_mostOn f_Co_fitting
  rw [zb_s, Ro_word' row_76 hW, zb_s]
  obtain ⟨v1, e1, k1, l1⟩ := lv_start lv_103 (w.2 76 W) w
  rw [e1, zb_s]
  have hv1 := k1.e (by decide) h
  generalize w.2 76 W = x at l1 ⊢
  have key := zfx_ind (fun _ _ _ _ => none) f_Ch_mostOn_b20_s (fun m kk => ∀ d v, d + m = yD u → zE u v → lvR v 103 9 (bL x) (fun b => fb_ct (fun j => bL (yDw u j y W) b) d) → ∃ v' : gW, kk (nI y) (nI W) (nI d) v = zb (f_Ro_topLevel 103 v') (fun a b => some (a, b)) ∧ zE u v' ∧ lvR v' 103 9 (bL x) (fun b => fb_ct (fun j => bL (yDw u j y W) b) (yD u))) (fun m kk ih d v hd hv hl => by
    unfold f_Ch_mostOn_b20_s
    rw [La_deedCount' K hv.k, zb_s]
    cases m with
    | zero =>
      rw [if_pos (by rw [n_le (by omega) (by omega)]; omega)]
      have e : d = yD u := by omega
      subst e
      exact ⟨v, rfl, hv, hl⟩
    | succ m =>
      rw [if_neg (by rw [n_le (by omega) (by omega)]; omega), La_dateWord' K hv.k (by omega) (Or.inl hy) hW, zb_s]
      obtain ⟨v2, e2, k2e, l2⟩ := lv_add lv_103 (yDw u d y W) hl
      rw [e2, zb_s, zl_s, n_1]
      exact ih m (by omega) (d + 1) v2 (by omega) (k2e.e (by decide) hv) l2) zFU (yD u) (zfu (by omega))
  exact key 0 v1 (by omega) hv1 l1
def qDy (u : gW) (q : Option Nat) : Int32 := match q with
  | none => -1
  | some p => nI (p / yTT u)
theorem qDy_n : qDy u none = -1 := rfl
theorem qDy_s (p : Nat) : qDy u (some p) = nI (p / yTT u) := rfl
theorem Ch_busy (K : zK u) (C : jCou u) {w : gW} (h : zE u w) {t : Nat} (ht2 : t < 2) : ∃ w' : gW, f_Ch_busiest (nI t) w = some (rBz u t, w') ∧ zE u w' := by
  have hn := nW_le K
  have h5 := K.D5
  have h6 := K.Y6
  have tt : yTT u = 64 * nW u := rfl
  have key := zfx_ind (fun _ _ _ _ _ => none) f_Ch_busiest_b7_s (fun m kk => ∀ y q v, y + m = yY u → zE u v → isT (yBP u) (yBf u) (y * yTT u) q → ∃ w' : gW, kk (nI t) (qF (yBf u) q) (qDy u q) (nI y) v = some (rBz u t, w') ∧ zE u w') (fun m kk ih y q v hy hv hq => by
    unfold f_Ch_busiest_b7_s
    rw [La_dayCount' K hv.k, zb_s]
    cases m with
    | zero =>
      rw [if_pos (by rw [n_le (by omega) (by omega)]; omega)]
      have ey : y = yY u := by omega
      subst ey
      have e : yBz u = q := isT_u (sc_T _ _ _) hq
      unfold rBz
      rw [e]
      refine ⟨v, ?_, hv⟩
      cases q with
      | none =>
        rw [qF_n, qDy_n]
        by_cases t0 : nI t = 0
        · rw [if_pos t0]
        · rw [if_neg t0, if_neg (show ¬ (-1 : Int32) = 0 by decide)]
      | some p =>
        have hp := yBf_le (u := u) p
        rw [qF_s, qDy_s]
        dsimp only
        by_cases t0 : t = 0
        · rw [if_pos (show nI t = 0 by rw [t0]; rfl), if_pos t0]
        · rw [if_neg (show ¬ nI t = 0 from nI_ne0 (by omega) (by omega)), if_neg t0]
          by_cases f0 : yBf u p = 0
          · rw [if_pos (show nI (yBf u p) = 0 by rw [f0]; rfl), if_pos f0]
          · rw [if_neg (show ¬ nI (yBf u p) = 0 from nI_ne0 (by omega) (by omega)), if_neg f0]
    | succ m =>
      rw [if_neg (by rw [n_le (by omega) (by omega)]; omega)]
      have hy2 : y < yY u := by omega
      have inner := zfx_ind (fun _ _ _ _ _ _ => none) (f_Ch_busiest_b22_s kk) (fun m2 k2 => ∀ W q v, W + m2 = nW u → zE u v → isT (yBP u) (yBf u) (y * yTT u + 64 * W) q → ∃ w' : gW, k2 (nI t) (qF (yBf u) q) (qDy u q) (nI y) (nI W) v = some (rBz u t, w') ∧ zE u w') (fun m2 k2 ih2 W q v hW hv hq => by
        unfold f_Ch_busiest_b22_s
        rw [La_words' K hv.k, zb_s]
        show ∃ w' : gW, (if nI (nW u) ≤ nI W then _ else _) = _ ∧ _
        cases m2 with
        | zero =>
          rw [if_pos (by rw [n_le (by omega) (by omega)]; omega), zl_s, n_1]
          refine ih m (by omega) (y + 1) q v (by omega) hv ?_
          have e64 : 64 * W = yTT u := by rw [tt]; omega
          rw [e64] at hq
          rw [Nat.succ_mul]
          exact hq
        | succ m2 =>
          rw [if_neg (by rw [n_le (by omega) (by omega)]; omega)]
          obtain ⟨v1, e1, h1, l1⟩ := Ch_mostOn' K hv hy2 (show W < 263 by omega)
          rw [e1]
          have hb : ∀ b, b < 64 → bL (v.2 76 W) b = yBP u (y * yTT u + 64 * W + b) := by
            intro b hb
            rw [Nat.add_assoc, yBP_k (by omega)]
            exact fit_w C hv (by omega) hb
          have hCC : ∀ b, b < 64 → yBP u (y * yTT u + 64 * W + b) = true → fb_ct (fun j => bL (yDw u j y W) b) (yD u) = yBf u (y * yTT u + 64 * W + b) := by
            intro b hb1 p
            rw [Nat.add_assoc, yBP_k (by omega)] at p
            have hk : 64 * W + b < yT u := by
              apply Nat.lt_of_not_le
              intro z
              rw [yPf_o z] at p
              cases p
            rw [Nat.add_assoc, yBf_k (by omega)]
            exact fb_ct_cong (fun j hj => yDw_b K hj (Or.inl hy2) hb1 hk)
          obtain ⟨q2, a1, a2⟩ := lv_stepB (P := yBP u) (f := yBf u) lv_103 l1 hb hCC (fun b hb1 p => by have := yBf_le (u := u) (y * yTT u + 64 * W + b); omega) hq (fun j _ => by have := yBf_le (u := u) j; omega)
          have go : ∀ q2, isT (yBP u) (yBf u) (y * yTT u + 64 * W + 64) q2 → ∃ w' : gW, f_Ch_busiest_b56 kk k2 (nI t) (qF (yBf u) q2) (qDy u q2) (nI y) (nI W) v1 = some (rBz u t, w') ∧ zE u w' := by
            intro q2 h2
            unfold f_Ch_busiest_b56
            rw [zl_s, n_1]
            exact ih2 m2 (by omega) (W + 1) q2 v1 (by omega) h1 h2
          rcases a2 with ⟨e, t4, f1, f2⟩ | ⟨b, e, b1, f1, f2⟩
          · rw [f1, zb_s, zb_s, if_pos f2, ← e]
            exact go q2 a1
          · rw [f1, zb_s, zb_s, if_neg f2]
            have := go q2 a1
            rw [e, qF_s, qDy_s, Nat.add_assoc, (pT (by omega)).2] at this
            rw [Nat.add_assoc]
            exact this) zFU (nW u) (zfu (by omega))
      exact inner 0 q v (by omega) hv hq) zFU (yY u) (zfu (by omega))
  unfold f_Ch_busiest
  exact key 0 none w (by omega) h ⟨fun _ i hi => absurd hi (by omega), fun j hj => by cases hj⟩
def mV (u : gW) (q : Option Nat) : Nat := match q with
  | none => 0
  | some p => yBf u p
def mD (u : gW) (q : Option Nat) : Int32 := match q with
  | none => -1
  | some p => if yBf u p = 0 then -1 else nI (p / yTT u)
theorem mV_n : mV u none = 0 := rfl
theorem mV_s (p : Nat) : mV u (some p) = yBf u p := rfl
theorem mD_n : mD u none = -1 := rfl
theorem mD_s (p : Nat) : mD u (some p) = if yBf u p = 0 then -1 else nI (p / yTT u) := rfl
theorem mV_le (q : Option Nat) : mV u q ≤ yD u := by
  cases q with
  | none => exact Nat.zero_le _
  | some p => exact yBf_le p
/-- one more fitting place -/
def nx (f : Nat → Nat) (k : Nat) (q : Option Nat) : Option Nat := match q with
  | none => some k
  | some j => if f j < f k then some k else some j
theorem nx_n (f : Nat → Nat) (k : Nat) : nx f k none = some k := rfl
theorem nx_s (f : Nat → Nat) (k j : Nat) : nx f k (some j) = if f j < f k then some k else some j := rfl
theorem isT_1 {P : Nat → Bool} {f : Nat → Nat} {k : Nat} {q : Option Nat} (h : isT P f k q) (p : P k = true) : isT P f (k + 1) (nx f k q) := by
  have e : sc P f k = q := isT_u (sc_T P f k) h
  have s := sc_T P f (k + 1)
  have es : sc P f (k + 1) = if P k = true then nx f k (sc P f k) else sc P f k := rfl
  rw [es, if_pos p, e] at s
  exact s
theorem M_busyL (J : zJ u) {w : gW} (h : zE u w) (hF : ∀ k, k < yT u → w.1 130 k = bI (yfi u k)) {t : Nat} (ht2 : t < 2) (hfit : ∃ k, k < yT u ∧ yfi u k = true) : ∃ w' : gW, f_M_busy_b42 (nI t) (0 : Int32) (-1 : Int32) (0 : Int32) w = some (rBz u t, w') ∧ zE u w' := by
  have K := J.K
  have ht := K.T7
  have h5 := K.D5
  have h6 := K.Y6
  have tt : yTT u = 64 * nW u := rfl
  have hTT : yT u ≤ yTT u := by rw [tt]; unfold nW; omega
  have key := zfx_ind (fun _ _ _ _ _ => none) f_M_busy_b42_s (fun m kk => ∀ y q v, y + m = yY u → zE u v → (∀ k, k < yT u → v.1 130 k = bI (yfi u k)) → isT (yBP u) (yBf u) (y * yTT u) q → ∃ w' : gW, kk (nI t) (nI (mV u q)) (mD u q) (nI y) v = some (rBz u t, w') ∧ zE u w') (fun m kk ih y q v hy hv hF hq => by
    have e22 : v.1 107 22 = nI (yY u) := (hv.k.i rfl).trans K.C.2.2.1.2
    unfold f_M_busy_b42_s
    rw [e22]
    cases m with
    | zero =>
      rw [if_pos (by rw [n_le (by omega) (by omega)]; omega)]
      have ey : y = yY u := by omega
      subst ey
      have e : yBz u = q := isT_u (sc_T _ _ _) hq
      unfold rBz
      rw [e]
      refine ⟨v, ?_, hv⟩
      cases q with
      | none =>
        obtain ⟨k, k1, k2⟩ := hfit
        exfalso
        by_cases y0 : yY u = 0
        · have := zK.T0 (u := u) (show 0 < yT u by omega)
          have := K.1.2
          omega
        · have a := hq.1 rfl ((yY u - 1) * yTT u + k) (by
            have : (yY u - 1 + 1) * yTT u = (yY u - 1) * yTT u + yTT u := Nat.succ_mul _ _
            rw [show yY u - 1 + 1 = yY u by omega] at this
            omega)
          rw [yBP_k (by omega), yPf_k k1, k2] at a
          cases a
      | some p =>
        rw [mV_s, mD_s]
        dsimp only
        by_cases t0 : t = 0
        · rw [if_pos (show nI t = 0 by rw [t0]; rfl), if_pos t0]
        · rw [if_neg (show ¬ nI t = 0 from nI_ne0 (by omega) (by omega)), if_neg t0]
    | succ m =>
      rw [if_neg (by rw [n_le (by omega) (by omega)]; omega)]
      have inner := zfx_ind (fun _ _ _ _ _ _ => none) (f_M_busy_b54_s kk) (fun m2 k2 => ∀ k q v, k + m2 = yT u → zE u v → (∀ k, k < yT u → v.1 130 k = bI (yfi u k)) → isT (yBP u) (yBf u) (y * yTT u + k) q → ∃ w' : gW, k2 (nI t) (nI (mV u q)) (mD u q) (nI y) (nI k) v = some (rBz u t, w') ∧ zE u w') (fun m2 k2 ih2 k q v hk hv hF hq => by
        unfold f_M_busy_b54_s
        rw [hv.k.i (a := 107) (b := 26) rfl, K.L.2.2.2.2.1]
        cases m2 with
        | zero =>
          rw [if_pos (by rw [n_le (by omega) (by omega)]; omega), zl_s, n_1]
          refine ih m (by omega) (y + 1) q v (by omega) hv hF ?_
          rw [Nat.succ_mul]
          refine isT_keep hq (by omega) (fun i h1 h2 p => ?_)
          rw [show i = y * yTT u + (i - y * yTT u) by omega, yBP_k (by omega), yPf_o (by omega)] at p
          cases p
        | succ m2 =>
          have i16 : inb (nI k) 16807 := z_inbn (by omega) (by decide)
          rw [if_neg (by rw [n_le (by omega) (by omega)]; omega), if_pos i16, z_ix (by omega), hF k (by omega)]
          have go : ∀ q2 v2, isT (yBP u) (yBf u) (y * yTT u + k + 1) q2 → zE u v2 → (∀ k, k < yT u → v2.1 130 k = bI (yfi u k)) → ∃ w' : gW, f_M_busy_b145 kk k2 (nI t) (nI (mV u q2)) (mD u q2) (nI y) (nI k) v2 = some (rBz u t, w') ∧ zE u w' := by
            intro q2 v2 a1 a2 a3
            unfold f_M_busy_b145
            rw [zl_s, n_1]
            exact ih2 m2 (by omega) (k + 1) q2 v2 (by omega) a2 a3 a1
          cases hf : yfi u k with
          | false =>
            rw [if_pos bf0]
            refine go q v (isT_keep hq (by omega) (fun i h1 h2 p => ?_)) hv hF
            rw [show i = y * yTT u + k by omega, yBP_k (by omega), yPf_k (by omega), hf] at p
            cases p
          | true =>
            obtain ⟨w1, e1, l1, m1⟩ := M_live K hv.k k
            have h1 := m1.e hv
            have hF1 : ∀ k, k < yT u → w1.1 130 k = bI (yfi u k) := fun j hj => (m1.1 130 j rfl).trans (hF j hj)
            rw [if_neg bt0, if_pos i16, hv.k.i (a := 118) rfl, K.L.2.2.2.2.2.1 k (by omega), e1, zb_s]
            have hP : yBP u (y * yTT u + k) = true := by rw [yBP_k (by omega), yPf_k (by omega)]; exact hf
            have hfv : yBf u (y * yTT u + k) = yBn u y k := yBf_k (by omega)
            have hdv : (y * yTT u + k) / yTT u = y := (pT (by omega)).2
            have hnx := isT_1 hq hP
            have loop := zfx_ind (fun _ _ _ _ _ _ _ _ => none) (f_M_busy_b93_s kk k2) (fun m3 k3 => ∀ d, d + m3 = yD u → ∃ w' : gW, k3 (nI t) (nI (mV u q)) (mD u q) (nI y) (nI k) (nI (fb_ct (fun d => decide (yd u k d = y)) d)) (nI d) w1 = some (rBz u t, w') ∧ zE u w') (fun m3 k3 ih3 d hd => by
              have c1 := fb_ct_le (fun d => decide (yd u k d = y)) d
              have c2 := mV_le (u := u) q
              unfold f_M_busy_b93_s
              rw [there21 K h1]
              cases m3 with
              | zero =>
                rw [if_pos (by rw [n_le (by omega) (by omega)]; omega)]
                have ed : d = yD u := by omega
                subst ed
                have e0 : fb_ct (fun d => decide (yd u k d = y)) (yD u) = yBn u y k := rfl
                rw [e0] at c1 ⊢
                by_cases c : mV u q < yBn u y k
                · rw [if_pos ((n_lt (by omega) (by omega)).mpr c)]
                  have eq2 : nx (yBf u) (y * yTT u + k) q = some (y * yTT u + k) := by
                    cases q with
                    | none => rfl
                    | some j => rw [mV_s] at c; rw [nx_s, hfv, if_pos c]
                  rw [eq2] at hnx
                  have g := go _ w1 hnx h1 hF1
                  rw [mV_s, mD_s, hfv, hdv, if_neg (by omega)] at g
                  exact g
                · rw [if_neg (fun z => c ((n_lt (by omega) (by omega)).mp z))]
                  cases q with
                  | none =>
                    have z0 : yBn u y k = 0 := by rw [mV_n] at c; omega
                    have g := go _ w1 hnx h1 hF1
                    rw [nx_n, mV_s, mD_s, hfv, z0, if_pos rfl] at g
                    exact g
                  | some j =>
                    have c' := c
                    rw [mV_s] at c'
                    rw [nx_s, hfv, if_neg c'] at hnx
                    exact go _ w1 hnx h1 hF1
              | succ m3 =>
                have h9 := (K.d9 (d := d) (by omega) k).1
                have s1 : fb_ct (fun d => decide (yd u k d = y)) (d + 1) = fb_ct (fun d => decide (yd u k d = y)) d + if decide (yd u k d = y) = true then 1 else 0 := fb_ct_succ _ _
                have st : ∀ c, fb_ct (fun d => decide (yd u k d = y)) d + c = fb_ct (fun d => decide (yd u k d = y)) (d + 1) → ∃ w' : gW, f_M_busy_b121 kk k2 k3 (nI t) (nI (mV u q)) (mD u q) (nI y) (nI k) (nI d) (nI (fb_ct (fun d => decide (yd u k d = y)) d)) (nI c) w1 = some (rBz u t, w') ∧ zE u w' := by
                  intro c hc
                  unfold f_M_busy_b121
                  rw [nI_add, hc, zl_s, zl_s, n_1]
                  exact ih3 m3 (by omega) (d + 1) (by omega)
                rw [if_neg (by rw [n_le (by omega) (by omega)]; omega), if_pos (z_inbn (by omega) (by decide)), z_ix (by omega), l1 d (by omega)]
                by_cases c : yd u k d = y
                · rw [if_pos (by rw [c])]
                  refine st 1 ?_
                  rw [s1, if_pos (decide_eq_true c)]
                · rw [if_neg (by rw [n_eq (by omega) (by omega)]; exact c)]
                  refine st 0 ?_
                  rw [s1, if_neg (by simp [c])]) zFU (yD u) (zfu (by omega))
            exact loop 0 (by omega)) zFU (yT u) (zfu (by omega))
      exact inner 0 q v (by omega) hv hF hq) zFU (yY u) (zfu (by omega))
  exact key 0 none w (by omega) h hF ⟨fun _ i hi => absurd hi (by omega), fun j hj => by cases hj⟩
theorem rBz_0 (h : fb_ct (yfi u) (yT u) = 0) (t : Nat) : rBz u t = -1 := by
  have e : yBz u = none := by
    cases e : yBz u with
    | none => rfl
    | some p =>
      have a := ((sc_T (yBP u) (yBf u) (yY u * yTT u)).2 p e).2.1
      unfold yBP yPf at a
      rw [Bool.and_eq_true, decide_eq_true_eq] at a
      rw [fb_ct_zero.mp h _ a.1] at a
      cases a.2
  unfold rBz
  rw [e]
theorem q_busy (J : zJ u) (a : Int32) : zQ u (f_X_busy a) (f_M_busy a) := by
  have K := J.K
  have h5 := K.D5
  have ht := K.T7
  by_cases g : 0 < yD u ∧ (0 ≤ a.toInt ∧ a.toInt < (2 : Nat))
  · obtain ⟨gd, g3⟩ := g
    obtain ⟨ec, hc⟩ := z_nIx g3
    generalize ix a = t at ec hc
    subst ec
    have hz : ¬ nI (yD u) = 0 := nI_ne0 gd (by omega)
    refine ⟨rBz u t, fun v hv => ?_, fun v hv => ?_⟩
    · obtain ⟨v1, e1, e2⟩ := Ch_busy K J.C hv hc
      refine ⟨v1, ?_, e2⟩
      unfold f_X_busy
      rw [La_isThere' K hv.k, zb_s, decide_eq_true gd, if_neg bt0, X_is01, zb_s, decide_eq_true g3, if_neg bt0, e1, zb_s]
    · obtain ⟨v1, e1, e2⟩ := M_fitsMany J hv.m0
      have hle := fb_ct_le (yfi u) (yT u)
      by_cases c0 : fb_ct (yfi u) (yT u) = 0
      · refine ⟨v1, ?_, e2⟩
        unfold f_M_busy
        rw [zl_s, there21 K hv.m0, if_neg hz, isIn_lit (nI t) (c := 1) 2 rfl, zb_s, decide_eq_true g3, if_neg bt0, e1, zb_s, c0, if_pos (show nI 0 = 0 from rfl), rBz_0 c0]
      · obtain ⟨v2, f1, f2, f3⟩ := M_layFits J e2
        obtain ⟨k, k1, k2, _⟩ := ct_first (Nat.pos_of_ne_zero c0)
        obtain ⟨v3, g1, g2⟩ := M_busyL J f2 f3 hc ⟨k, k1, k2⟩
        refine ⟨v3, ?_, g2⟩
        unfold f_M_busy
        rw [zl_s, there21 K hv.m0, if_neg hz, isIn_lit (nI t) (c := 1) 2 rfl, zb_s, decide_eq_true g3, if_neg bt0, e1, zb_s, if_neg (show ¬ nI (fb_ct (yfi u) (yT u)) = 0 from nI_ne0 (Nat.pos_of_ne_zero c0) (by omega)), f1, zb_s, g1]
  · refine ⟨-1, fun v hv => ⟨v, ?_, hv⟩, fun v hv => ⟨_, ?_, hv.m0⟩⟩
    · unfold f_X_busy
      rw [La_isThere' K hv.k, zb_s]
      by_cases gd : 0 < yD u
      · have g3 : ¬ (0 ≤ a.toInt ∧ a.toInt < (2 : Nat)) := fun z => g ⟨gd, z⟩
        rw [decide_eq_true gd, if_neg bt0, X_is01, zb_s, decide_eq_false g3, if_pos bf0]
      · rw [decide_eq_false gd, if_pos bf0]
    · unfold f_M_busy
      rw [zl_s, there21 K hv.m0]
      by_cases hz : nI (yD u) = 0
      · rw [if_pos hz]
      · have gd : 0 < yD u := by
          apply Nat.pos_of_ne_zero
          intro z
          rw [z] at hz
          exact hz rfl
        have g3 : ¬ (0 ≤ a.toInt ∧ a.toInt < (2 : Nat)) := fun z => g ⟨gd, z⟩
        rw [if_neg hz, isIn_lit a (c := 1) 2 rfl, zb_s, decide_eq_false g3, if_pos bf0]
end
