/-! PURE: rows filled; the court's review -/
theorem row_clear {c : Nat} (r : isRow c) (w : gW) : ∃ v : gW, f_Ro_clear c w = some ((), v) ∧ zRc c w v ∧ ∀ k, k < 16832 → zbt v c k = false := by
  obtain ⟨r1, r2⟩ := r
  have key := zfx_ind (fun _ _ _ _ _ => none) f_Arr_fill_AJJ_b6_s (fun m kk => ∀ i v, i + m = 263 → zRc c w v → (∀ l, l < i → v.2 c l = 0) → ∃ v' : gW, kk c 0 (nI i) (nI 263) v = some ((), v') ∧ zRc c w v' ∧ ∀ l, l < 263 → v'.2 c l = 0) (fun m kk ih i v hi hv hp => by
    unfold f_Arr_fill_AJJ_b6_s
    cases m with
    | zero =>
      rw [if_pos (by rw [n_le (by omega) (by omega)]; omega)]
      exact ⟨v, rfl, hv, fun l hl => hp l (by omega)⟩
    | succ m =>
      rw [if_neg (by rw [n_le (by omega) (by omega)]; omega), r2, if_pos (z_inbn (by omega) (by decide)), z_ix (by omega), zl_s, zl_s, n_1]
      refine ih m (by omega) (i + 1) _ (by omega) (hv.s i 0) (fun l hl => ?_)
      rw [zsL_g]
      by_cases q : l = i
      · rw [if_pos ⟨rfl, q⟩]
      · rw [if_neg (fun z => q z.2)]; exact hp l (by omega)) zFU 263 (zfu (by omega))
  obtain ⟨v, e1, e2, e3⟩ := key 0 w (by omega) (zRc.rf c w) (fun l hl => absurd hl (Nat.not_lt_zero l))
  refine ⟨v, ?_, e2, fun k hk => ?_⟩
  · unfold f_Ro_clear f_Arr_fill_AJJ
    rw [if_pos r1, zl_s, r2]
    rw [show f_Arr_fill_AJJ_b6 c (0 : Int64) (0 : Int32) (nI 263) w = _ from e1, zb_s]
  · show bL (v.2 c (k / 64)) (k % 64) = false
    rw [e3 _ (by omega), bL_0]
theorem Ro_fill' {c : Nat} (rc : isRow c) {a b : Nat} (ha : a < 20000) (hb : b ≤ 16832) (w : gW) : ∃ v : gW, f_Ro_fill c (nI a) (nI b) w = some ((), v) ∧ zRc c w v ∧ ∀ k, k < 16832 → zbt v c k = (zbt w c k || decide (a ≤ k ∧ k < b)) := by
  have key := zfx_ind (fun _ _ _ _ => none) f_Ro_fill_b2_s (fun m kk => ∀ t v, b - t ≤ m → a ≤ t → t < 20000 → zRc c w v → (∀ k, k < 16832 → zbt v c k = (zbt w c k || decide (a ≤ k ∧ k < t ∧ k < b))) → ∃ v' : gW, kk c (nI b) (nI t) v = some ((), v') ∧ zRc c w v' ∧ ∀ k, k < 16832 → zbt v' c k = (zbt w c k || decide (a ≤ k ∧ k < b))) (fun m kk ih t v hm hat ht hv hp => by
    unfold f_Ro_fill_b2_s
    by_cases q : b ≤ t
    · rw [if_pos (by rw [n_le (by omega) (by omega)]; exact q)]
      refine ⟨v, rfl, hv, fun k hk => ?_⟩
      rw [hp k hk]
      congr 1
      rw [Bool.eq_iff_iff, decide_eq_true_eq, decide_eq_true_eq]
      omega
    · rw [if_neg (by rw [n_le (by omega) (by omega)]; exact q)]
      have hW : t / 64 < 263 := by omega
      rw [n_sr6 (by omega), n_63 (by omega), zl_s, zl_s, n_sl6 (by omega), n_sub (by omega)]
      have go : ∀ x : Int64, (∀ i, i < 64 → bL x i = decide (t ≤ 64 * (t / 64) + i ∧ 64 * (t / 64) + i < b)) → ∃ v' : gW, f_Ro_fill_b52 kk c (nI b) (nI t) (nI (t / 64)) x v = some ((), v') ∧ zRc c w v' ∧ ∀ k, k < 16832 → zbt v' c k = (zbt w c k || decide (a ≤ k ∧ k < b)) := by
        intro x hx
        have q1 : ¬ nI 263 ≤ nI (t / 64) := by rw [n_le (by omega) (by omega)]; omega
        have q2 : inb (nI (t / 64)) 263 := z_inbn hW (by decide)
        unfold f_Ro_fill_b52 f_Ro_fill_b73
        simp only [rc.1, rc.2, if_true, if_neg q1, if_pos q2]
        rw [if_neg (nI_pos (by omega)), zl_s, zl_s, z_ix (by omega), n_sr6 (by omega), n_1, n_sl6 (by omega)]
        refine ih (m - 1) ?_ ((t / 64 + 1) * 64) _ (by omega) (by omega) (by omega) (hv.s _ _) (fun k hk => ?_)
        · omega
        · have hk2 := hp k hk
          by_cases e : k / 64 = t / 64
          · show bL ((zsL v c (t / 64) _).2 c (k / 64)) (k % 64) = _
            rw [rw_g, if_pos ⟨rfl, e⟩, bL_or, hx _ (by omega)]
            have hk3 : bL (v.2 c (t / 64)) (k % 64) = zbt v c k := by rw [← e]; rfl
            rw [hk3, hk2, Bool.or_assoc]
            congr 1
            rw [Bool.eq_iff_iff, Bool.or_eq_true, decide_eq_true_eq, decide_eq_true_eq, decide_eq_true_eq]
            omega
          · show bL ((zsL v c (t / 64) _).2 c (k / 64)) (k % 64) = _
            rw [rw_g, if_neg (fun z => e z.2)]
            have hk3 : bL (v.2 c (k / 64)) (k % 64) = zbt v c k := rfl
            rw [hk3, hk2]
            congr 1
            rw [Bool.eq_iff_iff, decide_eq_true_eq, decide_eq_true_eq]
            omega
      by_cases q6 : (64 : Int32) ≤ nI (b - t / 64 * 64)
      · rw [if_pos q6]
        rw [show (64 : Int32) = nI 64 from rfl, n_le (by omega) (by omega)] at q6
        refine go _ (fun i hi => ?_)
        rw [bL_shl _ (by omega) hi, bL_m1 _ (by omega), Bool.and_true, Bool.eq_iff_iff, decide_eq_true_eq, decide_eq_true_eq]
        omega
      · rw [if_neg q6]
        rw [show (64 : Int32) = nI 64 from rfl, n_le (by omega) (by omega)] at q6
        rw [n_63 (by omega), zl_s]
        refine go _ (fun i hi => ?_)
        rw [bL_and, bL_shl _ (by omega) hi, bL_m1 _ (by omega), bL_not _ hi, bL_shl _ (by omega) hi, bL_m1 _ (by omega), Bool.and_true, Bool.and_true, Bool.eq_iff_iff, Bool.and_eq_true, Bool.not_eq_true', decide_eq_false_iff_not, decide_eq_true_eq, decide_eq_true_eq]
        omega) zFU b (zfu (by omega))
  exact key a w (by omega) (Nat.le_refl _) ha (zRc.rf c w) (fun k hk => by rw [decide_eq_false (by omega), Bool.or_false])
theorem row_copy76 (w : gW) : f_Ro_copy 75 76 w = some ((), zcL w 76 (va_cpy (w.2 75) (w.2 76) 0 0 263)) := by
  unfold f_Ro_copy
  rw [if_pos (by decide +kernel), if_pos (by decide +kernel), if_pos (by decide +kernel), if_pos (by decide +kernel), if_pos (by decide +kernel), zl_s]
  rfl
theorem rc_copy76 (w : gW) : ∃ v : gW, f_Ro_copy 75 76 w = some ((), v) ∧ zRc 76 w v ∧ ∀ k, k < 16832 → zbt v 76 k = zbt w 75 k := by
  refine ⟨_, row_copy76 w, ⟨fun a b _ => rfl, fun a b q => ?_⟩, fun k hk => ?_⟩
  · show (if a = 76 then _ else w.2 a b) = _
    rw [if_neg (by simpa using q)]
  · show bL (if 76 = 76 then va_cpy (w.2 75) (w.2 76) 0 0 263 (k / 64) else _) (k % 64) = _
    rw [if_pos rfl, pk_cpy_in (Nat.zero_le _) (by omega), Nat.zero_add, Nat.sub_zero]
    rfl
/-- the court's rows -/
def zCr (a : Nat) : Bool := [74, 75, 76, 78, 79, 80, 81, 82, 83, 84, 85, 86, 87].contains a
def zCt (w v : gW) : Prop := zAg (fun _ _ => false) zCr w v
theorem zCt.tr {u w v : gW} (h : zCt u w) (k : zCt w v) : zCt u v := zAg.tr h k
theorem zCr_kl {a : Nat} (h : zCr a = true) : zKL a = true := by
  unfold zCr at h
  simp only [List.contains_eq_mem, List.mem_cons, List.not_mem_nil, or_false, decide_eq_true_eq] at h
  rcases h with h | h | h | h | h | h | h | h | h | h | h | h | h <;> subst h <;> rfl
theorem zCt.c {u w v : gW} (h : zEc u w) (k : zCt w v) : zEc u v := zAg.tr h (zAg.wk k (fun _ _ q => by cases q) (fun _ q => zCr_kl q))
theorem zRc.ct {c : Nat} (hc : zCr c = true) {w v : gW} (k : zRc c w v) : zCt w v := zAg.wk k (fun _ _ q => q) (fun a q => by
  have e : a = c := by simpa using q
  subst e
  exact hc)
theorem zSk.ct {w v : gW} (k : zSk w v) : zCt w v := zAg.wk k (fun _ _ q => q) (fun a q => by
  have e : a = 74 := by simpa using q
  subst e
  rfl)
section
variable {u : gW}
def cRw (u v : gW) : Prop := (∀ k, k < 16832 → zbt v 75 k = (decide (k < yT u) && ypo u k)) ∧ (∀ k, k < 16832 → zbt v 76 k = (decide (k < yT u) && yfi u k)) ∧ ∀ i, i < yS u → ∀ k, k < yT u → zbt v (78 + i) k = yHs u i (yal u) k
def yp1 (u : gW) (i k : Nat) : Bool := decide (∀ j, j < i → (yd u k (ix (u.1 123 j)) = ix (u.1 124 j) ↔ u.1 125 j = 1))
def yf1 (u : gW) (i k : Nat) : Bool := ypo u k && decide (∀ j, j < i → yHs u j (yal u) k = true)
theorem An_fact' (K : zK u) (R : jRec u) {w : gW} (h : zEc u w) {i : Nat} (hi : i < yF u) : f_An_factDeed (nI i) w = some (nI (ix (u.1 123 i)), w) ∧ f_An_factDay (nI i) w = some (nI (ix (u.1 124 i)), w) ∧ f_An_factTruth (nI i) w = some (u.1 125 i, w) := by
  have h20 := K.F20
  obtain ⟨⟨a1, a2, a3⟩, ⟨b1, -⟩, ⟨c1, -⟩, d1⟩ := R.2.1 i hi
  have q1 : ¬ (20 : Int32) ≤ nI i := by rw [show (20 : Int32) = nI 20 from rfl, n_le (by omega) (by omega)]; omega
  have q2 : inb (nI i) 20 := z_inbn (by omega) (by decide)
  refine ⟨?_, ?_, ?_⟩
  · unfold f_An_factDeed
    rw [if_neg (nI_pos (by omega)), if_neg q1, if_pos q2, z_ix (by omega), h.i rfl, a1, ← b1]
  · unfold f_An_factDay
    rw [if_neg (nI_pos (by omega)), if_neg q1, if_pos q2, z_ix (by omega), h.i rfl, a2, ← c1]
  · unfold f_An_factTruth
    rw [if_neg (nI_pos (by omega)), if_neg q1, if_pos q2, z_ix (by omega), h.i rfl, a3]
    rcases d1 with d | d
    · rw [d, if_pos rfl]
    · rw [d, if_neg (by decide)]
theorem row78 {i : Nat} (hi : i < 10) : zCr (78 + i) = true ∧ 78 + i ≠ 74 ∧ 78 + i ≠ 75 ∧ 78 + i ≠ 76 := by
  refine ⟨?_, by omega, by omega, by omega⟩
  have : ∀ i, i < 10 → zCr (78 + i) = true := by decide +kernel
  exact this i hi
theorem Co_admit' (K : zK u) (R : jRec u) {w : gW} (h : zEc u w) {i : Nat} (hi : i < yS u) (h76 : ∀ k, k < 16832 → zbt w 76 k = (decide (k < yT u) && yf1 u i k)) : ∃ v : gW, f_Co_admit (nI i) w = some ((), v) ∧ zCt w v ∧ (∀ k, k < 16832 → zbt v 76 k = (decide (k < yT u) && yf1 u (i + 1) k)) ∧ (∀ k, k < yT u → zbt v (78 + i) k = yHs u i (yal u) k) ∧ (∀ a, a ≠ 74 → a ≠ 76 → a ≠ 78 + i → v.2 a = w.2 a) := by
  have h10 := K.S10
  have h6 := K.Y6
  have hn := nW_le K
  have hal := yal_lt K
  have hO := (R.1 i hi).2.2.1.2
  have hY := (R.1 i hi).2.2.2.1.2
  obtain ⟨r78, n74, n75, n76⟩ := row78 (i := i) (by omega)
  have rr := row_s i (by omega)
  unfold f_Co_admit
  rw [An_all_c K h, zb_s]
  have key := zfx_ind (fun _ _ _ _ => none) f_Co_admit_b10_s (fun m kk => ∀ W v, W + m = nW u → zCt w v → (∀ a, a ≠ 74 → a ≠ 76 → a ≠ 78 + i → v.2 a = w.2 a) → (∀ k, k < 64 * W → zbt v 76 k = (decide (k < yT u) && yf1 u (i + 1) k)) → (∀ V, W ≤ V → v.2 76 V = w.2 76 V) → (∀ k, k < 64 * W → k < yT u → zbt v (78 + i) k = yHs u i (yal u) k) → ∃ v' : gW, kk (nI i) (nI (yal u)) (nI W) v = some ((), v') ∧ zCt w v' ∧ (∀ k, k < 16832 → zbt v' 76 k = (decide (k < yT u) && yf1 u (i + 1) k)) ∧ (∀ k, k < yT u → zbt v' (78 + i) k = yHs u i (yal u) k) ∧ (∀ a, a ≠ 74 → a ≠ 76 → a ≠ 78 + i → v'.2 a = w.2 a)) (fun m kk ih W v hW hv ho h1 h2 h3 => by
    unfold f_Co_admit_b10_s
    have hE := hv.c h
    have q0 : ¬ (10 : Int32) ≤ nI i := by rw [show (10 : Int32) = nI 10 from rfl, n_le (by omega) (by omega)]; omega
    rw [if_neg (nI_pos (by omega)), if_neg q0, La_words'c K hE, zb_s]
    show ∃ v' : gW, (if nI (nW u) ≤ nI W then _ else _) = _ ∧ _
    cases m with
    | zero =>
      rw [if_pos (by rw [n_le (by omega) (by omega)]; omega)]
      have eW : W = nW u := by omega
      refine ⟨v, rfl, hv, fun k hk => ?_, fun k hk => h3 k (by rw [eW]; exact nW_ge hk) hk, ho⟩
      by_cases q : k < 64 * W
      · exact h1 k q
      · have kT : ¬ k < yT u := fun z => q (by rw [eW]; exact nW_ge z)
        show bL (v.2 76 (k / 64)) (k % 64) = _
        rw [h2 (k / 64) (by omega)]
        have := h76 k hk
        unfold zbt at this
        rw [this, decide_eq_false kT, Bool.false_and, Bool.false_and]
    | succ m =>
      have q1 : ¬ (263 : Int32) ≤ nI W := by rw [show (263 : Int32) = nI 263 from rfl, n_le (by omega) (by omega)]; omega
      have q2 : inb (nI W) 263 := z_inbn (by omega) (by decide)
      rw [if_neg (by rw [n_le (by omega) (by omega)]; omega), if_neg q1, An_oathOf'c K R hE hi, zb_s, An_dayOf'c K R hE hi, zb_s]
      obtain ⟨r, v1, e1, s1, b1⟩ := Co_wordOf_c K hE (s := ix (u.1 121 i)) hO (by omega) (show yal u < 2 ^ 31 by omega) (W := W) (by omega)
      rw [e1, zb_s, if_pos (z_inbn (by omega) (by decide)), z_ix (by omega), show 77 + 1 + i = 78 + i by omega, rr.2]
      simp only [if_pos q2]
      rw [zl_s, zl_s, zl_s, n_1, z_ix (by omega)]
      have s76 : ∀ b, v1.2 76 b = v.2 76 b := fun b => s1.l (by decide) b
      refine ih m (by omega) (W + 1) _ (by omega) (((hv.tr s1.ct).sL _ r78).sL _ rfl) (fun a a1 a2 a3 => ?_) (bits_s (fun k hk => ?_) (fun b hb => ?_)) (fun V hV => ?_) (bits_s (fun k hk hkT => ?_) (fun b hb hkT => ?_))
      · funext b
        rw [rw_g, if_neg (fun z => a2 z.1), rw_g, if_neg (fun z => a3 z.1), s1.l a1, ho a a1 a2 a3]
      · show bL ((zsL (zsL v1 (78 + i) W r) 76 W _).2 76 (k / 64)) (k % 64) = _
        rw [rw_g, if_neg (by omega), rw_g, if_neg (by omega), s76]
        exact h1 k hk
      · rw [zbt_w hb, rw_g, if_pos ⟨rfl, rfl⟩, bL_and, rw_g, if_neg (by omega), s76, h2 W (Nat.le_refl _), ← zbt_w hb, h76 _ (by omega)]
        by_cases q : 64 * W + b < yT u
        · rw [decide_eq_true q, Bool.true_and, Bool.true_and, b1 b hb q]
          unfold yf1
          rw [Bool.and_assoc]
          congr 1
          show (_ && yHs u i (yal u) (64 * W + b)) = _
          rw [Bool.eq_iff_iff, Bool.and_eq_true, decide_eq_true_eq, decide_eq_true_eq]
          constructor
          · intro z j hj
            by_cases e : j = i
            · subst e; exact z.2
            · exact z.1 j (by omega)
          · intro z
            exact ⟨fun j hj => z j (by omega), z i (by omega)⟩
        · rw [decide_eq_false q, Bool.false_and, Bool.false_and, Bool.false_and]
      · rw [rw_g, if_neg (by omega), rw_g, if_neg (by omega), s76]
        exact h2 V (by omega)
      · show bL ((zsL (zsL v1 (78 + i) W r) 76 W _).2 (78 + i) (k / 64)) (k % 64) = _
        rw [rw_g, if_neg (fun z => n76 z.1), rw_g, if_neg (by omega), s1.l n74]
        exact h3 k hk hkT
      · rw [zbt_w hb, rw_g, if_neg (fun z => n76 z.1), rw_g, if_pos ⟨rfl, rfl⟩]
        exact b1 b hb hkT) zFU (nW u) (zfu (by omega))
  exact key 0 w (by omega) (zAg.rf _ _ _) (fun a _ _ _ => rfl) (fun k hk => absurd hk (by omega)) (fun V _ => rfl) (fun k hk => absurd hk (by omega))
theorem Co_review' (K : zK u) (R : jRec u) {w : gW} (h : zEc u w) : ∃ v : gW, f_Co_review w = some ((), v) ∧ zCt w v ∧ cRw u v := by
  have h10 := K.S10
  have h20 := K.F20
  have hT := K.T7
  have hn := nW_le K
  have k75 : zCr 75 = true := rfl
  have k76 : zCr 76 = true := rfl
  unfold f_Co_review
  obtain ⟨v1, e1, s1, b1⟩ := row_clear row_75 w
  have h1 := (s1.ct k75).c h
  obtain ⟨v2, e2, s2, b2⟩ := Ro_fill' row_75 (a := 0) (b := yT u) (by omega) (by omega) v1
  rw [e1, zb_s]
  unfold f_La_total
  rw [zb_s, h1.i (a := 19) (b := 6) rfl, K.L.2.2.2.1, show f_Ro_fill 75 (0 : Int32) (nI (yT u)) v1 = _ from e2, zb_s]
  have t2 : zCt w v2 := (s1.ct k75).tr (s2.ct k75)
  have key := zfx_ind (fun _ _ => none) f_Co_review_b24_s (fun m kk => ∀ i v, i + m = yF u → zCt w v → (∀ k, k < 16832 → zbt v 75 k = (decide (k < yT u) && yp1 u i k)) → ∃ v' : gW, kk (nI i) v = some ((), v') ∧ zCt w v' ∧ cRw u v') (fun m kk ih i v hi hv hb => by
    unfold f_Co_review_b24_s f_An_factCount
    have hE := hv.c h
    rw [zb_s, hE.i rfl, K.C.2.2.2.2.2.1.1]
    cases m with
    | zero =>
      rw [if_pos (by rw [n_le (by omega) (by omega)]; omega)]
      obtain ⟨v3, e3, s3, b3⟩ := rc_copy76 v
      rw [e3, zb_s]
      have iF : i = yF u := by omega
      have h75 : ∀ k, k < 16832 → zbt v 75 k = (decide (k < yT u) && ypo u k) := fun k hk => by rw [hb k hk, iF]; rfl
      have key2 := zfx_ind (fun _ _ => none) f_Co_review_b86_s (fun m2 k2 => ∀ j v, j + m2 = yS u → zCt w v → (∀ k, k < 16832 → zbt v 75 k = (decide (k < yT u) && ypo u k)) → (∀ k, k < 16832 → zbt v 76 k = (decide (k < yT u) && yf1 u j k)) → (∀ a, a < j → ∀ k, k < yT u → zbt v (78 + a) k = yHs u a (yal u) k) → ∃ v' : gW, k2 (nI j) v = some ((), v') ∧ zCt w v' ∧ cRw u v') (fun m2 k2 ih2 j v hj hv g1 g2 g3 => by
        unfold f_Co_review_b86_s f_An_swornCount
        have hE := hv.c h
        rw [zb_s, hE.i rfl, K.C.2.2.2.2.1.1]
        cases m2 with
        | zero =>
          rw [if_pos (by rw [n_le (by omega) (by omega)]; omega)]
          have jS : j = yS u := by omega
          rw [jS] at g2 g3
          exact ⟨v, rfl, hv, g1, g2, g3⟩
        | succ m2 =>
          rw [if_neg (by rw [n_le (by omega) (by omega)]; omega)]
          obtain ⟨v4, e4, s4, c1, c2, c3⟩ := Co_admit' K R hE (i := j) (by omega) g2
          rw [e4, zb_s, zl_s, n_1]
          refine ih2 m2 (by omega) (j + 1) v4 (by omega) (hv.tr s4) (fun k hk => ?_) c1 (fun a ha k hk => ?_)
          · show bL (v4.2 75 (k / 64)) (k % 64) = _
            rw [c3 75 (by decide) (by decide) (by omega)]
            exact g1 k hk
          · by_cases e : a = j
            · subst e; exact c2 k hk
            · show bL (v4.2 (78 + a) (k / 64)) (k % 64) = _
              rw [c3 (78 + a) (by omega) (by omega) (by omega)]
              exact g3 a (by omega) k hk) zFU (yS u) (zfu (by omega))
      refine key2 0 v3 (by omega) (hv.tr (s3.ct k76)) (fun k hk => ?_) (fun k hk => ?_) (fun a ha => absurd ha (Nat.not_lt_zero a))
      · show bL (v3.2 75 (k / 64)) (k % 64) = _
        rw [s3.l (by decide)]
        exact h75 k hk
      · rw [b3 k hk, h75 k hk]
        unfold yf1
        rw [decide_eq_true (fun j hj => absurd hj (Nat.not_lt_zero j)), Bool.and_true]
    | succ m =>
      rw [if_neg (by rw [n_le (by omega) (by omega)]; omega)]
      obtain ⟨a1, a2, a3⟩ := An_fact' K R hE (i := i) (by omega)
      obtain ⟨-, ⟨-, c1⟩, ⟨-, c2⟩, c3⟩ := R.2.1 i (by omega)
      rw [a1, zb_s, a2, zb_s, a3, zb_s]
      obtain ⟨v3, e3, s3, d1, d2, d3⟩ := Co_narrow'c K hE row_75 rfl c1 c2 c3
      rw [e3, zb_s, zl_s, n_1]
      refine ih m (by omega) (i + 1) v3 (by omega) (hv.tr (s3.ct k75)) (fun k hk => ?_)
      by_cases q : k < yT u
      · rw [d3 k q, hb k hk, decide_eq_true q, Bool.true_and, Bool.true_and, Bool.eq_iff_iff, Bool.and_eq_true]
        unfold yp1
        rw [decide_eq_true_eq, decide_eq_true_eq, beq_iff_eq, decide_eq_decide]
        constructor
        · intro z j hj
          by_cases e : j = i
          · subst e; exact z.2
          · exact z.1 j (by omega)
        · intro z
          exact ⟨fun j hj => z j (by omega), z i (by omega)⟩
      · rw [decide_eq_false q, Bool.false_and]
        cases e : zbt v3 75 k with
        | false => rfl
        | true =>
          have : zbt v 75 k = true := by
            by_cases q2 : k < 64 * nW u
            · exact d2 k q2 e
            · have ee : v3.2 75 (k / 64) = v.2 75 (k / 64) := d1 (k / 64) (by omega)
              unfold zbt at e ⊢
              rw [← ee]; exact e
          rw [hb k hk, decide_eq_false q, Bool.false_and] at this
          cases this) zFU (yF u) (zfu (by omega))
  refine key 0 v2 (by omega) t2 (fun k hk => ?_)
  rw [b2 k hk, b1 k hk, Bool.false_or]
  unfold yp1
  rw [decide_eq_true (p := ∀ j, j < 0 → _) (fun j hj => absurd hj (Nat.not_lt_zero j)), Bool.and_true]
  rw [Bool.eq_iff_iff, decide_eq_true_eq, decide_eq_true_eq]
  exact ⟨fun z => z.2, fun z => ⟨Nat.zero_le _, z⟩⟩
end
