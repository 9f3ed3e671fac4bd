/-! PURE: levels; the best place by a count -/
def zRc (c : Nat) (w v : gW) : Prop := zAg (fun _ _ => false) (fun a => a == c) w v
theorem zRc.rf (c : Nat) (w : gW) : zRc c w w := zAg.rf _ _ _
theorem zRc.tr {c : Nat} {u w v : gW} (h : zRc c u w) (k : zRc c w v) : zRc c u v := zAg.tr h k
theorem zRc.e {c : Nat} {u w v : gW} (hc : zScrL c = true) (h : zE u w) (k : zRc c w v) : zE u v := zAg.tr (show zAg zScrI zScrL u w from h) (zAg.wk k (fun _ _ q => by cases q) (fun a q => by
  rw [show a = c from by simpa using q]; exact hc))
theorem zRc.i {c : Nat} {u w : gW} (h : zRc c u w) : w.1 = u.1 := by funext a b; exact h.1 a b rfl
theorem zRc.l {c : Nat} {u w : gW} (h : zRc c u w) {a : Nat} (ha : a ≠ c) (b : Nat) : w.2 a b = u.2 a b := h.2 a b (by simpa using ha)
theorem zRc.s {c : Nat} {u w : gW} (h : zRc c u w) (j : Nat) (x : Int64) : zRc c u (zsL w c j x) := zAg.sL h x (by simp)
def isLv (c n : Nat) : Prop := (g_sh c).1 = 2 ∧ g_len 2 c = n ∧ 2 ≤ n ∧ n < 100
theorem lv_89 : isLv 89 9 := by unfold isLv; decide +kernel
theorem lv_103 : isLv 103 9 := by unfold isLv; decide +kernel
def lvR (w : gW) (c n : Nat) (B : Nat → Bool) (C : Nat → Nat) : Prop := ∀ l, l < n → ∀ b, b < 64 → bL (w.2 c l) b = (B b && decide (l ≤ C b))
theorem lv_fill {c n : Nat} (r : isLv c n) (w : gW) : ∃ v : gW, f_Arr_fill_AJJ c (0 : Int64) w = some ((), v) ∧ zRc c w v ∧ ∀ l, l < n → v.2 c l = 0 := by
  obtain ⟨r1, r2, r3, r4⟩ := r
  have key := zfx_ind (fun _ _ _ _ _ => none) f_Arr_fill_AJJ_b6_s (fun m kk => ∀ i v, i + m = n → zRc c w v → (∀ l, l < i → v.2 c l = 0) → ∃ v' : gW, kk c 0 (nI i) (nI n) v = some ((), v') ∧ zRc c w v' ∧ ∀ l, l < n → v'.2 c l = 0) (fun m kk ih i v hi hv hp => by
    unfold f_Arr_fill_AJJ_b6_s
    cases m with
    | zero =>
      rw [if_pos (by rw [n_le (by omega) (by omega)]; omega)]
      exact ⟨v, rfl, hv, fun l hl => hp l (by omega)⟩
    | succ m =>
      rw [if_neg (by rw [n_le (by omega) (by omega)]; omega), if_pos (z_inbn (by omega) (by omega)), z_ix (by omega), zl_s, zl_s, n_1]
      refine ih m (by omega) (i + 1) _ (by omega) (hv.s i 0) (fun l hl => ?_)
      rw [zsL_g]
      by_cases q : l = i
      · rw [if_pos ⟨rfl, q⟩]
      · rw [if_neg (fun z => q z.2)]; exact hp l (by omega)) zFU n (zfu (by omega))
  unfold f_Arr_fill_AJJ
  rw [if_pos r1, zl_s, r2]
  exact key 0 w (by omega) (zRc.rf c w) (fun l hl => absurd hl (Nat.not_lt_zero l))
theorem lv_start {c n : Nat} (r : isLv c n) (x : Int64) (w : gW) : ∃ v : gW, f_Ro_startLevels c x w = some ((), v) ∧ zRc c w v ∧ lvR v c n (bL x) (fun _ => 0) := by
  obtain ⟨v, e, hv, hz⟩ := lv_fill r w
  obtain ⟨r1, r2, r3, r4⟩ := r
  refine ⟨zsL v c 0 x, ?_, hv.s 0 x, fun l hl b hb => ?_⟩
  · unfold f_Ro_startLevels
    rw [e, zb_s, if_pos r1, r2, if_neg (show ¬ nI n ≤ 0 by rw [show (0 : Int32) = nI 0 from rfl, n_le (by omega) (by omega)]; omega), if_pos (show inb (0 : Int32) n from z_inbn (n := 0) (by omega) (by omega)), zl_s]
    rfl
  · rw [zsL_g]
    by_cases q : l = 0
    · rw [if_pos ⟨rfl, q⟩, q]; cases bL x b <;> rfl
    · rw [if_neg (fun z => q z.2), hz l hl, bL_0, decide_eq_false (show ¬ l ≤ 0 by omega), Bool.and_false]
theorem lv_add {c n : Nat} (r : isLv c n) (x : Int64) {w : gW} {B : Nat → Bool} {C : Nat → Nat} (h : lvR w c n B C) : ∃ v : gW, f_Ro_addLevel c x w = some ((), v) ∧ zRc c w v ∧ lvR v c n B (fun b => C b + if bL x b = true then 1 else 0) := by
  obtain ⟨r1, r2, r3, r4⟩ := r
  have key := zfx_ind (fun _ _ _ _ => none) f_Ro_addLevel_b5_s (fun m kk => ∀ v, m < n → zRc c w v → (∀ l, l ≤ m → v.2 c l = w.2 c l) → (∀ l, l < n → (m < l ∨ l = 0) → ∀ b, b < 64 → bL (v.2 c l) b = (B b && decide (l ≤ C b + if bL x b = true then 1 else 0))) → ∃ v' : gW, kk c x (nI m - 1) v = some ((), v') ∧ zRc c w v' ∧ lvR v' c n B (fun b => C b + if bL x b = true then 1 else 0)) (fun m kk ih v hm hv ho hp => by
    unfold f_Ro_addLevel_b5_s
    cases m with
    | zero =>
      rw [if_pos (show nI 0 - (1 : Int32) < 0 by decide)]
      exact ⟨v, rfl, hv, fun l hl b hb => hp l hl (by omega) b hb⟩
    | succ m =>
      have e1 : nI (m + 1) - (1 : Int32) = nI m := nI_pred m
      have e5 : nI m + (-1 : Int32) = nI m - 1 := (Int32.sub_eq_add_neg _ _).symm
      rw [e1, if_neg (nI_pos (by omega)), n_1, r2, if_pos (z_inbn (by omega) (by omega)), if_pos (z_inbn (by omega) (by omega)), if_pos (z_inbn (by omega) (by omega)), z_ix (by omega), z_ix (by omega), zl_s, zl_s, e5]
      refine ih m (by omega) _ (by omega) (hv.s _ _) (fun l hl => ?_) (fun l hl hl2 b hb => ?_)
      · rw [zsL_g, if_neg (fun z => by omega)]
        exact ho l (by omega)
      · rw [zsL_g]
        by_cases q : l = m + 1
        · rw [if_pos ⟨rfl, q⟩, ho (m + 1) (by omega), ho m (by omega), bL_or, bL_and, h (m + 1) (by omega) b hb, h m (by omega) b hb, q]
          cases B b with
          | false => rfl
          | true =>
            cases bL x b with
            | false =>
              rw [if_neg (by decide)]
              simp only [Bool.true_and, Bool.and_false, Bool.or_false, Nat.add_zero]
            | true =>
              rw [if_pos rfl]
              simp only [Bool.true_and, Bool.and_true]
              rw [Bool.eq_iff_iff, Bool.or_eq_true, decide_eq_true_eq, decide_eq_true_eq, decide_eq_true_eq]
              omega
        · rw [if_neg (fun z => q z.2)]
          exact hp l hl (by omega) b hb) zFU (n - 1) (zfu (by omega))
  unfold f_Ro_addLevel
  rw [if_pos r1, zl_s, r2, show nI n - (2 : Int32) = nI (n - 1) - 1 by
    rw [show (2 : Int32) = nI 2 from rfl, show (1 : Int32) = nI 1 from rfl, n_sub (by omega), n_sub (by omega), show n - 1 - 1 = n - 2 by omega]]
  refine key w (by omega) (zRc.rf c w) (fun l hl => rfl) (fun l hl hl2 b hb => ?_)
  have : l = 0 := by omega
  rw [h l hl b hb, this]
  congr 1
/-- the top: none, or the greatest count -/
theorem lv_top {c n : Nat} (r : isLv c n) {w : gW} {B : Nat → Bool} {C : Nat → Nat} (h : lvR w c n B C) (hC : ∀ b, b < 64 → B b = true → C b < n) : (f_Ro_topLevel c w = some (-1, w) ∧ ∀ b, b < 64 → B b = false) ∨ ∃ t, t < n ∧ f_Ro_topLevel c w = some (nI t, w) ∧ f_Ro_word c (nI t) w = some (w.2 c t, w) ∧ (∃ b, b < 64 ∧ B b = true ∧ C b = t) ∧ (∀ b, b < 64 → B b = true → C b ≤ t) ∧ ∀ b, b < 64 → (bL (w.2 c t) b = true ↔ B b = true ∧ C b = t) := by
  obtain ⟨r1, r2, r3, r4⟩ := r
  have key := zfx_ind (fun _ _ _ => none) f_Ro_topLevel_b5_s (fun m kk => m ≤ n → (∀ b, b < 64 → B b = true → C b < m) → (kk c (nI m - 1) w = some (-1, w) ∧ ∀ b, b < 64 → B b = false) ∨ ∃ t, t < n ∧ kk c (nI m - 1) w = some (nI t, w) ∧ (∃ b, b < 64 ∧ B b = true ∧ C b = t) ∧ (∀ b, b < 64 → B b = true → C b ≤ t)) (fun m kk ih hm hp => by
    unfold f_Ro_topLevel_b5_s
    cases m with
    | zero =>
      rw [if_pos (show nI 0 - (1 : Int32) < 0 by decide)]
      refine Or.inl ⟨rfl, fun b hb => ?_⟩
      cases e : B b with
      | false => rfl
      | true => exact absurd (hp b hb e) (Nat.not_lt_zero _)
    | succ m =>
      have e1 : nI (m + 1) - (1 : Int32) = nI m := nI_pred m
      have e5 : nI m + (-1 : Int32) = nI m - 1 := (Int32.sub_eq_add_neg _ _).symm
      rw [e1, if_neg (nI_pos (by omega)), r2, if_pos (z_inbn (by omega) (by omega)), z_ix (by omega)]
      by_cases q : w.2 c m = 0
      · rw [if_pos ((lc_eq _ _).mpr q), zl_s, e5]
        refine ih m (by omega) (by omega) (fun b hb e => ?_)
        have a1 := hp b hb e
        have a2 := bL_z.mp q b hb
        rw [h m (by omega) b hb, e, Bool.true_and, decide_eq_false_iff_not] at a2
        omega
      · rw [if_neg (fun z => q ((lc_eq _ _).mp z))]
        obtain ⟨b, hb, e⟩ := bL_nz.mp q
        rw [h m (by omega) b hb, Bool.and_eq_true, decide_eq_true_eq] at e
        have a1 := hp b hb e.1
        exact Or.inr ⟨m, by omega, rfl, ⟨b, hb, e.1, by omega⟩, fun b2 h2 e2 => by have := hp b2 h2 e2; omega⟩) zFU n (zfu (by omega)) (Nat.le_refl _) hC
  have ef : f_Ro_topLevel c w = f_Ro_topLevel_b5 c (nI n - 1) w := by
    unfold f_Ro_topLevel
    rw [if_pos r1, zl_s, r2]
  rw [ef]
  rcases key with z | ⟨t, t1, t2, t3, t4⟩
  · exact Or.inl z
  · refine Or.inr ⟨t, t1, t2, ?_, t3, t4, fun b hb => ?_⟩
    · unfold f_Ro_word
      rw [if_neg (nI_pos (by omega)), if_pos r1, r2, if_neg (by rw [n_le (by omega) (by omega)]; omega), if_pos (z_inbn t1 (by omega)), z_ix (by omega)]
    · rw [h t t1 b hb, Bool.and_eq_true, decide_eq_true_eq]
      constructor
      · intro ⟨z1, z2⟩; have := t4 b hb z1; exact ⟨z1, by omega⟩
      · intro ⟨z1, z2⟩; exact ⟨z1, by omega⟩
/-- the first place with the greatest count -/
def sc (P : Nat → Bool) (f : Nat → Nat) : Nat → Option Nat
  | 0 => none
  | k + 1 => if P k = true then (match sc P f k with
    | none => some k
    | some j => if f j < f k then some k else some j) else sc P f k
def isT (P : Nat → Bool) (f : Nat → Nat) (k : Nat) (q : Option Nat) : Prop := (q = none → ∀ i, i < k → P i = false) ∧ ∀ j, q = some j → j < k ∧ P j = true ∧ (∀ i, i < k → P i = true → f i ≤ f j) ∧ ∀ i, i < j → P i = true → f i < f j
theorem isT_u {P : Nat → Bool} {f : Nat → Nat} {k : Nat} {q q2 : Option Nat} (h : isT P f k q) (h2 : isT P f k q2) : q = q2 := by
  cases q with
  | none =>
    cases q2 with
    | none => rfl
    | some j =>
      obtain ⟨a, b, c⟩ := h2.2 j rfl
      rw [h.1 rfl j a] at b
      cases b
  | some j =>
    obtain ⟨a, b, c, d⟩ := h.2 j rfl
    cases q2 with
    | none => rw [h2.1 rfl j a] at b; cases b
    | some j2 =>
      obtain ⟨a2, b2, c2, d2⟩ := h2.2 j2 rfl
      congr 1
      rcases Nat.lt_trichotomy j j2 with z | z | z
      · have := d2 j z b; have := c j2 a2 b2; omega
      · exact z
      · have := d j2 z b2; have := c2 j a b; omega
theorem sc_T (P : Nat → Bool) (f : Nat → Nat) : ∀ k, isT P f k (sc P f k)
  | 0 => ⟨fun _ i hi => absurd hi (Nat.not_lt_zero i), fun j h => by cases h⟩
  | k + 1 => by
    have ih := sc_T P f k
    unfold sc
    by_cases p : P k = true
    · rw [if_pos p]
      cases e : sc P f k with
      | none =>
        rw [e] at ih
        refine ⟨fun z => (by cases z), fun j h => ?_⟩
        cases h
        refine ⟨by omega, p, fun i hi q => ?_, fun i hi q => ?_⟩
        · by_cases z : i = k
          · rw [z]; exact Nat.le_refl _
          · rw [ih.1 rfl i (by omega)] at q; cases q
        · rw [ih.1 rfl i (by omega)] at q; cases q
      | some j =>
        rw [e] at ih
        obtain ⟨a, b, c, d⟩ := ih.2 j rfl
        dsimp only
        by_cases z : f j < f k
        · rw [if_pos z]
          refine ⟨fun z => (by cases z), fun j2 h => ?_⟩
          cases h
          refine ⟨by omega, p, fun i hi q => ?_, fun i hi q => ?_⟩
          · by_cases y : i = k
            · rw [y]; exact Nat.le_refl _
            · have := c i (by omega) q; omega
          · have := c i (by omega) q; omega
        · rw [if_neg z]
          refine ⟨fun z => (by cases z), fun j2 h => ?_⟩
          cases h
          refine ⟨by omega, b, fun i hi q => ?_, d⟩
          by_cases y : i = k
          · rw [y]; omega
          · exact c i (by omega) q
    · rw [if_neg p]
      refine ⟨fun z i hi => ?_, fun j h => ?_⟩
      · by_cases y : i = k
        · rw [y]; cases e : P k with
          | false => rfl
          | true => exact absurd e p
        · exact ih.1 z i (by omega)
      · obtain ⟨a, b, c, d⟩ := ih.2 j h
        refine ⟨by omega, b, fun i hi q => ?_, d⟩
        by_cases y : i = k
        · rw [y] at q; exact absurd q p
        · exact c i (by omega) q
