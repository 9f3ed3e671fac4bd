/-! PURE: the class's land settled; its rows -/
section
variable {u : gW}
theorem row_24 : ∀ c, c < 35 → isRow (24 + c) := by unfold isRow; decide +kernel
theorem Ro_join' {a b n : Nat} (ra : isRow a) (rb : isRow b) (hab : a ≠ b) (hn : n ≤ 263) (w : gW) : ∃ v : gW, f_Ro_join a b (nI n) w = some ((), v) ∧ zRc a w v ∧ ∀ k, k < 64 * n → zbt v a k = (zbt w a k || zbt w b k) := by
  have key := zfx_ind (fun _ _ _ _ _ => none) f_Ro_join_b2_s (fun m kk => ∀ W v, W + m = n → zRc a w v → (∀ V, W ≤ V → v.2 a V = w.2 a V) → (∀ k, k < 64 * W → zbt v a k = (zbt w a k || zbt w b k)) → ∃ v' : gW, kk a b (nI n) (nI W) v = some ((), v') ∧ zRc a w v' ∧ ∀ k, k < 64 * n → zbt v' a k = (zbt w a k || zbt w b k)) (fun m kk ih W v hW hv h0 h1 => by
    unfold f_Ro_join_b2_s
    cases m with
    | zero =>
      rw [if_pos (by rw [n_le (by omega) (by omega)]; omega)]
      exact ⟨v, rfl, hv, fun k hk => h1 k (by omega)⟩
    | succ m =>
      have q1 : ¬ nI 263 ≤ nI W := by rw [n_le (by omega) (by omega)]; omega
      have q2 : inb (nI W) 263 := z_inbn (by omega) (by decide)
      rw [if_neg (by rw [n_le (by omega) (by omega)]; omega)]
      simp only [ra.1, ra.2, rb.1, rb.2, if_true, if_neg q1, if_pos q2]
      rw [zl_s, zl_s, n_1, z_ix (by omega)]
      refine ih m (by omega) (W + 1) _ (by omega) (hv.s _ _) (fun V hV => ?_) (bits_s (fun k hk => ?_) (fun i hi => ?_))
      · rw [rw_g, if_neg (by omega)]
        exact h0 V (by omega)
      · show bL ((zsL v a W _).2 a (k / 64)) (k % 64) = _
        rw [rw_g, if_neg (by omega)]
        exact h1 k hk
      · rw [zbt_w hi, rw_g, if_pos ⟨rfl, rfl⟩, bL_or, h0 W (Nat.le_refl _), hv.l (fun z => hab z.symm), ← zbt_w hi, ← zbt_w hi]) zFU n (zfu (by omega))
  exact key 0 w (by omega) (zRc.rf a w) (fun _ _ => rfl) (fun k hk => absurd hk (by omega))
/-- the class's numbers of the land that the model's cells of u tell -/
def cS (u w : gW) : Prop := (w.1 19 5 = nI (yD u) ∧ w.1 19 6 = nI (yT u)) ∧ ∀ d, d < yD u → (w.1 20 (3 * d + 1) = nI (yf u d) ∧ w.1 20 (3 * d + 2) = nI (yl u d)) ∧ w.1 21 d = nI (yo u d) ∧ w.1 22 d = nI (yst u d)
theorem cS.cg {w v : gW} (h : cS u w) (e : v.1 = w.1) : cS u v := by unfold cS at h ⊢; rw [e]; exact h
theorem n3j {d j : Nat} : nI d * (3 : Int32) + nI j = nI (3 * d + j) := by rw [show (3 : Int32) = nI 3 from rfl, pk_mul, nI_add, Nat.mul_comm]
theorem tr_s {d j : Nat} (hd : d < 5) (hj : j < 3) (w : gW) : f_La_trait (nI d) (nI j) w = some (w.1 20 (3 * d + j), w) := by
  unfold f_La_trait
  rw [n3j, zl_s, if_neg (nI_pos (by omega)), if_neg (by rw [n_le (by omega) (by omega)]; omega), if_pos (z_inbn (by omega) (by decide)), z_ix (by omega)]
theorem has_s (K : zB u) {w : gW} (h : cS u w) (a : Int32) : f_La_hasDeed a w = some (zbl a (yD u), w) := La_hasDeed a w h.1.1 K.D5
theorem opt_s (K : zB u) {w : gW} (h : cS u w) {d : Nat} (hd : d < yD u) : f_La_options (nI d) w = some (nI (yo u d), w) := by
  have := K.D5
  unfold f_La_options
  rw [has_s K h, zb_s, n_zbl hd (by omega), if_neg z10, if_pos (z_inbn (by omega) (by decide)), z_ix (by omega), (h.2 d hd).2.1]
theorem str_s (K : zB u) {w : gW} (h : cS u w) {d : Nat} (hd : d < yD u) : f_La_stride (nI d) w = some (nI (yst u d), w) := by
  have := K.D5
  unfold f_La_stride
  rw [has_s K h, zb_s, n_zbl hd (by omega), if_neg z10, if_pos (z_inbn (by omega) (by decide)), z_ix (by omega), (h.2 d hd).2.2]
theorem day_s (K : zB u) {w : gW} (h : cS u w) {d o : Nat} (hd : d < yD u) (ho : o + 1 < yo u d) : f_La_dayOf (nI d) (nI o) w = some (nI (yf u d + o), w) := by
  have := K.D5
  have q := K.dd hd
  have ho' : o + 1 < yl u d + 2 - yf u d := ho
  unfold f_La_dayOf
  rw [show f_La_trait (nI d) (1 : Int32) w = _ from tr_s (j := 1) (by omega) (by decide) w, zb_s, (h.2 d hd).1.1, nI_add, zl_s, show f_La_trait (nI d) (2 : Int32) w = _ from tr_s (j := 2) (by omega) (by decide) w, zb_s, (h.2 d hd).1.2, if_neg (by rw [n_lt (by omega) (by omega)]; omega)]
theorem see_s {d s : Nat} (hd : d < 5) (hs : s < 7) (w : gW) : f_La_sight (nI d) (nI s) w = some (24 + (7 * d + s), w) := by
  unfold f_La_sight f_La_sight_b29
  rw [e7, zl_s, if_neg (nI_pos (by omega)), if_neg (by rw [n_le (by omega) (by omega)]; omega), if_pos (z_inbn (by omega) (by decide)), z_ix (by omega)]
theorem wrd_s (K : zB u) {w : gW} (h : cS u w) : f_La_words w = some (nI (nW u), w) := by
  have t := K.T7
  unfold f_La_words
  rw [h.1.2, show (63 : Int32) = nI 63 from rfl, nI_add, n_sr6 (by omega)]
  rfl
/-- only the seven rows of a deed change -/
def zWd (d : Nat) (w v : gW) : Prop := v.1 = w.1 ∧ ∀ a, ¬ (24 + 7 * d ≤ a ∧ a < 24 + 7 * d + 7) → v.2 a = w.2 a
theorem zWd.rf (d : Nat) (w : gW) : zWd d w w := ⟨rfl, fun _ _ => rfl⟩
theorem zWd.c {d s : Nat} (hs : s < 7) {x w v : gW} (h : zWd d x w) (k : zRc (24 + (7 * d + s)) w v) : zWd d x v := ⟨k.i.trans h.1, fun a q => (funext (fun b => k.l (by omega) b)).trans (h.2 a q)⟩
/-- the rows of a deed, told for the lives below q -/
def wR (u : gW) (d q : Nat) (v : gW) : Prop := ∀ s, s < 7 → ∀ k, k < 16832 → zbt v (24 + (7 * d + s)) k = decide (k < q ∧ yd u k d + 1 = s)
theorem zbt_rc {c a : Nat} {w v : gW} (k : zRc c w v) (h : a ≠ c) (i : Nat) : zbt v a i = zbt w a i := by
  unfold zbt
  rw [k.l h]
theorem watch_j (K : zB u) {d : Nat} (hd : d < yD u) {w : gW} (h : cS u w) (R : wR u d (yT u) w) : ∃ v : gW, f_La_watch_b116 (nI d) w = some ((), v) ∧ zWd d w v ∧ ∀ s, s < 7 → ∀ k, k < yT u → zbt v (24 + (7 * d + s)) k = decide (yd u k d < s) := by
  have h5 := K.D5
  have hT := K.T7
  have key := zfx_ind (fun _ _ _ => none) f_La_watch_b118_s (fun m kk => ∀ s v, s + m = 7 → 1 ≤ s → zWd d w v → (∀ t, t < s → ∀ k, k < yT u → zbt v (24 + (7 * d + t)) k = decide (yd u k d < t)) → (∀ t, s ≤ t → t < 7 → ∀ k, k < yT u → zbt v (24 + (7 * d + t)) k = decide (yd u k d + 1 = t)) → ∃ v' : gW, kk (nI d) (nI s) v = some ((), v') ∧ zWd d w v' ∧ ∀ t, t < 7 → ∀ k, k < yT u → zbt v' (24 + (7 * d + t)) k = decide (yd u k d < t)) (fun m kk ih s v hm h1 hv g1 g2 => by
    unfold f_La_watch_b118_s
    cases m with
    | zero =>
      rw [if_pos (by rw [show (7 : Int32) = nI 7 from rfl, n_le (by omega) (by omega)]; omega)]
      exact ⟨v, rfl, hv, fun t ht => g1 t (by omega)⟩
    | succ m =>
      obtain ⟨s', rfl⟩ : ∃ s', s = s' + 1 := ⟨s - 1, by omega⟩
      rw [if_neg (by rw [show (7 : Int32) = nI 7 from rfl, n_le (by omega) (by omega)]; omega), see_s (by omega) (by omega), zb_s, n_sub1, see_s (by omega) (by omega), zb_s, wrd_s K (h.cg hv.1), zb_s]
      obtain ⟨v2, e1, e2, e3⟩ := Ro_join' (a := 24 + (7 * d + (s' + 1))) (b := 24 + (7 * d + s')) (n := nW u) (row_24 _ (by omega)) (row_24 _ (by omega)) (by omega) (by unfold nW; omega) v
      rw [e1, zb_s, zl_s, n_1]
      refine ih m (by omega) (s' + 1 + 1) v2 (by omega) (by omega) (hv.c (by omega) e2) (fun t ht k hk => ?_) (fun t t1 t2 k hk => ?_)
      · by_cases e : t = s' + 1
        · subst e
          rw [e3 k (nW_ge hk), g1 s' (by omega) k hk, g2 (s' + 1) (Nat.le_refl _) (by omega) k hk, Bool.eq_iff_iff, Bool.or_eq_true, decide_eq_true_eq, decide_eq_true_eq, decide_eq_true_eq]
          omega
        · rw [zbt_rc e2 (by omega)]
          exact g1 t (by omega) k hk
      · rw [zbt_rc e2 (by omega)]
        exact g2 t (by omega) t2 k hk) zFU 6 (zfu (by omega))
  refine key 1 w (by omega) (by omega) (zWd.rf d w) (fun t ht k hk => ?_) (fun t t1 t2 k hk => ?_)
  · rw [R t (by omega) k (by omega), Bool.eq_iff_iff, decide_eq_true_eq, decide_eq_true_eq]
    omega
  · rw [R t (by omega) k (by omega), Bool.eq_iff_iff, decide_eq_true_eq, decide_eq_true_eq]
    omega
theorem mul_lt_T (K : zB u) {d p : Nat} (hd : d < yD u) (hp : p % yZd u d = 0) (hT : p < yT u) : p + yZd u d ≤ yT u := by
  obtain ⟨q, hq⟩ := yZd_dvd K d (by omega)
  have z := yZd_pos K (d := d) (by omega)
  obtain ⟨r, hr⟩ : ∃ r, p = yZd u d * r := ⟨p / yZd u d, by have := Nat.div_add_mod p (yZd u d); omega⟩
  rw [hq, hr] at hT ⊢
  have : r < q := Nat.lt_of_mul_lt_mul_left hT
  calc yZd u d * r + yZd u d = yZd u d * (r + 1) := (Nat.mul_succ _ _).symm
    _ ≤ yZd u d * q := Nat.mul_le_mul_left _ this
theorem La_watch_s (K : zB u) {d : Nat} (hd : d < yD u) {w : gW} (h : cS u w) : ∃ v : gW, f_La_watch (nI d) w = some ((), v) ∧ zWd d w v ∧ ∀ s, s < 7 → ∀ k, k < yT u → zbt v (24 + (7 * d + s)) k = decide (yd u k d < s) := by
  have h5 := K.D5
  have hT := K.T7
  have eZ := yZd_sB K hd
  have ho27 := K.o27 hd
  have hst := K.st hd
  have zp := yZd_pos K (d := d) (by omega)
  have ebl : yst u d * yo u d = yZd u d := by rw [eZ.1, eZ.2, Nat.mul_comm]
  -- the lives by options
  have base := zfx_ind (fun _ _ _ _ => none) f_La_watch_b37_s (fun m kk => ∀ p v, yT u - p ≤ m → p % yZd u d = 0 → p ≤ yT u → zWd d w v → wR u d p v → ∃ v' : gW, kk (nI d) (nI (yZd u d)) (nI p) v = some ((), v') ∧ zWd d w v' ∧ ∀ s, s < 7 → ∀ k, k < yT u → zbt v' (24 + (7 * d + s)) k = decide (yd u k d < s)) (fun m kk ih p v hm hp hpT hv R => by
    unfold f_La_watch_b37_s
    have fin : p = yT u → ∃ v' : gW, f_La_watch_b116 (nI d) v = some ((), v') ∧ zWd d w v' ∧ ∀ s, s < 7 → ∀ k, k < yT u → zbt v' (24 + (7 * d + s)) k = decide (yd u k d < s) := by
      intro e
      subst e
      obtain ⟨v', a1, a2, a3⟩ := watch_j K hd (h.cg hv.1) R
      exact ⟨v', a1, ⟨a2.1.trans hv.1, fun a q => (a2.2 a q).trans (hv.2 a q)⟩, a3⟩
    have zn : ¬ nI (yZd u d) ≤ 0 := by
      have := mul_lt_T K hd (p := 0) (Nat.zero_mod _) (by have := K.T1 K.2.1; omega)
      rw [show (0 : Int32) = nI 0 from rfl, n_le (by omega) (by omega)]
      omega
    rw [if_neg zn, (h.cg hv.1).1.2]
    by_cases q : p = yT u
    · rw [if_pos (by rw [n_le (by omega) (by omega)]; omega)]
      exact fin q
    · rw [if_neg (by rw [n_le (by omega) (by omega)]; omega)]
      have pz := mul_lt_T K hd hp (by omega)
      have key := zfx_ind (fun _ _ _ _ _ => none) (f_La_watch_b52_s kk) (fun m2 k2 => ∀ o v, o + m2 = yo u d - 1 → zWd d w v → wR u d (p + o * yst u d) v → ∃ v' : gW, k2 (nI d) (nI (yZd u d)) (nI p) (nI o) v = some ((), v') ∧ zWd d w v' ∧ ∀ s, s < 7 → ∀ k, k < yT u → zbt v' (24 + (7 * d + s)) k = decide (yd u k d < s)) (fun m2 k2 ih2 o v hm2 hv R => by
        unfold f_La_watch_b52_s
        have hc := h.cg hv.1
        obtain ⟨n, en⟩ : ∃ n, yo u d = n + 1 := ⟨yo u d - 1, by omega⟩
        rw [opt_s K hc hd, zb_s, en, n_sub1]
        cases m2 with
        | zero =>
          rw [if_pos (by rw [n_le (by omega) (by omega)]; omega), nI_add, zl_s]
          refine ih (yT u - (p + yZd u d)) (by omega) (p + yZd u d) v (Nat.le_refl _) (by rw [Nat.add_mod_right]; exact hp) pz hv (fun s hs k hk => ?_)
          rw [R s hs k hk, Bool.eq_iff_iff, decide_eq_true_eq, decide_eq_true_eq]
          have : yZd u d = (o + 1) * yst u d := by rw [← ebl, en, Nat.mul_comm, show n + 1 = o + 1 by omega]
          rw [this]
          constructor
          · intro z
            exact ⟨by rw [Nat.succ_mul]; omega, z.2⟩
          · intro z
            refine ⟨?_, z.2⟩
            apply Classical.byContradiction
            intro z2
            have eo := yop_bB (u := u) (d := d) (p := p) (o := o) (k := k) K hd (by omega) hp (by rw [← eZ.2]; omega) (by rw [← eZ.2]; exact z.1)
            have e9 : yd u k d = 9 := by
              unfold yd
              rw [eo]
              unfold yg
              rw [if_neg (by omega)]
            omega
        | succ m2 =>
          have q7 : yst u d * (o + 1) ≤ yst u d * yo u d := Nat.mul_le_mul_left _ (by omega)
          rw [ebl, Nat.mul_comm, Nat.succ_mul] at q7
          have qf := K.dd hd
          have hyo : yo u d = yl u d + 2 - yf u d := rfl
          rw [if_neg (by rw [n_le (by omega) (by omega)]; omega), str_s K hc hd, zb_s, pk_mul, nI_add, zl_s, day_s K hc hd (by omega), zb_s, n_1, see_s (by omega) (by omega), zb_s, str_s K hc hd, zb_s, nI_add]
          obtain ⟨v2, e1, e2, e3⟩ := Ro_fill' (row_24 (7 * d + (yf u d + o + 1)) (by omega)) (a := p + o * yst u d) (b := p + o * yst u d + yst u d) (by omega) (by omega) v
          rw [e1, zb_s, zl_s, n_1]
          refine ih2 m2 (by omega) (o + 1) v2 (by omega) (hv.c (by omega) e2) (fun s hs k hk => ?_)
          rw [show (o + 1) * yst u d = o * yst u d + yst u d from Nat.succ_mul _ _]
          have din : p + o * yst u d ≤ k → k < p + o * yst u d + yst u d → yd u k d = yf u d + o := by
            intro z1 z2
            have eo := yop_bB (u := u) (d := d) (p := p) (o := o) (k := k) K hd (by omega) hp (by rw [← eZ.2]; omega) (by rw [← eZ.2, Nat.succ_mul]; omega)
            unfold yd
            rw [eo]
            unfold yg
            rw [if_pos (by omega)]
          by_cases e : s = yf u d + o + 1
          · subst e
            rw [e3 k hk, R _ hs k hk, Bool.eq_iff_iff, Bool.or_eq_true, decide_eq_true_eq, decide_eq_true_eq, decide_eq_true_eq]
            constructor
            · intro z
              rcases z with z | z
              · exact ⟨by omega, z.2⟩
              · have := din z.1 z.2
                omega
            · intro z
              by_cases y : k < p + o * yst u d
              · exact Or.inl ⟨y, z.2⟩
              · exact Or.inr ⟨by omega, by omega⟩
          · rw [zbt_rc e2 (by omega), R s hs k hk, Bool.eq_iff_iff, decide_eq_true_eq, decide_eq_true_eq]
            constructor
            · intro z
              exact ⟨by omega, z.2⟩
            · intro z
              refine ⟨?_, z.2⟩
              apply Classical.byContradiction
              intro z2
              have := din (by omega) (by omega)
              omega) zFU (yo u d - 1) (zfu (by omega))
      exact key 0 v (by omega) hv (by rw [Nat.zero_mul, Nat.add_zero]; exact R)) zFU (yT u) (zfu (by omega))
  have key := zfx_ind (fun _ _ _ => none) f_La_watch_b2_s (fun m kk => ∀ s v, s + m = 7 → zWd d w v → (∀ t, t < s → ∀ k, k < 16832 → zbt v (24 + (7 * d + t)) k = false) → ∃ v' : gW, kk (nI d) (nI s) v = some ((), v') ∧ zWd d w v' ∧ ∀ s, s < 7 → ∀ k, k < yT u → zbt v' (24 + (7 * d + s)) k = decide (yd u k d < s)) (fun m kk ih s v hm hv g => by
    unfold f_La_watch_b2_s
    have hc := h.cg hv.1
    cases m with
    | zero =>
      rw [if_pos (by rw [show (7 : Int32) = nI 7 from rfl, n_le (by omega) (by omega)]; omega), str_s K hc hd, zb_s, opt_s K hc hd, zb_s, pk_mul, ebl, zl_s]
      refine base 0 v (by omega) (Nat.zero_mod _) (Nat.zero_le _) hv (fun t ht k hk => ?_)
      rw [g t (by omega) k hk]
      symm
      rw [decide_eq_false_iff_not]
      omega
    | succ m =>
      rw [if_neg (by rw [show (7 : Int32) = nI 7 from rfl, n_le (by omega) (by omega)]; omega), see_s (by omega) (by omega), zb_s]
      obtain ⟨v2, e1, e2, e3⟩ := row_clear (row_24 (7 * d + s) (by omega)) v
      rw [e1, zb_s, zl_s, n_1]
      refine ih m (by omega) (s + 1) v2 (by omega) (hv.c (by omega) e2) (fun t ht k hk => ?_)
      by_cases e : t = s
      · subst e
        exact e3 k hk
      · rw [zbt_rc e2 (by omega)]
        exact g t (by omega) k hk) zFU 7 (zfu (by omega))
  exact key 0 w (by omega) (zWd.rf d w) (fun t ht => absurd ht (Nat.not_lt_zero t))
/-- the class's rows of the deeds below e -/
def cV (u : gW) (e : Nat) (v : gW) : Prop := ∀ d, d < e → ∀ s, s < 7 → ∀ k, k < yT u → zbt v (24 + (7 * d + s)) k = decide (yd u k d < s)
/-- only the land's rows change -/
def zWa (w v : gW) : Prop := v.1 = w.1 ∧ ∀ a, ¬ (24 ≤ a ∧ a < 59) → v.2 a = w.2 a
theorem La_watchAll (K : zB u) {w : gW} (h : cS u w) : ∃ v : gW, f_La_settle_b133 (0 : Int32) w = some ((), v) ∧ zWa w v ∧ cV u (yD u) v := by
  have h5 := K.D5
  have key := zfx_ind (fun _ _ => none) f_La_settle_b133_s (fun m kk => ∀ d v, d + m = yD u → zWa w v → cV u d v → ∃ v' : gW, kk (nI d) v = some ((), v') ∧ zWa w v' ∧ cV u (yD u) v') (fun m kk ih d v hm hv g => by
    unfold f_La_settle_b133_s
    have hc := h.cg hv.1
    rw [hc.1.1]
    cases m with
    | zero =>
      rw [if_pos (by rw [n_le (by omega) (by omega)]; omega)]
      exact ⟨v, rfl, hv, by rw [show yD u = d by omega]; exact g⟩
    | succ m =>
      rw [if_neg (by rw [n_le (by omega) (by omega)]; omega)]
      obtain ⟨v2, e1, e2, e3⟩ := La_watch_s K (d := d) (by omega) hc
      rw [e1, zb_s, zl_s, n_1]
      refine ih m (by omega) (d + 1) v2 (by omega) ⟨e2.1.trans hv.1, fun a q => (e2.2 a (by omega)).trans (hv.2 a q)⟩ (fun e he s hs k hk => ?_)
      by_cases q : e = d
      · subst q
        exact e3 s hs k hk
      · have := g e (by omega) s hs k hk
        unfold zbt at this ⊢
        rw [e2.2 _ (by omega)]
        exact this) zFU (yD u) (zfu (by omega))
  exact key 0 w (by omega) ⟨rfl, fun _ _ => rfl⟩ (fun d hd => absurd hd (Nat.not_lt_zero d))
/-- strides, options and how many lives; then what is seen -/
theorem La_strides (K : zB u) {w : gW} (h5 : w.1 19 5 = nI (yD u)) (h6 : w.1 19 6 = 1) (hT : ∀ d, d < yD u → w.1 20 (3 * d + 1) = nI (yf u d) ∧ w.1 20 (3 * d + 2) = nI (yl u d)) : ∃ v : gW, f_La_settle_b70 (nI (yD u) - (1 : Int32)) w = some ((), v) ∧ (∀ a b, ¬ (a = 19 ∧ b = 6) → a ≠ 21 → a ≠ 22 → v.1 a b = w.1 a b) ∧ (∀ a, ¬ (24 ≤ a ∧ a < 59) → v.2 a = w.2 a) ∧ cS u v ∧ cV u (yD u) v := by
  have d5 := K.D5
  have key := zfx_ind (fun _ _ => none) f_La_settle_b70_s (fun m kk => ∀ v, m ≤ yD u → (∀ a b, ¬ (a = 19 ∧ b = 6) → a ≠ 21 → a ≠ 22 → v.1 a b = w.1 a b) → v.2 = w.2 → v.1 19 6 = nI (yZ u (yD u - m) m) → (∀ e, m ≤ e → e < yD u → v.1 21 e = nI (yo u e) ∧ v.1 22 e = nI (yst u e)) → ∃ v' : gW, kk (nI m - (1 : Int32)) v = some ((), v') ∧ (∀ a b, ¬ (a = 19 ∧ b = 6) → a ≠ 21 → a ≠ 22 → v'.1 a b = w.1 a b) ∧ (∀ a, ¬ (24 ≤ a ∧ a < 59) → v'.2 a = w.2 a) ∧ cS u v' ∧ cV u (yD u) v') (fun m kk ih v hm hv h2 hz ht => by
    unfold f_La_settle_b70_s f_La_settle_b125
    cases m with
    | zero =>
      rw [if_pos (by decide)]
      have c : cS u v := by
        refine ⟨⟨by rw [hv _ _ (by omega) (by omega) (by omega)]; exact h5, by rw [hz, Nat.sub_zero]; unfold yT; rw [if_neg (by have := K.2.1; omega)]⟩, fun d hd => ⟨⟨?_, ?_⟩, ht d (Nat.zero_le _) hd⟩⟩
        · rw [hv _ _ (by omega) (by omega) (by omega)]; exact (hT d hd).1
        · rw [hv _ _ (by omega) (by omega) (by omega)]; exact (hT d hd).2
      obtain ⟨v', e1, e2, e3⟩ := La_watchAll K c
      refine ⟨v', e1, fun a b q1 q2 q3 => ?_, fun a q => ?_, c.cg e2.1, e3⟩
      · rw [e2.1]; exact hv a b q1 q2 q3
      · rw [e2.2 a q, h2]
    | succ m =>
      have q := K.dd (d := m) (by omega)
      have i5 : inb (nI m) 5 := z_inbn (by omega) (by decide)
      rw [n_sub1, if_neg (nI_pos (by omega)), if_neg (by rw [show (5 : Int32) = nI 5 from rfl, n_le (by omega) (by omega)]; omega)]
      simp only [if_pos i5]
      rw [zl_s, show f_La_trait (nI m) (2 : Int32) _ = _ from tr_s (d := m) (j := 2) (by omega) (by decide) _, zb_s, show f_La_trait (nI m) (1 : Int32) _ = _ from tr_s (d := m) (j := 1) (by omega) (by decide) _, zb_s, zl_s, zl_s, zl_s, z_ix (by omega), show nI m + (-1 : Int32) = nI m - 1 from (Int32.sub_eq_add_neg _ _).symm]
      have t1 : (zsI v 22 m (v.1 19 6)).1 20 (3 * m + 1) = nI (yf u m) := by
        rw [zsI_g, if_neg (by omega), hv _ _ (by omega) (by omega) (by omega)]; exact (hT m (by omega)).1
      have t2 : (zsI v 22 m (v.1 19 6)).1 20 (3 * m + 2) = nI (yl u m) := by
        rw [zsI_g, if_neg (by omega), hv _ _ (by omega) (by omega) (by omega)]; exact (hT m (by omega)).2
      have eo : nI (yl u m) - nI (yf u m) + (2 : Int32) = nI (yo u m) := by
        rw [n_sub (by omega), show (2 : Int32) = nI 2 from rfl, nI_add]
        unfold yo
        rw [show yl u m - yf u m + 2 = yl u m + 2 - yf u m by omega]
      rw [t1, t2, eo]
      have es : v.1 19 6 = nI (yst u m) := by rw [hz, yst_Z]
      refine ih m (by omega) _ (by omega) (fun a b q1 q2 q3 => ?_) h2 ?_ (fun e he hd => ?_)
      · rw [zsI_g, if_neg q1, zsI_g, if_neg (fun z => q2 z.1), zsI_g, if_neg (fun z => q3 z.1)]
        exact hv a b q1 q2 q3
      · rw [zsI_g, if_pos ⟨rfl, rfl⟩]
        have a1 : (zsI (zsI v 22 m (v.1 19 6)) 21 m (nI (yo u m))).1 19 6 = nI (yst u m) := es
        have a2 : (zsI (zsI v 22 m (v.1 19 6)) 21 m (nI (yo u m))).1 21 m = nI (yo u m) := by rw [zsI_g, if_pos ⟨rfl, rfl⟩]
        rw [a1, a2, pk_mul, yZ_sB K (by omega), Nat.mul_comm]
      · by_cases z : e = m
        · subst z
          refine ⟨?_, ?_⟩
          · rw [zsI_g, if_neg (by omega), zsI_g, if_pos ⟨rfl, rfl⟩]
          · rw [zsI_g, if_neg (by omega), zsI_g, if_neg (by omega), zsI_g, if_pos ⟨rfl, rfl⟩, es]
        · have := ht e (by omega) hd
          refine ⟨?_, ?_⟩
          · rw [zsI_g, if_neg (by omega), zsI_g, if_neg (by omega), zsI_g, if_neg (by omega)]; exact this.1
          · rw [zsI_g, if_neg (by omega), zsI_g, if_neg (by omega), zsI_g, if_neg (by omega)]; exact this.2) zFU (yD u) (zfu (by omega))
  exact key w (Nat.le_refl _) (fun _ _ _ _ _ => rfl) rfl (by rw [Nat.sub_self]; exact h6) (fun e h1 h2 => absurd h1 (by omega))
theorem La_settle_s (K : zB u) {w : gW} (hY : w.1 3 1 = nI (yY u)) (hD : w.1 3 2 = nI (yD u)) (hT : ∀ d, d < yD u → w.1 4 (3 * d) = nI (yr u d) ∧ w.1 4 (3 * d + 1) = nI (yf u d) ∧ w.1 4 (3 * d + 2) = nI (yl u d)) : ∃ v : gW, f_La_settle w = some ((), v) ∧ (∀ a b, ¬ (19 ≤ a ∧ a ≤ 22) → v.1 a b = w.1 a b) ∧ (∀ a, ¬ (24 ≤ a ∧ a < 59) → v.2 a = w.2 a) ∧ v.1 19 4 = nI (yY u) ∧ (∀ d, d < yD u → v.1 20 (3 * d) = nI (yr u d)) ∧ cS u v ∧ cV u (yD u) v := by
  have d5 := K.D5
  have key := zfx_ind (fun _ _ => none) f_La_settle_b18_s (fun m kk => ∀ d v, d + m = 5 → (∀ a b, ¬ (19 ≤ a ∧ a ≤ 22) → v.1 a b = w.1 a b) → v.2 = w.2 → v.1 19 4 = nI (yY u) → v.1 19 5 = nI (yD u) → (∀ j, j < 3 * d → v.1 20 j = w.1 4 j) → ∃ v' : gW, kk (nI d) v = some ((), v') ∧ (∀ a b, ¬ (19 ≤ a ∧ a ≤ 22) → v'.1 a b = w.1 a b) ∧ (∀ a, ¬ (24 ≤ a ∧ a < 59) → v'.2 a = w.2 a) ∧ v'.1 19 4 = nI (yY u) ∧ (∀ d, d < yD u → v'.1 20 (3 * d) = nI (yr u d)) ∧ cS u v' ∧ cV u (yD u) v') (fun m kk ih d v hm hv h2 c4 c5 hc => by
    unfold f_La_settle_b18_s
    cases m with
    | zero =>
      have e5 : d = 5 := by omega
      subst e5
      rw [if_pos (show (5 : Int32) ≤ nI 5 by decide), zl_s, zl_s]
      have c5' : (zsI v 19 6 1).1 19 5 = nI (yD u) := c5
      rw [c5']
      obtain ⟨v', e1, e2, e3, e4, e6⟩ := La_strides K (w := zsI v 19 6 1) c5' rfl (fun d hd => ⟨(hc (3 * d + 1) (by omega)).trans (hT d hd).2.1, (hc (3 * d + 2) (by omega)).trans (hT d hd).2.2⟩)
      refine ⟨v', e1, fun a b q => ?_, fun a q => ?_, ?_, fun d hd => ?_, e4, e6⟩
      · rw [e2 a b (by omega) (by omega) (by omega), zsI_g, if_neg (by omega)]
        exact hv a b q
      · rw [e3 a q]
        exact congrFun h2 a
      · rw [e2 19 4 (by omega) (by omega) (by omega)]
        exact c4
      · rw [e2 20 (3 * d) (by omega) (by omega) (by omega)]
        exact (hc (3 * d) (by omega)).trans (hT d hd).1
    | succ m =>
      rw [if_neg (by rw [show (5 : Int32) = nI 5 from rfl, n_le (by omega) (by omega)]; omega)]
      have key2 := zfx_ind (fun _ _ _ => none) (f_La_settle_b25_s kk) (fun m2 k2 => ∀ e v, e + m2 = 3 → (∀ a b, ¬ (19 ≤ a ∧ a ≤ 22) → v.1 a b = w.1 a b) → v.2 = w.2 → v.1 19 4 = nI (yY u) → v.1 19 5 = nI (yD u) → (∀ j, j < 3 * d + e → v.1 20 j = w.1 4 j) → ∃ v' : gW, k2 (nI d) (nI e) v = some ((), v') ∧ (∀ a b, ¬ (19 ≤ a ∧ a ≤ 22) → v'.1 a b = w.1 a b) ∧ (∀ a, ¬ (24 ≤ a ∧ a < 59) → v'.2 a = w.2 a) ∧ v'.1 19 4 = nI (yY u) ∧ (∀ d, d < yD u → v'.1 20 (3 * d) = nI (yr u d)) ∧ cS u v' ∧ cV u (yD u) v') (fun m2 k2 ih2 e v hm2 hv h2 c4 c5 hc => by
        unfold f_La_settle_b25_s
        cases m2 with
        | zero =>
          rw [if_pos (by rw [show (3 : Int32) = nI 3 from rfl, n_le (by omega) (by omega)]; omega), zl_s, n_1]
          exact ih m (by omega) (d + 1) v (by omega) hv h2 c4 c5 (fun j hj => hc j (by omega))
        | succ m2 =>
          rw [if_neg (by rw [show (3 : Int32) = nI 3 from rfl, n_le (by omega) (by omega)]; omega), Rd_trait' (by omega) (by omega), zb_s, n3j, if_pos (z_inbn (by omega) (by decide)), zl_s, zl_s, n_1, z_ix (by omega)]
          refine ih2 m2 (by omega) (e + 1) _ (by omega) (fun a b q => ?_) h2 c4 c5 (fun j hj => ?_)
          · rw [zsI_g, if_neg (by omega)]
            exact hv a b q
          · rw [zsI_g]
            by_cases z : j = 3 * d + e
            · rw [if_pos ⟨rfl, z⟩, hv _ _ (by omega), z]
            · rw [if_neg (by omega)]
              exact hc j (by omega)) zFU 3 (zfu (by omega))
      exact key2 0 v (by omega) hv h2 c4 c5 (fun j hj => hc j (by omega))) zFU 5 (zfu (by omega))
  unfold f_La_settle f_Rd_dayCount f_Rd_deedCount
  rw [zb_s, zl_s, zb_s, zl_s, hY]
  have e2 : (zsI w 19 4 (nI (yY u))).1 3 2 = nI (yD u) := hD
  rw [e2]
  exact key 0 _ (by omega) (fun a b q => by rw [zsI_g, if_neg (by omega), zsI_g, if_neg (by omega)]) rfl rfl rfl (fun j hj => absurd hj (by omega))
end
theorem An_clear' (w : gW) : ∃ v : gW, f_An_clear w = some ((), v) ∧ (v.1 59 6 = 0 ∧ v.1 59 7 = 0) ∧ (∀ j, j < 50 → v.1 65 j = 1) ∧ (∀ a b, ¬ (a = 59 ∧ (b = 6 ∨ b = 7)) → a ≠ 65 → v.1 a b = w.1 a b) ∧ v.2 = w.2 := by
  have g1 : (g_sh 65).1 = 1 := by decide +kernel
  have g2 : g_len 1 65 = 50 := by decide +kernel
  have key := zfx_ind (fun _ _ _ _ _ => none) f_Arr_fill_AII_b5_s (fun m kk => ∀ i v, i + m = 50 → (v.1 59 6 = 0 ∧ v.1 59 7 = 0) → (∀ j, j < i → v.1 65 j = 1) → (∀ a b, ¬ (a = 59 ∧ (b = 6 ∨ b = 7)) → a ≠ 65 → v.1 a b = w.1 a b) → v.2 = w.2 → ∃ v' : gW, kk 65 1 (nI i) (nI 50) v = some ((), v') ∧ (v'.1 59 6 = 0 ∧ v'.1 59 7 = 0) ∧ (∀ j, j < 50 → v'.1 65 j = 1) ∧ (∀ a b, ¬ (a = 59 ∧ (b = 6 ∨ b = 7)) → a ≠ 65 → v'.1 a b = w.1 a b) ∧ v'.2 = w.2) (fun m kk ih i v hi h0 h1 h2 h3 => by
    unfold f_Arr_fill_AII_b5_s
    cases m with
    | zero =>
      rw [if_pos (by rw [n_le (by omega) (by omega)]; omega)]
      exact ⟨v, rfl, h0, fun j hj => h1 j (by omega), h2, h3⟩
    | succ m =>
      rw [if_neg (by rw [n_le (by omega) (by omega)]; omega), g2, if_pos (z_inbn (by omega) (by decide)), zl_s, zl_s, n_1, z_ix (by omega)]
      refine ih m (by omega) (i + 1) _ (by omega) h0 (fun j hj => ?_) (fun a b q1 q2 => ?_) h3
      · rw [zsI_g]
        by_cases z : j = i
        · rw [if_pos ⟨rfl, z⟩]
        · rw [if_neg (by omega)]
          exact h1 j (by omega)
      · rw [zsI_g, if_neg (fun z => q2 z.1)]
        exact h2 a b q1 q2) zFU 50 (zfu (by omega))
  obtain ⟨v, e1, e2⟩ := key 0 (zsI (zsI w 59 6 0) 59 7 0) (by omega) ⟨rfl, rfl⟩ (fun j hj => absurd hj (Nat.not_lt_zero j)) (fun a b q1 q2 => by rw [zsI_g, if_neg (by omega), zsI_g, if_neg (by omega)]) rfl
  refine ⟨v, ?_, e2⟩
  unfold f_An_clear f_Arr_fill_AII
  rw [zl_s, zl_s, if_pos g1, zl_s, g2, show f_Arr_fill_AII_b5 65 (1 : Int32) (0 : Int32) (nI 50) _ = _ from e1, zb_s]
