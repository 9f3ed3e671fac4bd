/-! PURE: care -/
theorem isB.or1 {n d : Nat} {P : Nat → Prop} {r : Nat} (h : isB n P r) (hd : d < n) (b : Bool) : isB n (fun i => P i ∨ (i = d ∧ b = true)) (r ||| (if b = true then 2 ^ d else 0)) := by
  cases b with
  | false =>
    rw [if_neg (by decide), Nat.or_zero]
    exact h.cg (fun i _ => ⟨fun z => Or.inl z, fun z => by rcases z with z | ⟨_, z⟩; exact z; cases z⟩)
  | true =>
    rw [if_pos rfl]
    refine ⟨Nat.or_lt_two_pow h.1 (Nat.pow_lt_pow_right (by decide) hd), fun i hi => ?_⟩
    rw [Nat.testBit_or, Bool.or_eq_true, h.2 i hi, Nat.testBit_two_pow, decide_eq_true_eq]
    constructor
    · intro z
      rcases z with z | z
      · exact Or.inl z
      · exact Or.inr ⟨z.symm, rfl⟩
    · intro z
      rcases z with z | ⟨z, _⟩
      · exact Or.inl z
      · exact Or.inr z.symm
theorem isB.ex (P : Nat → Prop) : ∀ n, ∃ r, isB n P r
  | 0 => ⟨0, isB.z P⟩
  | n + 1 => by
    obtain ⟨r, h⟩ := isB.ex P n
    by_cases q : P n
    · exact ⟨_, h.s true ⟨fun _ => q, fun _ => rfl⟩⟩
    · exact ⟨_, h.s false ⟨fun z => (by cases z), fun z => absurd z q⟩⟩
section
variable {u : gW}
def yCk (u : gW) (o s k : Nat) : Bool := decide (k < yT u) && (yfi u k && yH u o s (yal u) k)
theorem yCk_o {o s k : Nat} (h : yT u ≤ k) : yCk u o s k = false := by unfold yCk; rw [decide_eq_false (by omega), Bool.false_and]
theorem yCk_k {o s k : Nat} (h : k < yT u) : yCk u o s k = (yfi u k && yH u o s (yal u) k) := by unfold yCk; rw [decide_eq_true h, Bool.true_and]
theorem yCk_lt {o s k : Nat} (h : yCk u o s k = true) : k < yT u := by
  apply Nat.lt_of_not_le
  intro z
  rw [yCk_o z] at h
  cases h
def yUn (u : gW) (s k : Nat) : Nat := fb_ct (fun d => !decide (yd u k d < s)) (yD u)
theorem yUn_le (s k : Nat) : yUn u s k ≤ yD u := fb_ct_le _ _
def yKo (u : gW) (o s : Nat) (d : Nat) : Prop := ∃ k, yCk u o s k = true ∧ yd u k d = 9
def rCr (u : gW) (o s t r : Nat) : Int32 := match sc (yCk u o s) (yUn u s) (yT u) with
  | none => -1
  | some j => if t = 0 then nI (yD u - yUn u s j) else if t = 1 then nI (yN u j) else nI r
def rHd (u : gW) (o s : Nat) (w : gW) : Prop := ∀ k, k < 64 * nW u → zbt w (91 + o) k = yhr u o s k
theorem ck_w (K : zK u) (C : jCou u) {v : gW} (hv : zE u v) {o s W b : Nat} (hr : rHd u o s v) (hW : W < nW u) (hb : b < 64) : bL ((v.2 76 W) &&& (v.2 (91 + o) W)) b = yCk u o s (64 * W + b) := by
  have hn := nW_le K
  rw [bL_and, fit_w C hv (by omega) hb, row_w hr hW hb]
  unfold yhr yCk
  cases h1 : decide (64 * W + b < yT u) with
  | false => rfl
  | true =>
    cases h2 : yfi u (64 * W + b) with
    | false => rfl
    | true => rw [yfi_po h2]; rfl
theorem Cs_leastDone' (K : zK u) (C : jCou u) {w : gW} (h : zE u w) {o s t : Nat} (ho : o < yO u) (hs : s < 7) (ht2 : t < 2) (hr : rHd u o s w) (hne : ∃ k, yCk u o s k = true) : ∃ w' : gW, (∀ r, f_Cs_leastDone (nI o) (nI s) (nI t) w = some (rCr u o s t r, w')) ∧ zE u w' := by
  have hn := nW_le K
  have ht := K.T7
  have h5 := K.D5
  have h8 := K.O8
  have key := zfx_ind (fun _ _ _ _ _ _ _ => none) f_Cs_leastDone_b9_s (fun m kk => ∀ W q v, W + m = nW u → zE u v → rHd u o s v → isT (yCk u o s) (yUn u s) (64 * W) q → ∃ w' : gW, (∀ r, kk (nI o) (nI s) (nI t) (qF (yUn u s) q) (qN q) (nI W) v = some (rCr u o s t r, w')) ∧ zE u w') (fun m kk ih W q v hW hv hr hq => by
    unfold f_Cs_leastDone_b9_s
    rw [La_words' K hv.k, zb_s]
    show ∃ w' : gW, (∀ r, (if nI (nW u) ≤ nI W then _ else _) = _) ∧ _
    cases m with
    | zero =>
      rw [if_pos (by rw [n_le (by omega) (by omega)]; omega)]
      have hT : yT u ≤ 64 * W := by
        have e : W = nW u := by omega
        rw [e]; unfold nW; omega
      have e : sc (yCk u o s) (yUn u s) (yT u) = q := isT_u (sc_T _ _ _) (isT_cut hq hT (fun i hi => yCk_o hi))
      unfold rCr
      rw [e]
      refine ⟨v, fun r => ?_, hv⟩
      cases q with
      | none =>
        obtain ⟨k, hk⟩ := hne
        have := hq.1 rfl k (by have := yCk_lt hk; omega)
        rw [hk] at this
        cases this
      | some j =>
        have hj := yCk_lt (hq.2 j rfl).2.1
        have hj5 := yUn_le (u := u) s j
        rw [qN_s, qF_s]
        dsimp only
        by_cases t0 : t = 0
        · rw [if_pos (show nI t = 0 by rw [t0]; rfl), if_pos t0, La_deedCount' K hv.k, zb_s, n_sub hj5]
        · rw [if_neg (show ¬ nI t = 0 from nI_ne0 (by omega) (by omega)), if_neg t0, La_numberAt' K hv.k hj, zb_s, if_pos (by omega)]
    | succ m =>
      rw [if_neg (by rw [n_le (by omega) (by omega)]; omega)]
      unfold f_Co_fitting
      rw [zb_s, Ro_word' row_76 (by omega), zb_s, Cs_rowOf' (by omega), zb_s, Ro_word' (row_h o (by omega)) (by omega), zb_s]
      obtain ⟨v1, e1, k1, l1⟩ := lv_start lv_89 ((v.2 76 W) &&& (v.2 (91 + o) W)) v
      rw [e1, zb_s]
      have hv1 := k1.e (by decide) hv
      have hr1 : rHd u o s v1 := fun k hk => by
        have := hr k hk
        unfold zbt at this ⊢
        rw [k1.l (show 91 + o ≠ 89 by omega)]
        exact this
      have hb : ∀ b, b < 64 → bL ((v.2 76 W) &&& (v.2 (91 + o) W)) b = yCk u o s (64 * W + b) := fun b hb => ck_w K C hv hr (by omega) hb
      generalize (v.2 76 W) &&& (v.2 (91 + o) W) = y at l1 hb
      have inner := zfx_ind (fun _ _ _ _ _ _ _ _ => none) (f_Cs_leastDone_b54_s kk) (fun m2 k2 => ∀ d v, d + m2 = yD u → zE u v → rHd u o s v → lvR v 89 9 (bL y) (fun b => fb_ct (fun j => bL (ySe u j s W ^^^ (-1)) b) d) → ∃ w' : gW, (∀ r, k2 (nI o) (nI s) (nI t) (qF (yUn u s) q) (qN q) (nI W) (nI d) v = some (rCr u o s t r, w')) ∧ zE u w') (fun m2 k2 ih2 d v hd hv hr hl => by
        unfold f_Cs_leastDone_b54_s
        rw [La_deedCount' K hv.k, zb_s]
        cases m2 with
        | zero =>
          rw [if_pos (by rw [n_le (by omega) (by omega)]; omega)]
          have go : ∀ q2, isT (yCk u o s) (yUn u s) (64 * (W + 1)) q2 → ∃ w' : gW, (∀ r, f_Cs_leastDone_b132 kk (nI o) (nI s) (nI t) (qF (yUn u s) q2) (qN q2) (nI W) v = some (rCr u o s t r, w')) ∧ zE u w' := by
            intro q2 h2
            unfold f_Cs_leastDone_b132
            rw [zl_s, n_1]
            exact ih m (by omega) (W + 1) q2 v (by omega) hv hr h2
          have hCC : ∀ b, b < 64 → yCk u o s (64 * W + b) = true → fb_ct (fun j => bL (ySe u j s W ^^^ (-1)) b) d = yUn u s (64 * W + b) := by
            intro b hb1 p
            have hk := yCk_lt p
            rw [show d = yD u by omega]
            exact fb_ct_cong (fun j hj => by rw [bL_not _ hb1, ySe_b K hj hs hb1 hk])
          obtain ⟨q2, a1, a2⟩ := lv_step (P := yCk u o s) (f := yUn u s) lv_89 (by omega) hl hb hCC (fun b hb1 p => by have := yUn_le (u := u) s (64 * W + b); omega) hq (fun j _ => by have := yUn_le (u := u) s j; omega)
          rcases a2 with ⟨e, t4, f1, f2⟩ | ⟨b, e, b1, f1, f2, f3, f4⟩
          · rw [f1, zb_s, if_pos f2, ← e]
            exact go q2 a1
          · rw [f1, zb_s, if_neg f2, f1, zb_s, f3, zb_s, f4, zb_s]
            have := go q2 a1
            rw [e, qF_s, qN_s] at this
            exact this
        | succ m2 =>
          have hd2 : d < yD u := by omega
          rw [if_neg (by rw [n_le (by omega) (by omega)]; omega), La_seenWord' K hv.k (by omega) hs (by omega), if_pos hd2, zb_s]
          obtain ⟨v2, e2, k2e, l2⟩ := lv_add lv_89 (ySe u d s W ^^^ (-1)) hl
          rw [e2, zb_s, zl_s, n_1]
          exact ih2 m2 (by omega) (d + 1) v2 (by omega) (k2e.e (by decide) hv) (fun k hk => by
            have := hr k hk
            unfold zbt at this ⊢
            rw [k2e.l (show 91 + o ≠ 89 by omega)]
            exact this) l2) zFU (yD u) (zfu (by omega))
      exact inner 0 v1 (by omega) hv1 hr1 l1) zFU (nW u) (zfu (by omega))
  unfold f_Cs_leastDone
  exact key 0 none w (by omega) h hr ⟨fun _ i hi => absurd hi (by omega), fun j hj => by cases hj⟩
theorem Cs_keptOpen' (K : zK u) (C : jCou u) {w : gW} (h : zE u w) {o s r : Nat} (ho : o < yO u) (hr : rHd u o s w) (hR : isB (yD u) (yKo u o s) r) : f_Cs_keptOpen (nI o) w = some (nI r, w) := by
  have hn := nW_le K
  have ht := K.T7
  have h5 := K.D5
  have h8 := K.O8
  have key := zfx_ind (fun _ _ _ _ => none) f_Cs_keptOpen_b4_s (fun m kk => ∀ W a, W + m = nW u → isB (yD u) (fun d => ∃ k, k < 64 * W ∧ yCk u o s k = true ∧ yd u k d = 9) a → kk (nI o) (nI a) (nI W) w = some (nI r, w)) (fun m kk ih W a hW ha => by
    unfold f_Cs_keptOpen_b4_s
    rw [La_words' K h.k, zb_s]
    show (if nI (nW u) ≤ nI W then _ else _) = _
    cases m with
    | zero =>
      rw [if_pos (by rw [n_le (by omega) (by omega)]; omega)]
      have hT : yT u ≤ 64 * W := by
        have e : W = nW u := by omega
        rw [e]; unfold nW; omega
      rw [isB.un ha (hR.cg (fun d _ => ⟨fun ⟨k, z1, z2⟩ => ⟨k, by have := yCk_lt z1; omega, z1, z2⟩, fun ⟨k, _, z1, z2⟩ => ⟨k, z1, z2⟩⟩))]
    | succ m =>
      rw [if_neg (by rw [n_le (by omega) (by omega)]; omega)]
      unfold f_Co_fitting
      rw [zb_s, Ro_word' row_76 (by omega), zb_s, Cs_rowOf' (by omega), zb_s, Ro_word' (row_h o (by omega)) (by omega), zb_s, zl_s]
      have hb : ∀ b, b < 64 → bL ((w.2 76 W) &&& (w.2 (91 + o) W)) b = yCk u o s (64 * W + b) := fun b hb => ck_w K C h hr (by omega) hb
      generalize (w.2 76 W) &&& (w.2 (91 + o) W) = y at hb ⊢
      have inner := zfx_ind (fun _ _ _ _ _ _ => none) (f_Cs_keptOpen_b41_s kk) (fun m2 k2 => ∀ d a, d + m2 = yD u → isB (yD u) (fun i => (∃ k, k < 64 * W ∧ yCk u o s k = true ∧ yd u k i = 9) ∨ (i < d ∧ ∃ b, b < 64 ∧ yCk u o s (64 * W + b) = true ∧ yd u (64 * W + b) i = 9)) a → k2 (nI o) (nI a) (nI W) y (nI d) w = some (nI r, w)) (fun m2 k2 ih2 d a hd ha => by
        unfold f_Cs_keptOpen_b41_s
        rw [La_deedCount' K h.k, zb_s]
        cases m2 with
        | zero =>
          rw [if_pos (by rw [n_le (by omega) (by omega)]; omega), zl_s, n_1]
          refine ih m (by omega) (W + 1) a (by omega) (ha.cg (fun i hi => ⟨fun z => ?_, fun ⟨k, z1, z2⟩ => ?_⟩))
          · rcases z with ⟨k, z1, z2⟩ | ⟨_, b, z1, z2⟩
            · exact ⟨k, by omega, z2⟩
            · exact ⟨64 * W + b, by omega, z2⟩
          · by_cases q : k < 64 * W
            · exact Or.inl ⟨k, q, z2⟩
            · exact Or.inr ⟨by omega, k - 64 * W, by omega, by rw [show 64 * W + (k - 64 * W) = k by omega]; exact z2⟩
        | succ m2 =>
          have hd2 : d < yD u := by omega
          rw [if_neg (by rw [n_le (by omega) (by omega)]; omega), show (9 : Int32) = nI 9 from rfl, La_dateWord' K h.k hd2 (Or.inr rfl) (by omega), zb_s]
          have hx : (y &&& yDw u d 9 W = 0) ↔ ¬ ∃ b, b < 64 ∧ yCk u o s (64 * W + b) = true ∧ yd u (64 * W + b) d = 9 := by
            rw [and2_z]
            constructor
            · intro z ⟨b, b1, b2, b3⟩
              exact z b b1 ⟨by rw [hb b b1]; exact b2, by rw [yDw_b K hd2 (Or.inr rfl) b1 (yCk_lt b2)]; exact decide_eq_true b3⟩
            · intro z b b1 ⟨b2, b3⟩
              rw [hb b b1] at b2
              rw [yDw_b K hd2 (Or.inr rfl) b1 (yCk_lt b2)] at b3
              exact z ⟨b, b1, b2, of_decide_eq_true b3⟩
          have st : ∀ bb : Bool, (bb = true ↔ ∃ b, b < 64 ∧ yCk u o s (64 * W + b) = true ∧ yd u (64 * W + b) d = 9) → f_Cs_keptOpen_b82 kk k2 (nI o) (nI W) y (nI d) (nI a) (nI (if bb = true then 2 ^ d else 0)) w = some (nI r, w) := by
            intro bb hbb
            unfold f_Cs_keptOpen_b82
            rw [n_or, zl_s, zl_s, n_1]
            refine ih2 m2 (by omega) (d + 1) _ (by omega) ((ha.or1 hd2 bb).cg (fun i hi => ?_))
            rw [hbb]
            constructor
            · intro z
              rcases z with (z | ⟨z1, z2⟩) | ⟨z1, z2⟩
              · exact Or.inl z
              · exact Or.inr ⟨by omega, z2⟩
              · rw [z1]; exact Or.inr ⟨by omega, z2⟩
            · intro z
              rcases z with z | ⟨z1, z2⟩
              · exact Or.inl (Or.inl z)
              · by_cases q : i = d
                · refine Or.inr ⟨q, ?_⟩; rw [← q]; exact z2
                · exact Or.inl (Or.inr ⟨by omega, z2⟩)
          by_cases q : y &&& yDw u d 9 W = 0
          · rw [if_pos ((lc_eq _ _).mpr q)]
            exact st false ⟨fun z => (by cases z), fun z => absurd z (hx.mp q)⟩
          · rw [if_neg (fun z => q ((lc_eq _ _).mp z)), n_1sh (by omega)]
            exact st true ⟨fun _ => Classical.byContradiction (fun z => q (hx.mpr z)), fun _ => rfl⟩) zFU (yD u) (zfu (by omega))
      exact inner 0 a (by omega) (ha.cg (fun i _ => ⟨fun z => Or.inl z, fun z => by rcases z with z | ⟨z, _⟩; exact z; omega⟩))) zFU (nW u) (zfu (by omega))
  unfold f_Cs_keptOpen
  exact key 0 0 (by omega) ⟨Nat.two_pow_pos _, fun i _ => ⟨fun z => (by rw [Nat.zero_testBit] at z; cases z), fun ⟨k, z, _⟩ => (by omega)⟩⟩
theorem ct_not (p : Nat → Bool) : ∀ n, fb_ct p n + fb_ct (fun d => !p d) n = n
  | 0 => rfl
  | n + 1 => by
    have ih := ct_not p n
    rw [fb_ct_succ, fb_ct_succ]
    cases p n <;> simp <;> omega
def yDn (u : gW) (s k n : Nat) : Nat := fb_ct (fun d => decide (yd u k d < s)) n
theorem yDn_s (s k n : Nat) : yDn u s k (n + 1) = yDn u s k n + if yd u k n < s then 1 else 0 := by
  unfold yDn
  rw [fb_ct_succ]
  by_cases q : yd u k n < s
  · rw [if_pos q, if_pos (decide_eq_true q)]
  · rw [if_neg q, if_neg (by simp [q])]
theorem yDn_U (s k : Nat) : yDn u s k (yD u) = yD u - yUn u s k := by
  have := ct_not (fun d => decide (yd u k d < s)) (yD u)
  unfold yDn yUn
  omega
def qCl (u : gW) (s : Nat) (q : Option Nat) (l : Int32) : Prop := ∀ j, q = some j → l = nI (yD u - yUn u s j)
theorem M_careL (J : zJ u) {w : gW} (h : zE u w) {o s t r : Nat} (ho : o < yO u) (hs : s < 7) (ht3 : t < 3) (hR : isB (yD u) (yKo u o s) r) : ∃ w' : gW, f_M_care_b47 (nI o) (nI s) (nI t) (-1 : Int32) (0 : Int32) (0 : Int32) (0 : Int32) w = some (rCr u o s t r, w') ∧ zE u w' := by
  have K := J.K
  have ht := K.T7
  have h5 := K.D5
  have key := zfx_ind (fun _ _ _ _ _ _ _ _ => none) f_M_care_b47_s (fun m kk => ∀ k l a v, k + m = yT u → zE u v → qCl u s (sc (yCk u o s) (yUn u s) k) l → isB (yD u) (fun d => ∃ j, j < k ∧ yCk u o s j = true ∧ yd u j d = 9) a → ∃ w' : gW, kk (nI o) (nI s) (nI t) (qM u (sc (yCk u o s) (yUn u s) k)) l (nI a) (nI k) v = some (rCr u o s t r, w') ∧ zE u w') (fun m kk ih k l a v hk hv hl ha => by
    unfold f_M_care_b47_s
    rw [hv.k.i (a := 107) (b := 26) rfl, K.L.2.2.2.2.1]
    cases m with
    | zero =>
      rw [if_pos (by rw [n_le (by omega) (by omega)]; omega)]
      have ek : k = yT u := by omega
      subst ek
      unfold rCr
      refine ⟨v, ?_, hv⟩
      have ea : a = r := isB.un ha (hR.cg (fun d _ => ⟨fun ⟨k, z1, z2⟩ => ⟨k, yCk_lt z1, z1, z2⟩, fun ⟨k, _, z1, z2⟩ => ⟨k, z1, z2⟩⟩))
      cases e : sc (yCk u o s) (yUn u s) (yT u) with
      | none => rw [qM_n, if_pos zm1]
      | some j =>
        rw [qM_s, if_neg (by rw [n_m1 (by have := yN_lt K j; omega)]; exact id), hl j e, ea]
        dsimp only
        by_cases t0 : t = 0
        · rw [if_pos (show nI t = 0 by rw [t0]; rfl), if_pos t0]
        · rw [if_neg (show ¬ nI t = 0 from nI_ne0 (by omega) (by omega)), if_neg t0]
          by_cases t1 : t = 1
          · rw [if_pos (show nI t = (1 : Int32) by rw [t1]; rfl), if_pos t1]
          · rw [if_neg (show ¬ nI t = (1 : Int32) from fun z => t1 ((n_eq (a := t) (b := 1) (by omega) (by omega)).mp z)), if_neg t1]
    | succ m =>
      have i16 : inb (nI k) 16807 := z_inbn (by omega) (by decide)
      rw [if_neg (by rw [n_le (by omega) (by omega)]; omega), if_pos i16]
      obtain ⟨w3, l3, m3, h3, F3⟩ := M_lf K J.R hv (k := k) (by omega)
      rw [F3]
      have es : sc (yCk u o s) (yUn u s) (k + 1) = if yCk u o s k = true then nx (yUn u s) k (sc (yCk u o s) (yUn u s) k) else sc (yCk u o s) (yUn u s) k := rfl
      have eck : yCk u o s k = (yfi u k && yH u o s (yal u) k) := yCk_k (by omega)
      have go : ∀ q2 l2 a2 v2, q2 = sc (yCk u o s) (yUn u s) (k + 1) → qCl u s q2 l2 → isB (yD u) (fun d => ∃ j, j < k + 1 ∧ yCk u o s j = true ∧ yd u j d = 9) a2 → zE u v2 → ∃ w' : gW, f_M_care_b186 kk (nI o) (nI s) (nI t) (qM u q2) l2 (nI a2) (nI k) v2 = some (rCr u o s t r, w') ∧ zE u w' := by
        intro q2 l2 a2 v2 e hl2 ha2 h2
        subst e
        unfold f_M_care_b186
        rw [zl_s, n_1]
        exact ih m (by omega) (k + 1) l2 a2 v2 (by omega) h2 hl2 ha2
      generalize sc (yCk u o s) (yUn u s) (k + 1) = q2 at es go
      generalize sc (yCk u o s) (yUn u s) k = q at es hl ⊢
      have skip : yCk u o s k = false → ∀ v2, zE u v2 → ∃ w' : gW, f_M_care_b186 kk (nI o) (nI s) (nI t) (qM u q) l (nI a) (nI k) v2 = some (rCr u o s t r, w') ∧ zE u w' := by
        intro z v2 h2
        rw [z, if_neg (by decide)] at es
        refine go q l a v2 es.symm hl (ha.cg (fun d _ => ⟨fun ⟨j, z1, z2⟩ => ⟨j, by omega, z2⟩, fun ⟨j, z1, z2, z3⟩ => ⟨j, ?_, z2, z3⟩⟩)) h2
        by_cases y : j = k
        · rw [y, z] at z2; cases z2
        · omega
      cases hf : yfi u k with
      | false =>
        rw [if_pos bf0]
        exact skip (by rw [eck, hf]; rfl) w3 h3
      | true =>
        rw [if_neg bt0, M_all K h3.k, zb_s]
        obtain ⟨w4, e4, m4⟩ := M_keeps K h3.k l3 ho hs (th := yal u) (by have := yal_lt K; omega)
        have h4 := m4.e h3
        have l4 := l3.m m4
        rw [e4, zb_s]
        cases hh : yH u o s (yal u) k with
        | false =>
          rw [if_pos bf0]
          exact skip (by rw [eck, hf, hh]; rfl) w4 h4
        | true =>
          have hc : yCk u o s k = true := by rw [eck, hf, hh]; rfl
          rw [hc, if_pos rfl] at es
          rw [if_neg bt0]
          have loop := zfx_ind (fun _ _ _ _ _ _ _ _ _ _ => none) (f_M_care_b96_s kk) (fun m2 k2 => ∀ d a, d + m2 = yD u → isB (yD u) (fun i => (∃ j, j < k ∧ yCk u o s j = true ∧ yd u j i = 9) ∨ (i < d ∧ yd u k i = 9)) a → ∃ w' : gW, k2 (nI o) (nI s) (nI t) (qM u q) l (nI a) (nI k) (nI (yDn u s k d)) (nI d) w4 = some (rCr u o s t r, w') ∧ zE u w') (fun m2 k2 ih2 d a hd ha => by
            have c1 : yDn u s k d ≤ d := fb_ct_le _ _
            unfold f_M_care_b96_s
            rw [there21 K h4]
            cases m2 with
            | zero =>
              rw [if_pos (by rw [n_le (by omega) (by omega)]; omega)]
              have ed : d = yD u := by omega
              subst ed
              have eu := yDn_U (u := u) s k
              have hk3 : w4.1 118 k = nI (yN u k) := (h4.k.i (a := 118) rfl).trans (K.L.2.2.2.2.2.1 k (by omega))
              have ha2 : isB (yD u) (fun d => ∃ j, j < k + 1 ∧ yCk u o s j = true ∧ yd u j d = 9) a := ha.cg (fun i hi => ⟨fun z => by
                rcases z with ⟨j, z1, z2⟩ | ⟨_, z⟩
                · exact ⟨j, by omega, z2⟩
                · exact ⟨k, by omega, hc, z⟩, fun ⟨j, z1, z2, z3⟩ => by
                by_cases y : j = k
                · rw [y] at z3; exact Or.inr ⟨hi, z3⟩
                · exact Or.inl ⟨j, by omega, z2, z3⟩⟩)
              have take : q2 = some k → ∃ w' : gW, f_M_care_b173 kk (nI o) (nI s) (nI t) (nI a) (nI k) (nI (yDn u s k (yD u))) w4 = some (rCr u o s t r, w') ∧ zE u w' := by
                intro e2
                unfold f_M_care_b173
                rw [if_pos i16, z_ix (by omega), hk3, zl_s]
                exact go (some k) _ a w4 e2.symm (fun j hj => by cases hj; rw [eu]) ha2 h4
              cases q with
              | none =>
                rw [nx_n] at es
                rw [qM_n, if_pos zm1]
                exact take es
              | some j =>
                have hj5 := yUn_le (u := u) s j
                have hk5 := yUn_le (u := u) s k
                rw [nx_s] at es
                rw [qM_s, if_neg (by rw [n_m1 (by have := yN_lt K j; omega)]; exact id)]
                by_cases c : yUn u s j < yUn u s k
                · rw [if_pos (by rw [hl j rfl, n_lt (by omega) (by omega)]; omega)]
                  rw [if_pos c] at es
                  exact take es
                · rw [if_neg (by rw [hl j rfl, n_lt (by omega) (by omega)]; omega)]
                  rw [if_neg c] at es
                  exact go (some j) l a w4 es.symm hl ha2 h4
            | succ m2 =>
              have hd2 : d < yD u := by omega
              have i5 : inb (nI d) 5 := z_inbn (by omega) (by decide)
              have h9 := (K.d9 hd2 k).1
              have s1 := yDn_s (u := u) s k d
              rw [if_neg (by rw [n_le (by omega) (by omega)]; omega), if_pos i5, z_ix (by omega), l4 d hd2]
              have st : ∀ c, yDn u s k d + c = yDn u s k (d + 1) → ∃ w' : gW, f_M_care_b123 kk k2 (nI o) (nI s) (nI t) (qM u q) l (nI a) (nI k) (nI d) (nI (yDn u s k d)) (nI c) w4 = some (rCr u o s t r, w') ∧ zE u w' := by
                intro c hc2
                unfold f_M_care_b123
                rw [nI_add, hc2, zl_s, if_pos i5, z_ix (by omega), l4 d hd2]
                have st2 : ∀ bb : Bool, (bb = true ↔ yd u k d = 9) → ∃ w' : gW, f_M_care_b148 kk k2 (nI o) (nI s) (nI t) (qM u q) l (nI k) (nI (yDn u s k (d + 1))) (nI d) (nI a) (nI (if bb = true then 2 ^ d else 0)) w4 = some (rCr u o s t r, w') ∧ zE u w' := by
                  intro bb hbb
                  unfold f_M_care_b148
                  rw [n_or, zl_s, zl_s, n_1]
                  refine ih2 m2 (by omega) (d + 1) _ (by omega) ((ha.or1 hd2 bb).cg (fun i hi => ?_))
                  rw [hbb]
                  constructor
                  · intro z
                    rcases z with (z | ⟨z1, z2⟩) | ⟨z1, z2⟩
                    · exact Or.inl z
                    · exact Or.inr ⟨by omega, z2⟩
                    · rw [z1]; exact Or.inr ⟨by omega, z2⟩
                  · intro z
                    rcases z with z | ⟨z1, z2⟩
                    · exact Or.inl (Or.inl z)
                    · by_cases y : i = d
                      · refine Or.inr ⟨y, ?_⟩; rw [← y]; exact z2
                      · exact Or.inl (Or.inr ⟨by omega, z2⟩)
                by_cases c9 : yd u k d = 9
                · rw [if_pos (show nI (yd u k d) = (9 : Int32) by rw [c9]; rfl), n_1sh (by omega)]
                  exact st2 true ⟨fun _ => c9, fun _ => rfl⟩
                · rw [if_neg (show ¬ nI (yd u k d) = (9 : Int32) from fun z => c9 ((n_eq (a := yd u k d) (b := 9) (by omega) (by omega)).mp z))]
                  exact st2 false ⟨fun z => (by cases z), fun z => absurd z c9⟩
              by_cases c : yd u k d < s
              · rw [if_neg (by rw [n_le (by omega) (by omega)]; omega)]
                exact st 1 (by rw [s1, if_pos c])
              · rw [if_pos (by rw [n_le (by omega) (by omega)]; omega)]
                exact st 0 (by rw [s1, if_neg c])) zFU (yD u) (zfu (by omega))
          exact loop 0 a (by omega) (ha.cg (fun i _ => ⟨fun z => Or.inl z, fun z => by
            rcases z with z | ⟨z, _⟩
            · exact z
            · omega⟩))) zFU (yT u) (zfu (by omega))
  exact key 0 0 0 w (by omega) h (fun j hj => by cases hj) ⟨Nat.two_pow_pos _, fun i _ => ⟨fun z => (by rw [Nat.zero_testBit] at z; cases z), fun ⟨k, z, _⟩ => (by omega)⟩⟩
theorem q_care (J : zJ u) (a b c : Int32) : zQ u (f_X_care a b c) (f_M_care a b c) := by
  have K := J.K
  have h6 := K.Y6
  have h8 := K.O8
  by_cases g : (gO u a = true ∧ gD u b = true) ∧ (0 ≤ c.toInt ∧ c.toInt < (3 : Nat))
  · obtain ⟨⟨g1, g2⟩, g3⟩ := g
    obtain ⟨o, rfl, ho⟩ := gO_t g1
    obtain ⟨s, rfl, hs, h0⟩ := gD_t g2
    obtain ⟨ec, hc⟩ := z_nIx g3
    generalize ix c = t at ec hc
    subst ec
    obtain ⟨r, hR⟩ := isB.ex (yKo u o s) (yD u)
    refine ⟨rCr u o s t r, fun v hv => ?_, fun v hv => ?_⟩
    · obtain ⟨v1, e1, k1, hr⟩ := Co_hear' K J.C hv ho (s := s) (by omega) (hRow_h (o := o) (by omega))
      have hv1 : zE u v1 := zRw.e hv k1 (fun x q => by
        rw [Bool.or_eq_true] at q
        rcases q with q | q
        · rw [show x = 74 from by simpa using q]; rfl
        · rw [show x = 91 + o from by simpa using q]; exact (hRow_h (o := o) (by omega)).2.2.2)
      obtain ⟨bb, e2, e3⟩ := Cs_canBe' K J.C hv1 (s := s) ho hr
      have hX : f_X_care (nI o) (nI s) (nI t) v = zb (f_Cs_careful (nI o) (nI s) (nI t) v) (fun v2 w3 => some (v2, w3)) := by
        unfold f_X_care
        rw [X_isSuch' K hv.k, zb_s, g1, g2, if_neg (show ¬ bI (true && true) = 0 by decide), if_neg (nI_pos (by omega)), if_neg (show ¬ (2 : Int32) < nI t by rw [show (2 : Int32) = nI 2 from rfl, n_lt (by omega) (by omega)]; omega)]
        unfold f_X_care_b23
        rw [if_neg (show ¬ (1 : Int32) = 0 by decide)]
      rw [hX]
      unfold f_Cs_careful
      rw [Cs_rowOf' (by omega), zb_s, e1, zb_s, e2, zb_s]
      by_cases hne : ∃ k, yCk u o s k = true
      · have hb : bb = true := e3.mpr (by
          obtain ⟨k, hk⟩ := hne
          have hk2 := hk
          rw [yCk_k (yCk_lt hk), Bool.and_eq_true] at hk2
          exact ⟨k, yCk_lt hk, hk2.1, hk2.2, hk2.2⟩)
        rw [hb, if_neg bt0]
        by_cases t2 : t = 2
        · refine ⟨v1, ?_, hv1⟩
          rw [if_pos (show nI t = (2 : Int32) by rw [t2]; rfl), Cs_keptOpen' K J.C hv1 ho hr hR, zb_s, zb_s]
          obtain ⟨k, hk⟩ := hne
          unfold rCr
          cases e : sc (yCk u o s) (yUn u s) (yT u) with
          | none =>
            have := (sc_T (yCk u o s) (yUn u s) (yT u)).1 e k (yCk_lt hk)
            rw [hk] at this
            cases this
          | some j =>
            dsimp only
            rw [if_neg (by omega), if_neg (by omega)]
        · obtain ⟨v2, f1, f2⟩ := Cs_leastDone' K J.C hv1 ho (s := s) (t := t) (by omega) (by omega) hr hne
          refine ⟨v2, ?_, f2⟩
          rw [if_neg (show ¬ nI t = (2 : Int32) from fun z => t2 ((n_eq (a := t) (b := 2) (by omega) (by omega)).mp z)), f1 r, zb_s, zb_s]
      · have hb : bb = false := by
          cases bb with
          | false => rfl
          | true =>
            obtain ⟨k, k1, k2, k3, _⟩ := e3.mp rfl
            exact absurd ⟨k, by rw [yCk_k k1, k2, k3]; rfl⟩ hne
        refine ⟨v1, ?_, hv1⟩
        rw [hb, if_pos bf0, zb_s]
        unfold rCr
        cases e : sc (yCk u o s) (yUn u s) (yT u) with
        | none => rfl
        | some j => exact absurd ⟨j, ((sc_T (yCk u o s) (yUn u s) (yT u)).2 j e).2.1⟩ hne
    · obtain ⟨v1, e1, e2⟩ := M_careL J hv.m0 ho (s := s) (t := t) (by omega) hc hR
      refine ⟨v1, ?_, e2⟩
      unfold f_M_care
      rw [zl_s, M_isOathB K hv.m0.k, zb_s, g1, if_neg bt0, M_isSeenDay' K hv.m0.k, zb_s, g2, if_neg bt0, isIn_lit (nI t) (c := 2) 3 rfl, zb_s, decide_eq_true g3, if_neg bt0, e1]
  · refine ⟨-1, fun v hv => ⟨v, ?_, hv⟩, fun v hv => ⟨_, ?_, hv.m0⟩⟩
    · have z22 : f_X_care_b22 a b c v = some (-1, v) := rfl
      unfold f_X_care
      rw [X_isSuch' K hv.k, zb_s]
      cases e : (gO u a && gD u b) with
      | false => rw [if_pos bf0]; exact z22
      | true =>
        rw [Bool.and_eq_true] at e
        have g3 : ¬ (0 ≤ c.toInt ∧ c.toInt < (3 : Nat)) := fun z => g ⟨e, z⟩
        rw [if_neg bt0]
        by_cases c0 : c < 0
        · rw [if_pos c0]; exact z22
        · rw [if_neg c0]
          by_cases c2 : (2 : Int32) < c
          · rw [if_pos c2]; exact z22
          · rw [i_lt, i_0] at c0
            rw [i_lt, show (2 : Int32).toInt = 2 from rfl] at c2
            exact absurd (by omega) g3
    · unfold f_M_care
      rw [zl_s, M_isOathB K hv.m0.k, zb_s]
      cases e1 : gO u a with
      | false => rw [if_pos bf0]
      | true =>
        rw [if_neg bt0, M_isSeenDay' K hv.m0.k, zb_s]
        cases e2 : gD u b with
        | false => rw [if_pos bf0]
        | true =>
          have g3 : ¬ (0 ≤ c.toInt ∧ c.toInt < (3 : Nat)) := fun z => g ⟨⟨e1, e2⟩, z⟩
          rw [if_neg bt0, isIn_lit c (c := 2) 3 rfl, zb_s, decide_eq_false g3, if_pos bf0]
end
