/-! PURE: rows; hear, canBoth -/
theorem lc_eq (x y : Int64) : (lg_cmp x y = 0) ↔ x = y := by
  unfold lg_cmp
  simp only [gt_iff_lt, Int64.lt_iff_toInt_lt, ← Int64.toInt_inj]
  repeat' split
  all_goals (constructor <;> intro hh <;> first | omega | decide | exact absurd hh (by decide) | rfl)
def nW (u : gW) : Nat := (yT u + 63) / 64
def isRow (c : Nat) : Prop := (g_sh c).1 = 2 ∧ g_len 2 c = 263
theorem row_h : ∀ o, o < 8 → (g_sh (91 + o)).1 = 2 ∧ g_len 2 (91 + o) = 263 := by decide +kernel
theorem row_s : ∀ o, o < 10 → (g_sh (78 + o)).1 = 2 ∧ g_len 2 (78 + o) = 263 := by decide +kernel
theorem row_75 : isRow 75 := by unfold isRow; decide +kernel
theorem row_76 : isRow 76 := by unfold isRow; decide +kernel
theorem row_101 : isRow 101 := by unfold isRow; decide +kernel
theorem row_104 : isRow 104 := by unfold isRow; decide +kernel
theorem zbt_w {w : gW} {c W b : Nat} (hb : b < 64) : zbt w c (64 * W + b) = bL (w.2 c W) b := by
  unfold zbt
  rw [show (64 * W + b) / 64 = W by omega, show (64 * W + b) % 64 = b by omega]
theorem and3_z {x y z : Int64} : ((x &&& y) &&& z = 0) ↔ ∀ i, i < 64 → ¬ (bL x i = true ∧ bL y i = true ∧ bL z i = true) := by
  rw [bL_z]
  constructor
  · intro h i hi q
    have := h i hi
    rw [bL_and, bL_and, q.1, q.2.1, q.2.2] at this
    cases this
  · intro h i hi
    have := h i hi
    rw [bL_and, bL_and]
    cases e1 : bL x i with
    | false => rfl
    | true => cases e2 : bL y i with
      | false => rfl
      | true => cases e3 : bL z i with
        | false => rfl
        | true => exact absurd ⟨e1, e2, e3⟩ this
theorem andn_z {x y : Int64} : (x &&& (y ^^^ (-1)) = 0) ↔ ∀ i, i < 64 → (bL x i = true → bL y i = true) := by
  rw [bL_z]
  constructor
  · intro h i hi q
    have := h i hi
    rw [bL_and, bL_not _ hi, q] at this
    cases e : bL y i with
    | true => rfl
    | false => rw [e] at this; cases this
  · intro h i hi
    have := h i hi
    rw [bL_and, bL_not _ hi]
    cases e1 : bL x i with
    | false => rfl
    | true => rw [this e1]; rfl
section
variable {u : gW}
theorem nW_le (K : zK u) : nW u ≤ 263 := by
  have := K.T7
  unfold nW
  omega
theorem nW_ge {k : Nat} (h : k < yT u) : k < 64 * nW u := by unfold nW; omega
theorem nW_W {W b : Nat} (hb : b < 64) (hk : 64 * W + b < yT u) : W < nW u := by unfold nW; omega
/-- all bits of the words up to W -/
theorem bits_s {P : Nat → Prop} {W : Nat} (h : ∀ k, k < 64 * W → P k) (h2 : ∀ b, b < 64 → P (64 * W + b)) : ∀ k, k < 64 * (W + 1) → P k := by
  intro k hk
  by_cases q : k < 64 * W
  · exact h k q
  · have := h2 (k - 64 * W) (by omega)
    rwa [show 64 * W + (k - 64 * W) = k by omega] at this
theorem Ro_meets (K : zK u) {a b c : Nat} (ra : isRow a) (rb : isRow b) (rc : isRow c) (w : gW) : ∃ r : Bool, f_Ro_meetsNot a b c (nI (nW u)) w = some (bI r, w) ∧ (r = true ↔ ∀ k, k < 64 * nW u → ¬ (zbt w a k = true ∧ zbt w b k = true ∧ zbt w c k = true)) := by
  have hn := nW_le K
  have key := zfx_ind (fun _ _ _ _ _ _ => none) f_Ro_meetsNot_b3_s (fun m k => ∀ W, W + m = nW u → (∀ k, k < 64 * W → ¬ (zbt w a k = true ∧ zbt w b k = true ∧ zbt w c k = true)) → ∃ r : Bool, k a b c (nI (nW u)) (nI W) w = some (bI r, w) ∧ (r = true ↔ ∀ k, k < 64 * nW u → ¬ (zbt w a k = true ∧ zbt w b k = true ∧ zbt w c k = true))) (fun m k ih W hW hp => by
    unfold f_Ro_meetsNot_b3_s
    cases m with
    | zero =>
      rw [if_pos (by rw [n_le (by omega) (by omega)]; omega)]
      exact ⟨true, rfl, fun _ => by rw [show nW u = W by omega]; exact hp, fun _ => rfl⟩
    | succ m =>
      have q1 : ¬ nI 263 ≤ nI W := by rw [n_le (by omega) (by omega)]; omega
      have q2 : inb (nI W) 263 := z_inbn (by omega) (by decide)
      have ez : ix (nI W) = W := z_ix (by omega)
      rw [if_neg (by rw [n_le (by omega) (by omega)]; omega)]
      simp only [ra.1, ra.2, rb.1, rb.2, rc.1, rc.2, if_true, if_neg q1, if_pos q2, ez]
      by_cases q : ((w.2 a W) &&& (w.2 b W)) &&& (w.2 c W) = 0
      · rw [if_pos ((lc_eq _ _).mpr q), zl_s, n_1]
        refine ih m (by omega) (W + 1) (by omega) (bits_s hp (fun i hi => ?_))
        rw [zbt_w hi, zbt_w hi, zbt_w hi]
        exact and3_z.mp q i hi
      · rw [if_neg (fun z => q ((lc_eq _ _).mp z))]
        refine ⟨false, rfl, fun z => (by cases z), fun z => absurd (and3_z.mpr (fun i hi => ?_)) q⟩
        have := z (64 * W + i) (by omega)
        rwa [zbt_w hi, zbt_w hi, zbt_w hi] at this) zFU (nW u) (zfu (by omega))
  exact key 0 (by omega) (fun k hk => absurd hk (by omega))
theorem Ro_within (K : zK u) {a b : Nat} (ra : isRow a) (rb : isRow b) (w : gW) : ∃ r : Bool, f_Ro_isWithin a b (nI (nW u)) w = some (bI r, w) ∧ (r = true ↔ ∀ k, k < 64 * nW u → (zbt w a k = true → zbt w b k = true)) := by
  have hn := nW_le K
  have key := zfx_ind (fun _ _ _ _ _ => none) f_Ro_isWithin_b2_s (fun m k => ∀ W, W + m = nW u → (∀ k, k < 64 * W → (zbt w a k = true → zbt w b k = true)) → ∃ r : Bool, k a b (nI (nW u)) (nI W) w = some (bI r, w) ∧ (r = true ↔ ∀ k, k < 64 * nW u → (zbt w a k = true → zbt w b k = true))) (fun m k ih W hW hp => by
    unfold f_Ro_isWithin_b2_s
    cases m with
    | zero =>
      rw [if_pos (by rw [n_le (by omega) (by omega)]; omega)]
      exact ⟨true, rfl, fun _ => by rw [show nW u = W by omega]; exact hp, fun _ => rfl⟩
    | succ m =>
      have q1 : ¬ nI 263 ≤ nI W := by rw [n_le (by omega) (by omega)]; omega
      have q2 : inb (nI W) 263 := z_inbn (by omega) (by decide)
      have ez : ix (nI W) = W := z_ix (by omega)
      rw [if_neg (by rw [n_le (by omega) (by omega)]; omega)]
      simp only [ra.1, ra.2, rb.1, rb.2, if_true, if_neg q1, if_pos q2, ez]
      by_cases q : (w.2 a W) &&& ((w.2 b W) ^^^ (-1)) = 0
      · rw [if_pos ((lc_eq _ _).mpr q), zl_s, n_1]
        refine ih m (by omega) (W + 1) (by omega) (bits_s hp (fun i hi => ?_))
        rw [zbt_w hi, zbt_w hi]
        exact andn_z.mp q i hi
      · rw [if_neg (fun z => q ((lc_eq _ _).mp z))]
        refine ⟨false, rfl, fun z => (by cases z), fun z => absurd (andn_z.mpr (fun i hi => ?_)) q⟩
        have := z (64 * W + i) (by omega)
        rwa [zbt_w hi, zbt_w hi] at this) zFU (nW u) (zfu (by omega))
  exact key 0 (by omega) (fun k hk => absurd hk (by omega))
theorem Ro_empty (K : zK u) {a : Nat} (ra : isRow a) (w : gW) : ∃ r : Bool, f_Ro_isEmpty a (nI (nW u)) w = some (bI r, w) ∧ (r = true ↔ ∀ k, k < 64 * nW u → ¬ zbt w a k = true) := by
  obtain ⟨r, e1, e2⟩ := Ro_meets K ra ra ra w
  refine ⟨r, ?_, e2.trans ⟨fun h k hk z => h k hk ⟨z, z, z⟩, fun h k hk z => h k hk z.1⟩⟩
  unfold f_Ro_isEmpty
  rw [e1, zb_s, if_pos (bI_a r)]
theorem An_all (K : zK u) {w : gW} (h : zEk u w) : f_An_allSworn w = some (nI (yal u), w) := by
  have h10 := K.S10
  unfold f_An_allSworn
  rw [h.i rfl, K.C.2.2.2.2.1.1, n_1sh (by omega), show (1 : Int32) = nI 1 from rfl, n_sub (Nat.two_pow_pos _)]
  rfl
theorem Oa_size' (K : zK u) {w : gW} (h : zEk u w) : f_Oa_size w = some (nI (yO u), w) := by
  unfold f_Oa_size
  rw [h.i rfl, K.C.2.2.2.1.1]
/-- the possible lives in which an oath holds on a day -/
def yhr (u : gW) (o s k : Nat) : Bool := decide (k < yT u) && (ypo u k && yH u o s (yal u) k)
/-- only some long rows change -/
def zRw (P : Nat → Bool) (u w : gW) : Prop := zAg (fun _ _ => false) P u w
theorem zRw.e {P : Nat → Bool} {u w v : gW} (h : zE u w) (k : zRw P w v) (hP : ∀ a, P a = true → zScrL a = true) : zE u v := zAg.tr (show zAg zScrI zScrL u w from h) (zAg.wk k (fun _ _ q => by cases q) hP)
theorem rw_g (w : gW) (c j : Nat) (x : Int64) (a i : Nat) : (zsL w c j x).2 a i = if a = c ∧ i = j then x else w.2 a i := rfl
def hRow (c : Nat) : Prop := isRow c ∧ c ≠ 74 ∧ c ≠ 75 ∧ zScrL c = true
theorem Co_hear' (K : zK u) (C : jCou u) {w : gW} (h : zE u w) {o s c : Nat} (ho : o < yO u) (hs : s < 7) (hc : hRow c) : ∃ w' : gW, f_Co_hear (nI o) (nI s) c w = some ((), w') ∧ zRw (fun a => a == 74 || a == c) w w' ∧ ∀ k, k < 64 * nW u → zbt w' c k = yhr u o s k := by
  have hn := nW_le K
  obtain ⟨rc, c74, c75, csc⟩ := hc
  have hP : ∀ a, (a == 74 || a == c) = true → zScrL a = true := by
    intro a q
    rw [Bool.or_eq_true, beq_iff_eq, beq_iff_eq] at q
    rcases q with q | q
    · subst q; rfl
    · subst q; exact csc
  unfold f_Co_hear
  rw [An_all K h.k, zb_s]
  have hal := yal_lt K
  have key := zfx_ind (fun _ _ _ _ _ _ => none) f_Co_hear_b12_s (fun m kk => ∀ W v, W + m = nW u → zRw (fun a => a == 74 || a == c) w v → (∀ k, k < 64 * W → zbt v c k = yhr u o s k) → ∃ w' : gW, kk (nI o) (nI s) c (nI (yal u)) (nI W) v = some ((), w') ∧ zRw (fun a => a == 74 || a == c) w w' ∧ ∀ k, k < 64 * nW u → zbt w' c k = yhr u o s k) (fun m kk ih W v hW hv hp => by
    have hE : zE u v := zRw.e h hv hP
    unfold f_Co_hear_b12_s
    rw [La_words' K hE.k, zb_s]
    show ∃ w' : gW, (if nI (nW u) ≤ nI W then _ else _) = _ ∧ _
    cases m with
    | zero =>
      rw [if_pos (by rw [n_le (by omega) (by omega)]; omega)]
      exact ⟨v, rfl, hv, by rw [show nW u = W by omega]; exact hp⟩
    | succ m =>
      have q1 : ¬ nI 263 ≤ nI W := by rw [n_le (by omega) (by omega)]; omega
      have q1' : ¬ (263 : Int32) ≤ nI W := q1
      have q2 : inb (nI W) 263 := z_inbn (by omega) (by decide)
      have ez : ix (nI W) = W := z_ix (by omega)
      rw [if_neg (by rw [n_le (by omega) (by omega)]; omega)]
      simp only [rc.1, rc.2, if_true, if_neg q1, if_neg q1', if_pos q2, ez]
      obtain ⟨r, w8, e1, e2, e3⟩ := Co_wordOf K hE.k ho hs (th := yal u) (by omega) (W := W) (by omega)
      rw [e1, zb_s, zl_s, zl_s, n_1]
      have hv2 : zRw (fun a => a == 74 || a == c) w w8 := hv.tr (zAg.wk e2 (fun _ _ q => q) (fun a q => by rw [q]; rfl))
      refine ih m (by omega) (W + 1) _ (by omega) (zAg.sL hv2 _ (by simp)) (bits_s (fun k hk => ?_) (fun b hb => ?_))
      · show bL ((zsL w8 c W _).2 c (k / 64)) (k % 64) = _
        rw [rw_g, if_neg (by omega), e2.l c74]
        exact hp k hk
      · rw [zbt_w hb, rw_g, if_pos ⟨rfl, rfl⟩, bL_and, e2.l (by decide)]
        have h75 : bL (v.2 75 W) b = (decide (64 * W + b < yT u) && ypo u (64 * W + b)) := by
          rw [hE.2 75 W rfl, ← zbt_w hb]
          exact C.1 _ (by omega)
        rw [h75]
        unfold yhr
        by_cases q : 64 * W + b < yT u
        · rw [e3 b hb q, decide_eq_true q, Bool.true_and, Bool.true_and, Bool.and_comm]
        · rw [decide_eq_false q, Bool.false_and, Bool.false_and, Bool.and_false]) zFU (nW u) (zfu (by omega))
  exact key 0 w (by omega) (zAg.rf _ _ _) (fun k hk => absurd hk (by omega))
def hAl (u : gW) (s : Nat) (w : gW) : Prop := ∀ o, o < yO u → ∀ k, k < 64 * nW u → zbt w (91 + o) k = yhr u o s k
def hMk (a : Nat) : Bool := a == 74 || (decide (91 ≤ a) && decide (a ≤ 98))
theorem hMk_s : ∀ a, hMk a = true → zScrL a = true := by
  intro a q
  unfold hMk at q
  rw [Bool.or_eq_true, Bool.and_eq_true, beq_iff_eq, decide_eq_true_eq, decide_eq_true_eq] at q
  have : a = 74 ∨ a = 91 ∨ a = 92 ∨ a = 93 ∨ a = 94 ∨ a = 95 ∨ a = 96 ∨ a = 97 ∨ a = 98 := by omega
  rcases this with z | z | z | z | z | z | z | z | z <;> subst z <;> rfl
theorem hRow_h {o : Nat} (ho : o < 8) : hRow (91 + o) := ⟨row_h o ho, by omega, by omega, hMk_s _ (by unfold hMk; rw [Bool.or_eq_true, Bool.and_eq_true, decide_eq_true_eq, decide_eq_true_eq]; right; omega)⟩
theorem Cs_hearAll' (K : zK u) (C : jCou u) {w : gW} (h : zE u w) {s : Nat} (hs : s < 7) : ∃ w' : gW, f_Cs_hearAll (nI s) w = some ((), w') ∧ zRw hMk w w' ∧ hAl u s w' := by
  have h8 := K.O8
  have key := zfx_ind (fun _ _ _ => none) f_Cs_hearAll_b2_s (fun m kk => ∀ i v, i + m = yO u → zRw hMk w v → (∀ o, o < i → ∀ k, k < 64 * nW u → zbt v (91 + o) k = yhr u o s k) → ∃ w' : gW, kk (nI s) (nI i) v = some ((), w') ∧ zRw hMk w w' ∧ hAl u s w') (fun m kk ih i v hi hv hp => by
    have hE : zE u v := zRw.e h hv hMk_s
    unfold f_Cs_hearAll_b2_s
    rw [Oa_size' K hE.k, zb_s]
    cases m with
    | zero =>
      rw [if_pos (by rw [n_le (by omega) (by omega)]; omega)]
      exact ⟨v, rfl, hv, fun o ho => hp o (by omega)⟩
    | succ m =>
      have q1 : ¬ (8 : Int32) ≤ nI i := by rw [show (8 : Int32) = nI 8 from rfl, n_le (by omega) (by omega)]; omega
      rw [if_neg (by rw [n_le (by omega) (by omega)]; omega), if_neg q1, if_pos (z_inbn (by omega) (by decide)), z_ix (by omega), show 90 + 1 + i = 91 + i by omega]
      obtain ⟨v2, e1, e2, e3⟩ := Co_hear' K C hE (o := i) (by omega) hs (hRow_h (o := i) (by omega))
      rw [e1, zb_s, zl_s, n_1]
      refine ih m (by omega) (i + 1) v2 (by omega) (hv.tr (zAg.wk e2 (fun _ _ q => q) (fun a q => ?_))) (fun o ho k hk => ?_)
      · unfold hMk
        rw [Bool.or_eq_true, beq_iff_eq, beq_iff_eq] at q
        rw [Bool.or_eq_true, Bool.and_eq_true, beq_iff_eq, decide_eq_true_eq, decide_eq_true_eq]
        omega
      · by_cases q : o = i
        · subst q; exact e3 k hk
        · show bL (v2.2 (91 + o) (k / 64)) (k % 64) = _
          have := e2.2 (91 + o) (k / 64) (by rw [Bool.or_eq_false_iff, beq_eq_false_iff_ne, beq_eq_false_iff_ne]; omega)
          rw [this]
          exact hp o (by omega) k hk) zFU (yO u) (zfu (by omega))
  exact key 0 w (by omega) (zAg.rf _ _ _) (fun o ho => absurd ho (Nat.not_lt_zero o))
theorem Cs_rowOf' {i : Nat} (hi : i < 8) (w : gW) : f_Cs_rowOf (nI i) w = some (91 + i, w) := by
  unfold f_Cs_rowOf f_Cs_rowOf_b19
  have q1 : ¬ (8 : Int32) ≤ nI i := by rw [show (8 : Int32) = nI 8 from rfl, n_le (by omega) (by omega)]; omega
  rw [if_neg (nI_pos (by omega)), if_neg q1, if_pos (z_inbn (by omega) (by decide)), z_ix (by omega), show 90 + 1 + i = 91 + i by omega]
/-- some life that fits has both hold -/
def yCB (u : gW) (s i j : Nat) : Prop := ∃ k, k < yT u ∧ yfi u k = true ∧ yH u i s (yal u) k = true ∧ yH u j s (yal u) k = true
theorem yfi_po {k : Nat} (h : yfi u k = true) : ypo u k = true := by
  unfold yfi at h
  rw [Bool.and_eq_true] at h
  exact h.1
theorem fit_b (C : jCou u) {w : gW} (h : zE u w) {k : Nat} (hk : k < 16832) : zbt w 76 k = (decide (k < yT u) && yfi u k) := by
  show bL (w.2 76 (k / 64)) (k % 64) = _
  rw [h.2 76 (k / 64) rfl]
  exact C.2.1 k hk
theorem pos_b (C : jCou u) {w : gW} (h : zE u w) {k : Nat} (hk : k < 16832) : zbt w 75 k = (decide (k < yT u) && ypo u k) := by
  show bL (w.2 75 (k / 64)) (k % 64) = _
  rw [h.2 75 (k / 64) rfl]
  exact C.1 k hk
theorem Cs_canBoth' (K : zK u) (C : jCou u) {w : gW} (h : zE u w) {s i j : Nat} (hi : i < yO u) (hj : j < yO u) (ri : ∀ k, k < 64 * nW u → zbt w (91 + i) k = yhr u i s k) (rj : ∀ k, k < 64 * nW u → zbt w (91 + j) k = yhr u j s k) : ∃ b : Bool, f_Cs_canBoth (nI i) (nI j) w = some (bI b, w) ∧ (b = true ↔ yCB u s i j) := by
  have h8 := K.O8
  have hn := nW_le K
  obtain ⟨r, e1, e2⟩ := Ro_meets K row_76 (row_h i (by omega)) (row_h j (by omega)) w
  refine ⟨!r, ?_, ?_⟩
  · unfold f_Cs_canBoth f_Co_fitting
    rw [zb_s, Cs_rowOf' (by omega), zb_s, Cs_rowOf' (by omega), zb_s, La_words' K h.k, zb_s]
    show zb (f_Ro_meetsNot 76 (91 + i) (91 + j) (nI (nW u)) w) _ = _
    rw [e1, zb_s]
    cases r
    · rw [if_pos (show bI false = 0 from rfl)]; rfl
    · rw [if_neg (show ¬ bI true = 0 by decide)]; rfl
  · have hk : ∀ k, k < 64 * nW u → ((zbt w 76 k = true ∧ zbt w (91 + i) k = true ∧ zbt w (91 + j) k = true) ↔ (k < yT u ∧ yfi u k = true ∧ yH u i s (yal u) k = true ∧ yH u j s (yal u) k = true)) := by
      intro k hk
      rw [fit_b C h (by omega), ri k hk, rj k hk]
      unfold yhr
      simp only [Bool.and_eq_true, decide_eq_true_eq]
      constructor
      · intro z; exact ⟨z.1.1, z.1.2, z.2.1.2.2, z.2.2.2.2⟩
      · intro z; exact ⟨⟨z.1, z.2.1⟩, ⟨z.1, yfi_po z.2.1, z.2.2.1⟩, ⟨z.1, yfi_po z.2.1, z.2.2.2⟩⟩
    cases r with
    | true =>
      refine ⟨fun z => (by cases z), fun ⟨k, z⟩ => ?_⟩
      exact absurd ((hk k (nW_ge z.1)).mpr z) (e2.mp rfl k (nW_ge z.1))
    | false =>
      refine ⟨fun _ => ?_, fun _ => rfl⟩
      apply Classical.byContradiction
      intro q
      have := e2.mpr (fun k hk2 z => q ⟨k, (hk k hk2).mp z⟩)
      cases this
theorem Cs_canBe' (K : zK u) (C : jCou u) {w : gW} (h : zE u w) {s i : Nat} (hi : i < yO u) (ri : ∀ k, k < 64 * nW u → zbt w (91 + i) k = yhr u i s k) : ∃ b : Bool, f_Cs_canBe (nI i) w = some (bI b, w) ∧ (b = true ↔ yCB u s i i) := by
  obtain ⟨b, e1, e2⟩ := Cs_canBoth' K C h hi hi ri ri
  refine ⟨b, ?_, e2⟩
  unfold f_Cs_canBe
  rw [e1, zb_s, if_pos (bI_a b)]
/-- a number by its lowest bits -/
def isB (n : Nat) (P : Nat → Prop) (r : Nat) : Prop := r < 2 ^ n ∧ ∀ i, i < n → (r.testBit i = true ↔ P i)
theorem isB.un {n : Nat} {P : Nat → Prop} {r r' : Nat} (h : isB n P r) (k : isB n P r') : r = r' := by
  apply Nat.eq_of_testBit_eq
  intro i
  by_cases q : i < n
  · rw [Bool.eq_iff_iff, h.2 i q, k.2 i q]
  · have a : 2 ^ n ≤ 2 ^ i := Nat.pow_le_pow_right (by decide) (by omega)
    rw [Nat.testBit_lt_two_pow (Nat.lt_of_lt_of_le h.1 a), Nat.testBit_lt_two_pow (Nat.lt_of_lt_of_le k.1 a)]
theorem isB.z (P : Nat → Prop) : isB 0 P 0 := ⟨by decide, fun i hi => absurd hi (Nat.not_lt_zero i)⟩
theorem isB.s {n : Nat} {P : Nat → Prop} {r : Nat} (h : isB n P r) (b : Bool) (hb : b = true ↔ P n) : isB (n + 1) P (r ||| (if b = true then 2 ^ n else 0)) := by
  have hp : 2 ^ (n + 1) = 2 * 2 ^ n := by rw [Nat.pow_succ, Nat.mul_comm]
  have h0 := Nat.two_pow_pos n
  refine ⟨Nat.or_lt_two_pow (by have := h.1; omega) (by split <;> omega), fun i hi => ?_⟩
  rw [Nat.testBit_or]
  by_cases q : i = n
  · subst q
    rw [Nat.testBit_lt_two_pow h.1, Bool.false_or, ← hb]
    cases b
    · simp
    · simp [Nat.testBit_two_pow_self]
  · rw [← h.2 i (by omega)]
    cases b
    · simp
    · simp [Nat.testBit_two_pow_of_ne (show n ≠ i by omega)]
theorem isB.cg {n : Nat} {P Q : Nat → Prop} {r : Nat} (h : isB n P r) (hh : ∀ i, i < n → (P i ↔ Q i)) : isB n Q r := ⟨h.1, fun i hi => (h.2 i hi).trans (hh i hi)⟩
theorem isB.lt {n : Nat} {P : Nat → Prop} {r : Nat} (h : isB n P r) (hn : n ≤ 30) : r < 2 ^ 30 := Nat.lt_of_lt_of_le h.1 (Nat.pow_le_pow_right (by decide) hn)
end
