/-! PURE: alibi, hands, question -/
section
variable {u : gW}
theorem X_isPerson' (a : Int32) (w : gW) : f_X_isPerson a w = some (bI (decide (0 ≤ a.toInt ∧ a.toInt < (6 : Nat))), w) := by
  unfold f_X_isPerson
  by_cases c1 : a < 0
  · have q : ¬ (0 ≤ a.toInt ∧ a.toInt < (6 : Nat)) := by rw [i_lt, i_0] at c1; omega
    rw [if_pos c1, decide_eq_false q]; rfl
  · rw [if_neg c1]
    by_cases c2 : (6 : Int32) ≤ a
    · have q : ¬ (0 ≤ a.toInt ∧ a.toInt < (6 : Nat)) := by rw [i_le, show (6 : Int32).toInt = 6 from rfl] at c2; omega
      rw [if_pos c2, decide_eq_false q]; rfl
    · have q : 0 ≤ a.toInt ∧ a.toInt < (6 : Nat) := by rw [i_le, show (6 : Int32).toInt = 6 from rfl] at c2; rw [i_lt, i_0] at c1; omega
      rw [if_neg c2, decide_eq_true q]; rfl
theorem X_is01 (a : Int32) (w : gW) : f_X_isZeroOrOne a w = some (bI (decide (0 ≤ a.toInt ∧ a.toInt < (2 : Nat))), w) := by
  unfold f_X_isZeroOrOne f_X_isZeroOrOne_b9
  by_cases c1 : a = 0
  · subst c1; rfl
  · rw [if_neg c1]
    by_cases c2 : a = (1 : Int32)
    · subst c2; rfl
    · have q : ¬ (0 ≤ a.toInt ∧ a.toInt < (2 : Nat)) := by
        intro z
        rw [i_eq, i_0] at c1
        rw [i_eq, show (1 : Int32).toInt = 1 from rfl] at c2
        omega
      rw [if_neg c2, decide_eq_false q]; rfl
theorem La_deedCount' (K : zK u) {w : gW} (h : zEk u w) : f_La_deedCount w = some (nI (yD u), w) := by
  unfold f_La_deedCount
  rw [K.ht h]
theorem La_dayCount' (K : zK u) {w : gW} (h : zEk u w) : f_La_dayCount w = some (nI (yY u), w) := by
  unfold f_La_dayCount
  rw [h.i rfl, K.C.2.2.1.1]
theorem Ch_isDoer' (K : zK u) {w : gW} (h : zEk u w) {p d : Nat} (hp : p < 6) (hd : d < yD u) : f_Ch_isDoer (nI p) (nI d) w = some (bI (decide (yr u d = p)), w) := by
  have q := (K.dd hd).2.2
  unfold f_Ch_isDoer
  rw [La_doer K h hd, zb_s]
  by_cases z : yr u d = p
  · rw [if_pos (by rw [z]), decide_eq_true z]; rfl
  · rw [if_neg (fun e => z ((n_eq (by omega) (by omega)).mp e)), decide_eq_false z]; rfl
/-- some deed of a person on a day -/
def yAl (u : gW) (p y : Nat) : Prop := ∃ k, k < yT u ∧ yfi u k = true ∧ ∃ d, d < yD u ∧ yr u d = p ∧ yd u k d = y
theorem Ch_alibi (K : zK u) (C : jCou u) {w : gW} (h : zE u w) {p y : Nat} (hp : p < 6) (hy : y < yY u) : ∃ b : Bool, f_Ch_alibiOf (nI p) (nI y) w = some (bI b, w) ∧ (b = true ↔ ¬ yAl u p y) := by
  have hn := nW_le K
  have h5 := K.D5
  have h6 := K.Y6
  have key := zfx_ind (fun _ _ _ _ => none) f_Ch_alibiOf_b2_s (fun m kk => ∀ W, W + m = nW u → (∀ k, k < 64 * W → ¬ (k < yT u ∧ yfi u k = true ∧ ∃ d, d < yD u ∧ yr u d = p ∧ yd u k d = y)) → ∃ b : Bool, kk (nI p) (nI y) (nI W) w = some (bI b, w) ∧ (b = true ↔ ¬ yAl u p y)) (fun m kk ih W hW hp2 => by
    unfold f_Ch_alibiOf_b2_s
    rw [La_words' K h.k, zb_s]
    show ∃ b : Bool, (if nI (nW u) ≤ nI W then _ else _) = _ ∧ _
    cases m with
    | zero =>
      rw [if_pos (by rw [n_le (by omega) (by omega)]; omega)]
      exact ⟨true, rfl, fun _ ⟨k, z⟩ => hp2 k (by have := nW_ge z.1; rw [show W = nW u by omega]; exact this) z, fun _ => rfl⟩
    | succ m =>
      rw [if_neg (by rw [n_le (by omega) (by omega)]; omega)]
      have inner := zfx_ind (fun _ _ _ _ _ _ => none) (f_Ch_alibiOf_b19_s kk) (fun m2 k2 => ∀ d x, d + m2 = yD u → (∀ b, b < 64 → 64 * W + b < yT u → (bL x b = true ↔ ∃ e, e < d ∧ yr u e = p ∧ yd u (64 * W + b) e = y)) → ∃ b : Bool, k2 (nI p) (nI y) (nI W) x (nI d) w = some (bI b, w) ∧ (b = true ↔ ¬ yAl u p y)) (fun m2 k2 ih2 d x hd hx => by
        unfold f_Ch_alibiOf_b19_s f_Co_fitting
        rw [La_deedCount' K h.k, zb_s]
        cases m2 with
        | zero =>
          rw [if_pos (by rw [n_le (by omega) (by omega)]; omega), zb_s, Ro_word' row_76 (by omega), zb_s]
          have hbit : ∀ b, b < 64 → ((bL x b = true ∧ bL (w.2 76 W) b = true) ↔ (64 * W + b < yT u ∧ yfi u (64 * W + b) = true ∧ ∃ d, d < yD u ∧ yr u d = p ∧ yd u (64 * W + b) d = y)) := by
            intro b hb
            rw [fit_w C h (by omega) hb, Bool.and_eq_true, decide_eq_true_eq]
            constructor
            · intro ⟨z1, z2, z3⟩
              obtain ⟨e, e1, e2⟩ := (hx b hb z2).mp z1
              exact ⟨z2, z3, e, by omega, e2⟩
            · intro ⟨z2, z3, e, e1, e2⟩
              exact ⟨(hx b hb z2).mpr ⟨e, by omega, e2⟩, z2, z3⟩
          by_cases q : x &&& (w.2 76 W) = 0
          · rw [if_pos ((lc_eq _ _).mpr q), zl_s, n_1]
            exact ih m (by omega) (W + 1) (by omega) (bits_s hp2 (fun b hb z => and2_z.mp q b hb ((hbit b hb).mpr z)))
          · rw [if_neg (fun z => q ((lc_eq _ _).mp z))]
            refine ⟨false, rfl, fun z => (by cases z), fun z => absurd (and2_z.mpr (fun b hb z2 => z ⟨64 * W + b, (hbit b hb).mp z2⟩)) q⟩
        | succ m2 =>
          have hd2 : d < yD u := by omega
          rw [if_neg (by rw [n_le (by omega) (by omega)]; omega), Ch_isDoer' K h.k hp hd2, zb_s]
          have st : ∀ x2 : Int64, (∀ b, b < 64 → 64 * W + b < yT u → (bL x2 b = true ↔ yr u d = p ∧ yd u (64 * W + b) d = y)) → ∃ b : Bool, f_Ch_alibiOf_b58 kk k2 (nI p) (nI y) (nI W) (nI d) x x2 w = some (bI b, w) ∧ (b = true ↔ ¬ yAl u p y) := by
            intro x2 h2
            unfold f_Ch_alibiOf_b58
            rw [zl_s, zl_s, n_1]
            refine ih2 m2 (by omega) (d + 1) _ (by omega) (fun b hb hk => ?_)
            rw [bL_or, Bool.or_eq_true, hx b hb hk, h2 b hb hk]
            constructor
            · intro z
              rcases z with ⟨e, e1, e2⟩ | z
              · exact ⟨e, by omega, e2⟩
              · exact ⟨d, by omega, z⟩
            · intro ⟨e, e1, e2⟩
              by_cases q : e = d
              · subst q; exact Or.inr e2
              · exact Or.inl ⟨e, by omega, e2⟩
          by_cases q : yr u d = p
          · rw [decide_eq_true q, if_neg bt0, La_dateWord' K h.k hd2 (Or.inl hy) (by omega), zb_s]
            exact st _ (fun b hb hk => by rw [yDw_b K hd2 (Or.inl hy) hb hk, decide_eq_true_eq]; exact ⟨fun z => ⟨q, z⟩, fun z => z.2⟩)
          · rw [decide_eq_false q, if_pos bf0]
            exact st _ (fun b hb hk => by rw [bL_0]; exact ⟨fun z => (by cases z), fun z => absurd z.1 q⟩)) zFU (yD u) (zfu (by omega))
      exact inner 0 0 (by omega) (fun b hb hk => by rw [bL_0]; exact ⟨fun z => (by cases z), fun ⟨e, e1, _⟩ => absurd e1 (Nat.not_lt_zero e)⟩)) zFU (nW u) (zfu (by omega))
  exact key 0 (by omega) (fun k hk => absurd hk (by omega))
theorem M_alibiL (J : zJ u) {w : gW} (h : zE u w) {p y : Nat} (hp : p < 6) (hy : y < yY u) : ∃ (b : Bool) (w' : gW), f_M_alibi_b44 (nI p) (nI y) (0 : Int32) w = some (bI b, w') ∧ zE u w' ∧ (b = true ↔ ¬ yAl u p y) := by
  have K := J.K
  have ht := K.T7
  have h5 := K.D5
  have h6 := K.Y6
  have key := zfx_ind (fun _ _ _ _ => none) f_M_alibi_b44_s (fun m kk => ∀ k v, k + m = yT u → zE u v → (∀ j, j < k → ¬ (yfi u j = true ∧ ∃ d, d < yD u ∧ yr u d = p ∧ yd u j d = y)) → ∃ (b : Bool) (w' : gW), kk (nI p) (nI y) (nI k) v = some (bI b, w') ∧ zE u w' ∧ (b = true ↔ ¬ yAl u p y)) (fun m kk ih k v hk hv hp2 => by
    unfold f_M_alibi_b44_s
    rw [hv.k.i rfl, K.L.2.2.2.2.1]
    cases m with
    | zero =>
      rw [if_pos (by rw [n_le (by omega) (by omega)]; omega)]
      exact ⟨true, v, rfl, hv, fun _ ⟨j, z1, z2⟩ => hp2 j (by omega) z2, fun _ => rfl⟩
    | succ m =>
      rw [if_neg (by rw [n_le (by omega) (by omega)]; omega), if_pos (z_inbn (by omega) (by decide))]
      obtain ⟨w3, l3, m3, h3, F3⟩ := M_lf K J.R hv (k := k) (by omega)
      rw [F3]
      have go : ¬ (yfi u k = true ∧ ∃ d, d < yD u ∧ yr u d = p ∧ yd u k d = y) → ∃ (b : Bool) (w' : gW), f_M_alibi_b114 kk (nI p) (nI y) (nI k) w3 = some (bI b, w') ∧ zE u w' ∧ (b = true ↔ ¬ yAl u p y) := by
        intro hq
        unfold f_M_alibi_b114
        rw [zl_s, n_1]
        refine ih m (by omega) (k + 1) w3 (by omega) h3 (fun j hj => ?_)
        by_cases q : j = k
        · subst q; exact hq
        · exact hp2 j (by omega)
      cases hf : yfi u k with
      | false =>
        rw [if_pos bf0]
        exact go (fun z => by rw [hf] at z; cases z.1)
      | true =>
        rw [if_neg bt0]
        have inner := zfx_ind (fun _ _ _ _ _ => none) (f_M_alibi_b75_s kk) (fun m2 k2 => ∀ d, d + m2 = yD u → (∀ e, e < d → ¬ (yr u e = p ∧ yd u k e = y)) → ∃ (b : Bool) (w' : gW), k2 (nI p) (nI y) (nI k) (nI d) w3 = some (bI b, w') ∧ zE u w' ∧ (b = true ↔ ¬ yAl u p y)) (fun m2 k2 ih2 d hd hq => by
          unfold f_M_alibi_b75_s
          rw [there21 K h3]
          cases m2 with
          | zero =>
            rw [if_pos (by rw [n_le (by omega) (by omega)]; omega)]
            exact go (fun ⟨_, d', z1, z2⟩ => hq d' (by omega) z2)
          | succ m2 =>
            have hd2 : d < yD u := by omega
            have i1 : inb (nI d) 5 := z_inbn (by omega) (by decide)
            have r6 := (K.dd hd2).2.2
            have d9 := (K.d9 hd2 k).1
            rw [if_neg (by rw [n_le (by omega) (by omega)]; omega), if_pos i1, if_pos i1, z_ix (by omega), h3.k.i (a := 112) rfl, (K.L.2.1 d hd2).1, l3 d hd2]
            have nx : ¬ (yr u d = p ∧ yd u k d = y) → ∃ (b : Bool) (w' : gW), f_M_alibi_b108 kk k2 (nI p) (nI y) (nI k) (nI d) w3 = some (bI b, w') ∧ zE u w' ∧ (b = true ↔ ¬ yAl u p y) := by
              intro hz
              unfold f_M_alibi_b108
              rw [zl_s, n_1]
              refine ih2 m2 (by omega) (d + 1) (by omega) (fun e he => ?_)
              by_cases q : e = d
              · subst q; exact hz
              · exact hq e (by omega)
            by_cases q1 : yr u d = p
            · rw [if_pos (by rw [q1])]
              by_cases q2 : yd u k d = y
              · rw [if_pos (by rw [q2])]
                exact ⟨false, w3, rfl, h3, fun z => (by cases z), fun z => absurd ⟨k, by omega, hf, d, hd2, q1, q2⟩ z⟩
              · rw [if_neg (fun e => q2 ((n_eq (by omega) (by omega)).mp e))]
                exact nx (fun z => q2 z.2)
            · rw [if_neg (fun e => q1 ((n_eq (by omega) (by omega)).mp e))]
              exact nx (fun z => q1 z.1)) zFU (yD u) (zfu (by omega))
        exact inner 0 (by omega) (fun e he => absurd he (Nat.not_lt_zero e))) zFU (yT u) (zfu (by omega))
  exact key 0 w (by omega) h (fun j hj => absurd hj (Nat.not_lt_zero j))
theorem gP_t {a : Int32} (h : 0 ≤ a.toInt ∧ a.toInt < (6 : Nat)) : ∃ p, a = nI p ∧ p < 6 := by
  obtain ⟨e, l⟩ := z_nIx h
  exact ⟨ix a, e, l⟩
theorem q_alibi (J : zJ u) (a b : Int32) : zQ u (f_X_alibi a b) (f_M_alibi a b) := by
  have K := J.K
  have h5 := K.D5
  have h6 := K.Y6
  have hC := J.K.1.2
  by_cases g : (0 ≤ a.toInt ∧ a.toInt < (6 : Nat)) ∧ (0 ≤ b.toInt ∧ b.toInt < (yY u : Int))
  · obtain ⟨g1, g2⟩ := g
    obtain ⟨p, rfl, hp⟩ := gP_t g1
    obtain ⟨eb, hy⟩ := z_nIx g2
    generalize ix b = y at eb hy
    subst eb
    have hd0 : 0 < yD u := by rcases hC with z | z <;> omega
    obtain ⟨b0, -, -, -, k0⟩ := M_alibiL J (zE.rf u) hp hy
    refine ⟨bI b0, fun v hv => ⟨v, ?_, hv⟩, fun v hv => ?_⟩
    · obtain ⟨b1, e1, k1⟩ := Ch_alibi K J.C hv hp hy
      unfold f_X_alibi f_X_alibi_b27
      rw [X_isPerson', zb_s, decide_eq_true g1, if_neg bt0, if_neg (nI_pos (by omega)), La_dayCount' K hv.k, zb_s, if_neg (by rw [n_le (by omega) (by omega)]; omega), if_neg z10, e1, zb_s, bb_eq k1 k0]
    · obtain ⟨b1, v1, e1, e2, k1⟩ := M_alibiL J hv.m0 hp hy
      refine ⟨v1, ?_, e2⟩
      have hz : ¬ nI (yD u) = 0 := nI_ne0 hd0 (by omega)
      unfold f_M_alibi
      rw [zl_s, there21 K hv.m0, if_neg hz, isIn_lit (nI p) (c := 5) 6 rfl, zb_s, decide_eq_true g1, if_neg bt0]
      have e22 : (zsI v 107 0 0).1 107 22 = nI (yY u) := (hv.m0.k.i rfl).trans K.C.2.2.1.2
      rw [e22, isIn_lit (nI y) (c := (nI (yY u) - (1 : Int32)).toInt64) (yY u) (by rw [i_l, show (1 : Int32) = nI 1 from rfl, pk_sub_toInt (by omega) (by omega)]; omega), zb_s, decide_eq_true g2, if_neg bt0, e1, bb_eq k1 k0]
  · refine ⟨-1, fun v hv => ⟨v, ?_, hv⟩, fun v hv => ⟨_, ?_, hv.m0⟩⟩
    · unfold f_X_alibi f_X_alibi_b26 f_X_alibi_b27
      rw [X_isPerson', zb_s]
      by_cases g1 : 0 ≤ a.toInt ∧ a.toInt < (6 : Nat)
      · have g2 : ¬ (0 ≤ b.toInt ∧ b.toInt < (yY u : Int)) := fun z => g ⟨g1, z⟩
        rw [decide_eq_true g1, if_neg bt0]
        by_cases c1 : b < 0
        · rw [if_pos c1, if_pos z00]
        · have c2 : nI (yY u) ≤ b := by rw [i_le, i_nI (by omega)]; rw [i_lt, i_0] at c1; omega
          rw [if_neg c1, La_dayCount' K hv.k, zb_s, if_pos c2, if_pos z00]
      · rw [decide_eq_false g1, if_pos bf0, if_pos z00]
    · unfold f_M_alibi
      rw [zl_s, there21 K hv.m0]
      by_cases hz : nI (yD u) = 0
      · rw [if_pos hz]
      · rw [if_neg hz, isIn_lit a (c := 5) 6 rfl, zb_s]
        by_cases g1 : 0 ≤ a.toInt ∧ a.toInt < (6 : Nat)
        · have g2 : ¬ (0 ≤ b.toInt ∧ b.toInt < (yY u : Int)) := fun z => g ⟨g1, z⟩
          have e22 : (zsI v 107 0 0).1 107 22 = nI (yY u) := (hv.m0.k.i rfl).trans K.C.2.2.1.2
          rw [decide_eq_true g1, if_neg bt0, e22, isIn_lit b (c := (nI (yY u) - (1 : Int32)).toInt64) (yY u) (by rw [i_l, show (1 : Int32) = nI 1 from rfl, pk_sub_toInt (by omega) (by omega)]; omega), zb_s, decide_eq_false g2, if_pos bf0]
        · rw [decide_eq_false g1, if_pos bf0]
/-- hands -/
def yDid (u : gW) (k : Nat) : Nat → Nat
  | 0 => 0
  | d + 1 => if yd u k d = 9 then yDid u k d else yDid u k d ||| 2 ^ yr u d
def yHn (u : gW) : Nat → Nat
  | 0 => 63
  | k + 1 => if yfi u k = true then yHn u k &&& yDid u k (yD u) else yHn u k
theorem yDid_B (K : zK u) (k : Nat) : ∀ d, d ≤ yD u → isB 6 (fun p => ∃ e, e < d ∧ yr u e = p ∧ yd u k e ≠ 9) (yDid u k d)
  | 0, _ => ⟨by show 0 < 2 ^ 6; decide, fun i _ => ⟨fun h => (by rw [show yDid u k 0 = 0 from rfl, Nat.zero_testBit] at h; cases h), fun ⟨e, h, _⟩ => absurd h (Nat.not_lt_zero e)⟩⟩
  | d + 1, hd => by
    have ih := yDid_B K k d (by omega)
    have r6 := (K.dd (d := d) (by omega)).2.2
    unfold yDid
    by_cases q : yd u k d = 9
    · rw [if_pos q]
      refine ih.cg (fun i _ => ⟨fun ⟨e, z1, z2⟩ => ⟨e, by omega, z2⟩, fun ⟨e, z1, z2⟩ => ⟨e, ?_, z2⟩⟩)
      by_cases z : e = d
      · subst z; exact absurd q z2.2
      · omega
    · rw [if_neg q]
      refine ⟨Nat.or_lt_two_pow ih.1 (Nat.pow_lt_pow_right (by decide) r6), fun i hi => ?_⟩
      rw [Nat.testBit_or, Bool.or_eq_true, ih.2 i hi, Nat.testBit_two_pow, decide_eq_true_eq]
      constructor
      · intro z
        rcases z with ⟨e, z1, z2⟩ | z
        · exact ⟨e, by omega, z2⟩
        · exact ⟨d, by omega, z, q⟩
      · intro ⟨e, z1, z2⟩
        by_cases z : e = d
        · subst z; exact Or.inr z2.1
        · exact Or.inl ⟨e, by omega, z2⟩
def yHnP (u : gW) (n p : Nat) : Prop := ∀ k, k < n → yfi u k = true → ∃ e, e < yD u ∧ yr u e = p ∧ yd u k e ≠ 9
theorem yHn_B (K : zK u) : ∀ n, isB 6 (yHnP u n) (yHn u n)
  | 0 => ⟨by show 63 < 2 ^ 6; decide, fun i hi => ⟨fun _ k hk => absurd hk (Nat.not_lt_zero k), fun _ => by show (2 ^ 6 - 1).testBit i = true; rw [Nat.testBit_two_pow_sub_one, decide_eq_true hi]⟩⟩
  | n + 1 => by
    have ih := yHn_B K n
    have hb := yDid_B K n (yD u) (Nat.le_refl _)
    unfold yHn
    by_cases hf : yfi u n = true
    · rw [if_pos hf]
      refine ⟨Nat.lt_of_le_of_lt Nat.and_le_left ih.1, fun i hi => ?_⟩
      rw [Nat.testBit_and, Bool.and_eq_true, ih.2 i hi, hb.2 i hi]
      constructor
      · intro ⟨z1, z2⟩ k hk hfk
        by_cases q : k = n
        · subst q; exact z2
        · exact z1 k (by omega) hfk
      · intro z
        exact ⟨fun k hk => z k (by omega), z n (by omega) hf⟩
    · rw [if_neg hf]
      refine ih.cg (fun i _ => ⟨fun z k hk hfk => ?_, fun z k hk => z k (by omega)⟩)
      by_cases q : k = n
      · subst q; exact absurd hfk hf
      · exact z k (by omega) hfk
theorem Ch_sure (K : zK u) (C : jCou u) {w : gW} (h : zE u w) {p : Nat} (hp : p < 6) : ∃ b : Bool, f_Ch_isSureHand (nI p) w = some (bI b, w) ∧ (b = true ↔ yHnP u (yT u) p) := by
  have hn := nW_le K
  have h5 := K.D5
  have h6 := K.Y6
  have key := zfx_ind (fun _ _ _ => none) f_Ch_isSureHand_b2_s (fun m kk => ∀ W, W + m = nW u → (∀ k, k < 64 * W → k < yT u → yfi u k = true → ∃ e, e < yD u ∧ yr u e = p ∧ yd u k e ≠ 9) → ∃ b : Bool, kk (nI p) (nI W) w = some (bI b, w) ∧ (b = true ↔ yHnP u (yT u) p)) (fun m kk ih W hW hp2 => by
    unfold f_Ch_isSureHand_b2_s
    rw [La_words' K h.k, zb_s]
    show ∃ b : Bool, (if nI (nW u) ≤ nI W then _ else _) = _ ∧ _
    cases m with
    | zero =>
      rw [if_pos (by rw [n_le (by omega) (by omega)]; omega)]
      exact ⟨true, rfl, fun _ k hk => hp2 k (by have := nW_ge hk; rw [show W = nW u by omega]; exact this) hk, fun _ => rfl⟩
    | succ m =>
      rw [if_neg (by rw [n_le (by omega) (by omega)]; omega)]
      have inner := zfx_ind (fun _ _ _ _ _ => none) (f_Ch_isSureHand_b18_s kk) (fun m2 k2 => ∀ d x, d + m2 = yD u → (∀ b, b < 64 → 64 * W + b < yT u → (bL x b = true ↔ ∃ e, e < d ∧ yr u e = p ∧ yd u (64 * W + b) e ≠ 9)) → ∃ b : Bool, k2 (nI p) (nI W) x (nI d) w = some (bI b, w) ∧ (b = true ↔ yHnP u (yT u) p)) (fun m2 k2 ih2 d x hd hx => by
        unfold f_Ch_isSureHand_b18_s f_Co_fitting
        rw [La_deedCount' K h.k, zb_s]
        cases m2 with
        | zero =>
          rw [if_pos (by rw [n_le (by omega) (by omega)]; omega), zb_s, Ro_word' row_76 (by omega), zb_s]
          have hbit : ∀ b, b < 64 → ((bL (w.2 76 W) b = true → bL x b = true) ↔ (64 * W + b < yT u → yfi u (64 * W + b) = true → ∃ e, e < yD u ∧ yr u e = p ∧ yd u (64 * W + b) e ≠ 9)) := by
            intro b hb
            rw [fit_w C h (by omega) hb, Bool.and_eq_true, decide_eq_true_eq]
            have ed : d = yD u := by omega
            subst ed
            constructor
            · intro z z2 z3
              exact (hx b hb z2).mp (z ⟨z2, z3⟩)
            · intro z ⟨z2, z3⟩
              exact (hx b hb z2).mpr (z z2 z3)
          by_cases q : (w.2 76 W) &&& (x ^^^ (-1)) = 0
          · rw [if_pos ((lc_eq _ _).mpr q), zl_s, n_1]
            exact ih m (by omega) (W + 1) (by omega) (bits_s hp2 (fun b hb => (hbit b hb).mp (andn_z.mp q b hb)))
          · rw [if_neg (fun z => q ((lc_eq _ _).mp z))]
            exact ⟨false, rfl, fun z => (by cases z), fun z => absurd (andn_z.mpr (fun b hb => (hbit b hb).mpr (z (64 * W + b)))) q⟩
        | succ m2 =>
          have hd2 : d < yD u := by omega
          rw [if_neg (by rw [n_le (by omega) (by omega)]; omega), Ch_isDoer' K h.k hp hd2, zb_s]
          have st : ∀ x2 : Int64, (∀ b, b < 64 → 64 * W + b < yT u → (bL x2 b = true ↔ yr u d = p ∧ yd u (64 * W + b) d ≠ 9)) → ∃ b : Bool, f_Ch_isSureHand_b62 kk k2 (nI p) (nI W) (nI d) x x2 w = some (bI b, w) ∧ (b = true ↔ yHnP u (yT u) p) := by
            intro x2 h2
            unfold f_Ch_isSureHand_b62
            rw [zl_s, zl_s, n_1]
            refine ih2 m2 (by omega) (d + 1) _ (by omega) (fun b hb hk => ?_)
            rw [bL_or, Bool.or_eq_true, hx b hb hk, h2 b hb hk]
            constructor
            · intro z
              rcases z with ⟨e, e1, e2⟩ | z
              · exact ⟨e, by omega, e2⟩
              · exact ⟨d, by omega, z⟩
            · intro ⟨e, e1, e2⟩
              by_cases q : e = d
              · subst q; exact Or.inr e2
              · exact Or.inl ⟨e, by omega, e2⟩
          by_cases q : yr u d = p
          · rw [decide_eq_true q, if_neg bt0, La_dayCount' K h.k, zb_s, La_seenWord' K h.k (by omega) (by omega) (by omega), zb_s, if_pos hd2]
            refine st _ (fun b hb hk => ?_)
            have h9 := (K.d9 hd2 (64 * W + b)).2
            rw [ySe_b K hd2 (by omega) hb hk, decide_eq_true_eq]
            exact ⟨fun z => ⟨q, by omega⟩, fun z => by omega⟩
          · rw [decide_eq_false q, if_pos bf0]
            exact st _ (fun b hb hk => by rw [bL_0]; exact ⟨fun z => (by cases z), fun z => absurd z.1 q⟩)) zFU (yD u) (zfu (by omega))
      exact inner 0 0 (by omega) (fun b hb hk => by rw [bL_0]; exact ⟨fun z => (by cases z), fun ⟨e, e1, _⟩ => absurd e1 (Nat.not_lt_zero e)⟩)) zFU (nW u) (zfu (by omega))
  exact key 0 (by omega) (fun k hk => absurd hk (by omega))
theorem q_hands (J : zJ u) : zQ u f_X_hands f_M_hands := by
  have K := J.K
  have ht := K.T7
  have h5 := K.D5
  by_cases gd : 0 < yD u
  · refine ⟨nI (yHn u (yT u)), fun v hv => ⟨v, ?_, hv⟩, fun v hv => ?_⟩
    · unfold f_X_hands f_Ch_sureHands
      rw [La_isThere' K hv.k, zb_s, decide_eq_true gd, if_neg bt0]
      have key := zfx_ind (fun _ _ _ => none) f_Ch_sureHands_b4_s (fun m kk => ∀ p r, p + m = 6 → isB p (yHnP u (yT u)) r → kk (nI r) (nI p) v = some (nI (yHn u (yT u)), v)) (fun m kk ih p r hp hr => by
        unfold f_Ch_sureHands_b4_s
        cases m with
        | zero =>
          rw [if_pos (by rw [show (6 : Int32) = nI 6 from rfl, n_le (by omega) (by omega)]; omega)]
          have e2 := yHn_B K (yT u)
          rw [show (6 : Nat) = p by omega] at e2
          rw [isB.un hr e2]
        | succ m =>
          rw [if_neg (by rw [show (6 : Int32) = nI 6 from rfl, n_le (by omega) (by omega)]; omega)]
          obtain ⟨b, b1, b2⟩ := Ch_sure K J.C hv (p := p) (by omega)
          rw [b1, zb_s]
          have st : ∀ x : Nat, r ||| x = r ||| (if b = true then 2 ^ p else 0) → f_Ch_sureHands_b26 kk (nI p) (nI r) (nI x) v = some (nI (yHn u (yT u)), v) := by
            intro x hx
            unfold f_Ch_sureHands_b26
            rw [n_or, hx, zl_s, zl_s, n_1]
            exact ih m (by omega) (p + 1) _ (by omega) (hr.s b b2)
          cases b with
          | false => rw [if_pos bf0]; exact st 0 rfl
          | true => rw [if_neg bt0, n_1sh (by omega)]; exact st (2 ^ p) rfl) zFU 6 (zfu (by omega))
      rw [show f_Ch_sureHands_b4 (0 : Int32) (0 : Int32) v = _ from key 0 0 (by omega) (isB.z _), zb_s]
    · have key := zfx_ind (fun _ _ _ => none) f_M_hands_b19_s (fun m kk => ∀ k v, k + m = yT u → zE u v → ∃ v' : gW, kk (nI (yHn u k)) (nI k) v = some (nI (yHn u (yT u)), v') ∧ zE u v') (fun m kk ih k v hk hv => by
        unfold f_M_hands_b19_s
        rw [hv.k.i rfl, K.L.2.2.2.2.1]
        cases m with
        | zero =>
          rw [if_pos (by rw [n_le (by omega) (by omega)]; omega), show k = yT u by omega]
          exact ⟨v, rfl, hv⟩
        | succ m =>
          rw [if_neg (by rw [n_le (by omega) (by omega)]; omega), if_pos (z_inbn (by omega) (by decide))]
          obtain ⟨w3, l3, m3, h3, F3⟩ := M_lf K J.R hv (k := k) (by omega)
          rw [F3]
          have go : ∀ r, r = yHn u (k + 1) → ∃ v' : gW, f_M_hands_b99 kk (nI r) (nI k) w3 = some (nI (yHn u (yT u)), v') ∧ zE u v' := by
            intro r hr
            subst hr
            unfold f_M_hands_b99
            rw [zl_s, n_1]
            exact ih m (by omega) (k + 1) w3 (by omega) h3
          cases hf : yfi u k with
          | false =>
            rw [if_pos bf0]
            exact go _ (by show _ = if yfi u k = true then _ else _; rw [hf]; rfl)
          | true =>
            rw [if_neg bt0]
            have inner := zfx_ind (fun _ _ _ _ _ => none) (f_M_hands_b52_s kk) (fun m2 k2 => ∀ d, d + m2 = yD u → ∃ v' : gW, k2 (nI (yHn u k)) (nI k) (nI (yDid u k d)) (nI d) w3 = some (nI (yHn u (yT u)), v') ∧ zE u v') (fun m2 k2 ih2 d hd => by
              unfold f_M_hands_b52_s
              rw [there21 K h3]
              cases m2 with
              | zero =>
                rw [if_pos (by rw [n_le (by omega) (by omega)]; omega), n_and, zl_s]
                exact go _ (by show _ = if yfi u k = true then _ else _; rw [hf, if_pos rfl, show d = yD u by omega])
              | succ m2 =>
                have hd2 : d < yD u := by omega
                have i1 : inb (nI d) 5 := z_inbn (by omega) (by decide)
                have r6 := (K.dd hd2).2.2
                have d9 := (K.d9 hd2 k).1
                rw [if_neg (by rw [n_le (by omega) (by omega)]; omega), if_pos i1, if_pos i1, z_ix (by omega), h3.k.i (a := 112) rfl, (K.L.2.1 d hd2).1, l3 d hd2, n_1sh (by omega)]
                have st : ∀ x, yDid u k d ||| x = yDid u k (d + 1) → ∃ v' : gW, f_M_hands_b87 kk k2 (nI (yHn u k)) (nI k) (nI d) (nI (yDid u k d)) (nI x) w3 = some (nI (yHn u (yT u)), v') ∧ zE u v' := by
                  intro x hx
                  unfold f_M_hands_b87
                  rw [n_or, hx, zl_s, zl_s, n_1]
                  exact ih2 m2 (by omega) (d + 1) (by omega)
                by_cases q : yd u k d = 9
                · rw [if_pos (by rw [q]; rfl)]
                  exact st 0 (by rw [Nat.or_zero]; show _ = if yd u k d = 9 then _ else _; rw [if_pos q])
                · rw [if_neg (by rw [show (9 : Int32) = nI 9 from rfl, n_eq (by omega) (by omega)]; exact q)]
                  exact st _ (by show _ = if yd u k d = 9 then _ else _; rw [if_neg q])) zFU (yD u) (zfu (by omega))
            exact inner 0 (by omega)) zFU (yT u) (zfu (by omega))
      obtain ⟨v1, e1, e2⟩ := key 0 _ (by omega) hv.m0
      have hz : ¬ nI (yD u) = 0 := nI_ne0 gd (by omega)
      refine ⟨v1, ?_, e2⟩
      unfold f_M_hands
      rw [zl_s, there21 K hv.m0, if_neg hz]
      exact e1
  · have hd : yD u = 0 := by omega
    refine ⟨-1, fun v hv => ⟨v, ?_, hv⟩, fun v hv => ⟨_, ?_, hv.m0⟩⟩
    · unfold f_X_hands
      rw [La_isThere' K hv.k, zb_s, decide_eq_false gd, if_pos bf0]
    · unfold f_M_hands
      rw [zl_s, there21 K hv.m0, hd, if_pos (show nI 0 = 0 from rfl)]
end
