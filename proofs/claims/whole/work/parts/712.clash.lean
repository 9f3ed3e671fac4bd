/-! PURE: breaks, clash -/
theorem row101_s : zScrL 101 = true := rfl
section
variable {u : gW}
theorem yS_2 (K : zK u) : 2 ^ yS u ≤ 1024 := by
  have a : 2 ^ yS u ≤ 2 ^ 10 := Nat.pow_le_pow_right (by decide) K.S10
  omega
theorem yal_2 (u : gW) : yal u < 2 ^ yS u := by
  have := Nat.two_pow_pos (yS u)
  unfold yal
  omega
theorem pos_w (C : jCou u) {w : gW} (h : zE u w) {W b : Nat} (hW : W < 263) (hb : b < 64) : bL (w.2 75 W) b = (decide (64 * W + b < yT u) && ypo u (64 * W + b)) := by
  rw [← zbt_w hb]
  exact pos_b C h (by omega)
theorem nW_263 (K : zK u) {W : Nat} (h : W < nW u) : W < 263 := Nat.lt_of_lt_of_le h (nW_le K)
/-- the class: two sworn ones hold together in a possible life -/
theorem Le_canHold' (K : zK u) (R : jRec u) (C : jCou u) {w : gW} (h : zE u w) {i j : Nat} (hi : i < yS u) (hj : j < yS u) : ∃ w' : gW, f_Le_canHold (nI i) (nI j) w = some (bI (yCb u (2 ^ i ||| 2 ^ j) (yal u)), w') ∧ zE u w' := by
  have hn := nW_le K
  have hal := yal_2 u
  have hcan : yCan u (2 ^ i ||| 2 ^ j) (yal u) ↔ ∃ k, k < yT u ∧ ypo u k = true ∧ yHs u i (yal u) k = true ∧ yHs u j (yal u) k = true := by
    constructor
    · intro ⟨k, k1, k2, k3⟩
      refine ⟨k, k1, k2, k3 i hi ?_, k3 j hj ?_⟩
      · rw [Nat.testBit_or, Nat.testBit_two_pow_self, Bool.true_or]
      · rw [Nat.testBit_or, Nat.testBit_two_pow_self, Bool.or_true]
    · intro ⟨k, k1, k2, k3, k4⟩
      refine ⟨k, k1, k2, fun a ha hs => ?_⟩
      rw [Nat.testBit_or, Bool.or_eq_true, Nat.testBit_two_pow, Nat.testBit_two_pow, decide_eq_true_eq, decide_eq_true_eq] at hs
      rcases hs with e | e
      · rw [← e]; exact k3
      · rw [← e]; exact k4
  unfold f_Le_canHold
  rw [An_all K h.k, zb_s]
  have key := zfx_ind (fun _ _ _ _ _ => none) f_Le_canHold_b11_s (fun m kk => ∀ W v, W + m = nW u → zE u v → (∀ k, k < 64 * W → ¬ (k < yT u ∧ ypo u k = true ∧ yHs u i (yal u) k = true ∧ yHs u j (yal u) k = true)) → ∃ w' : gW, kk (nI i) (nI j) (nI (yal u)) (nI W) v = some (bI (yCb u (2 ^ i ||| 2 ^ j) (yal u)), w') ∧ zE u w') (fun m kk ih W v hW hv hno => by
    unfold f_Le_canHold_b11_s
    rw [La_words' K hv.k, zb_s]
    show ∃ w' : gW, (if nI (nW u) ≤ nI W then _ else _) = _ ∧ _
    cases m with
    | zero =>
      rw [if_pos (by rw [n_le (by omega) (by omega)]; omega)]
      have e : yCb u (2 ^ i ||| 2 ^ j) (yal u) = false := by
        cases e : yCb u (2 ^ i ||| 2 ^ j) (yal u) with
        | false => rfl
        | true =>
          obtain ⟨k, z⟩ := hcan.mp (yCb_i.mp e)
          have := nW_ge z.1
          exact absurd z (hno k (by omega))
      rw [e]
      exact ⟨v, rfl, hv⟩
    | succ m =>
      rw [if_neg (by rw [n_le (by omega) (by omega)]; omega)]
      obtain ⟨r1, v1, e1, s1, b1⟩ := Co_swornWord' K R C hv hi hal (W := W) (by omega)
      rw [e1, zb_s]
      have hv1 : zE u v1 := zSk.e hv s1
      obtain ⟨r2, v2, e2, s2, b2⟩ := Co_swornWord' K R C hv1 hj hal (W := W) (by omega)
      rw [e2, zb_s, zl_s]
      have hv2 : zE u v2 := zSk.e hv1 s2
      unfold f_Co_possible
      rw [zb_s, Ro_word' row_75 (by omega), zb_s]
      have hb : ∀ b, b < 64 → (bL ((r1 &&& r2) &&& v2.2 75 W) b = true ↔ (64 * W + b < yT u ∧ ypo u (64 * W + b) = true ∧ yHs u i (yal u) (64 * W + b) = true ∧ yHs u j (yal u) (64 * W + b) = true)) := by
        intro b hb
        rw [bL_and, bL_and, pos_w C hv2 (by omega) hb]
        by_cases q : 64 * W + b < yT u
        · rw [b1 b hb q, b2 b hb q, decide_eq_true q]
          simp only [Bool.and_eq_true, Bool.true_and]
          constructor
          · intro z; exact ⟨q, z.2, z.1.1, z.1.2⟩
          · intro z; exact ⟨⟨z.2.2.1, z.2.2.2⟩, z.2.1⟩
        · rw [decide_eq_false q, Bool.false_and, Bool.and_false]
          exact ⟨fun z => (by cases z), fun z => absurd z.1 q⟩
      by_cases q : (r1 &&& r2) &&& v2.2 75 W = 0
      · rw [if_pos ((lc_eq _ _).mpr q), zl_s, n_1]
        refine ih m (by omega) (W + 1) v2 (by omega) hv2 (bits_s hno (fun b hb2 z => ?_))
        have := bL_z.mp q b hb2
        rw [(hb b hb2).mpr z] at this
        cases this
      · rw [if_neg (fun z => q ((lc_eq _ _).mp z))]
        obtain ⟨b, hb2, z⟩ := bL_nz.mp q
        have e : yCb u (2 ^ i ||| 2 ^ j) (yal u) = true := yCb_i.mpr (hcan.mpr ⟨64 * W + b, (hb b hb2).mp z⟩)
        rw [e]
        exact ⟨v2, rfl, hv2⟩) zFU (nW u) (zfu (by omega))
  exact key 0 w (by omega) h (fun k hk => absurd hk (by omega))
/-- the first clash -/
noncomputable def yCl2 (u : gW) (i : Nat) : Nat → Nat → Option Int32
  | _, 0 => none
  | j, m + 1 => if (yCb u (2 ^ i ||| 2 ^ i) (yal u) && (yCb u (2 ^ j ||| 2 ^ j) (yal u) && !yCb u (2 ^ i ||| 2 ^ j) (yal u))) = true then some (nI (10 * i + j)) else yCl2 u i (j + 1) m
noncomputable def yCl (u : gW) : Nat → Nat → Int32
  | _, 0 => -1
  | i, m + 1 => match yCl2 u i (i + 1) m with
    | some r => r
    | none => yCl u (i + 1) m
theorem e10 (i j : Nat) : (10 : Int32) * nI i + nI j = nI (10 * i + j) := by rw [show (10 : Int32) = nI 10 from rfl, pk_mul, nI_add]
theorem Le_clash (K : zK u) (R : jRec u) (C : jCou u) {w : gW} (h : zE u w) : ∃ w' : gW, f_Le_firstClash w = some (yCl u 0 (yS u), w') ∧ zE u w' := by
  have h10 := K.S10
  have hS : ∀ v, zE u v → f_An_swornCount v = some (nI (yS u), v) := fun v hv => by
    unfold f_An_swornCount
    rw [hv.k.i rfl, K.C.2.2.2.2.1.1]
  have key := zfx_ind (fun _ _ => none) f_Le_firstClash_b2_s (fun m kk => ∀ i v, i + m = yS u → zE u v → ∃ w' : gW, kk (nI i) v = some (yCl u i m, w') ∧ zE u w') (fun m kk ih i v hi hv => by
    unfold f_Le_firstClash_b2_s
    rw [hS v hv, zb_s]
    cases m with
    | zero =>
      rw [if_pos (by rw [n_le (by omega) (by omega)]; omega)]
      exact ⟨v, rfl, hv⟩
    | succ m =>
      rw [if_neg (by rw [n_le (by omega) (by omega)]; omega), zl_s, n_1]
      have inner := zfx_ind (fun _ _ _ => none) (f_Le_firstClash_b17_s kk) (fun m2 k2 => ∀ j v, j + m2 = yS u → i < j → zE u v → ∃ w' : gW, k2 (nI i) (nI j) v = some ((match yCl2 u i j m2 with
        | some r => r
        | none => yCl u (i + 1) m), w') ∧ zE u w') (fun m2 k2 ih2 j v hj hij hv => by
        unfold f_Le_firstClash_b17_s
        rw [hS v hv, zb_s]
        cases m2 with
        | zero =>
          rw [if_pos (by rw [n_le (by omega) (by omega)]; omega), zl_s, n_1]
          exact ih m (by omega) (i + 1) v (by omega) hv
        | succ m2 =>
          rw [if_neg (by rw [n_le (by omega) (by omega)]; omega)]
          have skip : ∀ v', zE u v' → (yCb u (2 ^ i ||| 2 ^ i) (yal u) && (yCb u (2 ^ j ||| 2 ^ j) (yal u) && !yCb u (2 ^ i ||| 2 ^ j) (yal u))) = false → ∃ w' : gW, f_Le_firstClash_b62 kk k2 (nI i) (nI j) v' = some ((match yCl2 u i j (m2 + 1) with
            | some r => r
            | none => yCl u (i + 1) m), w') ∧ zE u w' := by
            intro v' hv' e
            unfold f_Le_firstClash_b62
            rw [zl_s, n_1]
            have e2 : yCl2 u i j (m2 + 1) = yCl2 u i (j + 1) m2 := if_neg (by rw [e]; decide)
            rw [e2]
            exact ih2 m2 (by omega) (j + 1) v' (by omega) (by omega) hv'
          obtain ⟨v1, f1, g1⟩ := Le_canHold' K R C hv (i := i) (j := i) (by omega) (by omega)
          rw [f1, zb_s]
          cases c1 : yCb u (2 ^ i ||| 2 ^ i) (yal u) with
          | false => rw [if_pos bf0]; exact skip v1 g1 (by rw [c1]; rfl)
          | true =>
            rw [if_neg bt0]
            obtain ⟨v2, f2, g2⟩ := Le_canHold' K R C g1 (i := j) (j := j) (by omega) (by omega)
            rw [f2, zb_s]
            cases c2 : yCb u (2 ^ j ||| 2 ^ j) (yal u) with
            | false => rw [if_pos bf0]; exact skip v2 g2 (by rw [c1, c2]; rfl)
            | true =>
              rw [if_neg bt0]
              obtain ⟨v3, f3, g3⟩ := Le_canHold' K R C g2 (i := i) (j := j) (by omega) (by omega)
              rw [f3, zb_s]
              cases c3 : yCb u (2 ^ i ||| 2 ^ j) (yal u) with
              | true => rw [if_neg bt0]; exact skip v3 g3 (by rw [c1, c2, c3]; rfl)
              | false =>
                rw [if_pos bf0, e10]
                have e2 : yCl2 u i j (m2 + 1) = some (nI (10 * i + j)) := if_pos (by rw [c1, c2, c3]; rfl)
                rw [e2]
                exact ⟨v3, rfl, g3⟩) zFU m (zfu (by omega))
      exact inner (i + 1) v (by omega) (by omega) hv) zFU (yS u) (zfu (by omega))
  exact key 0 w (by omega) h
theorem or_self2 (a : Nat) : a ||| a = a := Nat.or_self a
theorem pw_lt (K : zK u) {i : Nat} (hi : i < yS u) : 2 ^ i < 2 ^ yS u := Nat.pow_lt_pow_right (by decide) hi
theorem M_clashL (J : zJ u) {w : gW} (h : zE u w) {A : Nat} (hA : isB (yS u) (yAk u) A) (hL : LQ u A (yT u) w) : ∃ w' : gW, f_M_clash_b20 (0 : Int32) w = some (yCl u 0 (yS u), w') ∧ zE u w' := by
  have K := J.K
  have h10 := K.S10
  have hal := yal_lt K
  have hal2 := yal_2 u
  have key := zfx_ind (fun _ _ => none) f_M_clash_b20_s (fun m kk => ∀ i v, i + m = yS u → zE u v → LQ u A (yT u) v → ∃ w' : gW, kk (nI i) v = some (yCl u i m, w') ∧ zE u w') (fun m kk ih i v hi hv hL => by
    unfold f_M_clash_b20_s
    rw [hv.k.i rfl, K.C.2.2.2.2.1.2]
    cases m with
    | zero =>
      rw [if_pos (by rw [n_le (by omega) (by omega)]; omega)]
      exact ⟨v, rfl, hv⟩
    | succ m =>
      rw [if_neg (by rw [n_le (by omega) (by omega)]; omega), zl_s, n_1]
      have inner := zfx_ind (fun _ _ _ => none) (f_M_clash_b32_s kk) (fun m2 k2 => ∀ j v, j + m2 = yS u → i < j → zE u v → LQ u A (yT u) v → ∃ w' : gW, k2 (nI i) (nI j) v = some ((match yCl2 u i j m2 with
        | some r => r
        | none => yCl u (i + 1) m), w') ∧ zE u w') (fun m2 k2 ih2 j v hj hij hv hL => by
        unfold f_M_clash_b32_s
        rw [hv.k.i (a := 107) (b := 35) rfl, K.C.2.2.2.2.1.2]
        cases m2 with
        | zero =>
          rw [if_pos (by rw [n_le (by omega) (by omega)]; omega), zl_s, n_1]
          exact ih m (by omega) (i + 1) v (by omega) hv hL
        | succ m2 =>
          rw [if_neg (by rw [n_le (by omega) (by omega)]; omega), n_1sh (by omega), n_1sh (by omega)]
          have skip : ∀ v', zE u v' → LQ u A (yT u) v' → (yCb u (2 ^ i ||| 2 ^ i) (yal u) && (yCb u (2 ^ j ||| 2 ^ j) (yal u) && !yCb u (2 ^ i ||| 2 ^ j) (yal u))) = false → ∃ w' : gW, f_M_clash_b93 kk k2 (nI i) (nI j) v' = some ((match yCl2 u i j (m2 + 1) with
            | some r => r
            | none => yCl u (i + 1) m), w') ∧ zE u w' := by
            intro v' hv' hL' e
            unfold f_M_clash_b93
            rw [zl_s, n_1]
            have e2 : yCl2 u i j (m2 + 1) = yCl2 u i (j + 1) m2 := if_neg (by rw [e]; decide)
            rw [e2]
            exact ih2 m2 (by omega) (j + 1) v' (by omega) (by omega) hv' hL'
          have pi := pw_lt K (show i < yS u by omega)
          have pj := pw_lt K (show j < yS u by omega)
          obtain ⟨v1, f1, g1, l1⟩ := M_canHold' J hv hA hL (S := 2 ^ i) (th := yal u) pi (by omega)
          rw [M_all K hv.k, zb_s, f1, zb_s, ← or_self2 (2 ^ i)]
          cases c1 : yCb u (2 ^ i ||| 2 ^ i) (yal u) with
          | false => rw [if_pos bf0]; exact skip v1 g1 l1 (by rw [c1]; rfl)
          | true =>
            rw [if_neg bt0]
            obtain ⟨v2, f2, g2, l2⟩ := M_canHold' J g1 hA l1 (S := 2 ^ j) (th := yal u) pj (by omega)
            rw [M_all K g1.k, zb_s, f2, zb_s, ← or_self2 (2 ^ j)]
            cases c2 : yCb u (2 ^ j ||| 2 ^ j) (yal u) with
            | false => rw [if_pos bf0]; exact skip v2 g2 l2 (by rw [c1, c2]; rfl)
            | true =>
              rw [if_neg bt0, or_self2, or_self2]
              obtain ⟨v3, f3, g3, l3⟩ := M_canHold' J g2 hA l2 (S := 2 ^ i ||| 2 ^ j) (th := yal u) (Nat.or_lt_two_pow pi pj) (by omega)
              rw [M_all K g2.k, zb_s, n_or, f3, zb_s]
              cases c3 : yCb u (2 ^ i ||| 2 ^ j) (yal u) with
              | true => rw [if_neg bt0]; exact skip v3 g3 l3 (by rw [c1, c2, c3]; rfl)
              | false =>
                rw [if_pos bf0, e10]
                have e2 : yCl2 u i j (m2 + 1) = some (nI (10 * i + j)) := if_pos (by rw [c1, c2, c3]; rfl)
                rw [e2]
                exact ⟨v3, rfl, g3⟩) zFU m (zfu (by omega))
      exact inner (i + 1) v (by omega) (by omega) hv hL) zFU (yS u) (zfu (by omega))
  exact key 0 w (by omega) h hL
theorem q_clash (J : zJ u) : zQ u f_X_clash f_M_clash := by
  have K := J.K
  have h5 := K.D5
  by_cases q : 0 < yD u
  · refine ⟨yCl u 0 (yS u), fun v hv => ?_, fun v hv => ?_⟩
    · unfold f_X_clash
      rw [La_isThere' K hv.k, zb_s, decide_eq_true q, if_neg bt0]
      obtain ⟨v1, e1, g1⟩ := Le_clash K J.R J.C hv
      exact ⟨v1, by rw [e1, zb_s], g1⟩
    · unfold f_M_clash
      obtain ⟨A, hA⟩ := isB.ex (yAk u) (yS u)
      obtain ⟨v1, e1, g1, l1⟩ := M_layPlain' J hv.m0 hA
      rw [zl_s, there21 K hv.m0, if_neg (nI_ne0 q (by omega)), e1, zb_s]
      exact M_clashL J g1 hA l1
  · refine ⟨-1, fun v hv => ⟨v, ?_, hv⟩, fun v hv => ⟨_, ?_, hv.m0⟩⟩
    · unfold f_X_clash
      rw [La_isThere' K hv.k, zb_s, decide_eq_false q, if_pos bf0]
    · unfold f_M_clash
      rw [zl_s, there21 K hv.m0, if_pos (by rw [show yD u = 0 by omega]; rfl)]
/-- the first break -/
noncomputable def yBk (u : gW) : Nat → Nat → Int32
  | _, 0 => -1
  | i, m + 1 => if yCb u (2 ^ (i + 1) - 1) (yal u) = true then yBk u (i + 1) m else nI i
def yAB (u : gW) (i k : Nat) : Bool := decide (k < yT u) && (ypo u k && decide (∀ j, j < i → yHs u j (yal u) k = true))
theorem row_copy (w : gW) : f_Ro_copy 75 101 w = some ((), zcL w 101 (va_cpy (w.2 75) (w.2 101) 0 0 263)) := by
  unfold f_Ro_copy
  rw [if_pos (by decide +kernel), if_pos (by decide +kernel), if_pos (by decide +kernel), if_pos (by decide +kernel), if_pos (by decide +kernel), zl_s]
  rfl
theorem row_copyE (C : jCou u) {w : gW} (h : zE u w) : ∃ v : gW, f_Ro_copy 75 101 w = some ((), v) ∧ zE u v ∧ ∀ k, k < 16832 → zbt v 101 k = (decide (k < yT u) && ypo u k) := by
  refine ⟨_, row_copy w, ⟨fun a b q => h.1 a b q, fun a b q => ?_⟩, fun k hk => ?_⟩
  · show (if a = 101 then _ else w.2 a b) = _
    rw [if_neg (fun z => by subst z; cases q)]
    exact h.2 a b q
  · show bL (if 101 = 101 then va_cpy (w.2 75) (w.2 101) 0 0 263 (k / 64) else _) (k % 64) = _
    rw [if_pos rfl, pk_cpy_in (Nat.zero_le _) (by omega), Nat.zero_add, Nat.sub_zero]
    exact pos_b C h hk
theorem Le_break (K : zK u) (R : jRec u) (C : jCou u) {w : gW} (h : zE u w) : ∃ w' : gW, f_Le_firstBreak w = some (yBk u 0 (yS u), w') ∧ zE u w' := by
  have h10 := K.S10
  have hn := nW_le K
  have hal := yal_2 u
  unfold f_Le_firstBreak f_Co_possible
  rw [An_all K h.k, zb_s, zb_s]
  obtain ⟨v0, e0, g0, b0⟩ := row_copyE C h
  rw [e0, zb_s]
  have key := zfx_ind (fun _ _ _ => none) f_Le_firstBreak_b24_s (fun m kk => ∀ i v, i + m = yS u → zE u v → (∀ k, k < 64 * nW u → zbt v 101 k = yAB u i k) → ∃ w' : gW, kk (nI (yal u)) (nI i) v = some (yBk u i m, w') ∧ zE u w') (fun m kk ih i v hi hv hr => by
    unfold f_Le_firstBreak_b24_s f_An_swornCount
    rw [hv.k.i rfl, K.C.2.2.2.2.1.1, zb_s]
    cases m with
    | zero =>
      rw [if_pos (by rw [n_le (by omega) (by omega)]; omega)]
      exact ⟨v, rfl, hv⟩
    | succ m =>
      rw [if_neg (by rw [n_le (by omega) (by omega)]; omega)]
      have done : ∀ v, zE u v → (∀ k, k < 64 * nW u → zbt v 101 k = yAB u (i + 1) k) → ∃ w' : gW, f_Le_firstBreak_b80 kk (nI (yal u)) (nI i) v = some (yBk u i (m + 1), w') ∧ zE u w' := by
        intro v hv hr
        unfold f_Le_firstBreak_b80
        rw [La_words' K hv.k, zb_s]
        obtain ⟨r, r1, r2⟩ := Ro_empty K row_101 v
        rw [show f_Ro_isEmpty 101 (nI ((yT u + 63) / 64)) v = _ from r1, zb_s]
        have hc : yCb u (2 ^ (i + 1) - 1) (yal u) = !r := by
          rw [Bool.eq_iff_iff, yCb_i]
          constructor
          · intro ⟨k, k1, k2, k3⟩
            cases r with
            | false => rfl
            | true =>
              refine absurd ?_ (r2.mp rfl k (nW_ge k1))
              rw [hr k (nW_ge k1)]
              unfold yAB
              rw [decide_eq_true k1, k2, decide_eq_true (fun j hj => k3 j (by omega) (by rw [Nat.testBit_two_pow_sub_one, decide_eq_true hj]))]
              rfl
          · intro e
            have hr0 : ¬ r = true := by intro z; rw [z] at e; cases e
            apply Classical.byContradiction
            intro q
            refine hr0 (r2.mpr (fun k hk z => q ?_))
            rw [hr k hk] at z
            unfold yAB at z
            rw [Bool.and_eq_true, Bool.and_eq_true, decide_eq_true_eq, decide_eq_true_eq] at z
            exact ⟨k, z.1, z.2.1, fun j _ hs => z.2.2 j (by rw [Nat.testBit_two_pow_sub_one, decide_eq_true_eq] at hs; exact hs)⟩
        unfold yBk
        rw [hc]
        cases r with
        | false =>
          rw [if_pos bf0, zl_s, n_1]
          rw [if_pos (show (!false) = true from rfl)]
          exact ih m (by omega) (i + 1) v (by omega) hv hr
        | true =>
          rw [if_neg bt0]
          rw [if_neg (show ¬ (!true) = true by decide)]
          exact ⟨v, rfl, hv⟩
      have inner := zfx_ind (fun _ _ _ _ => none) (f_Le_firstBreak_b37_s kk) (fun m2 k2 => ∀ W v, W + m2 = nW u → zE u v → (∀ k, k < 64 * W → zbt v 101 k = yAB u (i + 1) k) → (∀ k, 64 * W ≤ k → k < 64 * nW u → zbt v 101 k = yAB u i k) → ∃ w' : gW, k2 (nI (yal u)) (nI i) (nI W) v = some (yBk u i (m + 1), w') ∧ zE u w') (fun m2 k2 ih2 W v hW hv h1 h2 => by
        unfold f_Le_firstBreak_b37_s
        rw [La_words' K hv.k, zb_s]
        show ∃ w' : gW, (if nI (nW u) ≤ nI W then _ else _) = _ ∧ _
        cases m2 with
        | zero =>
          rw [if_pos (by rw [n_le (by omega) (by omega)]; omega)]
          exact done v hv (by rw [show nW u = W by omega]; exact h1)
        | succ m2 =>
          have q1 : ¬ (263 : Int32) ≤ nI W := by rw [show (263 : Int32) = nI 263 from rfl, n_le (by omega) (by omega)]; omega
          have q2 : inb (nI W) 263 := z_inbn (by omega) (by decide)
          rw [if_neg (by rw [n_le (by omega) (by omega)]; omega), if_neg q1]
          simp only [if_pos q2]
          obtain ⟨r, v1, e1, s1, b1⟩ := Co_swornWord' K R C hv (i := i) (by omega) hal (W := W) (by omega)
          rw [e1, zb_s, zl_s, zl_s, n_1, z_ix (by omega)]
          refine ih2 m2 (by omega) (W + 1) _ (by omega) ((zSk.e hv s1).sL _ rfl) (bits_s (fun k hk => ?_) (fun b hb => ?_)) (fun k hk hk2 => ?_)
          · show bL ((zsL v1 101 W _).2 101 (k / 64)) (k % 64) = _
            rw [rw_g, if_neg (by omega), s1.l (by decide)]
            exact h1 k hk
          · rw [zbt_w hb, rw_g, if_pos ⟨rfl, rfl⟩, bL_and, ← zbt_w hb, h2 _ (by omega) (by omega)]
            unfold yAB
            by_cases q : 64 * W + b < yT u
            · rw [b1 b hb q, decide_eq_true q, Bool.true_and, Bool.true_and, Bool.eq_iff_iff]
              simp only [Bool.and_eq_true, decide_eq_true_eq]
              constructor
              · intro z
                refine ⟨z.1.1, fun j hj => ?_⟩
                by_cases e : j = i
                · subst e; exact z.2
                · exact z.1.2 j (by omega)
              · intro z
                exact ⟨⟨z.1, fun j hj => z.2 j (by omega)⟩, z.2 i (by omega)⟩
            · rw [decide_eq_false q, Bool.false_and, Bool.false_and, Bool.false_and]
          · show bL ((zsL v1 101 W _).2 101 (k / 64)) (k % 64) = _
            rw [rw_g, if_neg (by omega), s1.l (by decide)]
            exact h2 k (by omega) hk2) zFU (nW u) (zfu (by omega))
      exact inner 0 v (by omega) hv (fun k hk => absurd hk (by omega)) (fun k _ hk => hr k hk)) zFU (yS u) (zfu (by omega))
  refine key 0 v0 (by omega) g0 (fun k hk => ?_)
  rw [b0 k (by omega)]
  unfold yAB
  rw [decide_eq_true (fun j hj => absurd hj (Nat.not_lt_zero j)), Bool.and_true]
theorem M_breakL (J : zJ u) {w : gW} (h : zE u w) {A : Nat} (hA : isB (yS u) (yAk u) A) (hL : LQ u A (yT u) w) : ∃ w' : gW, f_M_breaks_b20 (0 : Int32) w = some (yBk u 0 (yS u), w') ∧ zE u w' := by
  have K := J.K
  have h10 := K.S10
  have hal := yal_lt K
  have key := zfx_ind (fun _ _ => none) f_M_breaks_b20_s (fun m kk => ∀ i v, i + m = yS u → zE u v → LQ u A (yT u) v → ∃ w' : gW, kk (nI i) v = some (yBk u i m, w') ∧ zE u w') (fun m kk ih i v hi hv hL => by
    unfold f_M_breaks_b20_s
    rw [hv.k.i rfl, K.C.2.2.2.2.1.2]
    cases m with
    | zero =>
      rw [if_pos (by rw [n_le (by omega) (by omega)]; omega)]
      exact ⟨v, rfl, hv⟩
    | succ m =>
      have hp : 2 ^ (i + 1) ≤ 2 ^ yS u := Nat.pow_le_pow_right (by decide) (by omega)
      have hp0 := Nat.two_pow_pos (i + 1)
      rw [if_neg (by rw [n_le (by omega) (by omega)]; omega), M_all K hv.k, zb_s, n_1, n_1sh (by omega), show (1 : Int32) = nI 1 from rfl, n_sub hp0]
      obtain ⟨v1, f1, g1, l1⟩ := M_canHold' J hv hA hL (S := 2 ^ (i + 1) - 1) (th := yal u) (by omega) (by omega)
      rw [f1, zb_s]
      unfold yBk
      cases c1 : yCb u (2 ^ (i + 1) - 1) (yal u) with
      | false =>
        rw [if_pos bf0, if_neg (show ¬ false = true by decide)]
        exact ⟨v1, rfl, g1⟩
      | true =>
        rw [if_neg bt0, if_pos rfl, zl_s]
        exact ih m (by omega) (i + 1) v1 (by omega) g1 l1) zFU (yS u) (zfu (by omega))
  exact key 0 w (by omega) h hL
theorem q_breaks (J : zJ u) : zQ u f_X_breaks f_M_breaks := by
  have K := J.K
  have h5 := K.D5
  by_cases q : 0 < yD u
  · refine ⟨yBk u 0 (yS u), fun v hv => ?_, fun v hv => ?_⟩
    · unfold f_X_breaks
      rw [La_isThere' K hv.k, zb_s, decide_eq_true q, if_neg bt0]
      obtain ⟨v1, e1, g1⟩ := Le_break K J.R J.C hv
      exact ⟨v1, by rw [e1, zb_s], g1⟩
    · unfold f_M_breaks
      obtain ⟨A, hA⟩ := isB.ex (yAk u) (yS u)
      obtain ⟨v1, e1, g1, l1⟩ := M_layPlain' J hv.m0 hA
      rw [zl_s, there21 K hv.m0, if_neg (nI_ne0 q (by omega)), e1, zb_s]
      exact M_breakL J g1 hA l1
  · refine ⟨-1, fun v hv => ⟨v, ?_, hv⟩, fun v hv => ⟨_, ?_, hv.m0⟩⟩
    · unfold f_X_breaks
      rw [La_isThere' K hv.k, zb_s, decide_eq_false q, if_pos bf0]
    · unfold f_M_breaks
      rw [zl_s, there21 K hv.m0, if_pos (by rw [show yD u = 0 by omega]; rfl)]
end
