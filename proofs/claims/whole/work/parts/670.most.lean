/-! PURE: most -/
def isP (P : Nat → Bool) (c b : Nat → Nat) (N : Nat) (v : Option (Nat × Nat)) : Prop := (v = none → ∀ i, i < N → P i = false) ∧ ∀ p, v = some p → (∃ i, i < N ∧ P i = true ∧ c i = p.1 ∧ b i = p.2) ∧ ∀ i, i < N → P i = true → c i < p.1 ∨ (c i = p.1 ∧ p.2 ≤ b i)
theorem isP_u {P : Nat → Bool} {c b : Nat → Nat} {N : Nat} {v v2 : Option (Nat × Nat)} (h : isP P c b N v) (h2 : isP P c b N v2) : v = v2 := by
  cases v with
  | none =>
    cases v2 with
    | none => rfl
    | some p =>
      obtain ⟨⟨i, a1, a2, _⟩, _⟩ := h2.2 p rfl
      rw [h.1 rfl i a1] at a2
      cases a2
  | some p =>
    obtain ⟨⟨i, a1, a2, a3, a4⟩, a5⟩ := h.2 p rfl
    cases v2 with
    | none => rw [h2.1 rfl i a1] at a2; cases a2
    | some p2 =>
      obtain ⟨⟨j, b1, b2, b3, b4⟩, b5⟩ := h2.2 p2 rfl
      have x1 := a5 j b1 b2
      have x2 := b5 i a1 a2
      congr 1
      exact Prod.ext (by omega) (by omega)
theorem isP_keep {P : Nat → Bool} {c b : Nat → Nat} {N M : Nat} {v : Option (Nat × Nat)} (h : isP P c b N v) (hM : N ≤ M) (hn : ∀ i, N ≤ i → i < M → P i = true → ∃ p, v = some p ∧ (c i < p.1 ∨ (c i = p.1 ∧ p.2 ≤ b i))) : isP P c b M v := by
  refine ⟨fun z i hi => ?_, fun p hp => ?_⟩
  · by_cases y : i < N
    · exact h.1 z i y
    · cases e : P i with
      | false => rfl
      | true =>
        obtain ⟨p, a, _⟩ := hn i (by omega) hi e
        rw [z] at a
        cases a
  · obtain ⟨⟨i, a1, a2⟩, a3⟩ := h.2 p hp
    refine ⟨⟨i, by omega, a2⟩, fun j hj q => ?_⟩
    by_cases y : j < N
    · exact a3 j y q
    · obtain ⟨p2, b1, b2⟩ := hn j (by omega) hj q
      rw [hp] at b1
      cases b1
      exact b2
theorem isP_new {P : Nat → Bool} {c b : Nat → Nat} {N M t r : Nat} {v : Option (Nat × Nat)} (h : isP P c b N v) (hM : N ≤ M) (he : ∃ i, N ≤ i ∧ i < M ∧ P i = true ∧ c i = t ∧ b i = r) (ha : ∀ i, N ≤ i → i < M → P i = true → c i < t ∨ (c i = t ∧ r ≤ b i)) (hv : ∀ p, v = some p → p.1 < t ∨ (p.1 = t ∧ r ≤ p.2)) : isP P c b M (some (t, r)) := by
  refine ⟨fun z => (by cases z), fun p hp => ?_⟩
  cases hp
  obtain ⟨i, a1, a2, a3⟩ := he
  refine ⟨⟨i, a2, a3⟩, fun j hj q => ?_⟩
  by_cases y : j < N
  · cases v with
    | none => rw [h.1 rfl j y] at q; cases q
    | some p =>
      have x1 := (h.2 p rfl).2 j y q
      have x2 := hv p rfl
      dsimp only
      omega
  · exact ha j (by omega) hj q
section
variable {u : gW}
theorem yms_P (s : Nat) : ∀ k, k ≤ yT u → isP (yPf u) (fun k => ypc (yhB u s k)) (yhB u s) k (yms u s k)
  | 0, _ => ⟨fun _ i hi => absurd hi (Nat.not_lt_zero i), fun p h => by cases h⟩
  | k + 1, hk => by
    have ih := yms_P s k (by omega)
    have hP : yPf u k = yfi u k := yPf_k (by omega)
    unfold yms
    by_cases hf : yfi u k = true
    · rw [if_pos hf]
      cases e : yms u s k with
      | none =>
        rw [e] at ih
        exact isP_new ih (by omega) ⟨k, by omega, by omega, by rw [hP]; exact hf, rfl, rfl⟩ (fun i h1 h2 _ => Or.inr (by rw [show i = k by omega]; exact ⟨rfl, Nat.le_refl _⟩)) (fun p hp => by cases hp)
      | some q =>
        rw [e] at ih
        dsimp only
        have new : (q.1 < ypc (yhB u s k) ∨ (q.1 = ypc (yhB u s k) ∧ yhB u s k ≤ q.2)) → isP (yPf u) (fun k => ypc (yhB u s k)) (yhB u s) (k + 1) (some (ypc (yhB u s k), yhB u s k)) := fun z => isP_new ih (by omega) ⟨k, by omega, by omega, by rw [hP]; exact hf, rfl, rfl⟩ (fun i h1 h2 _ => Or.inr (by rw [show i = k by omega]; exact ⟨rfl, Nat.le_refl _⟩)) (fun p hp => by cases hp; exact z)
        have old : (ypc (yhB u s k) < q.1 ∨ (ypc (yhB u s k) = q.1 ∧ q.2 ≤ yhB u s k)) → isP (yPf u) (fun k => ypc (yhB u s k)) (yhB u s) (k + 1) (some q) := fun z => isP_keep ih (by omega) (fun i h1 h2 _ => ⟨q, rfl, by rw [show i = k by omega]; exact z⟩)
        by_cases c1 : ypc (yhB u s k) < q.1
        · rw [if_pos c1]; exact old (Or.inl c1)
        · rw [if_neg c1]
          by_cases c2 : ypc (yhB u s k) = q.1
          · rw [if_pos c2]
            by_cases c3 : yhB u s k ≤ q.2
            · rw [if_pos c3]; exact new (Or.inr ⟨c2.symm, c3⟩)
            · rw [if_neg c3]; exact old (Or.inr ⟨c2, by omega⟩)
          · rw [if_neg c2]; exact new (Or.inl (by omega))
    · rw [if_neg hf]
      exact isP_keep ih (by omega) (fun i h1 h2 p => by rw [show i = k by omega, hP] at p; exact absurd p hf)
theorem tb_div (n m : Nat) : n / 2 ^ m = 2 * (n / 2 ^ (m + 1)) + (if n.testBit m = true then 1 else 0) := by
  have e : n / 2 ^ (m + 1) = n / 2 ^ m / 2 := by rw [Nat.pow_succ, Nat.div_div_eq_div_mul]
  rw [e, Nat.testBit_eq_decide_div_mod_eq]
  by_cases q : n / 2 ^ m % 2 = 1
  · rw [if_pos (decide_eq_true q)]; omega
  · rw [if_neg (by simp [q])]; omega
theorem Cs_leastBits' (K : zK u) {w : gW} (h : zE u w) {W : Nat} {x0 : Int64} {S : Nat → Nat} (hW : W < 263) (hS : ∀ b, S b < 2 ^ yO u) (hrow : ∀ b, b < 64 → bL x0 b = true → ∀ o, o < yO u → bL (w.2 (91 + o) W) b = (S b).testBit o) (hne : ∃ b, b < 64 ∧ bL x0 b = true) : ∃ r, f_Cs_leastBits x0 (nI W) w = some (nI r, w) ∧ (∃ b, b < 64 ∧ bL x0 b = true ∧ S b = r) ∧ ∀ b, b < 64 → bL x0 b = true → r ≤ S b := by
  have h8 := K.O8
  have key := zfx_ind (fun _ _ _ _ _ => none) f_Cs_leastBits_b17_s (fun m kk => ∀ ρ x, m ≤ yO u → (∀ b, b < 64 → (bL x b = true ↔ bL x0 b = true ∧ S b / 2 ^ m = ρ)) → (∃ b, b < 64 ∧ bL x b = true) → (∀ b, b < 64 → bL x0 b = true → ρ ≤ S b / 2 ^ m) → ∃ r, kk (nI W) (nI (2 ^ m * ρ)) x (nI m - 1) w = some (nI r, w) ∧ (∃ b, b < 64 ∧ bL x0 b = true ∧ S b = r) ∧ ∀ b, b < 64 → bL x0 b = true → r ≤ S b) (fun m kk ih ρ x hm hx he hle => by
    unfold f_Cs_leastBits_b17_s
    cases m with
    | zero =>
      rw [if_pos (show nI 0 - (1 : Int32) < 0 by decide)]
      refine ⟨2 ^ 0 * ρ, rfl, ?_, fun b hb hb0 => ?_⟩
      · obtain ⟨b, hb, z⟩ := he
        have := (hx b hb).mp z
        refine ⟨b, hb, this.1, ?_⟩
        have := this.2
        rw [Nat.pow_zero, Nat.div_one] at this
        omega
      · have := hle b hb hb0
        rw [Nat.pow_zero, Nat.div_one] at this
        omega
    | succ m =>
      have e1 : nI (m + 1) - (1 : Int32) = nI m := nI_pred m
      have e5 : nI m + (-1 : Int32) = nI m - 1 := (Int32.sub_eq_add_neg _ _).symm
      have ep : 2 ^ (m + 1) * ρ = 2 ^ m * (2 * ρ) := by rw [Nat.pow_succ, Nat.mul_assoc]
      rw [e1, if_neg (nI_pos (by omega)), Cs_rowOf' (by omega), zb_s, Ro_word' (row_h m (by omega)) hW, zb_s, zl_s]
      have hx2 : ∀ b, b < 64 → (bL (x &&& ((w.2 (91 + m) W) ^^^ (-1))) b = true ↔ bL x0 b = true ∧ S b / 2 ^ m = 2 * ρ) := by
        intro b hb
        have d := tb_div (S b) m
        rw [bL_and, bL_not _ hb, Bool.and_eq_true, hx b hb]
        constructor
        · intro ⟨⟨z1, z2⟩, z3⟩
          rw [hrow b hb z1 m (by omega)] at z3
          refine ⟨z1, ?_⟩
          rw [d, z2, if_neg (by intro y; rw [y] at z3; cases z3), Nat.add_zero]
        · intro ⟨z1, z2⟩
          rw [hrow b hb z1 m (by omega)]
          cases y : (S b).testBit m with
          | true => rw [y, if_pos rfl] at d; omega
          | false => rw [y, if_neg (by decide)] at d; exact ⟨⟨z1, by omega⟩, rfl⟩
      have hle2 : ∀ b, b < 64 → bL x0 b = true → 2 * ρ ≤ S b / 2 ^ m := by
        intro b hb z
        have := hle b hb z
        have d := tb_div (S b) m
        omega
      by_cases q : x &&& ((w.2 (91 + m) W) ^^^ (-1)) = 0
      · rw [if_pos ((lc_eq _ _).mpr q), n_1sh (by omega)]
        unfold f_Cs_leastBits_b58 f_Cs_leastBits_b75
        rw [n_or, zl_s, if_pos ((lc_eq _ _).mpr q), zl_s, e5]
        have er : 2 ^ (m + 1) * ρ ||| 2 ^ m = 2 ^ m * (2 * ρ + 1) := by
          rw [← Nat.two_pow_add_eq_or_of_lt (Nat.pow_lt_pow_right (by decide) (Nat.lt_succ_self m)) ρ, ep, Nat.mul_add, Nat.mul_one]
        rw [er]
        have none2 : ∀ b, b < 64 → bL x0 b = true → ¬ S b / 2 ^ m = 2 * ρ := by
          intro b hb z y
          have := (hx2 b hb).mpr ⟨z, y⟩
          rw [q, bL_0] at this
          cases this
        refine ih m (by omega) (2 * ρ + 1) x (by omega) (fun b hb => ?_) he (fun b hb z => by have := hle2 b hb z; have := none2 b hb z; omega)
        rw [hx b hb]
        have d := tb_div (S b) m
        constructor
        · intro ⟨z1, z2⟩
          have := none2 b hb z1
          refine ⟨z1, ?_⟩
          rw [z2] at d
          split at d <;> omega
        · intro ⟨z1, z2⟩
          refine ⟨z1, ?_⟩
          split at d <;> omega
      · rw [if_neg (fun z => q ((lc_eq _ _).mp z))]
        unfold f_Cs_leastBits_b58 f_Cs_leastBits_b75
        have e0 : nI (2 ^ (m + 1) * ρ) ||| (0 : Int32) = nI (2 ^ (m + 1) * ρ) := by rw [show (0 : Int32) = nI 0 from rfl, n_or, Nat.or_zero]
        rw [e0, zl_s, if_neg (fun z => q ((lc_eq _ _).mp z)), zl_s, e5, ep]
        exact ih m (by omega) (2 * ρ) _ (by omega) hx2 (bL_nz.mp q) hle2) zFU (yO u) (zfu (by omega))
  unfold f_Cs_leastBits
  rw [Oa_size' K h.k, zb_s, zl_s]
  exact key 0 x0 (Nat.le_refl _) (fun b hb => ⟨fun z => ⟨z, Nat.div_eq_of_lt (hS b)⟩, fun z => z.1⟩) hne (fun b _ _ => Nat.zero_le _)
theorem yhB_2 (s k : Nat) : yhB u s k < 2 ^ yO u := (yhb_B u s k (yO u)).1
theorem yhB_t (s k : Nat) {o : Nat} (ho : o < yO u) : (yhB u s k).testBit o = yH u o s (yal u) k := by
  rw [Bool.eq_iff_iff]
  exact (yhb_B u s k (yO u)).2 o ho
theorem ypc_O (K : zK u) (s k : Nat) : ypc (yhB u s k) = fb_ct (fun o => yH u o s (yal u) k) (yO u) := by
  have h8 := K.O8
  exact ct_cut (fun o ho => yhB_t s k ho) (fun o h1 _ => Nat.testBit_lt_two_pow (Nat.lt_of_lt_of_le (yhB_2 s k) (Nat.pow_le_pow_right (by decide) h1))) (by omega)
def vC (v : Option (Nat × Nat)) : Int32 := match v with
  | none => -1
  | some p => nI p.1
def vB (v : Option (Nat × Nat)) : Int32 := match v with
  | none => -1
  | some p => nI p.2
theorem vC_n : vC none = -1 := rfl
theorem vC_s (p : Nat × Nat) : vC (some p) = nI p.1 := rfl
theorem vB_n : vB none = -1 := rfl
theorem vB_s (p : Nat × Nat) : vB (some p) = nI p.2 := rfl
def rMs (u : gW) (s t : Nat) : Int32 := if t = 0 then vC (yms u s (yT u)) else vB (yms u s (yT u))
def pOk (v : Option (Nat × Nat)) : Prop := ∀ p, v = some p → p.1 < 100 ∧ p.2 < 256
theorem Cs_most (K : zK u) (C : jCou u) {w : gW} (h : zE u w) {s t : Nat} (hA : hAl u s w) (ht2 : t < 2) : ∃ w' : gW, f_Cs_mostAtOnce_b13 (nI t) (-1 : Int32) (-1 : Int32) (0 : Int32) w = some (rMs u s t, w') ∧ zE u w' := by
  have hn := nW_le K
  have ht := K.T7
  have h8 := K.O8
  have h256 : 2 ^ yO u ≤ 256 := Nat.pow_le_pow_right (by decide) h8
  have key := zfx_ind (fun _ _ _ _ _ => none) f_Cs_mostAtOnce_b13_s (fun m kk => ∀ W q v, W + m = nW u → zE u v → hAl u s v → pOk q → isP (yPf u) (fun k => ypc (yhB u s k)) (yhB u s) (64 * W) q → ∃ w' : gW, kk (nI t) (vC q) (vB q) (nI W) v = some (rMs u s t, w') ∧ zE u w') (fun m kk ih W q v hW hv hA hok hq => by
    unfold f_Cs_mostAtOnce_b13_s
    rw [La_words' K hv.k, zb_s]
    show ∃ w' : gW, (if nI (nW u) ≤ nI W then _ else _) = _ ∧ _
    cases m with
    | zero =>
      rw [if_pos (by rw [n_le (by omega) (by omega)]; omega)]
      have hT : yT u ≤ 64 * W := by
        have e : W = nW u := by omega
        rw [e]; unfold nW; omega
      have e : yms u s (yT u) = q := isP_u (isP_keep (yms_P s (yT u) (Nat.le_refl _)) hT (fun i h1 _ p => by rw [yPf_o h1] at p; cases p)) hq
      unfold rMs
      rw [e]
      refine ⟨v, ?_, hv⟩
      by_cases t0 : t = 0
      · rw [if_pos (show nI t = 0 by rw [t0]; rfl), if_pos t0]
      · rw [if_neg (show ¬ nI t = 0 from nI_ne0 (by omega) (by omega)), if_neg t0]
    | succ m =>
      rw [if_neg (by rw [n_le (by omega) (by omega)]; omega)]
      unfold f_Co_fitting
      rw [zb_s, Ro_word' row_76 (by omega), zb_s]
      obtain ⟨v1, e1, k1, l1⟩ := lv_start lv_89 (v.2 76 W) v
      rw [e1, zb_s]
      have hb : ∀ b, b < 64 → bL (v.2 76 W) b = yPf u (64 * W + b) := fun b hb => fit_w C hv (by omega) hb
      have hR : ∀ o, o < yO u → ∀ b, b < 64 → bL (v.2 (91 + o) W) b = yhr u o s (64 * W + b) := fun o ho b hb => row_w (hA o ho) (by omega) hb
      generalize v.2 76 W = y at l1 hb
      have inner := zfx_ind (fun _ _ _ _ _ _ => none) (f_Cs_mostAtOnce_b47_s kk) (fun m2 k2 => ∀ d v2, d + m2 = yO u → zRc 89 v v2 → lvR v2 89 9 (bL y) (fun b => fb_ct (fun o => bL (v.2 (91 + o) W) b) d) → ∃ w' : gW, k2 (nI t) (vC q) (vB q) (nI W) (nI d) v2 = some (rMs u s t, w') ∧ zE u w') (fun m2 k2 ih2 d v2 hd k2e hl => by
        have hv2 := k2e.e (by decide) hv
        unfold f_Cs_mostAtOnce_b47_s
        rw [Oa_size' K hv2.k, zb_s]
        cases m2 with
        | zero =>
          rw [if_pos (by rw [n_le (by omega) (by omega)]; omega)]
          have hA2 : hAl u s v2 := fun o ho k hk => by
            have := hA o ho k hk
            unfold zbt at this ⊢
            rw [k2e.l (show 91 + o ≠ 89 by omega)]
            exact this
          have go : ∀ q2, pOk q2 → isP (yPf u) (fun k => ypc (yhB u s k)) (yhB u s) (64 * (W + 1)) q2 → ∃ w' : gW, f_Cs_mostAtOnce_b146 kk (nI t) (vC q2) (vB q2) (nI W) v2 = some (rMs u s t, w') ∧ zE u w' := by
            intro q2 ok2 h2
            unfold f_Cs_mostAtOnce_b146
            rw [zl_s, n_1]
            exact ih m (by omega) (W + 1) q2 v2 (by omega) hv2 hA2 ok2 h2
          have hed : d = yO u := by omega
          subst hed
          have hCC : ∀ b, b < 64 → bL y b = true → fb_ct (fun o => bL (v.2 (91 + o) W) b) (yO u) = ypc (yhB u s (64 * W + b)) := by
            intro b hb1 p
            rw [hb b hb1] at p
            unfold yPf at p
            rw [Bool.and_eq_true, decide_eq_true_eq] at p
            rw [ypc_O K]
            refine fb_ct_cong (fun o ho => ?_)
            rw [hR o ho b hb1]
            unfold yhr
            rw [decide_eq_true p.1, yfi_po p.2]
            rfl
          have hin : ∀ i, 64 * W ≤ i → i < 64 * (W + 1) → ∃ b, b < 64 ∧ i = 64 * W + b := fun i a1 a2 => ⟨i - 64 * W, by omega, by omega⟩
          rcases lv_top lv_89 hl (fun b hb1 _ => Nat.lt_of_le_of_lt (fb_ct_le _ _) (by omega)) with ⟨e, z⟩ | ⟨tt, t1, t2, t3, ⟨b0, b1, b2, b3⟩, t4, t5⟩
          · rw [e, zb_s, if_pos zm1]
            refine go q hok (isP_keep hq (by omega) (fun i a1 a2 p => ?_))
            obtain ⟨b, c1, c2⟩ := hin i a1 a2
            have := z b c1
            rw [hb b c1, ← c2, p] at this
            cases this
          · have hall : ∀ i, 64 * W ≤ i → i < 64 * (W + 1) → yPf u i = true → ypc (yhB u s i) ≤ tt := by
              intro i a1 a2 p
              obtain ⟨b, c1, rfl⟩ := hin i a1 a2
              rw [← hb b c1] at p
              have := t4 b c1 p
              rw [hCC b c1 p] at this
              exact this
            rw [t2, zb_s, if_neg (show ¬ nI tt = (-1 : Int32) by rw [n_m1 (by omega)]; exact id)]
            by_cases c1 : nI tt < vC q
            · rw [if_pos c1]
              refine go q hok (isP_keep hq (by omega) (fun i a1 a2 p => ?_))
              cases q with
              | none => rw [vC_n, n_ltm1 (by omega)] at c1; exact c1.elim
              | some p2 =>
                have := hok p2 rfl
                rw [vC_s, n_lt (by omega) (by omega)] at c1
                have := hall i a1 a2 p
                exact ⟨p2, rfl, Or.inl (by omega)⟩
            · rw [if_neg c1, t3, zb_s]
              obtain ⟨r, f1, ⟨b', g1, g2, g3⟩, g4⟩ := Cs_leastBits' K hv2 (W := W) (x0 := v2.2 89 tt) (S := fun b => yhB u s (64 * W + b)) (by omega) (fun b => yhB_2 s _) (fun b hb1 z o ho => by
                have z2 := ((t5 b hb1).mp z).1
                rw [hb b hb1] at z2
                unfold yPf at z2
                rw [Bool.and_eq_true, decide_eq_true_eq] at z2
                rw [k2e.l (show 91 + o ≠ 89 by omega), hR o ho b hb1, yhB_t s _ ho]
                unfold yhr
                rw [decide_eq_true z2.1, yfi_po z2.2]
                rfl) ⟨b0, b1, (t5 b0 b1).mpr ⟨b2, b3⟩⟩
              rw [f1, zb_s]
              have hr : r < 256 := by
                have := yhB_2 (u := u) s (64 * W + b')
                omega
              have g5 := (t5 b' g1).mp g2
              have he : ∃ i, 64 * W ≤ i ∧ i < 64 * (W + 1) ∧ yPf u i = true ∧ ypc (yhB u s i) = tt ∧ yhB u s i = r := ⟨64 * W + b', by omega, by omega, by rw [← hb b' g1]; exact g5.1, by rw [← hCC b' g1 g5.1]; exact g5.2, g3⟩
              have ha : ∀ i, 64 * W ≤ i → i < 64 * (W + 1) → yPf u i = true → ypc (yhB u s i) < tt ∨ (ypc (yhB u s i) = tt ∧ r ≤ yhB u s i) := by
                intro i a1 a2 p
                have l1 := hall i a1 a2 p
                by_cases y2 : ypc (yhB u s i) = tt
                · refine Or.inr ⟨y2, ?_⟩
                  obtain ⟨b, c1, rfl⟩ := hin i a1 a2
                  rw [← hb b c1] at p
                  exact g4 b c1 ((t5 b c1).mpr ⟨p, by rw [hCC b c1 p]; exact y2⟩)
                · exact Or.inl (by omega)
              have new : (∀ p, q = some p → p.1 < tt ∨ (p.1 = tt ∧ r ≤ p.2)) → ∃ w' : gW, f_Cs_mostAtOnce_b134 kk (nI t) (nI W) (nI tt) (nI r) v2 = some (rMs u s t, w') ∧ zE u w' := by
                intro z
                unfold f_Cs_mostAtOnce_b134 f_Cs_mostAtOnce_b141
                exact go (some (tt, r)) (fun p hp => by cases hp; exact ⟨by show tt < 100; omega, hr⟩) (isP_new hq (by omega) he ha z)
              cases q with
              | none =>
                rw [vC_n, if_pos (by rw [n_lem1 (by omega)]; trivial)]
                exact new (fun p hp => by cases hp)
              | some p2 =>
                obtain ⟨o1, o2⟩ := hok p2 rfl
                rw [vC_s, n_lt (by omega) (by omega)] at c1
                rw [vC_s]
                by_cases c2 : p2.1 < tt
                · rw [if_pos ((n_lt (by omega) (by omega)).mpr c2)]
                  exact new (fun p hp => by cases hp; exact Or.inl c2)
                · rw [if_neg (fun z => c2 ((n_lt (by omega) (by omega)).mp z)), vB_s]
                  by_cases c3 : p2.2 ≤ r
                  · rw [if_pos ((n_le (by omega) (by omega)).mpr c3)]
                    unfold f_Cs_mostAtOnce_b141
                    have g := go (some p2) hok (isP_keep hq (by omega) (fun i a1 a2 p => ⟨p2, rfl, by have := ha i a1 a2 p; omega⟩))
                    rw [vC_s, vB_s, show p2.1 = tt by omega] at g
                    exact g
                  · rw [if_neg (fun z => c3 ((n_le (by omega) (by omega)).mp z))]
                    exact new (fun p hp => by cases hp; exact Or.inr ⟨by omega, by omega⟩)
        | succ m2 =>
          have hd2 : d < yO u := by omega
          rw [if_neg (by rw [n_le (by omega) (by omega)]; omega), Cs_rowOf' (by omega), zb_s, Ro_word' (row_h d (by omega)) (by omega), zb_s, k2e.l (show 91 + d ≠ 89 by omega)]
          obtain ⟨v3, e3, k3, l3⟩ := lv_add lv_89 (v.2 (91 + d) W) hl
          rw [e3, zb_s, zl_s, n_1]
          exact ih2 m2 (by omega) (d + 1) v3 (by omega) (k2e.tr k3) l3) zFU (yO u) (zfu (by omega))
      exact inner 0 v1 (by omega) k1 l1) zFU (nW u) (zfu (by omega))
  exact key 0 none w (by omega) h hA (fun p hp => by cases hp) ⟨fun _ i hi => absurd hi (by omega), fun p hp => by cases hp⟩
theorem q_most (J : zJ u) (a b : Int32) : zQ u (f_X_most a b) (f_M_most a b) := by
  have K := J.K
  have h6 := K.Y6
  by_cases g : gD u a = true ∧ (0 ≤ b.toInt ∧ b.toInt < (2 : Nat))
  · obtain ⟨g1, g3⟩ := g
    obtain ⟨s, rfl, hs, h0⟩ := gD_t g1
    obtain ⟨ec, hc⟩ := z_nIx g3
    generalize ix b = t at ec hc
    subst ec
    refine ⟨rMs u s t, fun v hv => ?_, fun v hv => ?_⟩
    · obtain ⟨v1, e1, e2, e3⟩ := Cs_hearAll' K J.C hv (s := s) (by omega)
      have hE := zRw.h hv e2
      obtain ⟨v2, f1, f2⟩ := Cs_most K J.C hE e3 hc
      refine ⟨v2, ?_, f2⟩
      unfold f_X_most f_Cs_mostAtOnce
      rw [La_isDay' K hv.k, zb_s, g1, if_neg bt0, X_is01, zb_s, decide_eq_true g3, if_neg bt0, e1, zb_s, f1, zb_s]
    · obtain ⟨v1, e1, e2, e3⟩ := M_layDay K J.R hv.m0 (s := s) (by omega)
      refine ⟨v1, ?_, e2⟩
      unfold f_M_most
      rw [zl_s, M_isSeenDay' K hv.m0.k, zb_s, g1, if_neg bt0, isIn_lit (nI t) (c := 1) 2 rfl, zb_s, decide_eq_true g3, if_neg bt0, e1, zb_s]
      have L5 := e3.2.2.2.2
      unfold rMs
      cases e : yms u s (yT u) with
      | none =>
        rw [e] at L5
        have l5 : v1.1 107 43 = -1 := L5
        rw [l5, if_pos zm1, vC_n, vB_n]
        by_cases t0 : t = 0
        · rw [if_pos t0]
        · rw [if_neg t0]
      | some q =>
        have hq := yms_lt K s _ q e
        rw [e] at L5
        have l5 : v1.1 107 42 = nI q.1 ∧ v1.1 107 43 = nI q.2 := L5
        rw [l5.2, l5.1, if_neg (by rw [n_m1 (by omega)]; exact id), vC_s, vB_s]
        by_cases t0 : t = 0
        · rw [if_pos (show nI t = 0 by rw [t0]; rfl), if_pos t0]
        · rw [if_neg (show ¬ nI t = 0 from nI_ne0 (by omega) (by omega)), if_neg t0]
  · refine ⟨-1, fun v hv => ⟨v, ?_, hv⟩, fun v hv => ⟨_, ?_, hv.m0⟩⟩
    · unfold f_X_most
      rw [La_isDay' K hv.k, zb_s]
      cases e : gD u a with
      | false => rw [if_pos bf0]
      | true =>
        have g3 : ¬ (0 ≤ b.toInt ∧ b.toInt < (2 : Nat)) := fun z => g ⟨e, z⟩
        rw [if_neg bt0, X_is01, zb_s, decide_eq_false g3, if_pos bf0]
    · unfold f_M_most
      rw [zl_s, M_isSeenDay' K hv.m0.k, zb_s]
      cases e : gD u a with
      | false => rw [if_pos bf0]
      | true =>
        have g3 : ¬ (0 ≤ b.toInt ∧ b.toInt < (2 : Nat)) := fun z => g ⟨e, z⟩
        rw [if_neg bt0, isIn_lit b (c := 1) 2 rfl, zb_s, decide_eq_false g3, if_pos bf0]
end
