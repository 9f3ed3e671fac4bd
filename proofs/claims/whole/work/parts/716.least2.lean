/-! PURE: findLeast of a row; the model's layPerjured; whose sworn ones; what holds -/
section
variable {u : gW}
theorem Le_findLeast' (K : zK u) (R : jRec u) (C : jCou u) {w : gW} (h : zE u w) {c : Nat} (rc : isRow c) (c74 : c ≠ 74) (c100 : c ≠ 100) {S th : Nat} (hS : S < 2 ^ yS u) (hth : th < 2 ^ yS u) (hrow : ∀ k, k < 64 * nW u → zbt w c k = true → k < yT u) : ∃ (v : gW) (q : Option Nat), f_Le_findLeast c (nI S) (nI th) w = some ((), v) ∧ zFl w v ∧ LsC (ypK u S th) q v ∧ isM (fun k => k < 64 * nW u ∧ zbt w c k = true) (ypK u S th) q ∧ (∀ j, q = some j → ypK u S th j ≤ 990 ∧ j < 20000) := by
  have h10 := K.S10
  have hn := nW_le K
  have hp := yS_2 K
  unfold f_Le_findLeast
  rw [zl_s, zl_s]
  have key := zfx_ind (fun _ _ _ _ _ => none) f_Le_findLeast_b14_s (fun m kk => ∀ W v q, W + m = nW u → zFl w v → LsC (ypK u S th) q v → isM (fun k => k < 64 * W ∧ zbt w c k = true) (ypK u S th) q → (∀ j, q = some j → ypK u S th j ≤ 990 ∧ j < 20000) → ∃ (v' : gW) (q' : Option Nat), kk c (nI S) (nI th) (nI W) v = some ((), v') ∧ zFl w v' ∧ LsC (ypK u S th) q' v' ∧ isM (fun k => k < 64 * nW u ∧ zbt w c k = true) (ypK u S th) q' ∧ (∀ j, q' = some j → ypK u S th j ≤ 990 ∧ j < 20000)) (fun m kk ih W v q hW hv hL hM hq => by
    unfold f_Le_findLeast_b14_s
    have hE := zFl.e h hv
    rw [hL.1]
    by_cases q0 : nI (qL (ypK u S th) q) ≤ 0
    · rw [if_pos q0]
      refine ⟨v, q, rfl, hv, hL, ?_, hq⟩
      cases q with
      | none => exact absurd q0 (by rw [qL_n]; decide)
      | some j =>
        rw [qL_s] at q0
        have z0 : ypK u S th j = 0 := by
          have := (n_le (b := 0) (by have := (hq j rfl).1; omega) (by decide)).mp q0
          omega
        refine hM.keep (fun i z => Or.inr ⟨j, rfl, ?_⟩) (fun i z => ⟨by omega, z.2⟩)
        by_cases y : i < 64 * W
        · exact (hM.2 j rfl).2 i ⟨y, z.2⟩
        · have := ((hM.2 j rfl).1).1
          rw [z0]
          omega
    · rw [if_neg q0, La_words' K hE.k, zb_s]
      show ∃ (v' : gW) (q' : Option Nat), (if nI (nW u) ≤ nI W then _ else _) = _ ∧ _
      cases m with
      | zero =>
        rw [if_pos (by rw [n_le (by omega) (by omega)]; omega)]
        exact ⟨v, q, rfl, hv, hL, by rw [show nW u = W by omega]; exact hM, hq⟩
      | succ m =>
        rw [if_neg (by rw [n_le (by omega) (by omega)]; omega), Ro_word' rc (by omega), zb_s, hv.l c74 c100]
        -- when the words are laid, the word's lives are parted
        have part : ∀ v1, zFl w v1 → LsC (ypK u S th) q v1 → (w.2 c W = 0 ∨ wdO u S th W v1) → ∃ (v' : gW) (q' : Option Nat), f_Le_findLeast_b110 kk c (nI S) (nI th) (nI W) (w.2 c W) v1 = some ((), v') ∧ zFl w v' ∧ LsC (ypK u S th) q' v' ∧ isM (fun k => k < 64 * nW u ∧ zbt w c k = true) (ypK u S th) q' ∧ (∀ j, q' = some j → ypK u S th j ≤ 990 ∧ j < 20000) := by
          intro v1 a1 a2 a3
          unfold f_Le_findLeast_b110
          have bits : ∀ b, b < 64 → bL (w.2 c W) b = true → 64 * W + b < yT u := fun b hb z => hrow _ (by omega) (by rw [zbt_w hb]; exact z)
          have uni : ∀ q', isM (fun k => (k < 64 * W ∧ zbt w c k = true) ∨ ∃ b, b < 64 ∧ bL (w.2 c W) b = true ∧ k = 64 * W + b) (ypK u S th) q' → isM (fun k => k < 64 * (W + 1) ∧ zbt w c k = true) (ypK u S th) q' := by
            intro q' z
            refine z.cg (fun k => ?_)
            constructor
            · intro y
              rcases y with y | ⟨b, b1, b2, rfl⟩
              · exact ⟨by omega, y.2⟩
              · exact ⟨by omega, by rw [zbt_w b1]; exact b2⟩
            · intro y
              by_cases y2 : k < 64 * W
              · exact Or.inl ⟨y2, y.2⟩
              · right
                refine ⟨k - 64 * W, by omega, ?_, by omega⟩
                rw [← zbt_w (w := w) (c := c) (W := W) (b := k - 64 * W) (by omega), show 64 * W + (k - 64 * W) = k by omega]
                exact y.2
          rcases a3 with a3 | a3
          · rw [a3]
            have e : f_Le_part (0 : Int64) (nI W) (0 : Int32) (0 : Int32) v1 = some ((), v1) := by
              unfold f_Le_part
              rw [show (16 : Nat) = 15 + 1 from rfl, zfx_s]
              generalize zfx (fun _ _ _ _ _ => none) f_Le_part_rec 15 = Z
              unfold f_Le_part_rec
              rw [if_pos ((lc_eq _ _).mpr rfl)]
            rw [e, zb_s, zl_s, n_1]
            refine ih m (by omega) (W + 1) v1 q (by omega) a1 a2 (uni q (hM.cg (fun k => ⟨Or.inl, fun z => ?_⟩))) hq
            rcases z with z | ⟨b, _, b2, _⟩
            · exact z
            · rw [a3, bL_0] at b2; cases b2
          · obtain ⟨v2, q2, e1, e2, e3, e4, e5, e6⟩ := Le_part' K R (S := S) (th := th) (W := W) (by omega) (yS u) 0 16 (by omega) (by omega) (w.2 c W) 0 v1 q _ (zFl.e h a1) a3 a2 hM hq (fun b b1 b2 => ⟨bits b b1 b2, rfl⟩)
            have e1' : f_Le_part (w.2 c W) (nI W) (0 : Int32) (0 : Int32) v1 = some ((), v2) := e1
            rw [e1', zb_s, zl_s, n_1]
            exact ih m (by omega) (W + 1) v2 q2 (by omega) (a1.tr e2) e4 (uni q2 e5) e6
        have inner := zfx_ind (fun _ _ _ _ _ _ _ => none) (f_Le_findLeast_b44_s kk) (fun m2 k2 => ∀ i v, i + m2 = yS u → zFl w v → LsC (ypK u S th) q v → (∀ j, j < i → ∀ b, b < 64 → 64 * W + b < yT u → bL (v.2 100 j) b = (!S.testBit j || yHs u j th (64 * W + b))) → ∃ (v' : gW) (q' : Option Nat), k2 c (nI S) (nI th) (nI W) (w.2 c W) (nI i) v = some ((), v') ∧ zFl w v' ∧ LsC (ypK u S th) q' v' ∧ isM (fun k => k < 64 * nW u ∧ zbt w c k = true) (ypK u S th) q' ∧ (∀ j, q' = some j → ypK u S th j ≤ 990 ∧ j < 20000)) (fun m2 k2 ih2 i v hi hv hL hw => by
          unfold f_Le_findLeast_b44_s
          have hE := zFl.e h hv
          by_cases l0 : w.2 c W = 0
          · rw [if_pos ((lc_eq _ _).mpr l0)]
            exact part v hv hL (Or.inl l0)
          · rw [if_neg (fun z => l0 ((lc_eq _ _).mp z))]
            unfold f_An_swornCount
            rw [zb_s, hE.k.i rfl, K.C.2.2.2.2.1.1]
            cases m2 with
            | zero =>
              rw [if_pos (by rw [n_le (by omega) (by omega)]; omega)]
              exact part v hv hL (Or.inr (by unfold wdO; rw [show yS u = i by omega]; exact hw))
            | succ m2 =>
              have q3 : ¬ (10 : Int32) ≤ nI i := by rw [show (10 : Int32) = nI 10 from rfl, n_le (by omega) (by omega)]; omega
              rw [if_neg (by rw [n_le (by omega) (by omega)]; omega), if_neg q3, n_bit (by omega) (by omega)]
              have st : ∀ (x : Int64) (v1 : gW), zFl w v1 → LsC (ypK u S th) q v1 → v1.2 100 = v.2 100 → (∀ b, b < 64 → 64 * W + b < yT u → bL x b = (!S.testBit i || yHs u i th (64 * W + b))) → ∃ (v' : gW) (q' : Option Nat), f_Le_findLeast_b103 kk k2 c (nI S) (nI th) (nI W) (w.2 c W) (nI i) (nI i) x v1 = some ((), v') ∧ zFl w v' ∧ LsC (ypK u S th) q' v' ∧ isM (fun k => k < 64 * nW u ∧ zbt w c k = true) (ypK u S th) q' ∧ (∀ j, q' = some j → ypK u S th j ≤ 990 ∧ j < 20000) := by
                intro x v1 b1 b2 b3 b4
                unfold f_Le_findLeast_b103
                rw [if_pos (z_inbn (by omega) (by decide)), zl_s, zl_s, z_ix (by omega), n_1]
                refine ih2 m2 (by omega) (i + 1) _ (by omega) (b1.s _ _) b2 (fun j hj b hb hk => ?_)
                rw [rw_g]
                by_cases e : j = i
                · subst e
                  rw [if_pos ⟨rfl, rfl⟩]
                  exact b4 b hb hk
                · rw [if_neg (fun z => e z.2), b3]
                  exact hw j (by omega) b hb hk
              cases es : S.testBit i with
              | false =>
                rw [if_pos bf0]
                exact st (-1) v hv hL rfl (fun b hb hk => by rw [bL_m1 b hb, es]; rfl)
              | true =>
                rw [if_neg bt0]
                obtain ⟨r, v1, e1, s1, b1⟩ := Co_swornWord' K R C hE (i := i) (by omega) hth (W := W) (by omega)
                rw [e1, zb_s]
                refine st r v1 (hv.tr s1.fl) ⟨?_, ?_⟩ (by funext b; exact s1.l (by decide) b) (fun b hb hk => by rw [b1 b hb hk, es]; rfl)
                · rw [s1.i]; exact hL.1
                · rw [s1.i]; exact hL.2) zFU (yS u) (zfu (by omega))
        exact inner 0 v (by omega) hv hL (fun j hj => absurd hj (Nat.not_lt_zero j))) zFU (nW u) (zfu (by omega))
  refine key 0 _ none (by omega) (((zFl.rf w).i _ _ (Or.inl rfl)).i _ _ (Or.inr rfl)) ⟨?_, ?_⟩ (isM.e _ (fun k z => by omega)) (fun j e => by cases e)
  · rw [zsI_g, if_neg (by omega), zsI_g, if_pos ⟨rfl, rfl⟩]; rfl
  · rw [zsI_g, if_pos ⟨rfl, rfl⟩]; rfl
/-- the lives that are possible, as a set; findLeast over them -/
def yPo (u : gW) (k : Nat) : Prop := k < yT u ∧ ypo u k = true
theorem Le_findP (K : zK u) (R : jRec u) (C : jCou u) {w : gW} (h : zE u w) {S th : Nat} (hS : S < 2 ^ yS u) (hth : th < 2 ^ yS u) : ∃ (v : gW) (q : Option Nat), f_Le_findLeast 75 (nI S) (nI th) w = some ((), v) ∧ zFl w v ∧ zE u v ∧ LsC (ypK u S th) q v ∧ isM (yPo u) (ypK u S th) q ∧ (∀ j, q = some j → ypK u S th j ≤ 990 ∧ j < 20000) := by
  have hn := nW_le K
  have hb : ∀ k, k < 64 * nW u → (zbt w 75 k = true ↔ yPo u k) := fun k hk => by
    rw [pos_b C h (by omega), Bool.and_eq_true, decide_eq_true_eq]
    exact Iff.rfl
  obtain ⟨v, q, e1, e2, e3, e4, e5⟩ := Le_findLeast' K R C h row_75 (by decide) (by decide) hS hth (fun k hk z => ((hb k hk).mp z).1)
  exact ⟨v, q, e1, e2, zFl.e h e2, e3, e4.cg (fun k => ⟨fun z => (hb k z.1).mp z.2, fun z => ⟨nW_ge z.1, (hb k (nW_ge z.1)).mpr z⟩⟩), e5⟩
/-- the model's least -/
def qNN (u : gW) (q : Option Nat) : Int32 := match q with
  | none => -1
  | some j => nI (yN u j)
theorem qNN_n : qNN u none = -1 := rfl
theorem qNN_s (j : Nat) : qNN u (some j) = nI (yN u j) := rfl
def MS (u : gW) (S th : Nat) (q : Option Nat) (v : gW) : Prop := v.1 107 47 = qNN u q ∧ ∀ j, q = some j → v.1 107 46 = nI (ypK u S th j) ∧ ∃ B, v.1 107 48 = nI B ∧ isB (yS u) (fun i => th.testBit i = true ∧ ¬ yHs u i th j = true) B
theorem zPL_46 : zPL 107 46 = false := zPL_107 46 (by decide) (by decide) (by decide) (by decide) (by decide) (by decide) (by decide) (by decide) (by decide)
theorem zPL_47 : zPL 107 47 = false := zPL_107 47 (by decide) (by decide) (by decide) (by decide) (by decide) (by decide) (by decide) (by decide) (by decide)
theorem zPL_48 : zPL 107 48 = false := zPL_107 48 (by decide) (by decide) (by decide) (by decide) (by decide) (by decide) (by decide) (by decide) (by decide)
theorem MS.ml {S th : Nat} {q : Option Nat} {w v : gW} (h : MS u S th q w) (k : zML w v) : MS u S th q v := ⟨(k.s zPL_47).trans h.1, fun j e => ⟨(k.s zPL_46).trans (h.2 j e).1, by
  obtain ⟨B, b1, b2⟩ := (h.2 j e).2
  exact ⟨B, (k.s zPL_48).trans b1, b2⟩⟩⟩
/-- what is counted is there -/
theorem M_layPerj (J : zJ u) {w : gW} (h : zE u w) {S th : Nat} (hS : S < 2 ^ yS u) (hth : th < 2 ^ yS u) (hsub : ∀ i, S.testBit i = true → th.testBit i = true) : ∃ (v : gW) (q : Option Nat), f_M_layPerjured (nI S) (nI th) w = some ((), v) ∧ zE u v ∧ MS u S th q v ∧ isM (yPo u) (ypK u S th) q := by
  have K := J.K
  have h10 := K.S10
  have ht := K.T7
  have hp := yS_2 K
  unfold f_M_layPerjured
  rw [zl_s]
  have key := zfx_ind (fun _ _ _ _ => none) f_M_layPerjured_b7_s (fun m kk => ∀ k v q, k + m = yT u → zE u v → MS u S th q v → isM (fun i => i < k ∧ ypo u i = true) (ypK u S th) q → ∃ (v' : gW) (q' : Option Nat), kk (nI S) (nI th) (nI k) v = some ((), v') ∧ zE u v' ∧ MS u S th q' v' ∧ isM (yPo u) (ypK u S th) q') (fun m kk ih k v q hk hv hL hM => by
    unfold f_M_layPerjured_b7_s
    rw [hv.k.i (a := 107) (b := 26) rfl, K.L.2.2.2.2.1]
    cases m with
    | zero =>
      rw [if_pos (by rw [n_le (by omega) (by omega)]; omega)]
      refine ⟨v, q, rfl, hv, hL, hM.cg (fun i => ?_)⟩
      rw [show k = yT u by omega]
      exact Iff.rfl
    | succ m =>
      have ik : inb (nI k) 16807 := z_inbn (by omega) (by decide)
      have ez : ix (nI k) = k := z_ix (by omega)
      rw [if_neg (by rw [n_le (by omega) (by omega)]; omega)]
      simp only [if_pos ik, ez]
      obtain ⟨v1, e1, l1, m1⟩ := M_live K hv.k k
      have h1E := m1.e hv
      rw [hv.k.i rfl, K.L.2.2.2.2.2.1 k (by omega), e1, zb_s, M_poss K J.R h1E.k l1, zb_s]
      have next : ∀ v2 q2, zE u v2 → MS u S th q2 v2 → isM (fun i => i < k + 1 ∧ ypo u i = true) (ypK u S th) q2 → ∃ (v' : gW) (q' : Option Nat), f_M_layPerjured_b157 kk (nI S) (nI th) (nI k) v2 = some ((), v') ∧ zE u v' ∧ MS u S th q' v' ∧ isM (yPo u) (ypK u S th) q' := by
        intro v2 q2 a1 a2 a3
        unfold f_M_layPerjured_b157
        rw [zl_s, n_1]
        exact ih m (by omega) (k + 1) v2 q2 (by omega) a1 a2 a3
      cases hpo : ypo u k with
      | false =>
        rw [if_pos bf0]
        refine next v1 q h1E (hL.ml m1.ml) (hM.cg (fun i => ⟨fun z => ⟨by omega, z.2⟩, fun z => ⟨?_, z.2⟩⟩))
        apply Nat.lt_of_le_of_ne (by omega)
        intro y
        subst y
        rw [hpo] at z
        exact absurd z.2 (by decide)
      | true =>
        rw [if_neg bt0]
        have hle := ypk_le J.R S th k (yS u) (Nat.le_refl _)
        have inner := zfx_ind (fun _ _ _ _ _ _ _ => none) (f_M_layPerjured_b44_s kk) (fun m2 k2 => ∀ i v B, i + m2 = yS u → zE u v → lvL u k v → MS u S th q v → isB i (fun i => th.testBit i = true ∧ ¬ yHs u i th k = true) B → ∃ (v' : gW) (q' : Option Nat), k2 (nI S) (nI th) (nI k) (nI (ypk u S th k i)) (nI B) (nI i) v = some ((), v') ∧ zE u v' ∧ MS u S th q' v' ∧ isM (yPo u) (ypK u S th) q') (fun m2 k2 ih2 i v B hi hv hl hL hB => by
          unfold f_M_layPerjured_b44_s
          rw [hv.k.i (a := 107) (b := 35) rfl, K.C.2.2.2.2.1.2]
          have hle2 := ypk_le J.R S th k i (by omega)
          cases m2 with
          | zero =>
            have iS : i = yS u := by omega
            rw [if_pos (by rw [n_le (by omega) (by omega)]; omega), hL.1]
            have ei : ypk u S th k i = ypK u S th k := by rw [iS]; rfl
            rw [ei]
            have hlk : ypK u S th k ≤ 990 := by unfold ypK; omega
            have take : (∀ j, q = some j → ypK u S th k < ypK u S th j) → ∃ (v' : gW) (q' : Option Nat), f_M_layPerjured_b135 kk (nI S) (nI th) (nI k) (nI (ypK u S th k)) (nI B) v = some ((), v') ∧ zE u v' ∧ MS u S th q' v' ∧ isM (yPo u) (ypK u S th) q' := by
              intro hb
              unfold f_M_layPerjured_b135
              rw [zl_s, if_pos ik, zl_s, zl_s, ez, z_o _ _ _ _ _ _ (by decide), hv.k.i rfl, K.L.2.2.2.2.2.1 k (by omega)]
              refine next _ (some k) (((hv.sI _ rfl).sI _ rfl).sI _ rfl) ⟨?_, fun j e => ⟨?_, B, ?_, ?_⟩⟩ (hM.new ⟨by omega, hpo⟩ (fun j e => Or.inl (hb j e)) (fun i2 z => ?_))
              · rw [z7 _ _ _ _ (by decide), zsI_g, if_pos ⟨rfl, rfl⟩, qNN_s]
              · cases e
                rw [z7 _ _ _ _ (by decide), z7 _ _ _ _ (by decide), zsI_g, if_pos ⟨rfl, rfl⟩]
              · rw [zsI_g, if_pos ⟨rfl, rfl⟩]
              · cases e
                rw [← iS]; exact hB
              · by_cases y : i2 = k
                · subst y; right; right; exact ⟨rfl, Nat.le_refl _⟩
                · exact Or.inl ⟨by omega, z.2⟩
            cases q with
            | none =>
              rw [qNN_n, if_pos rfl]
              exact take (fun j e => by cases e)
            | some j =>
              have hj := (hM.2 j rfl).1
              have lj := ypk_le J.R S th j (yS u) (Nat.le_refl _)
              have lj2 : ypK u S th j ≤ 990 := by unfold ypK; omega
              rw [qNN_s, if_neg (show ¬ nI (yN u j) = (-1 : Int32) by rw [n_m1 (by have := yN_lt K j; omega)]; exact id), (hL.2 j rfl).1]
              by_cases q3 : nI (ypK u S th k) < nI (ypK u S th j)
              · rw [if_pos q3]
                have q3' := (n_lt (by omega) (by omega)).mp q3
                exact take (fun j2 e => by cases e; exact q3')
              · rw [if_neg q3]
                have q3' : ¬ ypK u S th k < ypK u S th j := fun z => q3 ((n_lt (by omega) (by omega)).mpr z)
                refine next v (some j) hv hL (hM.keep (fun i2 z => ?_) (fun i2 z => ⟨by omega, z.2⟩))
                by_cases y : i2 = k
                · subst y
                  right
                  refine ⟨j, rfl, ?_⟩
                  have := hj.1
                  omega
                · exact Or.inl ⟨by omega, z.2⟩
          | succ m2 =>
            rw [if_neg (by rw [n_le (by omega) (by omega)]; omega), M_hasB th i (by omega) (by omega), zb_s]
            have skip : ∀ v', zE u v' → lvL u k v' → MS u S th q v' → ¬ (th.testBit i = true ∧ ¬ yHs u i th k = true) → ∃ (v2 : gW) (q' : Option Nat), f_M_layPerjured_b109 kk k2 (nI S) (nI th) (nI k) (nI (ypk u S th k i)) (nI B) (nI i) v' = some ((), v2) ∧ zE u v2 ∧ MS u S th q' v2 ∧ isM (yPo u) (ypK u S th) q' := by
              intro v' z1 z2 z3 z4
              unfold f_M_layPerjured_b109
              rw [zl_s, n_1]
              have e0 : ypk u S th k (i + 1) = ypk u S th k i := by
                show _ + (if _ then _ else 0) = _
                rw [if_neg (fun y => ?_), Nat.add_zero]
                rw [Bool.and_eq_true, Bool.not_eq_true'] at y
                exact z4 ⟨hsub i y.1, by rw [y.2]; decide⟩
              have hB2 := hB.s false ⟨fun y => (by cases y), fun y => absurd y z4⟩
              rw [if_neg (by decide), Nat.or_zero] at hB2
              rw [← e0]
              exact ih2 m2 (by omega) (i + 1) v' B (by omega) z1 z2 z3 hB2
            cases et : th.testBit i with
            | false =>
              rw [if_pos bf0]
              exact skip v hv hl hL (fun z => by rw [et] at z; exact absurd z.1 (by decide))
            | true =>
              rw [if_neg bt0]
              obtain ⟨v', f1, f2⟩ := M_holds K J.R hv.k hl (i := i) (th := th) (by omega) (by omega)
              rw [f1, zb_s]
              have hv' := f2.e hv
              have hl' := hl.m f2
              have hL' := hL.ml f2.ml
              cases eh : yHs u i th k with
              | true =>
                rw [if_neg bt0]
                exact skip v' hv' hl' hL' (fun z => by rw [eh] at z; exact absurd rfl z.2)
              | false =>
                rw [if_pos bf0, zl_s, n_1sh (by omega), n_or, M_hasB S i (by omega) (by omega), zb_s]
                have hB2 := hB.s true ⟨fun _ => ⟨et, by rw [eh]; decide⟩, fun _ => rfl⟩
                rw [if_pos rfl] at hB2
                have go : ∀ (x : Int32) (c : Nat), x = nI c → ypk u S th k (i + 1) = ypk u S th k i + c → ∃ (v2 : gW) (q' : Option Nat), f_M_layPerjured_b106 kk k2 (nI S) (nI th) (nI k) (nI (B ||| 2 ^ i)) (nI i) (nI (ypk u S th k i)) x v' = some ((), v2) ∧ zE u v2 ∧ MS u S th q' v2 ∧ isM (yPo u) (ypK u S th) q' := by
                  intro x c hx hc
                  unfold f_M_layPerjured_b106 f_M_layPerjured_b109
                  rw [zl_s, zl_s, n_1, hx, nI_add, ← hc]
                  exact ih2 m2 (by omega) (i + 1) v' _ (by omega) hv' hl' hL' hB2
                cases es : S.testBit i with
                | false =>
                  rw [if_pos bf0]
                  exact go 0 0 rfl (by show _ + (if _ then _ else 0) = _; rw [if_neg (by rw [es, Bool.false_and]; decide)])
                | true =>
                  rw [if_neg bt0, if_pos (z_inbn (by omega) (by decide)), z_ix (by omega), hv'.k.i rfl]
                  exact go _ (ix (u.1 122 i)) (J.R.1 i (by omega)).2.2.2.2.1 (by show _ + (if _ then _ else 0) = _; rw [if_pos (by rw [es, eh]; rfl)])) zFU (yS u) (zfu (by omega))
        exact inner 0 v1 0 (by omega) h1E l1 (hL.ml m1.ml) (isB.z _)) zFU (yT u) (zfu (by omega))
  exact key 0 _ none (by omega) (h.sI _ rfl) ⟨by rw [zsI_g, if_pos ⟨rfl, rfl⟩, qNN_n], fun j e => by cases e⟩ (isM.e _ (fun k z => absurd z.1 (Nat.not_lt_zero k)))
/-- whose sworn ones -/
def yBy (u : gW) (p i : Nat) : Prop := ix (u.1 119 i) = p
theorem An_swornBy' (K : zK u) (R : jRec u) {w : gW} (h : zEk u w) {p B : Nat} (hp : p < 6) (hB : isB (yS u) (yBy u p) B) : f_An_swornBy (nI p) w = some (nI B, w) := by
  have h10 := K.S10
  have key := zfx_ind (fun _ _ _ _ => none) f_An_swornBy_b4_s (fun m kk => ∀ i r, i + m = yS u → isB i (yBy u p) r → kk (nI p) (nI r) (nI i) w = some (nI B, w)) (fun m kk ih i r hi hr => by
    unfold f_An_swornBy_b4_s
    rw [h.i rfl, K.C.2.2.2.2.1.1]
    cases m with
    | zero =>
      rw [if_pos (by rw [n_le (by omega) (by omega)]; omega)]
      rw [show yS u = i by omega] at hB
      rw [hr.un hB]
    | succ m =>
      have hP := (R.1 i (by omega)).2.1.2
      rw [if_neg (by rw [n_le (by omega) (by omega)]; omega), An_personOf' K R h (by omega), zb_s]
      have st : ∀ (b : Bool) (x : Nat), x = (if b = true then 2 ^ i else 0) → (b = true ↔ yBy u p i) → f_An_swornBy_b29 kk (nI p) (nI i) (nI r) (nI x) w = some (nI B, w) := by
        intro b x hx hb
        unfold f_An_swornBy_b29
        rw [n_or, zl_s, zl_s, n_1, hx]
        exact ih m (by omega) (i + 1) _ (by omega) (hr.s b hb)
      by_cases q : ix (u.1 119 i) = p
      · rw [if_pos (by rw [q]), n_1sh (by omega)]
        exact st true _ rfl ⟨fun _ => q, fun _ => rfl⟩
      · rw [if_neg (by rw [n_eq (by omega) (by omega)]; exact q)]
        exact st false 0 rfl ⟨fun z => (by cases z), fun z => absurd z q⟩) zFU (yS u) (zfu (by omega))
  exact key 0 0 (by omega) (isB.z _)
theorem M_ofPerson' (K : zK u) (R : jRec u) {w : gW} (h : zEk u w) {p B : Nat} (hp : p < 6) (hB : isB (yS u) (yBy u p) B) : f_M_ofPerson (nI p) w = some (nI B, w) := by
  have h10 := K.S10
  have key := zfx_ind (fun _ _ _ _ => none) f_M_ofPerson_b4_s (fun m kk => ∀ i r, i + m = yS u → isB i (yBy u p) r → kk (nI p) (nI r) (nI i) w = some (nI B, w)) (fun m kk ih i r hi hr => by
    unfold f_M_ofPerson_b4_s
    rw [h.i rfl, K.C.2.2.2.2.1.2]
    cases m with
    | zero =>
      rw [if_pos (by rw [n_le (by omega) (by omega)]; omega)]
      rw [show yS u = i by omega] at hB
      rw [hr.un hB]
    | succ m =>
      have hP := (R.1 i (by omega)).2.1
      rw [if_neg (by rw [n_le (by omega) (by omega)]; omega), if_pos (z_inbn (by omega) (by decide)), z_ix (by omega), h.i rfl, hP.1]
      have st : ∀ (b : Bool) (x : Nat), x = (if b = true then 2 ^ i else 0) → (b = true ↔ yBy u p i) → f_M_ofPerson_b30 kk (nI p) (nI i) (nI r) (nI x) w = some (nI B, w) := by
        intro b x hx hb
        unfold f_M_ofPerson_b30
        rw [n_or, zl_s, zl_s, n_1, hx]
        exact ih m (by omega) (i + 1) _ (by omega) (hr.s b hb)
      by_cases q : ix (u.1 119 i) = p
      · rw [if_pos (by rw [q]), n_1sh (by omega)]
        exact st true _ rfl ⟨fun _ => q, fun _ => rfl⟩
      · rw [if_neg (by have := hP.2; rw [n_eq (by omega) (by omega)]; exact q)]
        exact st false 0 rfl ⟨fun z => (by cases z), fun z => absurd z q⟩) zFU (yS u) (zfu (by omega))
  exact key 0 0 (by omega) (isB.z _)
theorem Le_holdingAt' (K : zK u) (R : jRec u) (C : jCou u) {w : gW} (h : zE u w) {k th : Nat} {a : Int32} {D : Nat → Bool} (hk : k < yT u) (hth : th < 2 ^ yS u) (ha : ∀ i, i < yS u → (a >>> (nI i &&& 31)) &&& (1 : Int32) = bI (D i)) {B : Nat} (hB : isB (yS u) (fun i => D i = true ∧ yHs u i th k = true) B) : ∃ v : gW, f_Le_holdingAt (nI k) a (nI th) w = some (nI B, v) ∧ zFl w v := by
  have h10 := K.S10
  have hT := K.T7
  have key := zfx_ind (fun _ _ _ _ _ _ => none) f_Le_holdingAt_b6_s (fun m kk => ∀ i r v, i + m = yS u → zFl w v → isB i (fun i => D i = true ∧ yHs u i th k = true) r → ∃ v' : gW, kk (nI k) a (nI th) (nI r) (nI i) v = some (nI B, v') ∧ zFl w v') (fun m kk ih i r v hi hv hr => by
    unfold f_Le_holdingAt_b6_s f_An_swornCount
    have hE := zFl.e h hv
    rw [zb_s, hE.k.i rfl, K.C.2.2.2.2.1.1]
    cases m with
    | zero =>
      rw [if_pos (by rw [n_le (by omega) (by omega)]; omega)]
      rw [show yS u = i by omega] at hB
      rw [hr.un hB]
      exact ⟨v, rfl, hv⟩
    | succ m =>
      rw [if_neg (by rw [n_le (by omega) (by omega)]; omega), ha i (by omega)]
      cases ed : D i with
      | false =>
        rw [if_pos bf0]
        unfold f_Le_holdingAt_b61
        rw [zl_s, n_1]
        have hr2 := hr.s false ⟨fun y => (by cases y), fun y => by rw [ed] at y; exact absurd y.1 (by decide)⟩
        rw [if_neg (by decide), Nat.or_zero] at hr2
        exact ih m (by omega) (i + 1) r v (by omega) hv hr2
      | true =>
        rw [if_neg bt0, n_sr6 (by omega), n_63 (by omega)]
        obtain ⟨x, v1, e1, s1, b1⟩ := Co_swornWord' K R C hE (i := i) (by omega) hth (W := k / 64) (by omega)
        rw [e1, zb_s, L_bitI _ (by omega), b1 (k % 64) (by omega) (by omega), show 64 * (k / 64) + k % 64 = k by omega, zl_s]
        unfold f_Le_holdingAt_b61
        rw [zl_s, n_1]
        have hr2 := hr.s (yHs u i th k) ⟨fun y => ⟨ed, y⟩, fun y => y.2⟩
        have e2 : nI r ||| (bI (yHs u i th k) <<< (nI i &&& 31)) = nI (r ||| (if yHs u i th k = true then 2 ^ i else 0)) := by
          cases yHs u i th k with
          | false =>
            have : bI false <<< (nI i &&& 31) = nI 0 := by
              apply b_ext
              intro j hj
              rw [b_nI _ hj, Nat.zero_testBit]
              have z0 : (bI false <<< (nI i &&& 31)) = 0 := by
                show (0 : Int32) <<< (nI i &&& 31) = 0
                have := pk_shlN (n := 0) (nI i &&& 31) i (n_s31 i (by omega)) (by omega)
                rw [Nat.zero_mul] at this
                exact this
              rw [z0]
              exact BitVec.getLsbD_zero
            rw [this, n_or]; rfl
          | true =>
            rw [show bI true <<< (nI i &&& 31) = nI (2 ^ i) from n_1sh (by omega), n_or, if_pos rfl]
        rw [e2]
        exact ih m (by omega) (i + 1) _ v1 (by omega) (hv.tr s1.fl) hr2) zFU (yS u) (zfu (by omega))
  exact key 0 0 w (by omega) (zFl.rf w) (isB.z _)
end
