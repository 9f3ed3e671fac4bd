/-! PURE: narrow; worth -/
theorem zRc.ek {c : Nat} {u w v : gW} (hc : zKL c = true) (h : zEk u w) (k : zRc c w v) : zEk u v := zAg.tr h (zAg.wk k (fun _ _ q => by cases q) (fun a q => by
  have e : a = c := by simpa using q
  subst e
  exact hc))
section
variable {u : gW}
theorem Co_narrow' (K : zK u) {w : gW} (h : zEk u w) {c d y : Nat} (rc : isRow c) (hc : zKL c = true) (hd : d < yD u) (hy : y < yY u ∨ y = 9) {x : Int32} (hx : x = 0 ∨ x = 1) : ∃ v : gW, f_Co_narrow c (nI d) (nI y) x w = some ((), v) ∧ zRc c w v ∧ (∀ W, nW u ≤ W → v.2 c W = w.2 c W) ∧ (∀ k, k < 64 * nW u → zbt v c k = true → zbt w c k = true) ∧ ∀ k, k < yT u → zbt v c k = (zbt w c k && (decide (yd u k d = y) == decide (x = 1))) := by
  have hn := nW_le K
  have key := zfx_ind (fun _ _ _ _ _ _ => none) f_Co_narrow_b3_s (fun m kk => ∀ W v, W + m = nW u → zRc c w v → (∀ V, W ≤ V → v.2 c V = w.2 c V) → (∀ k, k < 64 * W → zbt v c k = true → zbt w c k = true) → (∀ k, k < 64 * W → k < yT u → zbt v c k = (zbt w c k && (decide (yd u k d = y) == decide (x = 1)))) → ∃ v' : gW, kk c (nI d) (nI y) x (nI W) v = some ((), v') ∧ zRc c w v' ∧ (∀ W, nW u ≤ W → v'.2 c W = w.2 c W) ∧ (∀ k, k < 64 * nW u → zbt v' c k = true → zbt w c k = true) ∧ ∀ k, k < yT u → zbt v' c k = (zbt w c k && (decide (yd u k d = y) == decide (x = 1)))) (fun m kk ih W v hW hv hh hs hb => by
    unfold f_Co_narrow_b3_s
    have hE := hv.ek hc h
    rw [La_words' K hE, zb_s]
    show ∃ v' : gW, (if nI (nW u) ≤ nI W then _ else _) = _ ∧ _
    cases m with
    | zero =>
      rw [if_pos (by rw [n_le (by omega) (by omega)]; omega)]
      have eW : nW u = W := by omega
      exact ⟨v, rfl, hv, by rw [eW]; exact hh, by rw [eW]; exact hs, fun k hk => hb k (by rw [← eW]; exact nW_ge hk) hk⟩
    | succ m =>
      have q1 : ¬ nI 263 ≤ nI W := by rw [n_le (by omega) (by omega)]; omega
      have q2 : inb (nI W) 263 := z_inbn (by omega) (by decide)
      have ez : ix (nI W) = W := z_ix (by omega)
      rw [if_neg (by rw [n_le (by omega) (by omega)]; omega)]
      simp only [rc.1, rc.2, if_true, if_neg q1]
      rw [La_dateWord' K hE hd hy (by omega), zb_s, if_pos q2]
      have go : ∀ (z : Int64), (∀ b, b < 64 → 64 * W + b < yT u → bL z b = (decide (yd u (64 * W + b) d = y) == decide (x = 1))) → ∃ v' : gW, f_Co_narrow_b56 kk c (nI d) (nI y) x (nI W) c (nI W) (v.2 c (ix (nI W))) z v = some ((), v') ∧ zRc c w v' ∧ (∀ W, nW u ≤ W → v'.2 c W = w.2 c W) ∧ (∀ k, k < 64 * nW u → zbt v' c k = true → zbt w c k = true) ∧ ∀ k, k < yT u → zbt v' c k = (zbt w c k && (decide (yd u k d = y) == decide (x = 1))) := by
        intro z hz
        unfold f_Co_narrow_b56
        rw [rc.2, if_pos q2, zl_s, zl_s, n_1, ez]
        refine ih m (by omega) (W + 1) _ (by omega) (hv.s _ _) (fun V hV => ?_) (bits_s (fun k hk => ?_) (fun b hb2 => ?_)) (bits_s (fun k hk => ?_) (fun b hb2 hk => ?_))
        · rw [rw_g, if_neg (by omega)]
          exact hh V (by omega)
        · show bL ((zsL v c W _).2 c (k / 64)) (k % 64) = true → _
          rw [rw_g, if_neg (by omega)]
          exact hs k hk
        · rw [zbt_w hb2, zbt_w hb2, rw_g, if_pos ⟨rfl, rfl⟩, bL_and, hh W (Nat.le_refl _), Bool.and_eq_true]
          exact fun z => z.1
        · intro hkT
          show bL ((zsL v c W _).2 c (k / 64)) (k % 64) = _
          rw [rw_g, if_neg (by omega)]
          exact hb k hk hkT
        · rw [zbt_w hb2, zbt_w hb2, rw_g, if_pos ⟨rfl, rfl⟩, bL_and, hh W (Nat.le_refl _), hz b hb2 hk]
      rcases hx with hx | hx
      · rw [if_pos hx]
        refine go _ (fun b hb2 hk => ?_)
        rw [bL_not _ hb2, yDw_b K hd hy hb2 hk, hx]
        cases decide (yd u (64 * W + b) d = y) <;> rfl
      · rw [if_neg (by rw [hx]; decide)]
        refine go _ (fun b hb2 hk => ?_)
        rw [yDw_b K hd hy hb2 hk, hx]
        cases decide (yd u (64 * W + b) d = y) <;> rfl) zFU (nW u) (zfu (by omega))
  exact key 0 w (by omega) (zRc.rf c w) (fun V _ => rfl) (fun k hk => absurd hk (by omega)) (fun k hk => absurd hk (by omega))
/-- possible, and a fact is so -/
def yPF2 (u : gW) (d y : Nat) (x : Int32) (k : Nat) : Bool := ypo u k && (decide (yd u k d = y) == decide (x = 1))
def yWq (u : gW) (p d y : Nat) (x : Int32) : Option Nat := sL (yPF2 u d y x) (ypK u (yBp u p) (yBp u p)) (yT u)
def rWo (u : gW) (p d y : Nat) (x : Int32) : Int32 := match yLq u (yBp u p) (yBp u p) with
  | none => -1000000
  | some j => match yWq u p d y x with
    | none => 0
    | some i => nI (ypK u (yBp u p) (yBp u p) j) - nI (ypK u (yBp u p) (yBp u p) i)
theorem kl_101 : zKL 101 = true := rfl
theorem X_worthL (J : zJ u) {w : gW} (h : zE u w) {p d y : Nat} {x : Int32} (hp : p < 6) (hd : d < yD u) (hy : y < yY u ∨ y = 9) (hx : x = 0 ∨ x = 1) : ∃ v : gW, f_Le_worthOf (nI p) (nI d) (nI y) x w = some (rWo u p d y x, v) ∧ zE u v := by
  have K := J.K
  have h10 := K.S10
  have hT := K.T7
  have hn := nW_le K
  have hBl := yBp_lt K p
  unfold f_Le_worthOf f_Co_possible
  rw [An_swornBy' K J.R h.k hp (yBp_B p), zb_s, zb_s]
  obtain ⟨v1, q1, e1, a1, a2, a3, a4, a5⟩ := Le_findP K J.R J.C h hBl hBl
  have eq := a4.u (yLq_M _ _)
  unfold rWo
  rw [e1, zb_s, a3.2, ← eq]
  cases q1 with
  | none => rw [qN_n, if_pos rfl]; exact ⟨v1, rfl, a2⟩
  | some j =>
    have hjT : j < yT u := (a4.2 j rfl).1.1
    dsimp only
    rw [qN_s, if_neg (show ¬ nI j = (-1 : Int32) by rw [n_m1 (by omega)]; exact id), zl_s, zb_s, a3.1, qL_s]
    obtain ⟨v2, e2, b1, b2⟩ := row_copyE J.C a2
    rw [e2, zb_s]
    obtain ⟨v3, e3, c1, c2, c3, c4⟩ := Co_narrow' K b1.k row_101 kl_101 hd hy hx
    rw [e3, zb_s]
    have h3 : zE u v3 := c1.e rfl b1
    have hrow : ∀ k, k < 64 * nW u → (zbt v3 101 k = true ↔ (k < yT u ∧ yPF2 u d y x k = true)) := by
      intro k hk
      by_cases z : k < yT u
      · rw [c4 k z, b2 k (by omega), decide_eq_true z, Bool.true_and]
        exact ⟨fun y => ⟨z, y⟩, fun y => y.2⟩
      · refine ⟨fun y => ?_, fun y => absurd y.1 z⟩
        have := c3 k hk y
        rw [b2 k (by omega), decide_eq_false z] at this
        cases this
    obtain ⟨v4, q4, e4, d1, d2, d3, d4⟩ := Le_findLeast' K J.R J.C h3 row_101 (by decide) (by decide) hBl hBl (fun k hk z => ((hrow k hk).mp z).1)
    have eq4 : q4 = yWq u p d y x := d3.u ((sL_M (yPF2 u d y x) (ypK u (yBp u p) (yBp u p)) (yT u)).cg (fun k => ⟨fun z => ⟨nW_ge z.1, (hrow k (nW_ge z.1)).mpr z⟩, fun z => (hrow k z.1).mp z.2⟩))
    rw [e4, zb_s, d2.2, d2.1, ← eq4]
    cases q4 with
    | none => rw [qN_n, if_pos rfl]; exact ⟨v4, rfl, zFl.e h3 d1⟩
    | some i =>
      have hi := (d4 i rfl).2
      rw [qN_s, if_neg (show ¬ nI i = (-1 : Int32) by rw [n_m1 (by omega)]; exact id), qL_s]
      exact ⟨v4, rfl, zFl.e h3 d1⟩
def wB (f : Nat → Nat) (q : Option Nat) : Int32 := match q with
  | none => -1
  | some j => nI (f j)
theorem wB_n (f : Nat → Nat) : wB f none = -1 := rfl
theorem wB_s (f : Nat → Nat) (j : Nat) : wB f (some j) = nI (f j) := rfl
theorem sL_s (P : Nat → Bool) (f : Nat → Nat) (k : Nat) : sL P f (k + 1) = if P k = true then (match sL P f k with
    | none => some k
    | some j => if f k < f j then some k else some j) else sL P f k := rfl
theorem M_worthL (J : zJ u) {w : gW} (h : zE u w) {p d y a : Nat} {x : Int32} (hp : p < 6) (hd : d < yD u) (hy : y < yY u ∨ y = 9) (hx : x = 0 ∨ x = 1) : ∃ v : gW, f_M_worth_b75 (nI p) (nI d) (nI y) x (nI a) (-1 : Int32) (0 : Int32) w = some ((match yWq u p d y x with
    | none => (0 : Int32)
    | some i => nI a - nI (ypK u (yBp u p) (yBp u p) i)), v) ∧ zE u v := by
  have K := J.K
  have h10 := K.S10
  have h5 := K.D5
  have h6 := K.Y6
  have hT := K.T7
  have hBl := yBp_lt K p
  have hp2 := yS_2 K
  have kle : ∀ k, ypK u (yBp u p) (yBp u p) k ≤ 990 := fun k => by
    have := ypk_le J.R (yBp u p) (yBp u p) k (yS u) (Nat.le_refl _)
    unfold ypK
    omega
  have key := zfx_ind (fun _ _ _ _ _ _ _ _ => none) f_M_worth_b75_s (fun m kk => ∀ k v, k + m = yT u → zE u v → ∃ v' : gW, kk (nI p) (nI d) (nI y) x (nI a) (wB (ypK u (yBp u p) (yBp u p)) (sL (yPF2 u d y x) (ypK u (yBp u p) (yBp u p)) k)) (nI k) v = some ((match yWq u p d y x with
    | none => (0 : Int32)
    | some i => nI a - nI (ypK u (yBp u p) (yBp u p) i)), v') ∧ zE u v') (fun m kk ih k v hk hv => by
    unfold f_M_worth_b75_s
    rw [hv.k.i (a := 107) (b := 26) rfl, K.L.2.2.2.2.1]
    cases m with
    | zero =>
      rw [if_pos (by rw [n_le (by omega) (by omega)]; omega)]
      have e : yWq u p d y x = sL (yPF2 u d y x) (ypK u (yBp u p) (yBp u p)) k := by unfold yWq; rw [show yT u = k by omega]
      rw [e]
      cases sL (yPF2 u d y x) (ypK u (yBp u p) (yBp u p)) k with
      | none => rw [wB_n, if_pos rfl]; exact ⟨v, rfl, hv⟩
      | some i =>
        have := kle i
        rw [wB_s, if_neg (show ¬ nI (ypK u (yBp u p) (yBp u p) i) = (-1 : Int32) by rw [n_m1 (by omega)]; exact id)]
        exact ⟨v, rfl, hv⟩
    | succ m =>
      have ik : inb (nI k) 16807 := z_inbn (by omega) (by decide)
      have ez : ix (nI k) = k := z_ix (by omega)
      rw [if_neg (by rw [n_le (by omega) (by omega)]; omega)]
      simp only [if_pos ik, ez]
      obtain ⟨v1, e1, l1, m1⟩ := M_live K hv.k k
      have h1E := m1.e hv
      rw [hv.k.i (a := 118) rfl, K.L.2.2.2.2.2.1 k (by omega), e1, zb_s, M_poss K J.R h1E.k l1, zb_s]
      have skip : yPF2 u d y x k = false → ∀ v2, zE u v2 → ∃ v' : gW, f_M_worth_b207 kk (nI p) (nI d) (nI y) x (nI a) (wB (ypK u (yBp u p) (yBp u p)) (sL (yPF2 u d y x) (ypK u (yBp u p) (yBp u p)) k)) (nI k) v2 = some ((match yWq u p d y x with
          | none => (0 : Int32)
          | some i => nI a - nI (ypK u (yBp u p) (yBp u p) i)), v') ∧ zE u v' := by
        intro e v2 hv2
        unfold f_M_worth_b207
        rw [zl_s, n_1]
        have := ih m (by omega) (k + 1) v2 (by omega) hv2
        rw [sL_s, if_neg (by rw [e]; decide)] at this
        exact this
      cases hpo : ypo u k with
      | false =>
        rw [if_pos bf0]
        exact skip (by unfold yPF2; rw [hpo]; rfl) v1 h1E
      | true =>
        rw [if_neg bt0, if_pos (z_inbn (by omega) (by decide)), z_ix (by omega), l1 d hd]
        have h9 := (K.d9 hd k).1
        have fin : ∀ (b : Bool), (b = true ↔ yd u k d = y) → ∃ v' : gW, f_M_worth_b117 kk (nI p) (nI d) (nI y) x (nI a) (wB (ypK u (yBp u p) (yBp u p)) (sL (yPF2 u d y x) (ypK u (yBp u p) (yBp u p)) k)) (nI k) (bI b) v1 = some ((match yWq u p d y x with
            | none => (0 : Int32)
            | some i => nI a - nI (ypK u (yBp u p) (yBp u p) i)), v') ∧ zE u v' := by
          intro b hb
          unfold f_M_worth_b117
          have ed : decide (yd u k d = y) = b := by
            rw [Bool.eq_iff_iff, decide_eq_true_eq]
            exact hb.symm
          by_cases q : bI b = x
          · rw [if_pos q]
            have hP : yPF2 u d y x k = true := by
              unfold yPF2
              rw [hpo, ed, ← q]
              cases b <;> rfl
            have inner := zfx_ind (fun _ _ _ _ _ _ _ _ _ _ => none) (f_M_worth_b131_s kk) (fun m2 k2 => ∀ i v, i + m2 = yS u → zE u v → lvL u k v → ∃ v' : gW, k2 (nI p) (nI d) (nI y) x (nI a) (wB (ypK u (yBp u p) (yBp u p)) (sL (yPF2 u d y x) (ypK u (yBp u p) (yBp u p)) k)) (nI k) (nI (ypk u (yBp u p) (yBp u p) k i)) (nI i) v = some ((match yWq u p d y x with
              | none => (0 : Int32)
              | some i => nI a - nI (ypK u (yBp u p) (yBp u p) i)), v') ∧ zE u v') (fun m2 k2 ih2 i v hi hv hl => by
              unfold f_M_worth_b131_s
              rw [hv.k.i (a := 107) (b := 35) rfl, K.C.2.2.2.2.1.2]
              cases m2 with
              | zero =>
                rw [if_pos (by rw [n_le (by omega) (by omega)]; omega)]
                have ei : ypk u (yBp u p) (yBp u p) k i = ypK u (yBp u p) (yBp u p) k := by rw [show i = yS u by omega]; rfl
                rw [ei]
                have nxt := ih m (by omega) (k + 1) v (by omega) hv
                rw [sL_s, if_pos hP] at nxt
                have kk1 := kle k
                unfold f_M_worth_b205 f_M_worth_b207
                cases es : sL (yPF2 u d y x) (ypK u (yBp u p) (yBp u p)) k with
                | none =>
                  rw [es] at nxt
                  dsimp only at nxt
                  rw [wB_n, if_pos rfl, zl_s, n_1]
                  rw [wB_s] at nxt
                  exact nxt
                | some j =>
                  have kk2 := kle j
                  rw [es] at nxt
                  dsimp only at nxt
                  rw [wB_s, if_neg (show ¬ nI (ypK u (yBp u p) (yBp u p) j) = (-1 : Int32) by rw [n_m1 (by omega)]; exact id), zl_s, zl_s, n_1]
                  by_cases q4 : ypK u (yBp u p) (yBp u p) k < ypK u (yBp u p) (yBp u p) j
                  · rw [if_pos q4, wB_s] at nxt
                    rw [if_pos ((n_lt (by omega) (by omega)).mpr q4)]
                    exact nxt
                  · rw [if_neg q4, wB_s] at nxt
                    rw [if_neg (fun z => q4 ((n_lt (by omega) (by omega)).mp z))]
                    exact nxt
              | succ m2 =>
                have hP0 := (J.R.1 i (by omega)).2.1
                have bb : (yBp u p).testBit i = true ↔ ix (u.1 119 i) = p := (yBp_B p).2 i (by omega)
                rw [if_neg (by rw [n_le (by omega) (by omega)]; omega), if_pos (z_inbn (by omega) (by decide)), z_ix (by omega), hv.k.i (a := 119) rfl, hP0.1]
                have go : ∀ (c : Nat) (z : Int32) (v' : gW), z = nI c → ypk u (yBp u p) (yBp u p) k (i + 1) = ypk u (yBp u p) (yBp u p) k i + c → zE u v' → lvL u k v' → ∃ v'' : gW, f_M_worth_b178 kk k2 (nI p) (nI d) (nI y) x (nI a) (wB (ypK u (yBp u p) (yBp u p)) (sL (yPF2 u d y x) (ypK u (yBp u p) (yBp u p)) k)) (nI k) (nI i) (nI (ypk u (yBp u p) (yBp u p) k i)) z v' = some ((match yWq u p d y x with
                    | none => (0 : Int32)
                    | some i => nI a - nI (ypK u (yBp u p) (yBp u p) i)), v'') ∧ zE u v'' := by
                  intro c z v' hz hc z1 z2
                  unfold f_M_worth_b178
                  rw [zl_s, zl_s, n_1, hz, nI_add, ← hc]
                  exact ih2 m2 (by omega) (i + 1) v' (by omega) z1 z2
                by_cases qp : ix (u.1 119 i) = p
                · rw [if_pos (by rw [qp]), M_ofPerson' K J.R hv.k hp (yBp_B p), zb_s]
                  obtain ⟨v', f1, f2⟩ := M_holds K J.R hv.k hl (i := i) (th := yBp u p) (by omega) (by omega)
                  rw [f1, zb_s]
                  cases eh : yHs u i (yBp u p) k with
                  | false =>
                    rw [if_pos bf0, if_pos (z_inbn (by omega) (by decide)), (f2.e hv).k.i (a := 122) rfl]
                    exact go (ix (u.1 122 i)) _ v' (J.R.1 i (by omega)).2.2.2.2.1 (by show _ + (if _ then _ else 0) = _; rw [if_pos (by rw [bb.mpr qp, eh]; rfl)]) (f2.e hv) (hl.m f2)
                  | true =>
                    rw [if_neg bt0]
                    unfold f_M_worth_b177
                    exact go 0 0 v' rfl (by show _ + (if _ then _ else 0) = _; rw [if_neg (by rw [eh, Bool.not_true, Bool.and_false]; decide)]) (f2.e hv) (hl.m f2)
                · rw [if_neg (by have := hP0.2; rw [n_eq (by omega) (by omega)]; exact qp)]
                  unfold f_M_worth_b177
                  have ebb : (yBp u p).testBit i = false := by
                    cases e : (yBp u p).testBit i with
                    | false => rfl
                    | true => exact absurd (bb.mp e) qp
                  exact go 0 0 v rfl (by show _ + (if _ then _ else 0) = _; rw [if_neg (by rw [ebb, Bool.false_and]; decide)]) hv hl) zFU (yS u) (zfu (by omega))
            exact inner 0 v1 (by omega) h1E l1
          · rw [if_neg q]
            refine skip ?_ v1 h1E
            unfold yPF2
            rw [hpo, ed]
            rcases hx with z | z
            · rw [z] at q ⊢
              cases b with
              | false => exact absurd rfl q
              | true => rfl
            · rw [z] at q ⊢
              cases b with
              | true => exact absurd rfl q
              | false => rfl
        have hyn : y < 2 ^ 31 := by rcases hy with z | z <;> omega
        by_cases q : yd u k d = y
        · rw [if_pos (by rw [q])]
          exact fin true ⟨fun _ => q, fun _ => rfl⟩
        · rw [if_neg (by rw [n_eq (by omega) hyn]; exact q)]
          exact fin false ⟨fun z => (by cases z), fun z => absurd z q⟩) zFU (yT u) (zfu (by omega))
  exact key 0 w (by omega) h
/-- a date: a day of the land, or never -/
def gT (u : gW) (a : Int32) : Bool := decide (a = 9 ∨ (0 ≤ a.toInt ∧ a.toInt < (yY u : Int)))
theorem gT_t {a : Int32} (h : gT u a = true) : ∃ y, a = nI y ∧ (y < yY u ∨ y = 9) := by
  rcases of_decide_eq_true h with z | z
  · exact ⟨9, z, Or.inr rfl⟩
  · obtain ⟨e, l⟩ := z_nIx z
    exact ⟨ix a, e, Or.inl l⟩
theorem dt_b (K : zK u) (a : Int32) : (if a = 9 then 1 else zbl a (yY u)) = bI (gT u a) := by
  unfold gT
  by_cases q : a = 9
  · rw [if_pos q, decide_eq_true (Or.inl q)]; rfl
  · rw [if_neg q, zbl_b]
    congr 1
    rw [Bool.eq_iff_iff, decide_eq_true_eq, decide_eq_true_eq]
    exact ⟨fun z => Or.inr z, fun z => by
      rcases z with z | z
      · exact absurd z q
      · exact z⟩
theorem La_hasDateB (K : zK u) {w : gW} (h : zEk u w) (a b : Int32) : f_La_hasDate a b w = some (bI (gE u a && gT u b), w) := by
  rw [La_hasDate a b w (K.ht h) K.D5 ((h.i rfl).trans K.C.2.2.1.1) (by have := K.Y6; omega)]
  congr 2
  rw [dt_b K b, zbl_b]
  show (if bI (gE u a) = 0 then _ else _) = _
  cases gE u a
  · rw [if_pos bf0]; rfl
  · rw [if_neg bt0]; rfl
theorem M_factDayB (K : zK u) {w : gW} (h : zEk u w) (a : Int32) : f_M_isFactDay a w = some (bI (gT u a), w) := by
  rw [M_factDay a w ((h.i rfl).trans K.C.2.2.1.2) (by have := K.Y6; omega), dt_b K a]
theorem q_worth (J : zJ u) (a b c e : Int32) (he : e = 0 ∨ e = 1) : zQ u (f_X_worth a b c e) (f_M_worth a b c e) := by
  have K := J.K
  by_cases q : 0 ≤ a.toInt ∧ a.toInt < (6 : Nat)
  · cases g : gE u b with
    | false =>
      refine ⟨-1000000, fun v hv => ⟨v, ?_, hv⟩, fun v hv => ⟨_, ?_, hv.m0⟩⟩
      · unfold f_X_worth
        rw [X_isPerson', zb_s, decide_eq_true q, if_neg bt0, La_hasDateB K hv.k, zb_s, g, Bool.false_and, if_pos bf0]
        unfold f_X_worth_b23 f_X_worth_b24
        rw [if_pos z00]
      · unfold f_M_worth
        rw [zl_s, isIn_lit a 6 rfl, zb_s, decide_eq_true q, if_neg bt0, M_isDeedB K hv.m0.k, zb_s, g, if_pos bf0]
        rfl
    | true => cases g2 : gT u c with
      | false =>
        refine ⟨-1000000, fun v hv => ⟨v, ?_, hv⟩, fun v hv => ⟨_, ?_, hv.m0⟩⟩
        · unfold f_X_worth
          rw [X_isPerson', zb_s, decide_eq_true q, if_neg bt0, La_hasDateB K hv.k, zb_s, g, g2, Bool.and_false, if_pos bf0]
          unfold f_X_worth_b23 f_X_worth_b24
          rw [if_pos z00]
        · unfold f_M_worth
          rw [zl_s, isIn_lit a 6 rfl, zb_s, decide_eq_true q, if_neg bt0, M_isDeedB K hv.m0.k, zb_s, g, if_neg bt0, M_factDayB K hv.m0.k, zb_s, g2, if_pos bf0]
          rfl
      | true =>
        obtain ⟨p, rfl, hp⟩ := gP_t q
        obtain ⟨d, rfl, hd⟩ := gE_t g
        obtain ⟨y, rfl, hy⟩ := gT_t g2
        have hq3 : (0 : Int) ≤ (nI p).toInt ∧ (nI p).toInt < ((6 : Nat) : Int) := q
        refine ⟨rWo u p d y e, fun v hv => ?_, fun v hv => ?_⟩
        · unfold f_X_worth
          rw [X_isPerson', zb_s, decide_eq_true q, if_neg bt0, La_hasDateB K hv.k, zb_s, g, g2, Bool.and_true, if_neg bt0]
          unfold f_X_worth_b24
          rw [if_neg z10]
          obtain ⟨v1, e1, g1⟩ := X_worthL J hv hp hd hy he
          exact ⟨v1, by rw [e1, zb_s], g1⟩
        · unfold f_M_worth
          have hBl := yBp_lt K p
          have hm := hv.m0
          obtain ⟨v1, qq, e1, g1, l1, m1⟩ := M_layPerj J hm hBl hBl (fun i z => z)
          rw [zl_s, isIn_lit (nI p) 6 rfl, zb_s, decide_eq_true hq3, if_neg bt0, M_isDeedB K hm.k, zb_s, g, if_neg bt0, M_factDayB K hm.k, zb_s, g2, if_neg bt0, M_ofPerson' K J.R hm.k hp (yBp_B p), zb_s, M_ofPerson' K J.R hm.k hp (yBp_B p), zb_s, e1, zb_s, l1.1]
          have eq := m1.u (yLq_M _ _)
          unfold rWo
          rw [← eq]
          cases qq with
          | none => rw [qNN_n, if_pos rfl]; exact ⟨v1, rfl, g1⟩
          | some j =>
            rw [qNN_s, if_neg (show ¬ nI (yN u j) = (-1 : Int32) by rw [n_m1 (by have := yN_lt K j; omega)]; exact id), zl_s, (l1.2 j rfl).1]
            exact M_worthL J g1 hp hd hy he
  · refine ⟨-1000000, fun v hv => ⟨v, ?_, hv⟩, fun v hv => ⟨_, ?_, hv.m0⟩⟩
    · unfold f_X_worth
      rw [X_isPerson', zb_s, decide_eq_false q, if_pos bf0]
      unfold f_X_worth_b23 f_X_worth_b24
      rw [if_pos z00]
    · unfold f_M_worth
      rw [zl_s, isIn_lit a 6 rfl, zb_s, decide_eq_false q, if_pos bf0]
      rfl
end
