/-! PURE: the class's own rows again, off the model's cells (wip/whole/mkc.py writes this part out of 575, 580, 590, 610, 710, 718) -/
def zEc (u w : gW) : Prop := zAg (fun a b => zScrI a b || decide (107 ≤ a)) zKL u w
theorem scr_codc : ∀ o, o < 9 → ∀ i, (zScrI (7 + o) i || decide (107 ≤ 7 + o)) = false := by
  intro o ho i
  rw [scr_cod o ho i, decide_eq_false (by omega)]
  rfl
section
variable {u : gW}
theorem zEc.i {w : gW} (h : zEc u w) {a b : Nat} (q : (zScrI a b || decide (107 ≤ a)) = false) : w.1 a b = u.1 a b := h.1 a b q
theorem zEc.l {w : gW} (h : zEc u w) {a : Nat} (b : Nat) (q : zKL a = false) : w.2 a b = u.2 a b := h.2 a b q
theorem zSk.c {u w v : gW} (h : zEc u w) (k : zSk w v) : zEc u v := zAg.tr h (zAg.wk k (fun _ _ q => by cases q) (fun a q => by
  have e : a = 74 := by simpa using q
  subst e
  decide))
theorem La_hasDeed'c (K : zK u) {w : gW} (h : zEc u w) (a : Int32) : f_La_hasDeed a w = some (zbl a (yD u), w) := La_hasDeed a w ((h.i (a := 19) (b := 5) rfl).trans K.C.2.1.1) K.D5
theorem Oa_has'c (K : zK u) {w : gW} (h : zEc u w) (a : Int32) : f_Oa_has a w = some (zbl a (yO u), w) := Oa_has a w ((h.i (a := 5) (b := 4) rfl).trans K.C.2.2.2.1.1) K.O8
theorem La_words'c (K : zK u) {w : gW} (h : zEc u w) : f_La_words w = some (nI ((yT u + 63) / 64), w) := by
  have t := K.T7
  unfold f_La_words
  rw [h.i (a := 19) (b := 6) rfl, K.L.2.2.2.1, show (63 : Int32) = nI 63 from rfl, nI_add, n_sr6 (by omega)]
theorem see_r_c (K : zK u) {w : gW} (h : zEc u w) {d s W : Nat} (hd : d < yD u) (hs : s < 7) {c : Nat} (hc : c = 7 * d + s) : w.2 (23 + 1 + c) W = ySe u d s W := by
  subst hc
  have := K.D5
  rw [h.l W (kl_see (7 * d + s) (by omega))]
  rfl
theorem La_seenWord'c (K : zK u) {w : gW} (h : zEc u w) {d s W : Nat} (hd : d < 100) (hs : s < 7) (hW : W < 263) : f_La_seenWord (nI d) (nI s) (nI W) w = some (if d < yD u then ySe u d s W else 0, w) := by
  have h5 := K.D5
  unfold f_La_seenWord f_La_seenWord_b29
  rw [La_hasDeed'c K h]
  simp only [zb_s]
  by_cases q : d < yD u
  · rw [n_zbl q (by omega), if_neg z10, if_neg (nI_pos (by omega)), if_neg (by rw [show (7 : Int32) = nI 7 from rfl, n_le (by omega) (by omega)]; omega), if_neg (nI_pos (by omega)), if_pos (by rw [show (263 : Int32) = nI 263 from rfl, n_lt (by omega) (by omega)]; omega)]
    have e : nI d * (7 : Int32) + nI s = nI (7 * d + s) := by rw [show (7 : Int32) = nI 7 from rfl, pk_mul, nI_add, Nat.mul_comm]
    rw [e, if_pos (z_inbn (by omega) (by decide)), z_ix (by omega), gl_see _ (by omega), if_pos (z_inbn hW (by decide)), z_ix (by omega), see_r_c K h q hs rfl, if_pos q]
  · rw [n_zbl0 (by omega) (by omega), if_pos z00, if_neg q]
theorem La_togetherWord'c (K : zK u) {w : gW} (h : zEc u w) {x y s W : Nat} (hx : x < 100) (hy : y < 100) (hs : s < 7) (hW : W < 263) : f_La_togetherWord (nI x) (nI y) (nI s) (nI W) w = some (if x < yD u ∧ y < yD u then yTo u x y W s else 0, w) := by
  have h5 := K.D5
  unfold f_La_togetherWord f_La_togetherWord_b29
  rw [La_hasDeed'c K h]
  simp only [zb_s]
  by_cases q : x < yD u
  · rw [n_zbl q (by omega), if_neg z10, La_hasDeed'c K h]
    simp only [zb_s]
    by_cases q2 : y < yD u
    · rw [n_zbl q2 (by omega), if_neg z10, if_neg (nI_pos (by omega)), if_pos (by rw [show (263 : Int32) = nI 263 from rfl, n_lt (by omega) (by omega)]; omega), if_pos ⟨q, q2⟩]
      have key := zfx_ind (fun _ _ _ _ _ _ _ => none) f_La_togetherWord_b37_s (fun m k => ∀ j, j + m = s → k (nI x) (nI y) (nI s) (nI W) (yTo u x y W j) (nI j) w = some (yTo u x y W s, w)) (fun m k ih j hj => by
        unfold f_La_togetherWord_b37_s f_La_togetherWord_b140
        cases m with
        | zero =>
          rw [if_pos (by rw [n_le (by omega) (by omega)]; omega), show j = s by omega]
        | succ m =>
          rw [if_neg (by rw [n_le (by omega) (by omega)]; omega), if_neg (by rw [show (6 : Int32) = nI 6 from rfl, n_le (by omega) (by omega)]; omega)]
          simp only [e7, n_1]
          have i1 : inb (nI (7 * y + j + 1)) 35 := z_inbn (by omega) (by decide)
          have i2 : inb (nI (7 * y + j)) 35 := z_inbn (by omega) (by decide)
          have i3 : inb (nI (7 * x + j + 1)) 35 := z_inbn (by omega) (by decide)
          have i4 : inb (nI (7 * x + j)) 35 := z_inbn (by omega) (by decide)
          have iW : inb (nI W) 263 := z_inbn hW (by decide)
          rw [z_ix (n := 7 * y + j + 1) (by omega), z_ix (n := 7 * y + j) (by omega), z_ix (n := 7 * x + j + 1) (by omega), z_ix (n := 7 * x + j) (by omega), z_ix (n := W) (by omega), gl_see (7 * y + j + 1) (by omega), gl_see (7 * y + j) (by omega), gl_see (7 * x + j + 1) (by omega), gl_see (7 * x + j) (by omega)]
          simp only [if_pos i1, if_pos i2, if_pos i3, if_pos i4, if_pos iW, zl_s]
          rw [see_r_c K h (d := y) (s := j + 1) (W := W) q2 (by omega) (by omega), see_r_c K h (d := y) (s := j) (W := W) q2 (by omega) (by omega), see_r_c K h (d := x) (s := j + 1) (W := W) q (by omega) (by omega), see_r_c K h (d := x) (s := j) (W := W) q (by omega) (by omega)]
          exact ih m (by omega) (j + 1) (by omega)) zFU s (zfu (by omega))
      exact key 0 (by omega)
    · rw [n_zbl0 (by omega) (by omega), if_pos z00, if_neg (fun z => q2 z.2)]
  · rw [n_zbl0 (by omega) (by omega), if_pos z00, if_neg (fun z => q z.1)]
theorem La_beforeWord'c (K : zK u) {w : gW} (h : zEc u w) {x y s W : Nat} (hx : x < 100) (hy : y < 100) (hs : s < 7) (hW : W < 263) : f_La_beforeWord (nI x) (nI y) (nI s) (nI W) w = some (if x < yD u ∧ y < yD u then yBe u x y W s else 0, w) := by
  have h5 := K.D5
  unfold f_La_beforeWord f_La_beforeWord_b29
  rw [La_hasDeed'c K h]
  simp only [zb_s]
  by_cases q : x < yD u
  · rw [n_zbl q (by omega), if_neg z10, La_hasDeed'c K h]
    simp only [zb_s]
    by_cases q2 : y < yD u
    · rw [n_zbl q2 (by omega), if_neg z10, if_neg (nI_pos (by omega)), if_pos (by rw [show (263 : Int32) = nI 263 from rfl, n_lt (by omega) (by omega)]; omega), if_pos ⟨q, q2⟩]
      have key := zfx_ind (fun _ _ _ _ _ _ _ => none) f_La_beforeWord_b37_s (fun m k => ∀ j, j + 1 + m = max s 1 → k (nI x) (nI y) (nI s) (nI W) (yBe u x y W (j + 1)) (nI (j + 1)) w = some (yBe u x y W s, w)) (fun m k ih j hj => by
        unfold f_La_beforeWord_b37_s f_La_beforeWord_b118
        cases m with
        | zero =>
          rw [if_pos (by rw [n_le (by omega) (by omega)]; omega)]
          have e : yBe u x y W (j + 1) = yBe u x y W s := by
            by_cases z : s = 0
            · rw [show j = 0 by omega, z]; rfl
            · rw [show j + 1 = s by omega]
          rw [e]
        | succ m =>
          rw [if_neg (by rw [n_le (by omega) (by omega)]; omega), if_neg (by rw [show (6 : Int32) = nI 6 from rfl, n_le (by omega) (by omega)]; omega)]
          simp only [e7, n_1]
          have i1 : inb (nI (7 * y + (j + 1) + 1)) 35 := z_inbn (by omega) (by decide)
          have i2 : inb (nI (7 * y + (j + 1))) 35 := z_inbn (by omega) (by decide)
          have i4 : inb (nI (7 * x + (j + 1))) 35 := z_inbn (by omega) (by decide)
          have iW : inb (nI W) 263 := z_inbn hW (by decide)
          rw [z_ix (n := 7 * y + (j + 1) + 1) (by omega), z_ix (n := 7 * y + (j + 1)) (by omega), z_ix (n := 7 * x + (j + 1)) (by omega), z_ix (n := W) (by omega), gl_see (7 * y + (j + 1) + 1) (by omega), gl_see (7 * y + (j + 1)) (by omega), gl_see (7 * x + (j + 1)) (by omega)]
          simp only [if_pos i1, if_pos i2, if_pos i4, if_pos iW, zl_s]
          rw [see_r_c K h (d := y) (s := j + 2) (W := W) q2 (by omega) (by omega), see_r_c K h (d := y) (s := j + 1) (W := W) q2 (by omega) (by omega), see_r_c K h (d := x) (s := j + 1) (W := W) q (by omega) (by omega)]
          exact ih m (by omega) (j + 1) (by omega)) zFU (max s 1 - 1) (zfu (by omega))
      exact key 0 (by omega)
    · rw [n_zbl0 (by omega) (by omega), if_pos z00, if_neg (fun z => q2 z.2)]
  · rw [n_zbl0 (by omega) (by omega), if_pos z00, if_neg (fun z => q z.1)]
theorem Oa_length'c (K : zK u) {w : gW} (h : zEc u w) {o : Nat} (ho : o < yO u) : f_Oa_length (nI o) w = some (nI (ycs u o).length, w) := by
  have h8 := K.O8
  unfold f_Oa_length
  rw [Oa_has'c K h]
  simp only [zb_s]
  rw [n_zbl ho (by omega), if_neg z10, if_pos (z_inbn (by omega) (by decide)), z_ix (by omega), h.i rfl, (K.cl ho).2.1]
theorem Oa_codeAt'c (K : zK u) {w : gW} (h : zEc u w) {o i : Nat} (ho : o < yO u) (hi : i < (ycs u o).length) : f_Oa_codeAt (nI o) (nI i) w = some (nI ((ycs u o).getD i 0), w) := by
  have h8 := K.O8
  have c := K.cl ho
  unfold f_Oa_codeAt
  rw [Oa_has'c K h]
  simp only [zb_s]
  rw [n_zbl ho (by omega), if_neg z10, if_neg (nI_pos (by omega)), if_neg (by rw [show (120 : Int32) = nI 120 from rfl, n_le (by omega) (by omega)]; omega), if_pos (z_inbn (by omega) (by decide)), z_ix (by omega), z_ix (by omega), gl_cod o (by omega), if_pos (z_inbn (by omega) (by decide)), show 6 + 1 + o = 7 + o by omega, h.i (scr_codc o (by omega) i), c.2.2 i hi]
theorem Co_word_step_c (K : zK u) {w : gW} (h : zEc u w) {o s th W : Nat} (ho : o < yO u) (hs : s < 7) (hth : th < 2 ^ 31) (hW : W < 263) (h8 : yO u ≤ 8) (hl : (ycs u o).length ≤ 120) (hv1 : ∀ E st, eEv E (ycs u o) st = eVl E (ycs u o) :: st) (hv2 : (hgt 0 (ycs u o)).2 = 0 + 1 ∧ (hgt 0 (ycs u o)).1 ≤ 0 + 15) (hv3 : ∀ c ∈ ycs u o, cOk c) (hv4 : wfH 0 (ycs u o)) {m : Nat} {k : Int32 → Int32 → Int32 → Int32 → Int32 → Int32 → gW → Option (Int64 × gW)} (ih : ∀ m', m' < m → ∀ (i : Nat) (pre : List Nat) (v : gW), i + m' = (ycs u o).length → pre = (ycs u o).take i → zSk w v → stW u v s th W (hgt 0 pre).2 pre → WO u w o s th W (k (nI o) (nI s) (nI th) (nI W) (nI (hgt 0 pre).2) (nI i) v)) (i : Nat) (pre : List Nat) (v : gW) (hi : i + m = (ycs u o).length) (hpre : pre = (ycs u o).take i) (hv : zSk w v) (hst : stW u v s th W (hgt 0 pre).2 pre) : WO u w o s th W (f_Co_wordOf_b6_s k (nI o) (nI s) (nI th) (nI W) (nI (hgt 0 pre).2) (nI i) v) := by
  have hE := hv.c h
  unfold f_Co_wordOf_b6_s
  rw [Oa_length'c K hE ho]
  simp only [zb_s]
  cases m with
  | zero =>
    rw [if_pos (by rw [n_le (by omega) (by omega)]; omega), if_pos (show inb (0 : Int32) 16 from z_inbn (n := 0) (by decide) (by decide))]
    have ez : ix (0 : Int32) = 0 := z_ix (n := 0) (by decide)
    rw [ez]
    refine ⟨_, v, rfl, hv, fun b hb hk => ?_⟩
    have e : pre = ycs u o := by rw [hpre, List.take_of_length_le (by omega)]
    have a := hst b hb hk
    rw [e, hv2.1, hv1] at a
    have a1 : bL (v.2 74 0) b = eVl (yE (yD u) (yd u (64 * W + b)) s th) (ycs u o) := a.1
    exact a1
  | succ m =>
    have hlt : i < (ycs u o).length := by omega
    rw [if_neg (by rw [n_le (by omega) (by omega)]; omega), Oa_codeAt'c K hE ho hlt]
    rw [zb_s]
    have hc := hv3 ((ycs u o).getD i 0) (by rw [List.getD_eq_getElem?_getD, List.getElem?_eq_getElem hlt]; exact List.getElem_mem hlt)
    have hsplit : ycs u o = pre ++ (ycs u o).getD i 0 :: (ycs u o).drop (i + 1) := by
      rw [hpre, List.getD_eq_getElem?_getD, List.getElem?_eq_getElem hlt]
      show ycs u o = List.take i (ycs u o) ++ (ycs u o)[i] :: List.drop (i + 1) (ycs u o)
      rw [List.getElem_cons_drop, List.take_append_drop]
    have hpre' : pre ++ [(ycs u o).getD i 0] = (ycs u o).take (i + 1) := by
      rw [hpre, List.take_add_one, List.getElem?_eq_getElem hlt, List.getD_eq_getElem?_getD, List.getElem?_eq_getElem hlt]
      rfl
    have hwf : ((ycs u o).getD i 0 / 256 = 4 → 1 ≤ (hgt 0 pre).2) ∧ (5 ≤ (ycs u o).getD i 0 / 256 → 2 ≤ (hgt 0 pre).2) := by
      rw [hsplit] at hv4
      exact wfH_m hv4
    have hmx : (hgt 0 pre).2 ≤ 15 ∧ ((ycs u o).getD i 0 / 256 < 4 → (hgt 0 pre).2 + 1 ≤ 15) := by
      have a := hgt_m (pre := pre) (l := (ycs u o).drop (i + 1)) (c := (ycs u o).getD i 0) (h := 0)
      rw [← hsplit] at a
      have b := hv2.2
      exact ⟨by omega, fun q => by have := a.2 q; omega⟩
    have hgn : (hgt 0 (pre ++ [(ycs u o).getD i 0])).2 = if (ycs u o).getD i 0 / 256 < 4 then (hgt 0 pre).2 + 1 else if (ycs u o).getD i 0 / 256 = 4 then (hgt 0 pre).2 else (hgt 0 pre).2 - 1 := by rw [(hgt_app pre 0 [(ycs u o).getD i 0]).1]; rfl
    generalize (ycs u o).getD i 0 = c at hc hpre' hwf hmx hgn
    obtain ⟨k1, k2, k3, k4, k5⟩ := hc
    have go : ∀ (v' : gW) (t' : Nat), zSk w v' → (hgt 0 (pre ++ [c])).2 = t' → stW u v' s th W t' (pre ++ [c]) → WO u w o s th W (f_Co_wordOf_b231 k (nI o) (nI s) (nI th) (nI W) (nI t') (nI i) v') := by
      intro v' t' a1 a2 a3
      unfold f_Co_wordOf_b231
      simp only [zl_s]
      rw [n_1]
      subst a2
      exact ih m (by omega) (i + 1) (pre ++ [c]) v' (by omega) hpre' a1 a3
    unfold f_Oa_oneOf f_Oa_otherOf f_Oa_kindOf
    rw [zb_s, zb_s, zb_s]
    simp only [zl_s]
    rw [n_sr4 (by omega), n_15 (by omega), n_15 (by omega), n_sr8 (by omega)]
    simp only [n_1]
    have kd : ∀ j, j < 8 → (nI (c / 256) = nI j ↔ c / 256 = j) := fun j hj => n_eq (by omega) (by omega)
    by_cases d0 : c / 256 = 0
    · rw [if_pos ((kd 0 (by decide)).mpr d0), min_d (b := c % 16) hs (by omega), La_seenWord'c K hE (by omega) (by omega) hW]
      simp only [zb_s]
      rw [Co_put' (by omega)]
      simp only [zb_s]
      refine go _ ((hgt 0 pre).2 + 1) (hv.tr (zSk.s _ _ _)) (by rw [hgn, if_pos (by omega)]) (stW_push K hst (by omega) (fun b hb hk => ?_))
      rw [d0]
      show _ = decide (_ ∧ _ ∧ _)
      by_cases q : c / 16 % 16 < yD u
      · rw [if_pos q, ySe_b K q (by omega) hb hk]
        rw [Bool.eq_iff_iff, decide_eq_true_iff, decide_eq_true_iff]
        omega
      · rw [if_neg q, bL_0, decide_eq_false (fun z => q z.1)]
    rw [if_neg (fun z => d0 ((kd 0 (by decide)).mp z))]
    by_cases d1 : c / 256 = 1
    · rw [if_pos ((kd 1 (by decide)).mpr d1), La_beforeWord'c K hE (by omega) (by omega) hs hW]
      simp only [zb_s]
      rw [Co_put' (by omega)]
      simp only [zb_s]
      refine go _ ((hgt 0 pre).2 + 1) (hv.tr (zSk.s _ _ _)) (by rw [hgn, if_pos (by omega)]) (stW_push K hst (by omega) (fun b hb hk => ?_))
      rw [d1]
      show _ = decide (_ ∧ _ ∧ _ ∧ _ ∧ _)
      by_cases q : c / 16 % 16 < yD u ∧ c % 16 < yD u
      · rw [if_pos q, yBe_b K q.1 q.2 hb hk s hs]
        rw [Bool.eq_iff_iff, decide_eq_true_iff, decide_eq_true_iff]
        omega
      · rw [if_neg q, bL_0, decide_eq_false (fun z => q ⟨z.1, z.2.1⟩)]
    rw [if_neg (fun z => d1 ((kd 1 (by decide)).mp z))]
    by_cases d2 : c / 256 = 2
    · rw [if_pos ((kd 2 (by decide)).mpr d2), La_togetherWord'c K hE (by omega) (by omega) hs hW]
      simp only [zb_s]
      rw [Co_put' (by omega)]
      simp only [zb_s]
      refine go _ ((hgt 0 pre).2 + 1) (hv.tr (zSk.s _ _ _)) (by rw [hgn, if_pos (by omega)]) (stW_push K hst (by omega) (fun b hb hk => ?_))
      rw [d2]
      show _ = decide (_ ∧ _ ∧ _ ∧ _ ∧ _)
      by_cases q : c / 16 % 16 < yD u ∧ c % 16 < yD u
      · rw [if_pos q, yTo_b K q.1 q.2 hb hk s hs]
        rw [Bool.eq_iff_iff, decide_eq_true_iff, decide_eq_true_iff]
        omega
      · rw [if_neg q, bL_0, decide_eq_false (fun z => q ⟨z.1, z.2.1⟩)]
    rw [if_neg (fun z => d2 ((kd 2 (by decide)).mp z))]
    by_cases d3 : c / 256 = 3
    · rw [if_pos ((kd 3 (by decide)).mpr d3), n_bit hth (by omega)]
      have hp : ∀ x : Int64, (∀ b, b < 64 → bL x b = th.testBit (c / 16 % 16)) → WO u w o s th W (f_Co_wordOf_b189 k (nI o) (nI s) (nI th) (nI W) (nI ((hgt 0 pre).2 + 1)) (nI i) (nI (hgt 0 pre).2) x v) := by
        intro x hx
        unfold f_Co_wordOf_b189
        rw [Co_put' (by omega)]
        simp only [zb_s]
        refine go _ ((hgt 0 pre).2 + 1) (hv.tr (zSk.s _ _ _)) (by rw [hgn, if_pos (by omega)]) (stW_push K hst (by omega) (fun b hb hk => ?_))
        rw [d3, hx b hb]
        rfl
      cases e : th.testBit (c / 16 % 16) with
      | false =>
        rw [if_pos (show bI false = 0 from rfl)]
        exact hp 0 (fun b hb => by rw [bL_0, e])
      | true =>
        rw [if_neg (show ¬ bI true = 0 by decide)]
        exact hp (-1) (fun b hb => by rw [bL_m1 b hb, e])
    rw [if_neg (fun z => d3 ((kd 3 (by decide)).mp z))]
    by_cases d4 : c / 256 = 4
    · have ht := hwf.1 d4
      rw [if_pos ((kd 4 (by decide)).mpr d4), show (1 : Int32) = nI 1 from rfl, n_sub ht, Co_turn' (by omega)]
      simp only [zb_s]
      refine go _ (hgt 0 pre).2 (hv.tr (zSk.s _ _ _)) (by rw [hgn, if_neg (by omega), if_pos d4]) (fun b hb hk => ?_)
      rw [eEv_app]
      show sOK _ _ (eSt _ c (eEv _ pre []))
      have a := hst b hb hk
      obtain ⟨t, et⟩ : ∃ t, (hgt 0 pre).2 = t + 1 := ⟨(hgt 0 pre).2 - 1, by omega⟩
      rw [et] at a ⊢
      obtain ⟨x, r, e1, e2, e3⟩ := sOK_1 a
      rw [e1]
      unfold eSt
      rw [if_neg (by omega), if_pos d4]
      show sOK _ (t + 1) ((!x) :: r)
      refine ⟨?_, sOK_cg (fun j hj => ?_) e3⟩
      · show bL ((zsL v 74 t _).2 74 t) b = _
        rw [sL_g, if_pos rfl, bL_not _ hb]
        show (!bL (v.2 74 t) b) = _
        rw [show bL (v.2 74 t) b = x from e2]
      · show bL ((zsL v 74 t _).2 74 j) b = _
        rw [sL_g, if_neg (by omega)]
    rw [if_neg (fun z => d4 ((kd 4 (by decide)).mp z))]
    have ht := hwf.2 (by omega)
    obtain ⟨t, et⟩ : ∃ t, (hgt 0 pre).2 = t + 2 := ⟨(hgt 0 pre).2 - 2, by omega⟩
    have em1 : nI (hgt 0 pre).2 + (-1 : Int32) = nI (t + 1) := by rw [et]; exact pk_m1 (t + 1)
    have em2 : nI (t + 1) - (1 : Int32) = nI t := by rw [show (1 : Int32) = nI 1 from rfl, n_sub (by omega)]; rfl
    have fin : ∀ both : Bool, (both = true ↔ c / 256 = 5) → WO u w o s th W (f_Co_wordOf_b228 k (nI o) (nI s) (nI th) (nI W) (nI (t + 1)) (nI i) (nI t) (bI both) v) := by
      intro both hb5
      unfold f_Co_wordOf_b228
      rw [Co_merge' (by omega)]
      simp only [zb_s]
      refine go _ (t + 1) (hv.tr (zSk.s _ _ _)) (by rw [hgn, if_neg (by omega), if_neg d4, et]; rfl) (fun b hb hk => ?_)
      rw [eEv_app]
      show sOK _ _ (eSt _ c (eEv _ pre []))
      have a := hst b hb hk
      rw [et] at a
      obtain ⟨y, r1, e1, e2, e3⟩ := sOK_1 a
      obtain ⟨x, r, e4, e5, e6⟩ := sOK_1 e3
      subst e4
      rw [e1]
      unfold eSt
      have d04 : ¬ c / 256 < 4 := by omega
      rw [if_neg d04, if_neg d4]
      have hval : ∀ z : Bool, (if both = true then x && y else x || y) = z → sOK (fun j => bL ((zsL v 74 t (if both = true then (v.2 74 t) &&& (v.2 74 (t + 1)) else (v.2 74 t) ||| (v.2 74 (t + 1)))).2 74 j) b) (t + 1) (z :: r) := by
        intro z hz
        refine ⟨?_, sOK_cg (fun j hj => ?_) e6⟩
        · show bL ((zsL v 74 t _).2 74 t) b = _
          rw [sL_g, if_pos rfl, ← hz]
          cases both
          · show bL ((v.2 74 t) ||| (v.2 74 (t + 1))) b = (x || y)
            rw [bL_or, show bL (v.2 74 t) b = x from e5, show bL (v.2 74 (t + 1)) b = y from e2]
          · show bL ((v.2 74 t) &&& (v.2 74 (t + 1))) b = (x && y)
            rw [bL_and, show bL (v.2 74 t) b = x from e5, show bL (v.2 74 (t + 1)) b = y from e2]
        · show bL ((zsL v 74 t _).2 74 j) b = _
          rw [sL_g, if_neg (by omega)]
      by_cases d5 : c / 256 = 5
      · rw [if_pos d5]
        exact hval _ (by rw [if_pos (hb5.mpr d5)])
      · rw [if_neg d5]
        exact hval _ (by rw [if_neg (fun z => d5 (hb5.mp z))])
    rw [em1, em2, zb_s]
    by_cases d5 : c / 256 = 5
    · rw [if_pos (show nI (c / 256) = (5 : Int32) from (kd 5 (by decide)).mpr d5)]
      exact fin true ⟨fun _ => d5, fun _ => rfl⟩
    · rw [if_neg (show ¬ nI (c / 256) = (5 : Int32) from fun z => d5 ((kd 5 (by decide)).mp z))]
      exact fin false ⟨fun z => (by cases z), fun z => absurd z d5⟩
theorem Co_wordOf_c (K : zK u) {w : gW} (h : zEc u w) {o s th W : Nat} (ho : o < yO u) (hs : s < 7) (hth : th < 2 ^ 31) (hW : W < 263) : WO u w o s th W (f_Co_wordOf (nI o) (nI s) (nI th) (nI W) w) := by
  have hl := (K.cl ho).1
  obtain ⟨hv1, hv2, hv3, hv4⟩ := K.cv ho
  have key := zfx_ind (fun _ _ _ _ _ _ _ => none) f_Co_wordOf_b6_s (fun m k => ∀ (i : Nat) (pre : List Nat) (v : gW), i + m = (ycs u o).length → pre = (ycs u o).take i → zSk w v → stW u v s th W (hgt 0 pre).2 pre → WO u w o s th W (k (nI o) (nI s) (nI th) (nI W) (nI (hgt 0 pre).2) (nI i) v)) (fun m k ih => Co_word_step_c K h ho hs hth hW K.O8 hl hv1 (hv2 0) hv3 (hv4 0) ih) zFU (ycs u o).length (zfu (by omega))
  have k0 := key 0 [] w (by omega) rfl (zSk.rf w) (fun b hb hk => trivial)
  have e0 : nI (hgt 0 []).2 = (0 : Int32) := rfl
  have e1 : nI 0 = (0 : Int32) := rfl
  rw [e0, e1] at k0
  unfold f_Co_wordOf f_Co_wordOf_b6
  exact k0
theorem An_all_c (K : zK u) {w : gW} (h : zEc u w) : f_An_allSworn w = some (nI (yal u), w) := by
  have h10 := K.S10
  unfold f_An_allSworn
  rw [h.i rfl, K.C.2.2.2.2.1.1, n_1sh (by omega), show (1 : Int32) = nI 1 from rfl, n_sub (Nat.two_pow_pos _)]
  rfl
theorem La_trait'c (K : zK u) {w : gW} (h : zEc u w) {d j : Nat} (hd : d < yD u) (hj : j < 3) : f_La_trait (nI d) (nI j) w = some (u.1 20 (3 * d + j), w) := by
  have h5 := K.D5
  unfold f_La_trait
  have e : nI d * (3 : Int32) + nI j = nI (3 * d + j) := by rw [show (3 : Int32) = nI 3 from rfl, pk_mul, nI_add, Nat.mul_comm]
  rw [e, zl_s, if_neg (nI_pos (by omega)), if_neg (by rw [n_le (by omega) (by omega)]; omega), if_pos (z_inbn (by omega) (by decide)), z_ix (by omega), h.i rfl]
theorem La_from_c (K : zK u) {w : gW} (h : zEc u w) {d : Nat} (hd : d < yD u) : f_La_trait (nI d) (1 : Int32) w = some (nI (yf u d), w) := by
  rw [show f_La_trait (nI d) (1 : Int32) w = _ from La_trait'c K h (j := 1) hd (by decide), (K.L.1 d hd).2.1, (K.L.2.1 d hd).2.1]
theorem La_last_c (K : zK u) {w : gW} (h : zEc u w) {d : Nat} (hd : d < yD u) : f_La_trait (nI d) (2 : Int32) w = some (nI (yl u d), w) := by
  rw [show f_La_trait (nI d) (2 : Int32) w = _ from La_trait'c K h (j := 2) hd (by decide), (K.L.1 d hd).2.2, (K.L.2.1 d hd).2.2.1]
theorem La_dayOf'c (K : zK u) {w : gW} (h : zEc u w) {d o : Nat} (hd : d < yD u) (ho : o < 100) : f_La_dayOf (nI d) (nI o) w = some (nI (yg u d o), w) := by
  have a := K.dd hd
  unfold f_La_dayOf
  rw [La_from_c K h hd, zb_s, nI_add, zl_s, La_last_c K h hd, zb_s]
  unfold yg yo
  by_cases q : o + 1 < yl u d + 2 - yf u d
  · rw [if_neg (by rw [n_lt (by omega) (by omega)]; omega), if_pos q]
  · rw [if_pos (by rw [n_lt (by omega) (by omega)]; omega), if_neg q]; rfl
theorem La_options'c (K : zK u) {w : gW} (h : zEc u w) {d : Nat} (hd : d < yD u) : f_La_options (nI d) w = some (nI (yo u d), w) := by
  have h5 := K.D5
  unfold f_La_options
  rw [La_hasDeed'c K h, zb_s, n_zbl hd (by omega), if_neg z10, if_pos (z_inbn (by omega) (by decide)), z_ix (by omega), h.i rfl, (K.L.2.2.1 d hd).1]
theorem La_stride'c (K : zK u) {w : gW} (h : zEc u w) {d : Nat} (hd : d < yD u) : f_La_stride (nI d) w = some (nI (yst u d), w) := by
  have h5 := K.D5
  unfold f_La_stride
  rw [La_hasDeed'c K h, zb_s, n_zbl hd (by omega), if_neg z10, if_pos (z_inbn (by omega) (by decide)), z_ix (by omega), h.i rfl, (K.L.2.2.1 d hd).2]
theorem La_dateWord'c (K : zK u) {w : gW} (h : zEc u w) {d y W : Nat} (hd : d < yD u) (hy : y < yY u ∨ y = 9) (hW : W < 263) : f_La_dateWord (nI d) (nI y) (nI W) w = some (yDw u d y W, w) := by
  have h5 := K.D5
  have h6 := K.Y6
  unfold f_La_dateWord yDw
  by_cases q : y = 9
  · rw [if_pos (by rw [q]; rfl), if_pos q, h.i (a := 19) rfl, K.C.2.2.1.1, La_seenWord'c K h (by omega) (by omega) hW, zb_s, if_pos hd]
  · have q' : ¬ nI y = (9 : Int32) := by rw [show (9 : Int32) = nI 9 from rfl, n_eq (by omega) (by omega)]; exact q
    rw [if_neg q', if_neg q, n_1, La_seenWord'c K h (by omega) (by omega) hW, zb_s, La_seenWord'c K h (by omega) (by omega) hW, zb_s, if_pos hd, if_pos hd]
theorem Oa_named'c (K : zK u) {w : gW} (h : zEc u w) {o : Nat} (ho : o < yO u) : f_Oa_named (nI o) w = some (nI (nmO (ycs u o)), w) := by
  have h8 := K.O8
  obtain ⟨n, f, h1, h2, h3, h4, h5, h6⟩ := K.2.2 o ho
  unfold f_Oa_named
  rw [Oa_has'c K h, zb_s, n_zbl ho (by omega), if_neg z10, if_pos (z_inbn (by omega) (by decide)), z_ix (by omega), h.i rfl, h6]
theorem An_part'c (K : zK u) {w : gW} (h : zEc u w) {i j : Nat} (hi : i < yS u) (hj : j < 4) : f_An_swornPart (nI i) (nI j) w = some (u.1 60 (4 * i + j), w) := by
  have h10 := K.S10
  unfold f_An_swornPart
  have e : nI i * (4 : Int32) + nI j = nI (4 * i + j) := by rw [show (4 : Int32) = nI 4 from rfl, pk_mul, nI_add, Nat.mul_comm]
  have q1 : ¬ nI (yS u) ≤ nI i := by rw [n_le (by omega) (by omega)]; omega
  have q2 : ¬ (10 : Int32) ≤ nI i := by rw [show (10 : Int32) = nI 10 from rfl, n_le (by omega) (by omega)]; omega
  have q3 : nI j < (4 : Int32) := by rw [show (4 : Int32) = nI 4 from rfl, n_lt (by omega) (by omega)]; exact hj
  rw [if_neg (nI_pos (by omega)), h.i rfl, K.C.2.2.2.2.1.1, if_neg q1, if_neg q2, if_neg (nI_pos (by omega)), if_pos q3, e, if_pos (z_inbn (by omega) (by decide)), z_ix (by omega), h.i rfl]
theorem An_oathOf'c (K : zK u) (R : jRec u) {w : gW} (h : zEc u w) {i : Nat} (hi : i < yS u) : f_An_oathOf (nI i) w = some (nI (ix (u.1 120 i)), w) := by
  unfold f_An_oathOf
  rw [show f_An_swornPart (nI i) (1 : Int32) w = _ from An_part'c K h hi (j := 1) (by decide), zb_s, (R.1 i hi).1.2.1, ← (R.1 i hi).2.2.1.1]
theorem An_dayOf'c (K : zK u) (R : jRec u) {w : gW} (h : zEc u w) {i : Nat} (hi : i < yS u) : f_An_dayOf (nI i) w = some (nI (ix (u.1 121 i)), w) := by
  unfold f_An_dayOf
  rw [show f_An_swornPart (nI i) (2 : Int32) w = _ from An_part'c K h hi (j := 2) (by decide), zb_s, (R.1 i hi).1.2.2.1, ← (R.1 i hi).2.2.2.1.1]
theorem zRc.ec {c : Nat} {u w v : gW} (hc : zKL c = true) (h : zEc u w) (k : zRc c w v) : zEc u v := zAg.tr h (zAg.wk k (fun _ _ q => by cases q) (fun a q => by
  have e : a = c := by simpa using q
  subst e
  exact hc))
theorem Co_narrow'c (K : zK u) {w : gW} (h : zEc u w) {c d y : Nat} (rc : isRow c) (hc : zKL c = true) (hd : d < yD u) (hy : y < yY u ∨ y = 9) {x : Int32} (hx : x = 0 ∨ x = 1) : ∃ v : gW, f_Co_narrow c (nI d) (nI y) x w = some ((), v) ∧ zRc c w v ∧ (∀ W, nW u ≤ W → v.2 c W = w.2 c W) ∧ (∀ k, k < 64 * nW u → zbt v c k = true → zbt w c k = true) ∧ ∀ k, k < yT u → zbt v c k = (zbt w c k && (decide (yd u k d = y) == decide (x = 1))) := by
  have hn := nW_le K
  have key := zfx_ind (fun _ _ _ _ _ _ => none) f_Co_narrow_b3_s (fun m kk => ∀ W v, W + m = nW u → zRc c w v → (∀ V, W ≤ V → v.2 c V = w.2 c V) → (∀ k, k < 64 * W → zbt v c k = true → zbt w c k = true) → (∀ k, k < 64 * W → k < yT u → zbt v c k = (zbt w c k && (decide (yd u k d = y) == decide (x = 1)))) → ∃ v' : gW, kk c (nI d) (nI y) x (nI W) v = some ((), v') ∧ zRc c w v' ∧ (∀ W, nW u ≤ W → v'.2 c W = w.2 c W) ∧ (∀ k, k < 64 * nW u → zbt v' c k = true → zbt w c k = true) ∧ ∀ k, k < yT u → zbt v' c k = (zbt w c k && (decide (yd u k d = y) == decide (x = 1)))) (fun m kk ih W v hW hv hh hs hb => by
    unfold f_Co_narrow_b3_s
    have hE := hv.ec hc h
    rw [La_words'c K hE, zb_s]
    show ∃ v' : gW, (if nI (nW u) ≤ nI W then _ else _) = _ ∧ _
    cases m with
    | zero =>
      rw [if_pos (by rw [n_le (by omega) (by omega)]; omega)]
      have eW : nW u = W := by omega
      exact ⟨v, rfl, hv, by rw [eW]; exact hh, by rw [eW]; exact hs, fun k hk => hb k (by rw [← eW]; exact nW_ge hk) hk⟩
    | succ m =>
      have q1 : ¬ nI 263 ≤ nI W := by rw [n_le (by omega) (by omega)]; omega
      have q2 : inb (nI W) 263 := z_inbn (by omega) (by decide)
      have ez : ix (nI W) = W := z_ix (by omega)
      rw [if_neg (by rw [n_le (by omega) (by omega)]; omega)]
      simp only [rc.1, rc.2, if_true, if_neg q1]
      rw [La_dateWord'c K hE hd hy (by omega), zb_s, if_pos q2]
      have go : ∀ (z : Int64), (∀ b, b < 64 → 64 * W + b < yT u → bL z b = (decide (yd u (64 * W + b) d = y) == decide (x = 1))) → ∃ v' : gW, f_Co_narrow_b56 kk c (nI d) (nI y) x (nI W) c (nI W) (v.2 c (ix (nI W))) z v = some ((), v') ∧ zRc c w v' ∧ (∀ W, nW u ≤ W → v'.2 c W = w.2 c W) ∧ (∀ k, k < 64 * nW u → zbt v' c k = true → zbt w c k = true) ∧ ∀ k, k < yT u → zbt v' c k = (zbt w c k && (decide (yd u k d = y) == decide (x = 1))) := by
        intro z hz
        unfold f_Co_narrow_b56
        rw [rc.2, if_pos q2, zl_s, zl_s, n_1, ez]
        refine ih m (by omega) (W + 1) _ (by omega) (hv.s _ _) (fun V hV => ?_) (bits_s (fun k hk => ?_) (fun b hb2 => ?_)) (bits_s (fun k hk => ?_) (fun b hb2 hk => ?_))
        · rw [rw_g, if_neg (by omega)]
          exact hh V (by omega)
        · show bL ((zsL v c W _).2 c (k / 64)) (k % 64) = true → _
          rw [rw_g, if_neg (by omega)]
          exact hs k hk
        · rw [zbt_w hb2, zbt_w hb2, rw_g, if_pos ⟨rfl, rfl⟩, bL_and, hh W (Nat.le_refl _), Bool.and_eq_true]
          exact fun z => z.1
        · intro hkT
          show bL ((zsL v c W _).2 c (k / 64)) (k % 64) = _
          rw [rw_g, if_neg (by omega)]
          exact hb k hk hkT
        · rw [zbt_w hb2, zbt_w hb2, rw_g, if_pos ⟨rfl, rfl⟩, bL_and, hh W (Nat.le_refl _), hz b hb2 hk]
      rcases hx with hx | hx
      · rw [if_pos hx]
        refine go _ (fun b hb2 hk => ?_)
        rw [bL_not _ hb2, yDw_b K hd hy hb2 hk, hx]
        cases decide (yd u (64 * W + b) d = y) <;> rfl
      · rw [if_neg (by rw [hx]; decide)]
        refine go _ (fun b hb2 hk => ?_)
        rw [yDw_b K hd hy hb2 hk, hx]
        cases decide (yd u (64 * W + b) d = y) <;> rfl) zFU (nW u) (zfu (by omega))
  exact key 0 w (by omega) (zRc.rf c w) (fun V _ => rfl) (fun k hk => absurd hk (by omega)) (fun k hk => absurd hk (by omega))
end
