/-! PURE: the class's wordOf -/
def sOK (c : Nat → Bool) : Nat → List Bool → Prop
  | 0, [] => True
  | t + 1, a :: r => c t = a ∧ sOK c t r
  | _, _ => False
theorem sOK_cg {c c' : Nat → Bool} : ∀ {t : Nat} {st : List Bool}, (∀ j, j < t → c' j = c j) → sOK c t st → sOK c' t st
  | 0, [], _, _ => trivial
  | t + 1, a :: r, h, k => ⟨(h t (by omega)).trans k.1, sOK_cg (fun j hj => h j (by omega)) k.2⟩
  | 0, _ :: _, _, k => k.elim
  | _ + 1, [], _, k => k.elim
theorem sOK_1 {c : Nat → Bool} {t : Nat} {st : List Bool} (h : sOK c (t + 1) st) : ∃ a r, st = a :: r ∧ c t = a ∧ sOK c t r := by
  cases st with
  | nil => exact h.elim
  | cons a r => exact ⟨a, r, rfl, h.1, h.2⟩
/-- the stack of a word: at each bit that is a life's what the codes so far come to -/
def stW (u w : gW) (s th W t : Nat) (pre : List Nat) : Prop := ∀ b, b < 64 → 64 * W + b < yT u → sOK (fun j => bL (w.2 74 j) b) t (eEv (yE (yD u) (yd u (64 * W + b)) s th) pre [])
section
variable {u : gW}
theorem sL_g (w : gW) (j : Nat) (x : Int64) (i : Nat) : (zsL w 74 j x).2 74 i = if i = j then x else w.2 74 i := by
  show (if 74 = 74 ∧ i = j then x else w.2 74 i) = _
  by_cases h : i = j
  · rw [if_pos ⟨rfl, h⟩, if_pos h]
  · rw [if_neg (fun z => h z.2), if_neg h]
theorem zSk.s (w : gW) (j : Nat) (x : Int64) : zSk w (zsL w 74 j x) := (zAg.rf _ _ w).sL x rfl
theorem Co_put' {t : Nat} (ht : t < 16) (x : Int64) (w : gW) : f_Co_put (nI t) x w = some ((), zsL w 74 t x) := by
  unfold f_Co_put
  simp only [zl_s]
  rw [if_neg (nI_pos (by omega)), if_neg (by rw [show (16 : Int32) = nI 16 from rfl, n_le (by omega) (by omega)]; omega), if_pos (z_inbn ht (by decide)), z_ix (by omega)]
theorem Co_turn' {t : Nat} (ht : t < 16) (w : gW) : f_Co_turn (nI t) w = some ((), zsL w 74 t ((w.2 74 t) ^^^ (-1))) := by
  unfold f_Co_turn
  have hin : inb (nI t) 16 := z_inbn ht (by decide)
  simp only [zl_s]
  rw [if_neg (nI_pos (by omega)), if_neg (by rw [show (16 : Int32) = nI 16 from rfl, n_le (by omega) (by omega)]; omega), if_pos hin, if_pos hin, z_ix (by omega)]
theorem Co_merge' {t : Nat} (ht : t < 15) (both : Bool) (w : gW) : f_Co_merge (nI t) (bI both) w = some ((), zsL w 74 t (if both = true then (w.2 74 t) &&& (w.2 74 (t + 1)) else (w.2 74 t) ||| (w.2 74 (t + 1)))) := by
  unfold f_Co_merge f_Co_merge_b49
  simp only [zl_s, n_1]
  have hin : inb (nI t) 16 := z_inbn (by omega) (by decide)
  have hin2 : inb (nI (t + 1)) 16 := z_inbn (by omega) (by decide)
  have q1 : ¬ (16 : Int32) ≤ nI (t + 1) := by rw [show (16 : Int32) = nI 16 from rfl, n_le (by omega) (by omega)]; omega
  simp only [if_pos hin, if_pos hin2]
  rw [if_neg (nI_pos (by omega)), if_neg q1, z_ix (by omega), z_ix (by omega)]
  cases both
  · rw [if_pos (show bI false = 0 from rfl)]; rfl
  · rw [if_neg (show ¬ bI true = 0 by decide)]; rfl
theorem wfH_m {pre l : List Nat} {c : Nat} {h : Nat} : wfH h (pre ++ c :: l) → ((c / 256 = 4 → 1 ≤ (hgt h pre).2) ∧ (5 ≤ c / 256 → 2 ≤ (hgt h pre).2)) := by
  induction pre generalizing h with
  | nil => intro k; exact k.1
  | cons d pre ih => intro k; exact ih k.2
theorem hgt_m {pre l : List Nat} {c : Nat} {h : Nat} : (hgt h pre).2 ≤ (hgt h (pre ++ c :: l)).1 ∧ (c / 256 < 4 → (hgt h pre).2 + 1 ≤ (hgt h (pre ++ c :: l)).1) := by
  induction pre generalizing h with
  | nil =>
    show h ≤ max (if c / 256 < 4 then h + 1 else h) _ ∧ (_ → h + 1 ≤ max (if c / 256 < 4 then h + 1 else h) _)
    refine ⟨Nat.le_trans ?_ (Nat.le_max_left _ _), fun q => Nat.le_trans ?_ (Nat.le_max_left _ _)⟩
    · split <;> omega
    · rw [if_pos q]; exact Nat.le_refl _
  | cons d pre ih =>
    have k := ih (h := if d / 256 < 4 then h + 1 else if d / 256 = 4 then h else h - 1)
    exact ⟨Nat.le_trans k.1 (Nat.le_max_right _ _), fun q => Nat.le_trans (k.2 q) (Nat.le_max_right _ _)⟩
/-- an oath that is there: its codes are good -/
theorem zK.cv (K : zK u) {o : Nat} (ho : o < yO u) : cVal 15 (ycs u o) := by
  obtain ⟨n, f, h1, h2, h3, h4⟩ := K.2.2 o ho
  have hG := pOa_G (m := 13) (fun p hp => pU_G f n 6 p hp) 0 (Nat.zero_le n)
  rw [h3]
  unfold pAll at h2 ⊢
  by_cases c : (pOa f n (pU f n 6) 0).1 = true
  · rw [if_pos c] at h2 ⊢
    by_cases c2 : sg f n (pOa f n (pU f n 6) 0).2.1 = 0
    · rw [if_pos c2]; exact (hG.1 c).2.2.2.1
    · rw [if_neg c2] at h2; cases h2
  · rw [if_neg c] at h2; cases h2
theorem zK.cl (K : zK u) {o : Nat} (ho : o < yO u) : (ycs u o).length ≤ 120 ∧ u.1 16 o = nI (ycs u o).length ∧ ∀ i, i < (ycs u o).length → u.1 (7 + o) i = nI ((ycs u o).getD i 0) := by
  obtain ⟨n, f, h1, h2, h3, h4, h5, h6⟩ := K.2.2 o ho
  refine ⟨?_, h4, h5⟩
  have hG := pOa_G (m := 13) (fun p hp => pU_G f n 6 p hp) 0 (Nat.zero_le n)
  rw [h3]
  unfold pAll at h2 ⊢
  by_cases c : (pOa f n (pU f n 6) 0).1 = true
  · rw [if_pos c] at h2 ⊢
    have a := hG.1 c
    by_cases c2 : sg f n (pOa f n (pU f n 6) 0).2.1 = 0
    · rw [if_pos c2]
      show (pOa f n (pU f n 6) 0).2.2.length ≤ 120
      omega
    · rw [if_neg c2] at h2; cases h2
  · rw [if_neg c] at h2; cases h2
theorem scr_cod : ∀ o, o < 9 → ∀ i, zScrI (7 + o) i = false := by
  intro o ho i
  match o, ho with
  | 0, _ => rfl
  | 1, _ => rfl
  | 2, _ => rfl
  | 3, _ => rfl
  | 4, _ => rfl
  | 5, _ => rfl
  | 6, _ => rfl
  | 7, _ => rfl
  | 8, _ => rfl
theorem Oa_length' (K : zK u) {w : gW} (h : zEk u w) {o : Nat} (ho : o < yO u) : f_Oa_length (nI o) w = some (nI (ycs u o).length, w) := by
  have h8 := K.O8
  unfold f_Oa_length
  rw [Oa_has' K h]
  simp only [zb_s]
  rw [n_zbl ho (by omega), if_neg z10, if_pos (z_inbn (by omega) (by decide)), z_ix (by omega), h.i rfl, (K.cl ho).2.1]
theorem Oa_codeAt' (K : zK u) {w : gW} (h : zEk u w) {o i : Nat} (ho : o < yO u) (hi : i < (ycs u o).length) : f_Oa_codeAt (nI o) (nI i) w = some (nI ((ycs u o).getD i 0), w) := by
  have h8 := K.O8
  have c := K.cl ho
  unfold f_Oa_codeAt
  rw [Oa_has' K h]
  simp only [zb_s]
  rw [n_zbl ho (by omega), if_neg z10, if_neg (nI_pos (by omega)), if_neg (by rw [show (120 : Int32) = nI 120 from rfl, n_le (by omega) (by omega)]; omega), if_pos (z_inbn (by omega) (by decide)), z_ix (by omega), z_ix (by omega), gl_cod o (by omega), if_pos (z_inbn (by omega) (by decide)), show 6 + 1 + o = 7 + o by omega, h.i (scr_cod o (by omega) i), c.2.2 i hi]
theorem min_d {s b : Nat} (hs : s < 7) (hb : b < 16) : (if nI (b + 1) < nI s then nI (b + 1) else nI s) = nI (min s (b + 1)) := by
  by_cases q : b + 1 < s
  · rw [if_pos (by rw [n_lt (by omega) (by omega)]; exact q), Nat.min_eq_right (by omega)]
  · rw [if_neg (by rw [n_lt (by omega) (by omega)]; exact q), Nat.min_eq_left (by omega)]
/-- pushing a word -/
theorem stW_push (K : zK u) {w : gW} {s th W t c : Nat} {pre : List Nat} (h : stW u w s th W t pre) (hc : c / 256 < 4) {x : Int64} (hx : ∀ b, b < 64 → 64 * W + b < yT u → bL x b = yE (yD u) (yd u (64 * W + b)) s th (c / 256) (c / 16 % 16) (c % 16)) : stW u (zsL w 74 t x) s th W (t + 1) (pre ++ [c]) := by
  intro b hb hk
  rw [eEv_app]
  show sOK _ (t + 1) (eSt _ c (eEv _ pre []))
  unfold eSt
  rw [if_pos hc]
  refine ⟨?_, sOK_cg (fun j hj => ?_) (h b hb hk)⟩
  · show bL ((zsL w 74 t x).2 74 t) b = _
    rw [sL_g, if_pos rfl]; exact hx b hb hk
  · show bL ((zsL w 74 t x).2 74 j) b = _
    rw [sL_g, if_neg (by omega)]
def WO (u w : gW) (o s th W : Nat) (x : Option (Int64 × gW)) : Prop := ∃ (r : Int64) (w' : gW), x = some (r, w') ∧ zSk w w' ∧ ∀ b, b < 64 → 64 * W + b < yT u → bL r b = yH u o s th (64 * W + b)
theorem Co_word_step (K : zK u) {w : gW} (h : zEk u w) {o s th W : Nat} (ho : o < yO u) (hs : s < 7) (hth : th < 2 ^ 31) (hW : W < 263) (h8 : yO u ≤ 8) (hl : (ycs u o).length ≤ 120) (hv1 : ∀ E st, eEv E (ycs u o) st = eVl E (ycs u o) :: st) (hv2 : (hgt 0 (ycs u o)).2 = 0 + 1 ∧ (hgt 0 (ycs u o)).1 ≤ 0 + 15) (hv3 : ∀ c ∈ ycs u o, cOk c) (hv4 : wfH 0 (ycs u o)) {m : Nat} {k : Int32 → Int32 → Int32 → Int32 → Int32 → Int32 → gW → Option (Int64 × gW)} (ih : ∀ m', m' < m → ∀ (i : Nat) (pre : List Nat) (v : gW), i + m' = (ycs u o).length → pre = (ycs u o).take i → zSk w v → stW u v s th W (hgt 0 pre).2 pre → WO u w o s th W (k (nI o) (nI s) (nI th) (nI W) (nI (hgt 0 pre).2) (nI i) v)) (i : Nat) (pre : List Nat) (v : gW) (hi : i + m = (ycs u o).length) (hpre : pre = (ycs u o).take i) (hv : zSk w v) (hst : stW u v s th W (hgt 0 pre).2 pre) : WO u w o s th W (f_Co_wordOf_b6_s k (nI o) (nI s) (nI th) (nI W) (nI (hgt 0 pre).2) (nI i) v) := by
  have hE := hv.k h
  unfold f_Co_wordOf_b6_s
  rw [Oa_length' K hE ho]
  simp only [zb_s]
  cases m with
  | zero =>
    rw [if_pos (by rw [n_le (by omega) (by omega)]; omega), if_pos (show inb (0 : Int32) 16 from z_inbn (n := 0) (by decide) (by decide))]
    have ez : ix (0 : Int32) = 0 := z_ix (n := 0) (by decide)
    rw [ez]
    refine ⟨_, v, rfl, hv, fun b hb hk => ?_⟩
    have e : pre = ycs u o := by rw [hpre, List.take_of_length_le (by omega)]
    have a := hst b hb hk
    rw [e, hv2.1, hv1] at a
    have a1 : bL (v.2 74 0) b = eVl (yE (yD u) (yd u (64 * W + b)) s th) (ycs u o) := a.1
    exact a1
  | succ m =>
    have hlt : i < (ycs u o).length := by omega
    rw [if_neg (by rw [n_le (by omega) (by omega)]; omega), Oa_codeAt' K hE ho hlt]
    rw [zb_s]
    have hc := hv3 ((ycs u o).getD i 0) (by rw [List.getD_eq_getElem?_getD, List.getElem?_eq_getElem hlt]; exact List.getElem_mem hlt)
    have hsplit : ycs u o = pre ++ (ycs u o).getD i 0 :: (ycs u o).drop (i + 1) := by
      rw [hpre, List.getD_eq_getElem?_getD, List.getElem?_eq_getElem hlt]
      show ycs u o = List.take i (ycs u o) ++ (ycs u o)[i] :: List.drop (i + 1) (ycs u o)
      rw [List.getElem_cons_drop, List.take_append_drop]
    have hpre' : pre ++ [(ycs u o).getD i 0] = (ycs u o).take (i + 1) := by
      rw [hpre, List.take_add_one, List.getElem?_eq_getElem hlt, List.getD_eq_getElem?_getD, List.getElem?_eq_getElem hlt]
      rfl
    have hwf : ((ycs u o).getD i 0 / 256 = 4 → 1 ≤ (hgt 0 pre).2) ∧ (5 ≤ (ycs u o).getD i 0 / 256 → 2 ≤ (hgt 0 pre).2) := by
      rw [hsplit] at hv4
      exact wfH_m hv4
    have hmx : (hgt 0 pre).2 ≤ 15 ∧ ((ycs u o).getD i 0 / 256 < 4 → (hgt 0 pre).2 + 1 ≤ 15) := by
      have a := hgt_m (pre := pre) (l := (ycs u o).drop (i + 1)) (c := (ycs u o).getD i 0) (h := 0)
      rw [← hsplit] at a
      have b := hv2.2
      exact ⟨by omega, fun q => by have := a.2 q; omega⟩
    have hgn : (hgt 0 (pre ++ [(ycs u o).getD i 0])).2 = if (ycs u o).getD i 0 / 256 < 4 then (hgt 0 pre).2 + 1 else if (ycs u o).getD i 0 / 256 = 4 then (hgt 0 pre).2 else (hgt 0 pre).2 - 1 := by rw [(hgt_app pre 0 [(ycs u o).getD i 0]).1]; rfl
    generalize (ycs u o).getD i 0 = c at hc hpre' hwf hmx hgn
    obtain ⟨k1, k2, k3, k4, k5⟩ := hc
    have go : ∀ (v' : gW) (t' : Nat), zSk w v' → (hgt 0 (pre ++ [c])).2 = t' → stW u v' s th W t' (pre ++ [c]) → WO u w o s th W (f_Co_wordOf_b231 k (nI o) (nI s) (nI th) (nI W) (nI t') (nI i) v') := by
      intro v' t' a1 a2 a3
      unfold f_Co_wordOf_b231
      simp only [zl_s]
      rw [n_1]
      subst a2
      exact ih m (by omega) (i + 1) (pre ++ [c]) v' (by omega) hpre' a1 a3
    unfold f_Oa_oneOf f_Oa_otherOf f_Oa_kindOf
    rw [zb_s, zb_s, zb_s]
    simp only [zl_s]
    rw [n_sr4 (by omega), n_15 (by omega), n_15 (by omega), n_sr8 (by omega)]
    simp only [n_1]
    have kd : ∀ j, j < 8 → (nI (c / 256) = nI j ↔ c / 256 = j) := fun j hj => n_eq (by omega) (by omega)
    by_cases d0 : c / 256 = 0
    · rw [if_pos ((kd 0 (by decide)).mpr d0), min_d (b := c % 16) hs (by omega), La_seenWord' K hE (by omega) (by omega) hW]
      simp only [zb_s]
      rw [Co_put' (by omega)]
      simp only [zb_s]
      refine go _ ((hgt 0 pre).2 + 1) (hv.tr (zSk.s _ _ _)) (by rw [hgn, if_pos (by omega)]) (stW_push K hst (by omega) (fun b hb hk => ?_))
      rw [d0]
      show _ = decide (_ ∧ _ ∧ _)
      by_cases q : c / 16 % 16 < yD u
      · rw [if_pos q, ySe_b K q (by omega) hb hk]
        rw [Bool.eq_iff_iff, decide_eq_true_iff, decide_eq_true_iff]
        omega
      · rw [if_neg q, bL_0, decide_eq_false (fun z => q z.1)]
    rw [if_neg (fun z => d0 ((kd 0 (by decide)).mp z))]
    by_cases d1 : c / 256 = 1
    · rw [if_pos ((kd 1 (by decide)).mpr d1), La_beforeWord' K hE (by omega) (by omega) hs hW]
      simp only [zb_s]
      rw [Co_put' (by omega)]
      simp only [zb_s]
      refine go _ ((hgt 0 pre).2 + 1) (hv.tr (zSk.s _ _ _)) (by rw [hgn, if_pos (by omega)]) (stW_push K hst (by omega) (fun b hb hk => ?_))
      rw [d1]
      show _ = decide (_ ∧ _ ∧ _ ∧ _ ∧ _)
      by_cases q : c / 16 % 16 < yD u ∧ c % 16 < yD u
      · rw [if_pos q, yBe_b K q.1 q.2 hb hk s hs]
        rw [Bool.eq_iff_iff, decide_eq_true_iff, decide_eq_true_iff]
        omega
      · rw [if_neg q, bL_0, decide_eq_false (fun z => q ⟨z.1, z.2.1⟩)]
    rw [if_neg (fun z => d1 ((kd 1 (by decide)).mp z))]
    by_cases d2 : c / 256 = 2
    · rw [if_pos ((kd 2 (by decide)).mpr d2), La_togetherWord' K hE (by omega) (by omega) hs hW]
      simp only [zb_s]
      rw [Co_put' (by omega)]
      simp only [zb_s]
      refine go _ ((hgt 0 pre).2 + 1) (hv.tr (zSk.s _ _ _)) (by rw [hgn, if_pos (by omega)]) (stW_push K hst (by omega) (fun b hb hk => ?_))
      rw [d2]
      show _ = decide (_ ∧ _ ∧ _ ∧ _ ∧ _)
      by_cases q : c / 16 % 16 < yD u ∧ c % 16 < yD u
      · rw [if_pos q, yTo_b K q.1 q.2 hb hk s hs]
        rw [Bool.eq_iff_iff, decide_eq_true_iff, decide_eq_true_iff]
        omega
      · rw [if_neg q, bL_0, decide_eq_false (fun z => q ⟨z.1, z.2.1⟩)]
    rw [if_neg (fun z => d2 ((kd 2 (by decide)).mp z))]
    by_cases d3 : c / 256 = 3
    · rw [if_pos ((kd 3 (by decide)).mpr d3), n_bit hth (by omega)]
      have hp : ∀ x : Int64, (∀ b, b < 64 → bL x b = th.testBit (c / 16 % 16)) → WO u w o s th W (f_Co_wordOf_b189 k (nI o) (nI s) (nI th) (nI W) (nI ((hgt 0 pre).2 + 1)) (nI i) (nI (hgt 0 pre).2) x v) := by
        intro x hx
        unfold f_Co_wordOf_b189
        rw [Co_put' (by omega)]
        simp only [zb_s]
        refine go _ ((hgt 0 pre).2 + 1) (hv.tr (zSk.s _ _ _)) (by rw [hgn, if_pos (by omega)]) (stW_push K hst (by omega) (fun b hb hk => ?_))
        rw [d3, hx b hb]
        rfl
      cases e : th.testBit (c / 16 % 16) with
      | false =>
        rw [if_pos (show bI false = 0 from rfl)]
        exact hp 0 (fun b hb => by rw [bL_0, e])
      | true =>
        rw [if_neg (show ¬ bI true = 0 by decide)]
        exact hp (-1) (fun b hb => by rw [bL_m1 b hb, e])
    rw [if_neg (fun z => d3 ((kd 3 (by decide)).mp z))]
    by_cases d4 : c / 256 = 4
    · have ht := hwf.1 d4
      rw [if_pos ((kd 4 (by decide)).mpr d4), show (1 : Int32) = nI 1 from rfl, n_sub ht, Co_turn' (by omega)]
      simp only [zb_s]
      refine go _ (hgt 0 pre).2 (hv.tr (zSk.s _ _ _)) (by rw [hgn, if_neg (by omega), if_pos d4]) (fun b hb hk => ?_)
      rw [eEv_app]
      show sOK _ _ (eSt _ c (eEv _ pre []))
      have a := hst b hb hk
      obtain ⟨t, et⟩ : ∃ t, (hgt 0 pre).2 = t + 1 := ⟨(hgt 0 pre).2 - 1, by omega⟩
      rw [et] at a ⊢
      obtain ⟨x, r, e1, e2, e3⟩ := sOK_1 a
      rw [e1]
      unfold eSt
      rw [if_neg (by omega), if_pos d4]
      show sOK _ (t + 1) ((!x) :: r)
      refine ⟨?_, sOK_cg (fun j hj => ?_) e3⟩
      · show bL ((zsL v 74 t _).2 74 t) b = _
        rw [sL_g, if_pos rfl, bL_not _ hb]
        show (!bL (v.2 74 t) b) = _
        rw [show bL (v.2 74 t) b = x from e2]
      · show bL ((zsL v 74 t _).2 74 j) b = _
        rw [sL_g, if_neg (by omega)]
    rw [if_neg (fun z => d4 ((kd 4 (by decide)).mp z))]
    have ht := hwf.2 (by omega)
    obtain ⟨t, et⟩ : ∃ t, (hgt 0 pre).2 = t + 2 := ⟨(hgt 0 pre).2 - 2, by omega⟩
    have em1 : nI (hgt 0 pre).2 + (-1 : Int32) = nI (t + 1) := by rw [et]; exact pk_m1 (t + 1)
    have em2 : nI (t + 1) - (1 : Int32) = nI t := by rw [show (1 : Int32) = nI 1 from rfl, n_sub (by omega)]; rfl
    have fin : ∀ both : Bool, (both = true ↔ c / 256 = 5) → WO u w o s th W (f_Co_wordOf_b228 k (nI o) (nI s) (nI th) (nI W) (nI (t + 1)) (nI i) (nI t) (bI both) v) := by
      intro both hb5
      unfold f_Co_wordOf_b228
      rw [Co_merge' (by omega)]
      simp only [zb_s]
      refine go _ (t + 1) (hv.tr (zSk.s _ _ _)) (by rw [hgn, if_neg (by omega), if_neg d4, et]; rfl) (fun b hb hk => ?_)
      rw [eEv_app]
      show sOK _ _ (eSt _ c (eEv _ pre []))
      have a := hst b hb hk
      rw [et] at a
      obtain ⟨y, r1, e1, e2, e3⟩ := sOK_1 a
      obtain ⟨x, r, e4, e5, e6⟩ := sOK_1 e3
      subst e4
      rw [e1]
      unfold eSt
      have d04 : ¬ c / 256 < 4 := by omega
      rw [if_neg d04, if_neg d4]
      have hval : ∀ z : Bool, (if both = true then x && y else x || y) = z → sOK (fun j => bL ((zsL v 74 t (if both = true then (v.2 74 t) &&& (v.2 74 (t + 1)) else (v.2 74 t) ||| (v.2 74 (t + 1)))).2 74 j) b) (t + 1) (z :: r) := by
        intro z hz
        refine ⟨?_, sOK_cg (fun j hj => ?_) e6⟩
        · show bL ((zsL v 74 t _).2 74 t) b = _
          rw [sL_g, if_pos rfl, ← hz]
          cases both
          · show bL ((v.2 74 t) ||| (v.2 74 (t + 1))) b = (x || y)
            rw [bL_or, show bL (v.2 74 t) b = x from e5, show bL (v.2 74 (t + 1)) b = y from e2]
          · show bL ((v.2 74 t) &&& (v.2 74 (t + 1))) b = (x && y)
            rw [bL_and, show bL (v.2 74 t) b = x from e5, show bL (v.2 74 (t + 1)) b = y from e2]
        · show bL ((zsL v 74 t _).2 74 j) b = _
          rw [sL_g, if_neg (by omega)]
      by_cases d5 : c / 256 = 5
      · rw [if_pos d5]
        exact hval _ (by rw [if_pos (hb5.mpr d5)])
      · rw [if_neg d5]
        exact hval _ (by rw [if_neg (fun z => d5 (hb5.mp z))])
    rw [em1, em2, zb_s]
    by_cases d5 : c / 256 = 5
    · rw [if_pos (show nI (c / 256) = (5 : Int32) from (kd 5 (by decide)).mpr d5)]
      exact fin true ⟨fun _ => d5, fun _ => rfl⟩
    · rw [if_neg (show ¬ nI (c / 256) = (5 : Int32) from fun z => d5 ((kd 5 (by decide)).mp z))]
      exact fin false ⟨fun z => (by cases z), fun z => absurd z d5⟩
theorem Co_wordOf (K : zK u) {w : gW} (h : zEk u w) {o s th W : Nat} (ho : o < yO u) (hs : s < 7) (hth : th < 2 ^ 31) (hW : W < 263) : WO u w o s th W (f_Co_wordOf (nI o) (nI s) (nI th) (nI W) w) := by
  have hl := (K.cl ho).1
  obtain ⟨hv1, hv2, hv3, hv4⟩ := K.cv ho
  have key := zfx_ind (fun _ _ _ _ _ _ _ => none) f_Co_wordOf_b6_s (fun m k => ∀ (i : Nat) (pre : List Nat) (v : gW), i + m = (ycs u o).length → pre = (ycs u o).take i → zSk w v → stW u v s th W (hgt 0 pre).2 pre → WO u w o s th W (k (nI o) (nI s) (nI th) (nI W) (nI (hgt 0 pre).2) (nI i) v)) (fun m k ih => Co_word_step K h ho hs hth hW K.O8 hl hv1 (hv2 0) hv3 (hv4 0) ih) zFU (ycs u o).length (zfu (by omega))
  have k0 := key 0 [] w (by omega) rfl (zSk.rf w) (fun b hb hk => trivial)
  have e0 : nI (hgt 0 []).2 = (0 : Int32) := rfl
  have e1 : nI 0 = (0 : Int32) := rfl
  rw [e0, e1] at k0
  unfold f_Co_wordOf f_Co_wordOf_b6
  exact k0
end
