/-! PURE: the class's sums; odds, mean -/
section
variable {u : gW}
theorem Ro_has' {c k : Nat} (rc : isRow c) (hk : k < 16832) (w : gW) : f_Ro_has c (nI k) w = some (bI (zbt w c k), w) := by
  unfold f_Ro_has
  rw [n_sr6 (by omega), Ro_word' rc (by omega), zb_s, n_63 (by omega), L_bit _ (by omega)]
  show _ = some (bI (bL (w.2 c (k / 64)) (k % 64)), w)
  cases bL (w.2 c (k / 64)) (k % 64) with
  | false => rw [if_neg (show ¬ false = true by decide), if_pos ((lc_eq _ _).mpr rfl)]; rfl
  | true => rw [if_pos (show true = true from rfl), if_neg (fun z => by have := (lc_eq _ _).mp z; exact absurd this (by decide))]; rfl
theorem ypr_0 (k d : Nat) (h : ypr u k d = 0) : ∀ n, ypr u k (d + n) = 0
  | 0 => h
  | n + 1 => by
    show ypr u k (d + n) * _ = 0
    rw [ypr_0 k d h n, Nat.zero_mul]
theorem blk_m {p Z o q : Nat} (hp : p % (q * Z) = 0) : (p + o * Z) % Z = 0 := by
  rw [Nat.add_mul_mod_self_right]
  have e := Nat.div_add_mod p (q * Z)
  rw [hp, Nat.add_zero] at e
  rw [← e, Nat.mul_assoc, Nat.mul_left_comm]
  exact Nat.mul_mod_right Z _
/-- what a row's life counts -/
def fR (u w : gW) (c k : Nat) : Nat := if zbt w c k = true then ypw u k else 0
theorem Ch_sum' (K : zK u) (R : jRec u) {w : gW} (h : zEk u w) {c : Nat} (rc : isRow c) (hD : 0 < yD u) : ∀ (m d fu : Nat), d + m = yD u → m < fu → ∀ (p pr : Nat), p % yZd u d = 0 → p + yZd u d ≤ yT u → (∀ k, p ≤ k → k < p + yZd u d → pr = ypr u k d) → zfx (fun _ _ _ _ _ => none) f_Ch_sum_rec fu c (nI d) (nI p) (lN pr) w = some (lN (sw (fR u w c) p (yZd u d)), w) := by
  have h5 := K.D5
  have hT := K.T7
  intro m
  induction m with
  | zero =>
    intro d fu hd hf p pr hp1 hp2 hpr
    obtain ⟨f', rfl⟩ : ∃ f', fu = f' + 1 := ⟨fu - 1, by omega⟩
    have ed : d = yD u := by omega
    rw [zfx_s]
    generalize zfx (fun _ _ _ _ _ => none) f_Ch_sum_rec f' = Z
    unfold f_Ch_sum_rec
    rw [ed, yZd_e] at hp2 hpr
    have e1 := hpr p (Nat.le_refl _) (by omega)
    rw [La_hasDeed' K h, zb_s, n_zbl0 (by omega) (by omega), if_pos z00, Ro_has' rc (by omega), zb_s, ed, yZd_e]
    show _ = some (lN (0 + fR u w c (p + 0)), w)
    rw [Nat.zero_add, Nat.add_zero]
    unfold fR
    cases zbt w c p with
    | false => rw [if_pos bf0, if_neg (by decide)]; rfl
    | true =>
      rw [if_neg bt0, if_pos rfl, e1]
      rfl
  | succ m ih =>
    intro d fu hd hf p pr hp1 hp2 hpr
    obtain ⟨f', rfl⟩ : ∃ f', fu = f' + 1 := ⟨fu - 1, by omega⟩
    have hdD : d < yD u := by omega
    have eZ := yZd_s K hdD
    have ihf := ih (d + 1) f' (by omega) (by omega)
    rw [zfx_s]
    generalize zfx (fun _ _ _ _ _ => none) f_Ch_sum_rec f' = Z at ihf ⊢
    have o27 := K.o27 hdD
    have z1 : 1 ≤ yZd u (d + 1) := by rw [← eZ.2]; exact (K.st hdD).1
    have z2 : yZd u (d + 1) ≤ 2401 := by rw [← eZ.2]; exact (K.st hdD).2
    have pblk : 0 < yZd u d := by rw [eZ.1]; exact Nat.mul_pos (by omega) z1
    have prle : pr ≤ 59049 := by
      have a := ypr_le K R hD p d (by omega)
      rw [← hpr p (Nat.le_refl _) (by omega)] at a
      have b : 9 ^ d ≤ 9 ^ 5 := Nat.pow_le_pow_right (by decide) (by omega)
      have c : (9 : Nat) ^ 5 = 59049 := by decide
      omega
    unfold f_Ch_sum_rec
    rw [La_hasDeed' K h, zb_s, n_zbl hdD (by omega), if_neg z10]
    have key := zfx_ind (fun _ _ _ _ _ _ _ => none) (f_Ch_sum_b32_s Z) (fun m2 k2 => ∀ o, o + m2 = yo u d → k2 c (nI d) (nI p) (lN pr) (lN (sw (fR u w c) p (o * yZd u (d + 1)))) (nI o) w = some (lN (sw (fR u w c) p (yZd u d)), w)) (fun m2 k2 ih2 o ho => by
      unfold f_Ch_sum_b32_s f_Ch_sum_b99
      by_cases p0 : pr = 0
      · rw [if_pos ((lc_0 (by omega)).mpr p0)]
        have hz : ∀ i, p ≤ i → i < p + yZd u d → fR u w c i = 0 := by
          intro i h1 h2
          unfold fR
          split
          · have a := hpr i h1 h2
            have b := ypr_0 (u := u) i d (by omega) (yD u - d)
            unfold ypw
            rw [show d + (yD u - d) = yD u by omega] at b
            exact b
          · rfl
        have le : o * yZd u (d + 1) ≤ yZd u d := by rw [eZ.1]; exact Nat.mul_le_mul_right _ (by omega)
        rw [sw_0 (fun i h1 h2 => hz i h1 (by omega)), sw_0 hz]
      · rw [if_neg (fun z => p0 ((lc_0 (by omega)).mp z)), La_options' K h hdD, zb_s]
        cases m2 with
        | zero =>
          rw [if_pos (by rw [n_le (by omega) (by omega)]; omega), show o = yo u d by omega, ← eZ.1]
        | succ m2 =>
          have w9 := ywt_9 R hD (d := d) (y := yg u d o) (by omega) (by have := (K.g9 hdD (show o < yo u d by omega)).1; omega)
          rw [if_neg (by rw [n_le (by omega) (by omega)]; omega), La_stride' K h hdD, zb_s, zl_s, Ch_weightOf' K R h hdD (by omega), zb_s, n_1, eZ.2, n_m, nI_add, nI_l (by omega), lN_mul]
          have b1 : o * yZd u (d + 1) + yZd u (d + 1) ≤ yZd u d := by
            rw [eZ.1, ← Nat.succ_mul]
            exact Nat.mul_le_mul_right _ (by omega)
          rw [ihf (p + o * yZd u (d + 1)) _ (blk_m (q := yo u d) (by rw [← eZ.1]; exact hp1)) (by omega) (fun k k1 k2 => ?_)]
          · rw [zb_s, zl_s, zl_s, n_1, lN_add, ← sw_split, ← Nat.succ_mul]
            exact ih2 m2 (by omega) (o + 1) (by omega)
          · show pr * _ = ypr u k d * ywt u d (yg u d (yop u k d))
            rw [yop_b K hdD (show o < yo u d by omega) hp1 k1 (by rw [Nat.succ_mul]; omega), ← hpr k (by omega) (by omega)]) zFU (yo u d) (zfu (by omega))
    have k0 := key 0 (by omega)
    rw [Nat.zero_mul] at k0
    exact k0
/-- deeds that are done -/
def ydo (u : gW) (k d : Nat) : Nat := fb_ct (fun e => !decide (yd u k e = 9)) d
def fS (u w : gW) (c k : Nat) : Nat := if zbt w c k = true then ypw u k * ydo u k (yD u) else 0
theorem ydo_s (k d : Nat) : ydo u k (d + 1) = ydo u k d + (if yd u k d = 9 then 0 else 1) := by
  unfold ydo
  rw [fb_ct_succ]
  by_cases q : yd u k d = 9
  · rw [if_pos q, decide_eq_true q, if_neg (by decide)]
  · rw [if_neg q, decide_eq_false q, if_pos (show (!false) = true from rfl)]
theorem Ch_sumDone' (K : zK u) (R : jRec u) {w : gW} (h : zEk u w) {c : Nat} (rc : isRow c) (hD : 0 < yD u) : ∀ (m d fu : Nat), d + m = yD u → m < fu → ∀ (p pr dn : Nat), p % yZd u d = 0 → p + yZd u d ≤ yT u → (∀ k, p ≤ k → k < p + yZd u d → pr = ypr u k d ∧ dn = ydo u k d) → zfx (fun _ _ _ _ _ _ => none) f_Ch_sumDone_rec fu c (nI d) (nI p) (lN pr) (nI dn) w = some (lN (sw (fS u w c) p (yZd u d)), w) := by
  have h5 := K.D5
  have hT := K.T7
  intro m
  induction m with
  | zero =>
    intro d fu hd hf p pr dn hp1 hp2 hpr
    obtain ⟨f', rfl⟩ : ∃ f', fu = f' + 1 := ⟨fu - 1, by omega⟩
    have ed : d = yD u := by omega
    rw [zfx_s]
    generalize zfx (fun _ _ _ _ _ _ => none) f_Ch_sumDone_rec f' = Z
    unfold f_Ch_sumDone_rec
    rw [ed, yZd_e] at hp2 hpr
    have e1 := hpr p (Nat.le_refl _) (by omega)
    have dle : dn ≤ yD u := by rw [e1.2]; exact fb_ct_le _ _
    rw [La_hasDeed' K h, zb_s, n_zbl0 (by omega) (by omega), if_pos z00, Ro_has' rc (by omega), zb_s, ed, yZd_e, nI_l (by omega), lN_mul]
    show _ = some (lN (0 + fS u w c (p + 0)), w)
    rw [Nat.zero_add, Nat.add_zero]
    unfold fS
    cases zbt w c p with
    | false => rw [if_pos bf0, if_neg (by decide)]; rfl
    | true =>
      rw [if_neg bt0, if_pos rfl, e1.1, e1.2]
      rfl
  | succ m ih =>
    intro d fu hd hf p pr dn hp1 hp2 hpr
    obtain ⟨f', rfl⟩ : ∃ f', fu = f' + 1 := ⟨fu - 1, by omega⟩
    have hdD : d < yD u := by omega
    have eZ := yZd_s K hdD
    have ihf := ih (d + 1) f' (by omega) (by omega)
    rw [zfx_s]
    generalize zfx (fun _ _ _ _ _ _ => none) f_Ch_sumDone_rec f' = Z at ihf ⊢
    have o27 := K.o27 hdD
    have z1 : 1 ≤ yZd u (d + 1) := by rw [← eZ.2]; exact (K.st hdD).1
    have z2 : yZd u (d + 1) ≤ 2401 := by rw [← eZ.2]; exact (K.st hdD).2
    have pblk : 0 < yZd u d := by rw [eZ.1]; exact Nat.mul_pos (by omega) z1
    have prle : pr ≤ 59049 := by
      have a := ypr_le K R hD p d (by omega)
      rw [← (hpr p (Nat.le_refl _) (by omega)).1] at a
      have b : 9 ^ d ≤ 9 ^ 5 := Nat.pow_le_pow_right (by decide) (by omega)
      have c : (9 : Nat) ^ 5 = 59049 := by decide
      omega
    unfold f_Ch_sumDone_rec
    rw [La_hasDeed' K h, zb_s, n_zbl hdD (by omega), if_neg z10]
    have key := zfx_ind (fun _ _ _ _ _ _ _ _ => none) (f_Ch_sumDone_b36_s Z) (fun m2 k2 => ∀ o, o + m2 = yo u d → k2 c (nI d) (nI p) (lN pr) (nI dn) (lN (sw (fS u w c) p (o * yZd u (d + 1)))) (nI o) w = some (lN (sw (fS u w c) p (yZd u d)), w)) (fun m2 k2 ih2 o ho => by
      unfold f_Ch_sumDone_b36_s f_Ch_sumDone_b130
      by_cases p0 : pr = 0
      · rw [if_pos ((lc_0 (by omega)).mpr p0)]
        have hz : ∀ i, p ≤ i → i < p + yZd u d → fS u w c i = 0 := by
          intro i h1 h2
          unfold fS
          split
          · have a := (hpr i h1 h2).1
            have b := ypr_0 (u := u) i d (by omega) (yD u - d)
            unfold ypw
            rw [show d + (yD u - d) = yD u by omega] at b
            rw [b, Nat.zero_mul]
          · rfl
        have le : o * yZd u (d + 1) ≤ yZd u d := by rw [eZ.1]; exact Nat.mul_le_mul_right _ (by omega)
        rw [sw_0 (fun i h1 h2 => hz i h1 (by omega)), sw_0 hz]
      · rw [if_neg (fun z => p0 ((lc_0 (by omega)).mp z)), La_options' K h hdD, zb_s]
        cases m2 with
        | zero =>
          rw [if_pos (by rw [n_le (by omega) (by omega)]; omega), show o = yo u d by omega, ← eZ.1]
        | succ m2 =>
          have g9 := (K.g9 hdD (show o < yo u d by omega)).1
          have w9 := ywt_9 R hD (d := d) (y := yg u d o) (by omega) (by omega)
          rw [if_neg (by rw [n_le (by omega) (by omega)]; omega), La_stride' K h hdD, zb_s, zl_s, La_dayOf' K h hdD (by omega), zb_s, eZ.2, n_m, nI_add]
          have b1 : o * yZd u (d + 1) + yZd u (d + 1) ≤ yZd u d := by
            rw [eZ.1, ← Nat.succ_mul]
            exact Nat.mul_le_mul_right _ (by omega)
          have go : ∀ (x : Int32) (a : Nat), x = nI a → a = (if yg u d o = 9 then 0 else 1) → f_Ch_sumDone_b91 Z k2 c (nI d) (nI p) (lN pr) (nI dn) (lN (sw (fS u w c) p (o * yZd u (d + 1)))) (nI o) (nI (p + o * yZd u (d + 1))) x w = some (lN (sw (fS u w c) p (yZd u d)), w) := by
            intro x a hx ha
            unfold f_Ch_sumDone_b91
            rw [Ch_weightOf' K R h hdD (by omega), zb_s, n_1, hx, nI_add, nI_l (by omega), lN_mul]
            rw [ihf (p + o * yZd u (d + 1)) _ _ (blk_m (q := yo u d) (by rw [← eZ.1]; exact hp1)) (by omega) (fun k k1 k2 => ?_)]
            · rw [zb_s, zl_s, zl_s, n_1, lN_add, ← sw_split, ← Nat.succ_mul]
              exact ih2 m2 (by omega) (o + 1) (by omega)
            · have eo := yop_b K hdD (show o < yo u d by omega) hp1 k1 (by rw [Nat.succ_mul]; omega)
              have eh := hpr k (by omega) (by omega)
              refine ⟨?_, ?_⟩
              · show pr * _ = ypr u k d * ywt u d (yg u d (yop u k d))
                rw [eo, ← eh.1]
              · rw [ydo_s, ← eh.2, ha]
                show _ = dn + (if yg u d (yop u k d) = 9 then 0 else 1)
                rw [eo]
          by_cases q9 : yg u d o = 9
          · rw [if_pos (by rw [q9]; rfl)]
            exact go 0 0 rfl (by rw [if_pos q9])
          · rw [if_neg (show ¬ nI (yg u d o) = (9 : Int32) by rw [show (9 : Int32) = nI 9 from rfl, n_eq (by omega) (by omega)]; exact q9)]
            exact go 1 1 rfl (by rw [if_neg q9])) zFU (yo u d) (zfu (by omega))
    have k0 := key 0 (by omega)
    rw [Nat.zero_mul] at k0
    exact k0
theorem Ch_sumT (K : zK u) (R : jRec u) {w : gW} (h : zEk u w) {c : Nat} (rc : isRow c) (hD : 0 < yD u) : f_Ch_sum c (0 : Int32) (0 : Int32) (1 : Int64) w = some (lN (sw (fR u w c) 0 (yT u)), w) := by
  have eT : yZd u 0 = yT u := yZ_T hD
  have a := Ch_sum' K R h rc hD (yD u) 0 16 (by omega) (by have := K.D5; omega) 0 1 (Nat.zero_mod _) (by rw [eT]; omega) (fun k _ _ => rfl)
  rw [eT] at a
  exact a
theorem Ch_sumDoneT (K : zK u) (R : jRec u) {w : gW} (h : zEk u w) {c : Nat} (rc : isRow c) (hD : 0 < yD u) : f_Ch_sumDone c (0 : Int32) (0 : Int32) (1 : Int64) (0 : Int32) w = some (lN (sw (fS u w c) 0 (yT u)), w) := by
  have eT : yZd u 0 = yT u := yZ_T hD
  have a := Ch_sumDone' K R h rc hD (yD u) 0 16 (by omega) (by have := K.D5; omega) 0 1 0 (Nat.zero_mod _) (by rw [eT]; omega) (fun k _ _ => ⟨rfl, rfl⟩)
  rw [eT] at a
  exact a
/-- of the lives that fit -/
def fB (u : gW) (k : Nat) : Nat := if yfi u k = true then ypw u k else 0
def fA (u : gW) (o s k : Nat) : Nat := if yYes u o s k = true then ypw u k else 0
def fM (u : gW) (k : Nat) : Nat := if yfi u k = true then ypw u k * ydo u k (yD u) else 0
theorem fR_B (C : jCou u) {w : gW} (h : zE u w) (K : zK u) : sw (fR u w 76) 0 (yT u) = sw (fB u) 0 (yT u) := sw_cg (fun i _ h2 => by
  have := K.T7
  unfold fR fB
  rw [fit_b C h (by omega), decide_eq_true (by omega), Bool.true_and])
theorem fS_M (C : jCou u) {w : gW} (h : zE u w) (K : zK u) : sw (fS u w 76) 0 (yT u) = sw (fM u) 0 (yT u) := sw_cg (fun i _ h2 => by
  have := K.T7
  unfold fS fM
  rw [fit_b C h (by omega), decide_eq_true (by omega), Bool.true_and])
theorem sw_T (K : zK u) {f : Nat → Nat} (hf : ∀ k, f k ≤ 300000) : sw f 0 (yT u) < 1000000000000 := by
  have a := sw_le (a := 0) hf (yT u)
  have b : yT u * 300000 ≤ 16807 * 300000 := Nat.mul_le_mul_right _ K.T7
  omega
theorem fB_le (K : zK u) (R : jRec u) (hD : 0 < yD u) (k : Nat) : fB u k ≤ 300000 := by
  have := ypw_le K R hD k
  unfold fB
  split <;> omega
theorem fA_le (K : zK u) (R : jRec u) (hD : 0 < yD u) (o s k : Nat) : fA u o s k ≤ 300000 := by
  have := ypw_le K R hD k
  unfold fA
  split <;> omega
theorem fM_le (K : zK u) (R : jRec u) (hD : 0 < yD u) (k : Nat) : fM u k ≤ 300000 := by
  have a := ypw_le K R hD k
  have b : ydo u k (yD u) ≤ 5 := Nat.le_trans (fb_ct_le _ _) K.D5
  have c : ypw u k * ydo u k (yD u) ≤ 59049 * 5 := Nat.mul_le_mul a b
  unfold fM
  split <;> omega
theorem hRow_104 : hRow 104 := ⟨row_104, by decide, by decide, rfl⟩
def rOd (u : gW) (o s t : Nat) : Int64 := frc (sw (fA u o s) 0 (yT u)) (sw (fB u) 0 (yT u)) t
theorem X_oddsL (J : zJ u) {w : gW} (h : zE u w) {o s t : Nat} (ho : o < yO u) (hs : s < 7) (ht : t < 2) (hD : 0 < yD u) : ∃ v : gW, f_Ch_oddsOf (nI o) (nI s) (nI t) w = some (rOd u o s t, v) ∧ zE u v := by
  have K := J.K
  have hT := K.T7
  have hn := nW_le K
  unfold f_Ch_oddsOf f_Co_fitting
  obtain ⟨v1, e1, f1, r1⟩ := Co_hear' K J.C h ho hs hRow_104
  rw [e1, zb_s, zb_s]
  have h1 : zE u v1 := zRw.e h f1 (fun a q => by
    rw [Bool.or_eq_true, beq_iff_eq, beq_iff_eq] at q
    rcases q with q | q <;> subst q <;> rfl)
  have key := zfx_ind (fun _ _ _ _ => none) f_Ch_oddsOf_b25_s (fun m kk => ∀ W v, W + m = 263 → zRc 104 v1 v → (∀ k, k < 64 * W → k < yT u → zbt v 104 k = yYes u o s k) → (∀ V, W ≤ V → v.2 104 V = v1.2 104 V) → ∃ v' : gW, kk (nI t) 76 (nI W) v = some (rOd u o s t, v') ∧ zE u v') (fun m kk ih W v hW hv hb hr => by
    unfold f_Ch_oddsOf_b25_s
    have hE : zE u v := hv.e rfl h1
    cases m with
    | zero =>
      have eW : W = 263 := by omega
      rw [if_pos (by rw [show (263 : Int32) = nI 263 from rfl, n_le (by omega) (by omega)]; omega), Ch_sumT K J.R hE.k row_104 hD, zb_s, Ch_sumT K J.R hE.k row_76 hD, zb_s, fR_B J.C hE K]
      have eA : sw (fR u v 104) 0 (yT u) = sw (fA u o s) 0 (yT u) := sw_cg (fun i _ h2 => by
        unfold fR fA
        rw [hb i (by omega) (by omega)])
      rw [eA, Ch_plain' (sw_T K (fA_le K J.R hD o s)) (sw_T K (fB_le K J.R hD)) ht, zb_s]
      exact ⟨v, rfl, hE⟩
    | succ m =>
      have q2 : inb (nI W) 263 := z_inbn (by omega) (by decide)
      have q1 : ¬ (263 : Int32) ≤ nI W := by rw [show (263 : Int32) = nI 263 from rfl, n_le (by omega) (by omega)]; omega
      rw [if_neg q1, if_pos q2, Ro_word' row_76 (by omega), zb_s, if_pos q2, zl_s, zl_s, n_1, z_ix (by omega)]
      refine ih m (by omega) (W + 1) _ (by omega) (hv.s _ _) (bits_s (fun k hk hkT => ?_) (fun b hb2 hkT => ?_)) (fun V hV => ?_)
      · show bL ((zsL v 104 W _).2 104 (k / 64)) (k % 64) = _
        rw [rw_g, if_neg (by omega)]
        exact hb k hk hkT
      · have kw := nW_ge hkT
        rw [zbt_w hb2, rw_g, if_pos ⟨rfl, rfl⟩, bL_and, hr W (Nat.le_refl _), fit_w J.C hE (by omega) hb2, ← zbt_w hb2, r1 _ kw]
        unfold yhr yYes
        rw [decide_eq_true hkT, Bool.true_and, Bool.true_and]
        cases ef : yfi u (64 * W + b) with
        | false => rw [Bool.and_false, Bool.false_and]
        | true => rw [yfi_po ef, Bool.true_and, Bool.and_true]
      · rw [rw_g, if_neg (by omega)]
        exact hr V (by omega)) zFU 263 (zfu (by omega))
  exact key 0 v1 (by omega) (zRc.rf _ _) (fun k hk => absurd hk (by omega)) (fun V _ => rfl)
theorem M_oddsL (J : zJ u) {w : gW} (h : zE u w) {o s t : Nat} (ho : o < yO u) (hs : s < 7) (ht : t < 2) (hD : 0 < yD u) : ∃ v : gW, f_M_odds_b44 (nI o) (nI s) (nI t) (0 : Int64) (0 : Int64) (0 : Int32) w = some (rOd u o s t, v) ∧ zE u v := by
  have K := J.K
  have hT := K.T7
  have key := zfx_ind (fun _ _ _ _ _ _ _ => none) f_M_odds_b44_s (fun m kk => ∀ k v, k + m = yT u → zE u v → ∃ v' : gW, kk (nI o) (nI s) (nI t) (lN (sw (fA u o s) 0 k)) (lN (sw (fB u) 0 k)) (nI k) v = some (rOd u o s t, v') ∧ zE u v') (fun m kk ih k v hk hv => by
    unfold f_M_odds_b44_s
    rw [hv.k.i rfl, K.L.2.2.2.2.1]
    cases m with
    | zero =>
      rw [if_pos (by rw [n_le (by omega) (by omega)]; omega), show k = yT u by omega, M_partOf' (sw_T K (fA_le K J.R hD o s)) (sw_T K (fB_le K J.R hD)) ht, zb_s]
      exact ⟨v, rfl, hv⟩
    | succ m =>
      rw [if_neg (by rw [n_le (by omega) (by omega)]; omega), if_pos (z_inbn (by omega) (by decide))]
      obtain ⟨v3, l3, m3, h3, F3⟩ := M_lf K J.R hv (k := k) (by omega)
      rw [F3]
      have next : ∀ v2 a b, zE u v2 → a = fA u o s k → b = fB u k → ∃ v' : gW, f_M_odds_b105 kk (nI o) (nI s) (nI t) (lN (sw (fA u o s) 0 k + a)) (lN (sw (fB u) 0 k + b)) (nI k) v2 = some (rOd u o s t, v') ∧ zE u v' := by
        intro v2 a b a1 a2 a3
        unfold f_M_odds_b105
        rw [zl_s, n_1, a2, a3]
        have := ih m (by omega) (k + 1) v2 (by omega) a1
        rw [show sw (fA u o s) 0 (k + 1) = sw (fA u o s) 0 k + fA u o s (0 + k) from rfl, show sw (fB u) 0 (k + 1) = sw (fB u) 0 k + fB u (0 + k) from rfl, Nat.zero_add] at this
        exact this
      cases ef : yfi u k with
      | false =>
        rw [if_pos bf0]
        exact next v3 0 0 h3 (by unfold fA yYes; rw [ef]; rfl) (by unfold fB; rw [ef]; rfl)
      | true =>
        rw [if_neg bt0, M_weight' K J.R h3.k l3 hD, zb_s, zl_s, lN_add, M_all K h3.k, zb_s]
        obtain ⟨v4, e4, h4, l4, -⟩ := M_keepsE K h3 l3 ho hs
        rw [e4, zb_s]
        cases eh : yH u o s (yal u) k with
        | false =>
          rw [if_pos bf0]
          exact next v4 0 _ h4 (by unfold fA yYes; rw [ef, eh]; rfl) (by unfold fB; rw [ef]; rfl)
        | true =>
          rw [if_neg bt0, M_weight' K J.R h4.k l4 hD, zb_s, zl_s, lN_add]
          exact next v4 _ _ h4 (by unfold fA yYes; rw [ef, eh]; rfl) (by unfold fB; rw [ef]; rfl)) zFU (yT u) (zfu (by omega))
  exact key 0 w (by omega) h
theorem q_odds (J : zJ u) (a b c : Int32) : zQ u (f_X_odds a b c) (f_M_odds a b c) := by
  have K := J.K
  have h6 := K.Y6
  cases g1 : gO u a with
  | false =>
    refine ⟨-1, fun v hv => ⟨v, ?_, hv⟩, fun v hv => ⟨_, ?_, hv.m0⟩⟩
    · unfold f_X_odds
      rw [X_isSuch' K hv.k, zb_s, g1, Bool.false_and, if_pos bf0]
      rfl
    · unfold f_M_odds
      rw [zl_s, M_isOathB K hv.m0.k, zb_s, g1, if_pos bf0]
      rfl
  | true => cases g2 : gD u b with
    | false =>
      refine ⟨-1, fun v hv => ⟨v, ?_, hv⟩, fun v hv => ⟨_, ?_, hv.m0⟩⟩
      · unfold f_X_odds
        rw [X_isSuch' K hv.k, zb_s, g1, g2, Bool.and_false, if_pos bf0]
        rfl
      · unfold f_M_odds
        rw [zl_s, M_isOathB K hv.m0.k, zb_s, g1, if_neg bt0, M_isSeenDay' K hv.m0.k, zb_s, g2, if_pos bf0]
        rfl
    | true =>
      by_cases q2 : 0 ≤ c.toInt ∧ c.toInt < (2 : Nat)
      · obtain ⟨o, rfl, ho⟩ := gO_t g1
        obtain ⟨s, rfl, hs, hD⟩ := gD_t g2
        obtain ⟨ea, ha⟩ := z_nIx q2
        generalize ix c = t at ea ha
        subst ea
        have hq3 : (0 : Int) ≤ (nI t).toInt ∧ (nI t).toInt < ((2 : Nat) : Int) := q2
        refine ⟨rOd u o s t, fun v hv => ?_, fun v hv => ?_⟩
        · unfold f_X_odds
          rw [X_isSuch' K hv.k, zb_s, g1, g2, Bool.and_true, if_neg bt0, X_is01, zb_s, decide_eq_true q2, if_neg bt0]
          obtain ⟨v1, e1, f1⟩ := X_oddsL J hv ho (s := s) (by omega) ha hD
          exact ⟨v1, by rw [e1, zb_s], f1⟩
        · unfold f_M_odds
          rw [zl_s, M_isOathB K hv.m0.k, zb_s, g1, if_neg bt0, M_isSeenDay' K hv.m0.k, zb_s, g2, if_neg bt0, isIn_lit (nI t) 2 rfl, zb_s, decide_eq_true hq3, if_neg bt0]
          exact M_oddsL J hv.m0 ho (s := s) (by omega) ha hD
      · refine ⟨-1, fun v hv => ⟨v, ?_, hv⟩, fun v hv => ⟨_, ?_, hv.m0⟩⟩
        · unfold f_X_odds
          rw [X_isSuch' K hv.k, zb_s, g1, g2, Bool.and_true, if_neg bt0, X_is01, zb_s, decide_eq_false q2, if_pos bf0]
          rfl
        · unfold f_M_odds
          rw [zl_s, M_isOathB K hv.m0.k, zb_s, g1, if_neg bt0, M_isSeenDay' K hv.m0.k, zb_s, g2, if_neg bt0, isIn_lit c 2 rfl, zb_s, decide_eq_false q2, if_pos bf0]
          rfl
/-- the mean -/
def rMe (u : gW) (t : Nat) : Int64 := frc (sw (fM u) 0 (yT u)) (sw (fB u) 0 (yT u)) t
theorem M_doneMany' (K : zK u) {w : gW} (h : zEk u w) {k : Nat} (hl : lvL u k w) : f_M_doneMany w = some (nI (ydo u k (yD u)), w) := by
  have h5 := K.D5
  have key := zfx_ind (fun _ _ _ => none) f_M_doneMany_b4_s (fun m kk => ∀ d, d + m = yD u → kk (nI (ydo u k d)) (nI d) w = some (nI (ydo u k (yD u)), w)) (fun m kk ih d hd => by
    unfold f_M_doneMany_b4_s
    rw [h.i rfl, K.C.2.1.2]
    cases m with
    | zero =>
      rw [if_pos (by rw [n_le (by omega) (by omega)]; omega), show yD u = d by omega]
    | succ m =>
      have g9 := (K.d9 (d := d) (by omega) k).1
      rw [if_neg (by rw [n_le (by omega) (by omega)]; omega), if_pos (z_inbn (by omega) (by decide)), z_ix (by omega), hl d (by omega)]
      have go : ∀ (x : Int32) (a : Nat), x = nI a → a = (if yd u k d = 9 then 0 else 1) → f_M_doneMany_b29 kk (nI d) (nI (ydo u k d)) x w = some (nI (ydo u k (yD u)), w) := by
        intro x a hx ha
        unfold f_M_doneMany_b29
        rw [zl_s, zl_s, n_1, hx, nI_add, ha, ← ydo_s]
        exact ih m (by omega) (d + 1) (by omega)
      by_cases q9 : yd u k d = 9
      · rw [if_pos (by rw [q9]; rfl)]
        exact go 0 0 rfl (by rw [if_pos q9])
      · rw [if_neg (show ¬ nI (yd u k d) = (9 : Int32) by rw [show (9 : Int32) = nI 9 from rfl, n_eq (by omega) (by omega)]; exact q9)]
        exact go 1 1 rfl (by rw [if_neg q9])) zFU (yD u) (zfu (by omega))
  exact key 0 (by omega)
theorem X_meanL (J : zJ u) {w : gW} (h : zE u w) {t : Nat} (ht : t < 2) (hD : 0 < yD u) : f_Ch_meanDone (nI t) w = some (rMe u t, w) := by
  have K := J.K
  unfold f_Ch_meanDone f_Co_fitting
  rw [zb_s, Ch_sumDoneT K J.R h.k row_76 hD, zb_s, zb_s, Ch_sumT K J.R h.k row_76 hD, zb_s, fR_B J.C h K, fS_M J.C h K, Ch_plain' (sw_T K (fM_le K J.R hD)) (sw_T K (fB_le K J.R hD)) ht, zb_s]
  rfl
theorem M_meanL (J : zJ u) {w : gW} (h : zE u w) {t : Nat} (ht : t < 2) (hD : 0 < yD u) : ∃ v : gW, f_M_mean_b34 (nI t) (0 : Int64) (0 : Int64) (0 : Int32) w = some (rMe u t, v) ∧ zE u v := by
  have K := J.K
  have hT := K.T7
  have key := zfx_ind (fun _ _ _ _ _ => none) f_M_mean_b34_s (fun m kk => ∀ k v, k + m = yT u → zE u v → ∃ v' : gW, kk (nI t) (lN (sw (fM u) 0 k)) (lN (sw (fB u) 0 k)) (nI k) v = some (rMe u t, v') ∧ zE u v') (fun m kk ih k v hk hv => by
    unfold f_M_mean_b34_s
    rw [hv.k.i rfl, K.L.2.2.2.2.1]
    cases m with
    | zero =>
      rw [if_pos (by rw [n_le (by omega) (by omega)]; omega), show k = yT u by omega, M_partOf' (sw_T K (fM_le K J.R hD)) (sw_T K (fB_le K J.R hD)) ht, zb_s]
      exact ⟨v, rfl, hv⟩
    | succ m =>
      rw [if_neg (by rw [n_le (by omega) (by omega)]; omega), if_pos (z_inbn (by omega) (by decide))]
      obtain ⟨v3, l3, m3, h3, F3⟩ := M_lf K J.R hv (k := k) (by omega)
      rw [F3]
      have next : ∀ v2 a b, zE u v2 → a = fM u k → b = fB u k → ∃ v' : gW, f_M_mean_b86 kk (nI t) (lN (sw (fM u) 0 k + a)) (lN (sw (fB u) 0 k + b)) (nI k) v2 = some (rMe u t, v') ∧ zE u v' := by
        intro v2 a b a1 a2 a3
        unfold f_M_mean_b86
        rw [zl_s, n_1, a2, a3]
        have := ih m (by omega) (k + 1) v2 (by omega) a1
        rw [show sw (fM u) 0 (k + 1) = sw (fM u) 0 k + fM u (0 + k) from rfl, show sw (fB u) 0 (k + 1) = sw (fB u) 0 k + fB u (0 + k) from rfl, Nat.zero_add] at this
        exact this
      cases ef : yfi u k with
      | false =>
        rw [if_pos bf0]
        exact next v3 0 0 h3 (by unfold fM; rw [ef]; rfl) (by unfold fB; rw [ef]; rfl)
      | true =>
        have dle : ydo u k (yD u) ≤ 5 := Nat.le_trans (fb_ct_le _ _) K.D5
        rw [if_neg bt0, M_weight' K J.R h3.k l3 hD, zb_s, zl_s, lN_add, M_weight' K J.R h3.k l3 hD, zb_s, M_doneMany' K h3.k l3, zb_s, zl_s, nI_l (by omega), lN_mul, lN_add]
        exact next v3 _ _ h3 (by unfold fM; rw [ef]; rfl) (by unfold fB; rw [ef]; rfl)) zFU (yT u) (zfu (by omega))
  exact key 0 w (by omega) h
theorem q_mean (J : zJ u) (a : Int32) : zQ u (f_X_mean a) (f_M_mean a) := by
  have K := J.K
  have h5 := K.D5
  by_cases q : 0 < yD u
  · by_cases q2 : 0 ≤ a.toInt ∧ a.toInt < (2 : Nat)
    · obtain ⟨ea, ha⟩ := z_nIx q2
      generalize ix a = t at ea ha
      subst ea
      have hq3 : (0 : Int) ≤ (nI t).toInt ∧ (nI t).toInt < ((2 : Nat) : Int) := q2
      refine ⟨rMe u t, fun v hv => ⟨v, ?_, hv⟩, fun v hv => ?_⟩
      · unfold f_X_mean
        rw [La_isThere' K hv.k, zb_s, decide_eq_true q, if_neg bt0, X_is01, zb_s, decide_eq_true q2, if_neg bt0, X_meanL J hv ha q, zb_s]
      · unfold f_M_mean
        rw [zl_s, there21 K hv.m0, if_neg (nI_ne0 q (by omega)), isIn_lit (nI t) 2 rfl, zb_s, decide_eq_true hq3, if_neg bt0]
        exact M_meanL J hv.m0 ha q
    · refine ⟨-1, fun v hv => ⟨v, ?_, hv⟩, fun v hv => ⟨_, ?_, hv.m0⟩⟩
      · unfold f_X_mean
        rw [La_isThere' K hv.k, zb_s, decide_eq_true q, if_neg bt0, X_is01, zb_s, decide_eq_false q2, if_pos bf0]
        rfl
      · unfold f_M_mean
        rw [zl_s, there21 K hv.m0, if_neg (nI_ne0 q (by omega)), isIn_lit a 2 rfl, zb_s, decide_eq_false q2, if_pos bf0]
        rfl
  · refine ⟨-1, fun v hv => ⟨v, ?_, hv⟩, fun v hv => ⟨_, ?_, hv.m0⟩⟩
    · unfold f_X_mean
      rw [La_isThere' K hv.k, zb_s, decide_eq_false q, if_pos bf0]
      rfl
    · unfold f_M_mean
      rw [zl_s, there21 K hv.m0, if_pos (by rw [show yD u = 0 by omega]; rfl)]
      rfl
end
