/-! PURE: numbers and places of lives; how many bits, which -/
section
variable {u : gW}
theorem La_trait' (K : zK u) {w : gW} (h : zEk u w) {d j : Nat} (hd : d < yD u) (hj : j < 3) : f_La_trait (nI d) (nI j) w = some (u.1 20 (3 * d + j), w) := by
  have h5 := K.D5
  unfold f_La_trait
  have e : nI d * (3 : Int32) + nI j = nI (3 * d + j) := by rw [show (3 : Int32) = nI 3 from rfl, pk_mul, nI_add, Nat.mul_comm]
  rw [e, zl_s, if_neg (nI_pos (by omega)), if_neg (by rw [n_le (by omega) (by omega)]; omega), if_pos (z_inbn (by omega) (by decide)), z_ix (by omega), h.i rfl]
theorem La_from (K : zK u) {w : gW} (h : zEk u w) {d : Nat} (hd : d < yD u) : f_La_trait (nI d) (1 : Int32) w = some (nI (yf u d), w) := by
  rw [show f_La_trait (nI d) (1 : Int32) w = _ from La_trait' K h (j := 1) hd (by decide), (K.L.1 d hd).2.1, (K.L.2.1 d hd).2.1]
theorem La_last (K : zK u) {w : gW} (h : zEk u w) {d : Nat} (hd : d < yD u) : f_La_trait (nI d) (2 : Int32) w = some (nI (yl u d), w) := by
  rw [show f_La_trait (nI d) (2 : Int32) w = _ from La_trait' K h (j := 2) hd (by decide), (K.L.1 d hd).2.2, (K.L.2.1 d hd).2.2.1]
theorem La_doer (K : zK u) {w : gW} (h : zEk u w) {d : Nat} (hd : d < yD u) : f_La_trait (nI d) (0 : Int32) w = some (nI (yr u d), w) := by
  rw [show f_La_trait (nI d) (0 : Int32) w = _ from La_trait' K h (j := 0) hd (by decide), Nat.add_zero, (K.L.1 d hd).1, (K.L.2.1 d hd).1]
theorem La_dayOf' (K : zK u) {w : gW} (h : zEk u w) {d o : Nat} (hd : d < yD u) (ho : o < 100) : f_La_dayOf (nI d) (nI o) w = some (nI (yg u d o), w) := by
  have a := K.dd hd
  unfold f_La_dayOf
  rw [La_from K h hd, zb_s, nI_add, zl_s, La_last K h hd, zb_s]
  unfold yg yo
  by_cases q : o + 1 < yl u d + 2 - yf u d
  · rw [if_neg (by rw [n_lt (by omega) (by omega)]; omega), if_pos q]
  · rw [if_pos (by rw [n_lt (by omega) (by omega)]; omega), if_neg q]; rfl
theorem La_options' (K : zK u) {w : gW} (h : zEk u w) {d : Nat} (hd : d < yD u) : f_La_options (nI d) w = some (nI (yo u d), w) := by
  have h5 := K.D5
  unfold f_La_options
  rw [La_hasDeed' K h, zb_s, n_zbl hd (by omega), if_neg z10, if_pos (z_inbn (by omega) (by decide)), z_ix (by omega), h.i rfl, (K.L.2.2.1 d hd).1]
theorem La_stride' (K : zK u) {w : gW} (h : zEk u w) {d : Nat} (hd : d < yD u) : f_La_stride (nI d) w = some (nI (yst u d), w) := by
  have h5 := K.D5
  unfold f_La_stride
  rw [La_hasDeed' K h, zb_s, n_zbl hd (by omega), if_neg z10, if_pos (z_inbn (by omega) (by decide)), z_ix (by omega), h.i rfl, (K.L.2.2.1 d hd).2]
theorem La_dayAt' (K : zK u) {w : gW} (h : zEk u w) {k d : Nat} (hd : d < yD u) (hk : k < 20000) : f_La_dayAt (nI k) (nI d) w = some (nI (yd u k d), w) := by
  have h5 := K.D5
  have hs := K.st hd
  have ho := K.o27 hd
  have hq : k / yst u d ≤ k := Nat.div_le_self _ _
  have hin : inb (nI d) 5 := z_inbn (by omega) (by decide)
  unfold f_La_dayAt
  rw [La_hasDeed' K h, zb_s, n_zbl hd (by omega), if_neg z10, if_neg (nI_pos (by omega)), z_ix (by omega), h.i (a := 22) rfl, h.i (a := 21) rfl, (K.L.2.2.1 d hd).1, (K.L.2.2.1 d hd).2]
  have q1 : ¬ nI (yst u d) ≤ 0 := nI_nle (by omega) (by omega)
  have q2 : 0 < nI (yo u d) := by rw [show (0 : Int32) = nI 0 from rfl, n_lt (by omega) (by omega)]; omega
  have q3 : ¬ nI (yst u d) = 0 := nI_ne0 (by omega) (by omega)
  have q4 : ¬ nI (yo u d) = 0 := nI_ne0 (by omega) (by omega)
  simp only [if_pos hin, if_neg q1, if_pos q2]
  rw [if_pos q3, if_pos q4, pk_div (by omega) (by omega) (by omega), pk_rem (by omega) (by omega) (by omega)]
  have hop : k / yst u d % yo u d < yo u d := Nat.mod_lt _ (by omega)
  rw [La_dayOf' K h hd (by omega), zb_s]
  rfl
theorem La_total' (K : zK u) {w : gW} (h : zEk u w) : w.1 19 6 = nI (yT u) := (h.i rfl).trans K.L.2.2.2.1
theorem La_numberAt' (K : zK u) {w : gW} (h : zEk u w) {k : Nat} (hk : k < yT u) : f_La_numberAt (nI k) w = some (nI (yN u k), w) := by
  have h5 := K.D5
  have ht := K.T7
  unfold f_La_numberAt
  rw [if_neg (nI_pos (by omega)), La_total' K h, if_pos (by rw [n_lt (by omega) (by omega)]; exact hk)]
  have key := zfx_ind (fun _ _ _ _ => none) f_La_numberAt_b18_s (fun m kk => ∀ d, d + m = yD u → kk (nI k) (nI (yn u k d)) (nI d) w = some (nI (yN u k), w)) (fun m kk ih d hd => by
    unfold f_La_numberAt_b18_s
    rw [K.ht h]
    cases m with
    | zero =>
      rw [if_pos (by rw [n_le (by omega) (by omega)]; omega), show d = yD u by omega]
      rfl
    | succ m =>
      rw [if_neg (by rw [n_le (by omega) (by omega)]; omega), La_dayAt' K h (by omega) (by omega), zb_s, zl_s, zl_s, n_1, show (10 : Int32) = nI 10 from rfl, pk_mul, nI_add]
      exact ih m (by omega) (d + 1) (by omega)) zFU (yD u) (zfu (by omega))
  exact key 0 (by omega)
theorem La_number_m1 (w : gW) : f_La_numberAt (-1) w = some (-1, w) := by
  unfold f_La_numberAt
  rw [if_pos (by decide)]
/-- ranks: the deeds from d on -/
theorem yZ_s (K : zK u) {d : Nat} (hd : d < yD u) : yZ u (yD u - d) d = yo u d * yst u d := by
  unfold yst
  rw [show yD u - d = (yD u - 1 - d) + 1 by omega]
  rfl
theorem yZ_T (h : 0 < yD u) : yZ u (yD u - 0) 0 = yT u := by
  unfold yT
  rw [if_neg (by omega), Nat.sub_zero]
theorem yst_Z {d : Nat} : yst u d = yZ u (yD u - (d + 1)) (d + 1) := by
  unfold yst
  rw [show yD u - 1 - d = yD u - (d + 1) by omega]
theorem mod_Z (K : zK u) {d : Nat} (hd : d < yD u) (k : Nat) : k % yZ u (yD u - d) d = yop u k d * yst u d + k % yst u d := by
  rw [yZ_s K hd]
  unfold yop
  have h1 := Nat.div_add_mod (k % (yo u d * yst u d)) (yst u d)
  rw [Nat.mod_mul_left_div_self, Nat.mod_mul_left_mod] at h1
  rw [Nat.mul_comm (k / yst u d % yo u d)]
  exact h1.symm
theorem yg_inj (K : zK u) {d a b : Nat} (hd : d < yD u) (ha : a < yo u d) (hb : b < yo u d) (h : yg u d a = yg u d b) : a = b := by
  have q := K.dd hd
  unfold yg yo at *
  split at h <;> split at h <;> omega
/-- the option of a day, or none -/
def yov (u : gW) (d y : Nat) : Option Nat := if y = 9 then some (yo u d - 1) else if yf u d ≤ y ∧ y ≤ yl u d then some (y - yf u d) else none
theorem yov_s (K : zK u) {d y o : Nat} (hd : d < yD u) (h : yov u d y = some o) : o < yo u d ∧ yg u d o = y := by
  have q := K.dd hd
  unfold yov at h
  unfold yg yo at *
  by_cases h1 : y = 9
  · rw [if_pos h1] at h
    cases h
    rw [if_neg (by omega)]
    omega
  · rw [if_neg h1] at h
    by_cases h2 : yf u d ≤ y ∧ y ≤ yl u d
    · rw [if_pos h2] at h
      cases h
      rw [if_pos (by omega)]
      omega
    · rw [if_neg h2] at h
      cases h
theorem yov_n (K : zK u) {d y k : Nat} (hd : d < yD u) (h : yov u d y = none) : yd u k d ≠ y := by
  have q := K.dd hd
  have ho := K.op hd k
  unfold yov at h
  unfold yd yg
  unfold yo at *
  by_cases h1 : y = 9
  · rw [if_pos h1] at h; cases h
  · rw [if_neg h1] at h
    by_cases h2 : yf u d ≤ y ∧ y ≤ yl u d
    · rw [if_pos h2] at h; cases h
    · split <;> omega
theorem La_optionOf' (K : zK u) {w : gW} (h : zEk u w) {d y : Nat} (hd : d < yD u) (hy : y < 10) : f_La_optionOf (nI d) (nI y) w = some ((match yov u d y with
    | some o => nI o
    | none => -1), w) := by
  have q := K.dd hd
  unfold f_La_optionOf yov
  by_cases h1 : y = 9
  · rw [if_pos (by rw [h1]; rfl), La_options' K h hd, zb_s, if_pos h1, show (1 : Int32) = nI 1 from rfl, n_sub (by unfold yo; omega)]
  · have h1' : ¬ nI y = (9 : Int32) := by rw [show (9 : Int32) = nI 9 from rfl, n_eq (by omega) (by omega)]; exact h1
    rw [if_neg h1', La_from K h hd, zb_s, if_neg h1]
    by_cases h2 : yf u d ≤ y ∧ y ≤ yl u d
    · rw [if_neg (by rw [n_lt (by omega) (by omega)]; omega), La_last K h hd, zb_s, if_neg (by rw [n_lt (by omega) (by omega)]; omega), if_pos h2, n_sub h2.1]
    · rw [if_neg h2]
      by_cases h3 : y < yf u d
      · rw [if_pos (by rw [n_lt (by omega) (by omega)]; exact h3)]
      · rw [if_neg (by rw [n_lt (by omega) (by omega)]; exact h3), La_last K h hd, zb_s, if_pos (by rw [n_lt (by omega) (by omega)]; omega)]
theorem La_placeOf' (K : zK u) {w : gW} (h : zEk u w) (a : Int32) : (∃ k, k < yT u ∧ a = nI (yN u k) ∧ f_La_placeOf a w = some (nI k, w)) ∨ ((∀ k, k < yT u → a ≠ nI (yN u k)) ∧ f_La_placeOf a w = some (-1, w)) := by
  have h5 := K.D5
  have ht := K.T7
  unfold f_La_placeOf
  by_cases c0 : a < 0
  · rw [if_pos c0]
    exact Or.inr ⟨fun k hk e => by rw [e] at c0; exact nI_pos (by have := yN_lt K k; omega) c0, rfl⟩
  obtain ⟨n, hn, rfl⟩ := nI_of c0
  rw [if_neg c0, K.ht h]
  by_cases c1 : yD u = 0
  · rw [if_pos (by rw [c1]; rfl)]
    refine Or.inr ⟨fun k hk => ?_, rfl⟩
    have := zK.T0 (show 0 < yT u by omega)
    omega
  have z1 : ¬ nI (yD u) = 0 := nI_ne0 (by omega) (by omega)
  rw [if_neg z1, zl_s]
  have hnum : ∀ k, (nI n = nI (yN u k)) ↔ n = yN u k := fun k => n_eq hn (by have := yN_lt K k; omega)
  have key := zfx_ind (fun _ _ _ _ => none) f_La_placeOf_b25_s (fun m kk => ∀ p r, m ≤ yD u → r < 2 ^ 31 → p < yZ u (yD u - m) m → (∀ k, k < yT u → (n = yN u k ↔ r = yn u k m ∧ k % yZ u (yD u - m) m = p)) → (∃ k, k < yT u ∧ nI n = nI (yN u k) ∧ kk (nI p) (nI r) (nI m - 1) w = some (nI k, w)) ∨ ((∀ k, k < yT u → nI n ≠ nI (yN u k)) ∧ kk (nI p) (nI r) (nI m - 1) w = some (-1, w))) (fun m kk ih p r hm hr hp hh => by
    unfold f_La_placeOf_b25_s
    cases m with
    | zero =>
      rw [if_pos (show nI 0 - (1 : Int32) < 0 by decide)]
      rw [yZ_T (by omega)] at hp
      have hk0 : ∀ k, k < yT u → (n = yN u k ↔ r = 0 ∧ k = p) := fun k hk => by
        rw [hh k hk, yZ_T (by omega), Nat.mod_eq_of_lt hk]
        exact Iff.rfl
      by_cases q : r = 0
      · rw [if_pos (by rw [q]; rfl)]
        exact Or.inl ⟨p, hp, by rw [hnum, hk0 p hp]; exact ⟨q, rfl⟩, rfl⟩
      · have q' : ¬ nI r = (0 : Int32) := nI_ne0 (by omega) hr
        rw [if_neg q']
        exact Or.inr ⟨fun k hk e => q ((hk0 k hk).mp ((hnum k).mp e)).1, rfl⟩
    | succ m =>
      have hd : m < yD u := by omega
      have e1 : nI (m + 1) - (1 : Int32) = nI m := nI_pred m
      rw [e1, if_neg (nI_pos (by omega)), show (10 : Int32) = nI 10 from rfl, pk_rem hr (by decide) (by decide), La_optionOf' K h hd (by omega), zb_s]
      have e5 : nI m + (-1 : Int32) = nI m - 1 := (Int32.sub_eq_add_neg _ _).symm
      have hs := K.st hd
      have hst : yZ u (yD u - (m + 1)) (m + 1) = yst u m := yst_Z.symm
      rw [hst] at hp
      have hyn : ∀ k, yn u k (m + 1) = yn u k m * 10 + yd u k m := fun k => rfl
      cases ev : yov u m (r % 10) with
      | none =>
        dsimp only
        rw [if_pos zm1]
        refine Or.inr ⟨fun k hk e => ?_, rfl⟩
        have a1 := ((hh k hk).mp ((hnum k).mp e)).1
        have a2 := (K.d9 hd k).1
        rw [hyn] at a1
        exact yov_n K hd ev (k := k) (by omega)
      | some o =>
        dsimp only
        obtain ⟨o1, o2⟩ := yov_s K hd ev
        have ho7 := K.o27 hd
        rw [if_neg (show ¬ nI o = (-1 : Int32) by rw [n_m1 (by omega)]; exact id), La_stride' K h hd, zb_s, pk_mul, nI_add, zl_s, pk_div hr (by decide) (by decide), zl_s, zl_s, e5]
        have hle : o * yst u m ≤ 6 * 2401 := Nat.mul_le_mul (by omega) hs.2
        refine ih m (by omega) (p + o * yst u m) (r / 10) (by omega) (by omega) ?_ (fun k hk => ?_)
        · rw [yZ_s K hd]
          have : (o + 1) * yst u m ≤ yo u m * yst u m := Nat.mul_le_mul (by omega) (Nat.le_refl _)
          rw [Nat.add_mul, Nat.one_mul] at this
          omega
        · rw [hh k hk, hst, mod_Z K hd, hyn]
          have a2 := (K.d9 hd k).1
          have hkm : k % yst u m < yst u m := Nat.mod_lt _ (by omega)
          constructor
          · intro ⟨z1, z2⟩
            have e3 : yd u k m = r % 10 := by omega
            have e4 : yop u k m = o := yg_inj K hd (K.op hd k) o1 (by rw [o2, ← e3]; rfl)
            exact ⟨by omega, by rw [e4]; omega⟩
          · intro ⟨z1, z2⟩
            have e4 : yop u k m = o := by
              apply Classical.byContradiction
              intro q
              rcases Nat.lt_or_gt_of_ne q with q | q
              · have := Nat.mul_le_mul (show yop u k m + 1 ≤ o by omega) (Nat.le_refl (yst u m))
                rw [Nat.add_mul, Nat.one_mul] at this
                omega
              · have := Nat.mul_le_mul (show o + 1 ≤ yop u k m by omega) (Nat.le_refl (yst u m))
                rw [Nat.add_mul, Nat.one_mul] at this
                omega
            have e3 : yd u k m = r % 10 := by show yg u m (yop u k m) = _; rw [e4, o2]
            rw [e4] at z2
            exact ⟨by omega, by omega⟩) zFU (yD u) (zfu (by omega))
  refine key 0 n (Nat.le_refl _) hn ?_ (fun k hk => ?_)
  · rw [Nat.sub_self]; show 0 < 1; decide
  · rw [Nat.sub_self]
    show _ ↔ n = yN u k ∧ k % 1 = 0
    rw [Nat.mod_one]
    exact ⟨fun z => ⟨z, rfl⟩, fun z => z.1⟩
/-- the number says which life it is -/
theorem yN_inj (K : zK u) {k j : Nat} (hk : k < yT u) (hj : j < yT u) (h : yN u k = yN u j) : k = j := by
  have h5 := K.D5
  rcases La_placeOf' K (zAg.rf _ _ u) (nI (yN u k)) with ⟨i, hi, e, -⟩ | ⟨q, -⟩
  · have aux : ∀ x, x < yT u → yN u x = yN u k → ∀ m, m ≤ yD u → yn u x m = yn u k m → x % yZ u (yD u - m) m = k % yZ u (yD u - m) m → x = k := by
      intro x hx _ m
      induction m with
      | zero =>
        intro _ _ z
        rw [yZ_T (zK.T0 (by omega)), Nat.mod_eq_of_lt hx, Nat.mod_eq_of_lt hk] at z
        exact z
      | succ m ih =>
        intro hm e1 e2
        have hd : m < yD u := by omega
        have a1 := (K.d9 hd x).1
        have a2 := (K.d9 hd k).1
        have b1 : yn u x (m + 1) = yn u x m * 10 + yd u x m := rfl
        have b2 : yn u k (m + 1) = yn u k m * 10 + yd u k m := rfl
        rw [b1, b2] at e1
        have c : yop u x m = yop u k m := yg_inj K hd (K.op hd x) (K.op hd k) (show yd u x m = yd u k m by omega)
        rw [← yst_Z] at e2
        refine ih (by omega) (by omega) ?_
        rw [mod_Z K hd, mod_Z K hd, c, e2]
    have base : ∀ x : Nat, x % yZ u (yD u - yD u) (yD u) = 0 := fun x => by rw [Nat.sub_self]; exact Nat.mod_one x
    exact (aux j hj h.symm (yD u) (Nat.le_refl _) h.symm (by rw [base, base])).symm
  · exact absurd rfl (q k hk)
theorem M_isLife' (K : zK u) {w : gW} (h : zE u w) (a : Int32) : (∃ k w', k < yT u ∧ a = nI (yN u k) ∧ f_M_isLife a w = some (1, w') ∧ lvL u k w' ∧ zE u w') ∨ ((∀ k, k < yT u → a ≠ nI (yN u k)) ∧ f_M_isLife a w = some (0, w)) := by
  have ht := K.T7
  have key := zfx_ind (fun _ _ _ => none) f_M_isLife_b2_s (fun m kk => ∀ k, k + m = yT u → (∀ j, j < k → a ≠ nI (yN u j)) → (∃ k' w', k' < yT u ∧ a = nI (yN u k') ∧ kk a (nI k) w = some (1, w') ∧ lvL u k' w' ∧ zE u w') ∨ ((∀ k, k < yT u → a ≠ nI (yN u k)) ∧ kk a (nI k) w = some (0, w))) (fun m kk ih k hk hp => by
    unfold f_M_isLife_b2_s
    rw [h.k.i rfl, K.L.2.2.2.2.1]
    cases m with
    | zero =>
      rw [if_pos (by rw [n_le (by omega) (by omega)]; omega)]
      exact Or.inr ⟨fun j hj => hp j (by omega), rfl⟩
    | succ m =>
      rw [if_neg (by rw [n_le (by omega) (by omega)]; omega), if_pos (z_inbn (by omega) (by decide)), z_ix (by omega), h.k.i rfl, K.L.2.2.2.2.2.1 k (by omega)]
      by_cases q : nI (yN u k) = a
      · obtain ⟨w1, e1, l1, m1⟩ := M_live K h.k k
        rw [if_pos q, ← q, e1, zb_s]
        exact Or.inl ⟨k, w1, by omega, rfl, rfl, l1, m1.e h⟩
      · rw [if_neg q, zl_s, n_1]
        refine ih m (by omega) (k + 1) (by omega) (fun j hj => ?_)
        by_cases z : j = k
        · subst z; exact fun e => q e.symm
        · exact hp j (by omega)) zFU (yT u) (zfu (by omega))
  exact key 0 (by omega) (fun j hj => absurd hj (Nat.not_lt_zero j))
/-- words and counts -/
theorem Ro_word' {c W : Nat} (rc : isRow c) (hW : W < 263) (w : gW) : f_Ro_word c (nI W) w = some (w.2 c W, w) := by
  unfold f_Ro_word
  simp only [rc.1, rc.2, if_true]
  rw [if_neg (nI_pos (by omega)), if_neg (by rw [n_le (by omega) (by omega)]; omega), if_pos (z_inbn hW (by decide)), z_ix (by omega)]
theorem ct_word (w : gW) (c W : Nat) : fb_ct (zbt w c) (64 * (W + 1)) = fb_ct (zbt w c) (64 * W) + fb_ct (bL (w.2 c W)) 64 := by
  rw [show 64 * (W + 1) = 64 * W + 64 by omega, fb_ct_split]
  congr 1
  exact fb_ct_cong (fun k hk => zbt_w hk)
theorem Ro_size' (K : zK u) {c : Nat} (rc : isRow c) (w : gW) : f_Ro_size c (nI (nW u)) w = some (nI (fb_ct (zbt w c) (64 * nW u)), w) := by
  have hn := nW_le K
  have key := zfx_ind (fun _ _ _ _ _ => none) f_Ro_size_b4_s (fun m kk => ∀ W, W + m = nW u → kk c (nI (nW u)) (nI (fb_ct (zbt w c) (64 * W))) (nI W) w = some (nI (fb_ct (zbt w c) (64 * nW u)), w)) (fun m kk ih W hW => by
    unfold f_Ro_size_b4_s f_Ro_size_b30
    cases m with
    | zero =>
      rw [if_pos (by rw [n_le (by omega) (by omega)]; omega), show W = nW u by omega]
    | succ m =>
      have q1 : ¬ nI 263 ≤ nI W := by rw [n_le (by omega) (by omega)]; omega
      have q2 : inb (nI W) 263 := z_inbn (by omega) (by decide)
      rw [if_neg (by rw [n_le (by omega) (by omega)]; omega)]
      simp only [rc.1, rc.2, if_true, if_neg q1, if_pos q2]
      rw [z_ix (by omega), Lng_bitCount, zb_s, zl_s, zl_s, n_1, nI_add, ← ct_word]
      exact ih m (by omega) (W + 1) (by omega)) zFU (nW u) (zfu (by omega))
  exact key 0 (by omega)
theorem ct_cut {p q : Nat → Bool} {n m : Nat} (h : ∀ k, k < n → p k = q k) (h2 : ∀ k, n ≤ k → k < m → p k = false) (hm : n ≤ m) : fb_ct p m = fb_ct q n := by
  obtain ⟨d, rfl⟩ : ∃ d, m = n + d := ⟨m - n, by omega⟩
  rw [fb_ct_split, fb_ct_cong h, fb_ct_zero.mpr (fun k hk => h2 (n + k) (by omega) (by omega))]
  rfl
theorem ct_fit (K : zK u) (C : jCou u) {w : gW} (h : zE u w) : fb_ct (zbt w 76) (64 * nW u) = fb_ct (yfi u) (yT u) := by
  have hn := nW_le K
  refine ct_cut (fun k hk => ?_) (fun k h1 h2 => ?_) (by unfold nW; omega)
  · rw [fit_b C h (by have := nW_ge hk; omega), decide_eq_true hk, Bool.true_and]
  · rw [fit_b C h (by omega), decide_eq_false (by omega), Bool.false_and]
theorem ct_pos (K : zK u) (C : jCou u) {w : gW} (h : zE u w) : fb_ct (zbt w 75) (64 * nW u) = fb_ct (ypo u) (yT u) := by
  have hn := nW_le K
  refine ct_cut (fun k hk => ?_) (fun k h1 h2 => ?_) (by unfold nW; omega)
  · rw [pos_b C h (by have := nW_ge hk; omega), decide_eq_true hk, Bool.true_and]
  · rw [pos_b C h (by omega), decide_eq_false (by omega), Bool.false_and]
theorem Ro_pick' (K : zK u) {c : Nat} (rc : isRow c) (w : gW) {j : Nat} (hj : j < 2 ^ 31) : (∃ k, k < 64 * nW u ∧ zbt w c k = true ∧ fb_ct (zbt w c) k = j ∧ f_Ro_pick c (nI (nW u)) (nI j) w = some (nI k, w)) ∨ (fb_ct (zbt w c) (64 * nW u) ≤ j ∧ f_Ro_pick c (nI (nW u)) (nI j) w = some (-1, w)) := by
  have hn := nW_le K
  have key := zfx_ind (fun _ _ _ _ _ _ => none) f_Ro_pick_b5_s (fun m kk => ∀ W, W + m = nW u → fb_ct (zbt w c) (64 * W) ≤ j → (∃ k, k < 64 * nW u ∧ zbt w c k = true ∧ fb_ct (zbt w c) k = j ∧ kk c (nI (nW u)) (nI j) (nI (fb_ct (zbt w c) (64 * W))) (nI W) w = some (nI k, w)) ∨ (fb_ct (zbt w c) (64 * nW u) ≤ j ∧ kk c (nI (nW u)) (nI j) (nI (fb_ct (zbt w c) (64 * W))) (nI W) w = some (-1, w))) (fun m kk ih W hW hle => by
    unfold f_Ro_pick_b5_s
    rw [if_neg (nI_pos hj)]
    cases m with
    | zero =>
      rw [if_pos (by rw [n_le (by omega) (by omega)]; omega)]
      exact Or.inr ⟨by rw [show nW u = W by omega]; exact hle, rfl⟩
    | succ m =>
      have q1 : ¬ nI 263 ≤ nI W := by rw [n_le (by omega) (by omega)]; omega
      have q2 : inb (nI W) 263 := z_inbn (by omega) (by decide)
      have ez : ix (nI W) = W := z_ix (by omega)
      have c1 := fb_ct_le (zbt w c) (64 * W)
      have c2 := fb_ct_le (bL (w.2 c W)) 64
      rw [if_neg (by rw [n_le (by omega) (by omega)]; omega)]
      simp only [rc.1, rc.2, if_true, if_neg q1, if_pos q2, ez]
      rw [Lng_bitCount, zb_s, nI_add, ← ct_word]
      have c3 := fb_ct_le (zbt w c) (64 * (W + 1))
      by_cases q : fb_ct (zbt w c) (64 * (W + 1)) ≤ j
      · rw [if_pos (by rw [n_le (by omega) hj]; exact q), zl_s, zl_s, n_1]
        exact ih m (by omega) (W + 1) (by omega) q
      · have q' := q
        rw [ct_word] at q'
        rw [if_neg (by rw [n_le (by omega) hj]; exact q), n_sub hle]
        obtain ⟨b, b1, b2, b3, b4⟩ := Ro_bitAt (w.2 c W) w (i := j - fb_ct (zbt w c) (64 * W)) (by omega)
        rw [b4, zb_s, n_sl6 (by omega), nI_add]
        refine Or.inl ⟨64 * W + b, by omega, by rw [zbt_w b1]; exact b2, ?_, by rw [Nat.mul_comm W 64]⟩
        rw [fb_ct_split]
        have : fb_ct (fun k => zbt w c (64 * W + k)) b = fb_ct (bL (w.2 c W)) b := fb_ct_cong (fun k hk => zbt_w (by omega))
        omega) zFU (nW u) (zfu (by omega))
  exact key 0 (by omega) (Nat.zero_le _)
theorem Ro_pick_neg {c : Nat} {a : Int32} (ha : a < 0) (n : Int32) (w : gW) : f_Ro_pick c n a w = some (-1, w) := by
  unfold f_Ro_pick f_Ro_pick_b5
  rw [zfx_F]
  unfold f_Ro_pick_b5_s
  rw [if_pos ha]
/-- a word of a date -/
def yDw (u : gW) (d y W : Nat) : Int64 := if y = 9 then ySe u d (yY u) W ^^^ (-1) else ySe u d (y + 1) W &&& (ySe u d y W ^^^ (-1))
theorem La_dateWord' (K : zK u) {w : gW} (h : zEk u w) {d y W : Nat} (hd : d < yD u) (hy : y < yY u ∨ y = 9) (hW : W < 263) : f_La_dateWord (nI d) (nI y) (nI W) w = some (yDw u d y W, w) := by
  have h5 := K.D5
  have h6 := K.Y6
  unfold f_La_dateWord yDw
  by_cases q : y = 9
  · rw [if_pos (by rw [q]; rfl), if_pos q, h.i (a := 19) rfl, K.C.2.2.1.1, La_seenWord' K h (by omega) (by omega) hW, zb_s, if_pos hd]
  · have q' : ¬ nI y = (9 : Int32) := by rw [show (9 : Int32) = nI 9 from rfl, n_eq (by omega) (by omega)]; exact q
    rw [if_neg q', if_neg q, n_1, La_seenWord' K h (by omega) (by omega) hW, zb_s, La_seenWord' K h (by omega) (by omega) hW, zb_s, if_pos hd, if_pos hd]
theorem yDw_b (K : zK u) {d y W b : Nat} (hd : d < yD u) (hy : y < yY u ∨ y = 9) (hb : b < 64) (hk : 64 * W + b < yT u) : bL (yDw u d y W) b = decide (yd u (64 * W + b) d = y) := by
  have h6 := K.Y6
  have h9 := K.d9 hd (64 * W + b)
  unfold yDw
  by_cases q : y = 9
  · rw [if_pos q, bL_not _ hb, ySe_b K hd (by omega) hb hk, Bool.eq_iff_iff]
    simp only [Bool.not_eq_true', decide_eq_true_eq, decide_eq_false_iff_not]
    omega
  · rw [if_neg q, bL_and, bL_not _ hb, ySe_b K hd (by omega) hb hk, ySe_b K hd (by omega) hb hk, Bool.eq_iff_iff]
    simp only [Bool.and_eq_true, Bool.not_eq_true', decide_eq_true_eq, decide_eq_false_iff_not]
    omega
end
