/-! PURE: a new land: what is told of it -/
section
variable {u g : gW}
def nM (u g : gW) : Prop := (g.1 107 21 = nI (yD u) ∧ g.1 107 22 = nI (yY u)) ∧ (∀ e, e < yD u → g.1 112 e = nI (yr u e) ∧ g.1 113 e = nI (yf u e) ∧ g.1 114 e = nI (yl u e)) ∧ (g.1 107 35 = 0 ∧ g.1 107 36 = 0 ∧ g.1 107 37 = 0 ∧ g.1 107 26 = nI (yT u)) ∧ (∀ j, j < 50 → g.1 129 j = 1) ∧ ∀ k, k < yT u → g.1 118 k = nI (yN u k)
def nC (u g : gW) : Prop := g.1 19 4 = nI (yY u) ∧ (∀ d, d < yD u → g.1 20 (3 * d) = nI (yr u d)) ∧ cS u g ∧ cV u (yD u) g ∧ (g.1 59 6 = 0 ∧ g.1 59 7 = 0) ∧ ∀ j, j < 50 → g.1 65 j = 1
theorem yD_n (K : zB u) (M : nM u g) : yD g = yD u := by
  have := K.D5
  unfold yD
  rw [M.1.1]
  exact z_ix (by unfold yD at this ⊢; omega)
theorem yY_n (K : zB u) (M : nM u g) : yY g = yY u := by
  have := K.Y6
  unfold yY
  rw [M.1.2]
  exact z_ix (by unfold yY at this ⊢; omega)
theorem yr_n (K : zB u) (M : nM u g) {d : Nat} (h : d < yD u) : yr g d = yr u d ∧ yf g d = yf u d ∧ yl g d = yl u d := by
  have q := K.dd h
  have m := M.2.1 d h
  refine ⟨?_, ?_, ?_⟩
  · show ix (g.1 112 d) = _
    rw [m.1]; exact z_ix (by omega)
  · show ix (g.1 113 d) = _
    rw [m.2.1]; exact z_ix (by omega)
  · show ix (g.1 114 d) = _
    rw [m.2.2]; exact z_ix (by omega)
theorem yo_n (K : zB u) (M : nM u g) {d : Nat} (h : d < yD u) : yo g d = yo u d := by
  unfold yo
  rw [(yr_n K M h).2.1, (yr_n K M h).2.2]
theorem yZ_n (K : zB u) (M : nM u g) : ∀ n d, d + n ≤ yD u → yZ g n d = yZ u n d
  | 0, _, _ => rfl
  | n + 1, d, h => by
    show yo g d * yZ g n (d + 1) = yo u d * yZ u n (d + 1)
    rw [yo_n K M (by omega), yZ_n K M n (d + 1) (by omega)]
theorem yT_n (K : zB u) (M : nM u g) : yT g = yT u := by
  unfold yT
  rw [yD_n K M, yZ_n K M _ _ (by omega)]
theorem yst_n (K : zB u) (M : nM u g) {d : Nat} (h : d < yD u) : yst g d = yst u d := by
  unfold yst
  rw [yD_n K M, yZ_n K M _ _ (by omega)]
theorem yg_n (K : zB u) (M : nM u g) {d : Nat} (h : d < yD u) (o : Nat) : yg g d o = yg u d o := by
  unfold yg
  rw [yo_n K M h, (yr_n K M h).2.1]
theorem yd_n (K : zB u) (M : nM u g) {d : Nat} (h : d < yD u) (k : Nat) : yd g k d = yd u k d := by
  unfold yd yop
  rw [yst_n K M h, yo_n K M h, yg_n K M h]
theorem yn_n (K : zB u) (M : nM u g) (k : Nat) : ∀ d, d ≤ yD u → yn g k d = yn u k d
  | 0, _ => rfl
  | d + 1, h => by
    show yn g k d * 10 + yd g k d = yn u k d * 10 + yd u k d
    rw [yn_n K M k d (by omega), yd_n K M (by omega)]
theorem yN_n (K : zB u) (M : nM u g) (k : Nat) : yN g k = yN u k := by
  unfold yN
  rw [yD_n K M, yn_n K M k _ (Nat.le_refl _)]
theorem yS_n (M : nM u g) : yS g = 0 := by unfold yS; rw [M.2.2.1.1]; rfl
theorem yF_n (M : nM u g) : yF g = 0 := by unfold yF; rw [M.2.2.1.2.1]; rfl
theorem newN (K : zB u) (h2 : 2 ≤ yY u) (M : nM u g) (C : nC u g) (hO : yO g ≤ 8 ∧ g.1 5 4 = nI (yO g) ∧ g.1 107 6 = nI (yO g)) : jNum g := by
  have h5 := K.D5
  have h6 := K.Y6
  unfold jNum jC
  rw [yD_n K M, yY_n K M, yS_n M, yF_n M]
  exact ⟨⟨⟨h5, by omega, hO.1, by omega, by omega⟩, ⟨C.2.2.1.1.1, M.1.1⟩, ⟨C.1, M.1.2⟩, hO.2, ⟨C.2.2.2.2.1.1, M.2.2.1.1⟩, ⟨C.2.2.2.2.1.2, M.2.2.1.2.1⟩, M.2.2.1.2.2.1⟩, Or.inr ⟨K.2.1, h2, h6⟩⟩
theorem newL (K : zB u) (M : nM u g) (C : nC u g) : jLnd g := by
  obtain ⟨-, c1, c2, c3, -⟩ := C
  refine ⟨?_, ?_, ?_, ?_, ?_, ?_, ?_⟩
  · intro j hj
    rw [yD_n K M] at hj
    have m := M.2.1 j hj
    have c := c2.2 j hj
    rw [m.1, m.2.1, m.2.2]
    exact ⟨c1 j hj, c.1.1, c.1.2⟩
  · intro d hd
    rw [yD_n K M] at hd
    have m := M.2.1 d hd
    have r := yr_n K M hd
    rw [r.1, r.2.1, r.2.2, yY_n K M]
    exact ⟨m.1, m.2.1, m.2.2, (K.2.2 d hd).2.2.2⟩
  · intro d hd
    rw [yD_n K M] at hd
    rw [yo_n K M hd, yst_n K M hd]
    exact (c2.2 d hd).2
  · rw [yT_n K M]; exact c2.1.2
  · rw [yT_n K M]; exact M.2.2.1.2.2.2
  · intro k hk
    rw [yT_n K M] at hk
    rw [yN_n K M]
    exact M.2.2.2.2 k hk
  · intro d hd s hs k hk
    rw [yD_n K M] at hd
    rw [yT_n K M] at hk
    rw [yd_n K M hd]
    exact c3 d hd s hs k hk
theorem newR (M : nM u g) (C : nC u g) : jRec g := by
  unfold jRec
  rw [yS_n M, yF_n M]
  refine ⟨fun i hi => absurd hi (Nat.not_lt_zero i), fun i hi => absurd hi (Nat.not_lt_zero i), ⟨fun i hi => absurd hi (Nat.not_lt_zero i), rfl⟩, fun _ j hj => ?_⟩
  rw [C.2.2.2.2.2 j hj, M.2.2.2.1 j hj]
  exact ⟨rfl, by decide, by decide⟩
theorem ypo_n (M : nM u g) (k : Nat) : ypo g k = true := by
  unfold ypo
  rw [yF_n M]
  exact decide_eq_true (fun i hi => absurd hi (Nat.not_lt_zero i))
theorem yfi_n (M : nM u g) (k : Nat) : yfi g k = true := by
  unfold yfi
  rw [ypo_n M, Bool.true_and, yS_n M]
  exact decide_eq_true (fun i hi => absurd hi (Nat.not_lt_zero i))
theorem newC {g' : gW} (K : zB u) (M : nM u g) (M' : nM u g') (h : ∀ a, a = 75 ∨ a = 76 → g'.2 a = g.2 a) (C : jCou g) : jCou g' := by
  refine ⟨fun k hk => ?_, fun k hk => ?_, fun i hi => ?_⟩
  · have := C.1 k hk
    rw [yT_n K M, ypo_n M] at this
    rw [yT_n K M', ypo_n M', ← this]
    unfold zbt
    rw [h 75 (Or.inl rfl)]
  · have := C.2.1 k hk
    rw [yT_n K M, yfi_n M] at this
    rw [yT_n K M', yfi_n M', ← this]
    unfold zbt
    rw [h 76 (Or.inr rfl)]
  · rw [yS_n M'] at hi
    exact absurd hi (Nat.not_lt_zero i)
theorem jOat_o {w : gW} (h8 : yO w ≤ 8) (h6 : g.1 107 6 = w.1 107 6) (h : ∀ a, (7 ≤ a ∧ a ≤ 17) ∨ a = 109 ∨ a = 110 → g.1 a = w.1 a) (O : jOat w) : jOat g := by
  intro o ho
  have eO : yO g = yO w := by unfold yO; rw [h6]
  rw [eO] at ho
  have ec : ycs g o = ycs w o := by
    unfold ycs
    rw [h 16 (by omega), h (7 + o) (by omega)]
  obtain ⟨n, f, ⟨n1, n2, n3⟩, p1, p2, c1, c2, c3⟩ := O o ho
  refine ⟨n, f, ⟨n1, ?_, fun j hj => ⟨(n3 j hj).1, (n3 j hj).2.1, ?_⟩⟩, p1, ?_, ?_, fun i hi => ?_, ?_⟩
  · rw [h 110 (by omega)]; exact n2
  · rw [h 109 (by omega)]; exact (n3 j hj).2.2
  · rw [ec]; exact p2
  · rw [h 16 (by omega), ec]; exact c1
  · rw [ec] at hi ⊢
    rw [h (7 + o) (by omega)]
    exact c2 i hi
  · rw [h 17 (by omega), ec]; exact c3
end
/-- the land that a text tells: bounds -/
theorem pDs_v {f : Nat → Nat} {n Y : Nat} (hY : Y ≤ 6) (hY2 : 2 ≤ Y) : ∀ (m d p : Nat) (T : Nat → Nat → Nat), p ≤ n → (∀ e, e < d → tOk Y (T e)) → (pDs f n Y m d p T).1 = true → d + 1 ≤ (pDs f n Y m d p T).2.2.1 ∧ (pDs f n Y m d p T).2.2.1 ≤ d + m ∧ ∀ e, e < (pDs f n Y m d p T).2.2.1 → tOk Y ((pDs f n Y m d p T).2.2.2 e)
  | 0, d, p, T, hp, hT, h => by cases h
  | m + 1, d, p, T, hp, hT, h => by
    unfold pDs at h ⊢
    by_cases c1 : sg f n p = 59
    · have l1 := (sg_lt (f := f) (n := n) (p := p) (by omega)).1
      rw [if_pos c1] at h ⊢
      by_cases c2 : sg f n (sk f n p + 1) = 101
      · have l2 := (sg_lt (f := f) (n := n) (p := sk f n p + 1) (by omega)).1
        rw [if_pos c2] at h ⊢
        obtain ⟨t1, -, t3⟩ := pIr_t0 (f := f) (n := n) (p := sk f n (sk f n p + 1) + 1) hY hY2 (by omega)
        by_cases c3 : (pIr f n Y (sk f n (sk f n p + 1) + 1)).1 = true
        · rw [if_pos c3] at h ⊢
          have hT' : ∀ e, e < d + 1 → tOk Y (upT T d (pIr f n Y (sk f n (sk f n p + 1) + 1)).2.2 e) := fun e he => by
            unfold upT
            by_cases z : e = d
            · rw [if_pos z]; exact t3
            · rw [if_neg z]; exact hT e (by omega)
          by_cases c4 : sg f n (pIr f n Y (sk f n (sk f n p + 1) + 1)).2.1 = 0
          · rw [if_pos c4]
            exact ⟨Nat.le_refl _, by show d + 1 ≤ _; omega, hT'⟩
          · rw [if_neg c4] at h ⊢
            have r := pDs_v hY hY2 m (d + 1) _ _ t1 hT' h
            exact ⟨by omega, by omega, r.2.2⟩
        · rw [if_neg c3] at h; cases h
      · rw [if_neg c2] at h; cases h
    · rw [if_neg c1] at h; cases h
theorem pLd_v {f : Nat → Nat} {n : Nat} (h : (pLd f n).1 = true) : (2 ≤ (pLd f n).2.2.1 ∧ (pLd f n).2.2.1 ≤ 6) ∧ (1 ≤ (pLd f n).2.2.2.1 ∧ (pLd f n).2.2.2.1 ≤ 5) ∧ ∀ e, e < (pLd f n).2.2.2.1 → tOk (pLd f n).2.2.1 ((pLd f n).2.2.2.2 e) := by
  unfold pLd at h ⊢
  by_cases c1 : sg f n 0 = 116
  · have l1 := (sg_lt (f := f) (n := n) (p := 0) (by omega)).1
    rw [if_pos c1] at h ⊢
    rcases pD_c (f := f) (n := n) (lo := 2) (hi := 6) (p := sk f n 0 + 1) (by omega) with ⟨a1, a2, a3, a4⟩ | ⟨a1, -⟩
    · rw [if_pos a1] at h ⊢
      have r := pDs_v a3 a2 5 0 _ _ a4 (fun e he => absurd he (Nat.not_lt_zero e)) h
      exact ⟨⟨a2, a3⟩, ⟨by have := r.1; omega, by have := r.2.1; omega⟩, r.2.2⟩
    · rw [if_neg (by rw [a1]; decide)] at h; cases h
  · rw [if_neg c1] at h; cases h
