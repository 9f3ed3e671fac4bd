/-! PURE: plan -/
section
variable {u : gW}
def ySub (u : gW) (s S k : Nat) : Prop := ∀ i, i < yO u → S.testBit i = true → yH u i s (yal u) k = true
def yPL (u : gW) (s S o : Nat) : Prop := (∃ k, k < yT u ∧ yfi u k = true ∧ ySub u s S k) ∧ ∀ k, k < yT u → yfi u k = true → ySub u s S k → yH u o s (yal u) k = true
theorem row_w {w : gW} {s i W b : Nat} (ri : ∀ k, k < 64 * nW u → zbt w (91 + i) k = yhr u i s k) (hW : W < nW u) (hb : b < 64) : bL (w.2 (91 + i) W) b = yhr u i s (64 * W + b) := by
  rw [← zbt_w hb]
  exact ri _ (by omega)
theorem Cs_plan (K : zK u) (C : jCou u) {w : gW} (h : zE u w) {s : Nat} (hA : hAl u s w) {S o : Nat} (hS : S < 256) (ho : o < yO u) : ∃ b : Bool, f_Cs_isPlan (nI S) (nI o) w = some (bI b, w) ∧ (b = true ↔ yPL u s S o) := by
  have h8 := K.O8
  have hn := nW_le K
  have key := zfx_ind (fun _ _ _ _ _ => none) f_Cs_isPlan_b5_s (fun m kk => ∀ W (so : Bool), W + m = nW u → (so = true ↔ ∃ k, k < 64 * W ∧ k < yT u ∧ yfi u k = true ∧ ySub u s S k) → (∀ k, k < 64 * W → (k < yT u ∧ yfi u k = true ∧ ySub u s S k) → yH u o s (yal u) k = true) → ∃ b : Bool, kk (nI S) (nI o) (bI so) (nI W) w = some (bI b, w) ∧ (b = true ↔ yPL u s S o)) (fun m kk ih W so hW h1 h2 => by
    unfold f_Cs_isPlan_b5_s
    rw [La_words' K h.k, zb_s]
    show ∃ b : Bool, (if nI (nW u) ≤ nI W then _ else _) = _ ∧ _
    cases m with
    | zero =>
      rw [if_pos (by rw [n_le (by omega) (by omega)]; omega), if_pos (bI_a so)]
      refine ⟨so, rfl, ?_⟩
      rw [h1]
      have eW : W = nW u := by omega
      constructor
      · intro ⟨k, _, k1, k2⟩
        exact ⟨⟨k, k1, k2⟩, fun j j1 j2 j3 => h2 j (by have := nW_ge j1; omega) ⟨j1, j2, j3⟩⟩
      · intro ⟨⟨k, k1, k2⟩, _⟩
        exact ⟨k, by have := nW_ge k1; omega, k1, k2⟩
    | succ m =>
      have hWn : W < nW u := by omega
      unfold f_Co_fitting
      rw [if_neg (by rw [n_le (by omega) (by omega)]; omega), zb_s, Ro_word' row_76 (by omega), zb_s]
      have h90 : ∀ x : Int64, (∀ b, b < 64 → (bL x b = true ↔ (64 * W + b < yT u ∧ yfi u (64 * W + b) = true ∧ ySub u s S (64 * W + b)))) → ∃ b : Bool, f_Cs_isPlan_b90 kk (nI S) (nI o) (bI so) (nI W) x w = some (bI b, w) ∧ (b = true ↔ yPL u s S o) := by
        intro x hx
        unfold f_Cs_isPlan_b90 f_Cs_isPlan_b125 f_Cs_isPlan_b130
        rw [Cs_rowOf' (by omega), zb_s, Ro_word' (row_h o (by omega)) (by omega), zb_s]
        by_cases q : x &&& ((w.2 (91 + o) W) ^^^ (-1)) = 0
        · have q2 := andn_z.mp q
          have hin : ∀ b, b < 64 → (64 * W + b < yT u ∧ yfi u (64 * W + b) = true ∧ ySub u s S (64 * W + b)) → yH u o s (yal u) (64 * W + b) = true := by
            intro b hb z
            have := q2 b hb ((hx b hb).mpr z)
            rw [row_w (hA o ho) hWn hb] at this
            unfold yhr at this
            simp only [Bool.and_eq_true] at this
            exact this.2.2
          have go : ∀ so2 : Bool, (so2 = true ↔ so = true ∨ ¬ x = 0) → ∃ b : Bool, kk (nI S) (nI o) (bI so2) (nI (W + 1)) w = some (bI b, w) ∧ (b = true ↔ yPL u s S o) := by
            intro so2 hs2
            refine ih m (by omega) (W + 1) so2 (by omega) ?_ (bits_s h2 hin)
            rw [hs2, h1, bL_nz]
            constructor
            · intro z
              rcases z with ⟨k, k1, k2⟩ | ⟨b, hb, z⟩
              · exact ⟨k, by omega, k2⟩
              · exact ⟨64 * W + b, by omega, (hx b hb).mp z⟩
            · intro ⟨k, k1, k2⟩
              by_cases z : k < 64 * W
              · exact Or.inl ⟨k, z, k2⟩
              · refine Or.inr ⟨k - 64 * W, by omega, (hx _ (by omega)).mpr ?_⟩
                rw [show 64 * W + (k - 64 * W) = k by omega]
                exact k2
          rw [if_pos ((lc_eq _ _).mpr q)]
          cases so with
          | true =>
            rw [if_neg bt0, zl_s, n_1]
            exact go true ⟨fun _ => Or.inl rfl, fun _ => rfl⟩
          | false =>
            rw [if_pos bf0]
            by_cases q3 : x = 0
            · rw [if_pos ((lc_eq _ _).mpr q3), zl_s, n_1]
              exact go false ⟨fun z => (by cases z), fun z => by rcases z with z | z; exact z; exact absurd q3 z⟩
            · rw [if_neg (fun z => q3 ((lc_eq _ _).mp z)), zl_s, n_1]
              exact go true ⟨fun _ => Or.inr q3, fun _ => rfl⟩
        · rw [if_neg (fun z => q ((lc_eq _ _).mp z))]
          refine ⟨false, rfl, fun z => (by cases z), fun z => absurd (andn_z.mpr (fun b hb zb => ?_)) q⟩
          have a := (hx b hb).mp zb
          rw [row_w (hA o ho) hWn hb]
          unfold yhr
          rw [decide_eq_true a.1, yfi_po a.2.1, z.2 _ a.1 a.2.1 a.2.2]
          rfl
      have inner := zfx_ind (fun _ _ _ _ _ _ _ => none) (f_Cs_isPlan_b34_s kk) (fun m2 k2 => ∀ i x, i + m2 = yO u → (∀ b, b < 64 → (bL x b = true ↔ (64 * W + b < yT u ∧ yfi u (64 * W + b) = true ∧ ∀ j, j < i → S.testBit j = true → yH u j s (yal u) (64 * W + b) = true))) → ∃ b : Bool, k2 (nI S) (nI o) (bI so) (nI W) x (nI i) w = some (bI b, w) ∧ (b = true ↔ yPL u s S o)) (fun m2 k2 ih2 i x hi hx => by
        unfold f_Cs_isPlan_b34_s
        by_cases q0 : x = 0
        · rw [if_pos ((lc_eq _ _).mpr q0)]
          refine h90 x (fun b hb => ?_)
          have e0 : ¬ bL x b = true := by rw [q0, bL_0]; decide
          exact ⟨fun z => absurd z e0, fun z => absurd ((hx b hb).mpr ⟨z.1, z.2.1, fun j hj => z.2.2 j (by omega)⟩) e0⟩
        · rw [if_neg (fun z => q0 ((lc_eq _ _).mp z)), Oa_size' K h.k, zb_s]
          cases m2 with
          | zero =>
            rw [if_pos (by rw [n_le (by omega) (by omega)]; omega)]
            have e : i = yO u := by omega
            subst e
            exact h90 x hx
          | succ m2 =>
            rw [if_neg (by rw [n_le (by omega) (by omega)]; omega), n_bit (by omega) (by omega)]
            have st : ∀ y : Int64, (∀ b, b < 64 → (bL x b = true ∧ bL y b = true ↔ (bL x b = true ∧ (S.testBit i = true → yH u i s (yal u) (64 * W + b) = true)))) → ∃ b : Bool, f_Cs_isPlan_b81 kk k2 (nI S) (nI o) (bI so) (nI W) (nI i) x y w = some (bI b, w) ∧ (b = true ↔ yPL u s S o) := by
              intro y hy
              unfold f_Cs_isPlan_b81
              rw [zl_s, zl_s, n_1]
              refine ih2 m2 (by omega) (i + 1) _ (by omega) (fun b hb => ?_)
              rw [bL_and, Bool.and_eq_true, hy b hb, hx b hb]
              constructor
              · intro ⟨⟨z1, z2, z3⟩, z4⟩
                refine ⟨z1, z2, fun j hj => ?_⟩
                by_cases q : j = i
                · subst q; exact z4
                · exact z3 j (by omega)
              · intro ⟨z1, z2, z3⟩
                exact ⟨⟨z1, z2, fun j hj => z3 j (by omega)⟩, z3 i (by omega)⟩
            cases e : S.testBit i with
            | false =>
              rw [if_pos bf0]
              exact st (-1) (fun b hb => by rw [bL_m1 b hb, e]; exact ⟨fun z => ⟨z.1, fun q => by cases q⟩, fun z => ⟨z.1, rfl⟩⟩)
            | true =>
              rw [if_neg bt0, Cs_rowOf' (by omega), zb_s, Ro_word' (row_h i (by omega)) (by omega), zb_s]
              refine st _ (fun b hb => ?_)
              rw [row_w (hA i (by omega)) hWn hb, e]
              unfold yhr
              constructor
              · intro ⟨z1, z2⟩
                simp only [Bool.and_eq_true] at z2
                exact ⟨z1, fun _ => z2.2.2⟩
              · intro ⟨z1, z2⟩
                have a := (hx b hb).mp z1
                rw [decide_eq_true a.1, yfi_po a.2.1, z2 rfl]
                exact ⟨z1, rfl⟩) zFU (yO u) (zfu (by omega))
      refine inner 0 _ (by omega) (fun b hb => ?_)
      rw [fit_w C h (by omega) hb, Bool.and_eq_true, decide_eq_true_eq]
      exact ⟨fun z => ⟨z.1, z.2, fun j hj => absurd hj (Nat.not_lt_zero j)⟩, fun z => ⟨z.1, z.2.1⟩⟩) zFU (nW u) (zfu (by omega))
  exact key 0 false (by omega) ⟨fun z => (by cases z), fun ⟨k, z, _⟩ => absurd z (by omega)⟩ (fun k hk => absurd hk (by omega))
theorem sub_B (K : zK u) {s S k : Nat} (hS : S < 2 ^ yO u) : (nI S &&& ((nI (yhB u s k)) ^^^ (-1 : Int32)) = 0) ↔ ySub u s S k := by
  have h8 := K.O8
  have h256 : 2 ^ yO u ≤ 2 ^ 8 := Nat.pow_le_pow_right (by decide) h8
  rw [n_andn (by omega)]
  constructor
  · intro z i hi hb
    exact (yhB_b K hi).mp (z i hb (by omega))
  · intro z i hb _
    have hi : i < yO u := by
      apply Classical.byContradiction
      intro q
      have a : 2 ^ yO u ≤ 2 ^ i := Nat.pow_le_pow_right (by decide) (by omega)
      rw [Nat.testBit_lt_two_pow (Nat.lt_of_lt_of_le hS a)] at hb
      cases hb
    exact (yhB_b K hi).mpr (z i hi hb)
theorem M_plan (K : zK u) {w : gW} (h : zE u w) {s : Nat} (hL : LD u s (yT u) w) {S o : Nat} (hS : S < 2 ^ yO u) (ho : o < yO u) : ∃ b : Bool, f_M_isPlan (nI S) (nI o) w = some (bI b, w) ∧ (b = true ↔ yPL u s S o) := by
  have h8 := K.O8
  have ht := K.T7
  have hM := fb_ct_le (yfi u) (yT u)
  have key := zfx_ind (fun _ _ _ _ _ => none) f_M_isPlan_b5_s (fun m kk => ∀ i (an : Bool), i + m = fb_ct (yfi u) (yT u) → (an = true ↔ ∃ k, k < yT u ∧ yfi u k = true ∧ fb_ct (yfi u) k < i ∧ ySub u s S k) → (∀ k, k < yT u → yfi u k = true → fb_ct (yfi u) k < i → ySub u s S k → yH u o s (yal u) k = true) → ∃ b : Bool, kk (nI S) (nI o) (bI an) (nI i) w = some (bI b, w) ∧ (b = true ↔ yPL u s S o)) (fun m kk ih i an hi h1 h2 => by
    unfold f_M_isPlan_b5_s
    rw [hL.2.2.1]
    cases m with
    | zero =>
      rw [if_pos (by rw [n_le (by omega) (by omega)]; omega), if_pos (bI_a an)]
      refine ⟨an, rfl, ?_⟩
      rw [h1]
      have hlt : ∀ k, k < yT u → yfi u k = true → fb_ct (yfi u) k < i := fun k k1 k2 => by have := fb_ct_lt k1 k2; omega
      exact ⟨fun ⟨k, k1, k2, _, k3⟩ => ⟨⟨k, k1, k2, k3⟩, fun j j1 j2 => h2 j j1 j2 (hlt j j1 j2)⟩, fun ⟨⟨k, k1, k2, k3⟩, _⟩ => ⟨k, k1, k2, hlt k k1 k2, k3⟩⟩
    | succ m =>
      rw [if_neg (by rw [n_le (by omega) (by omega)]; omega)]
      obtain ⟨k, k1, k2, k3⟩ := ct_kth (p := yfi u) (j := i) (n := yT u) (by omega)
      have hc : w.1 128 i = nI (yhB u s k) := by rw [← k3]; exact hL.2.2.2.1 k k1 k2
      have hB := yhB_lt K s k
      have i16 : inb (nI i) 16807 := z_inbn (by omega) (by decide)
      have un : ∀ j, j < yT u → yfi u j = true → fb_ct (yfi u) j < i + 1 → fb_ct (yfi u) j < i ∨ j = k := by
        intro j j1 j2 j3
        by_cases q : fb_ct (yfi u) j = i
        · exact Or.inr (ct_one j2 k2 (by omega))
        · exact Or.inl (by omega)
      rw [if_pos i16, z_ix (by omega), hc]
      unfold f_M_isPlan_b49
      by_cases q : ySub u s S k
      · rw [if_pos ((sub_B K hS).mpr q), if_pos i16, M_hasB _ _ (by omega) (by omega), zb_s]
        cases e : (yhB u s k).testBit o with
        | false =>
          rw [if_pos bf0]
          refine ⟨false, rfl, fun z => (by cases z), fun z => ?_⟩
          have := (yhB_b K ho).mpr (z.2 k k1 k2 q)
          rw [e] at this
          cases this
        | true =>
          rw [if_neg bt0, zl_s, n_1]
          refine ih m (by omega) (i + 1) true (by omega) ⟨fun _ => ⟨k, k1, k2, by omega, q⟩, fun _ => rfl⟩ (fun j j1 j2 j3 j4 => ?_)
          rcases un j j1 j2 j3 with z | z
          · exact h2 j j1 j2 z j4
          · subst z; exact (yhB_b K ho).mp e
      · rw [if_neg (fun z => q ((sub_B K hS).mp z)), zl_s, n_1]
        refine ih m (by omega) (i + 1) an (by omega) ?_ (fun j j1 j2 j3 j4 => ?_)
        · rw [h1]
          constructor
          · intro ⟨j, j1, j2, j3, j4⟩
            exact ⟨j, j1, j2, by omega, j4⟩
          · intro ⟨j, j1, j2, j3, j4⟩
            rcases un j j1 j2 j3 with z | z
            · exact ⟨j, j1, j2, z, j4⟩
            · subst z; exact absurd j4 q
        · rcases un j j1 j2 j3 with z | z
          · exact h2 j j1 j2 z j4
          · subst z; exact absurd j4 q) zFU (fb_ct (yfi u) (yT u)) (zfu (by omega))
  exact key 0 false (by omega) ⟨fun z => (by cases z), fun ⟨k, _, _, z, _⟩ => absurd z (Nat.not_lt_zero _)⟩ (fun k _ _ z => absurd z (Nat.not_lt_zero _))
/-- sets that are plans; the least one -/
def yV (u : gW) (s o S : Nat) : Prop := S < 2 ^ yO u ∧ ¬ S.testBit o = true ∧ yPL u s S o
def yLe (u : gW) (s o S : Nat) : Prop := yV u s o S ∧ ∀ S', yV u s o S' → ypc S < ypc S' ∨ ypc S = ypc S' ∧ S ≤ S'
theorem yLe_u {s o S S' : Nat} (h : yLe u s o S) (k : yLe u s o S') : S = S' := by
  have a := h.2 S' k.1
  have b := k.2 S h.1
  omega
theorem ct_ltn {p : Nat → Bool} {o : Nat} : ∀ {n : Nat}, o < n → p o = false → fb_ct p n < n
  | 0, h, _ => absurd h (Nat.not_lt_zero o)
  | n + 1, h, hp => by
    rw [fb_ct_succ]
    by_cases q : o = n
    · subst q
      rw [hp]
      have := fb_ct_le p o
      simp
      omega
    · have := ct_ltn (n := n) (by omega) hp
      split <;> omega
theorem yV_pc (K : zK u) {s o S : Nat} (ho : o < yO u) (h : yV u s o S) : ypc S < yO u := by
  have h8 := K.O8
  have e : ypc S = fb_ct S.testBit (yO u) := ct_cut (fun _ _ => rfl) (fun k h1 _ => Nat.testBit_lt_two_pow (Nat.lt_of_lt_of_le h.1 (Nat.pow_le_pow_right (by decide) h1))) (by omega)
  rw [e]
  exact ct_ltn ho (by simpa using h.2.1)
theorem X_plan (J : zJ u) {w : gW} (h : zE u w) {o s t : Nat} (ho : o < yO u) (hs : s < 7) (ht : t < 2) : ∃ w' : gW, zE u w' ∧ (((∀ S, ¬ yV u s o S) ∧ f_Cs_leastPlan (nI o) (nI s) (nI t) w = some (-1, w')) ∨ ∃ S, yLe u s o S ∧ f_Cs_leastPlan (nI o) (nI s) (nI t) w = some (nI (if t = 0 then ypc S else S), w')) := by
  have K := J.K
  have h8 := K.O8
  have h256 : 2 ^ yO u ≤ 2 ^ 8 := Nat.pow_le_pow_right (by decide) h8
  obtain ⟨v1, e1, e2, e3⟩ := Cs_hearAll' K J.C h (s := s) hs
  have hE := zRw.h h e2
  refine ⟨v1, hE, ?_⟩
  unfold f_Cs_leastPlan
  rw [e1, zb_s]
  have key := zfx_ind (fun _ _ _ _ => none) f_Cs_leastPlan_b8_s (fun m kk => ∀ z, z + m = yO u → (∀ S, yV u s o S → z ≤ ypc S) → (((∀ S, ¬ yV u s o S) ∧ kk (nI o) (nI t) (nI z) v1 = some (-1, v1)) ∨ ∃ S, yLe u s o S ∧ kk (nI o) (nI t) (nI z) v1 = some (nI (if t = 0 then ypc S else S), v1))) (fun m kk ih z hz hv => by
    unfold f_Cs_leastPlan_b8_s
    rw [Oa_size' K hE.k, zb_s]
    cases m with
    | zero =>
      rw [if_pos (by rw [n_le (by omega) (by omega)]; omega)]
      exact Or.inl ⟨fun S hS => by have a := hv S hS; have b := yV_pc K ho hS; omega, rfl⟩
    | succ m =>
      rw [if_neg (by rw [n_le (by omega) (by omega)]; omega)]
      have inner := zfx_ind (fun _ _ _ _ _ => none) (f_Cs_leastPlan_b23_s kk) (fun m2 k2 => ∀ x, x + m2 = 2 ^ yO u → (∀ S, yV u s o S → ypc S = z → x ≤ S) → (((∀ S, ¬ yV u s o S) ∧ k2 (nI o) (nI t) (nI z) (nI x) v1 = some (-1, v1)) ∨ ∃ S, yLe u s o S ∧ k2 (nI o) (nI t) (nI z) (nI x) v1 = some (nI (if t = 0 then ypc S else S), v1))) (fun m2 k2 ih2 x hx hv2 => by
        unfold f_Cs_leastPlan_b23_s
        rw [Oa_size' K hE.k, zb_s, n_1sh (by omega)]
        cases m2 with
        | zero =>
          rw [if_pos (by rw [n_le (by omega) (by omega)]; omega), zl_s, n_1]
          refine ih m (by omega) (z + 1) (by omega) (fun S hS => ?_)
          have a := hv S hS
          by_cases q : ypc S = z
          · have b := hv2 S hS q
            have c := hS.1
            omega
          · omega
        | succ m2 =>
          have hpx := ypc_le x
          rw [if_neg (by rw [n_le (by omega) (by omega)]; omega), Int_bitCount (by omega), zb_s]
          have go : ¬ (yV u s o x ∧ ypc x = z) → (((∀ S, ¬ yV u s o S) ∧ f_Cs_leastPlan_b90 kk k2 (nI o) (nI t) (nI z) (nI x) v1 = some (-1, v1)) ∨ ∃ S, yLe u s o S ∧ f_Cs_leastPlan_b90 kk k2 (nI o) (nI t) (nI z) (nI x) v1 = some (nI (if t = 0 then ypc S else S), v1)) := by
            intro hq
            unfold f_Cs_leastPlan_b90
            rw [zl_s, n_1]
            refine ih2 m2 (by omega) (x + 1) (by omega) (fun S hS hz2 => ?_)
            have a := hv2 S hS hz2
            apply Classical.byContradiction
            intro q
            have : S = x := by omega
            subst this
            exact hq ⟨hS, hz2⟩
          unfold f_Cs_leastPlan_b60 f_Cs_leastPlan_b61
          show ((_ ∧ (if nI (ypc x) = nI z then _ else _) = _) ∨ ∃ S, _ ∧ (if nI (ypc x) = nI z then _ else _) = _)
          by_cases q1 : ypc x = z
          · rw [if_pos ((n_eq (by omega) (by omega)).mpr q1), n_bit (by omega) (by omega)]
            cases e : x.testBit o with
            | true =>
              rw [if_neg bt0, if_pos z00]
              exact go (fun q => q.1.2.1 e)
            | false =>
              rw [if_pos bf0, if_neg z10]
              obtain ⟨b, b1, b2⟩ := Cs_plan K J.C hE e3 (S := x) (by omega) ho
              rw [b1, zb_s]
              cases b with
              | false =>
                rw [if_pos bf0]
                exact go (fun q => by have := b2.mpr q.1.2.2; cases this)
              | true =>
                rw [if_neg bt0]
                have hVx : yV u s o x := ⟨by omega, by rw [e]; decide, b2.mp rfl⟩
                refine Or.inr ⟨x, ⟨hVx, fun S' hS' => ?_⟩, ?_⟩
                · have a := hv S' hS'
                  by_cases q : ypc S' = z
                  · exact Or.inr ⟨by omega, hv2 S' hS' q⟩
                  · exact Or.inl (by omega)
                · by_cases t0 : t = 0
                  · rw [if_pos (show nI t = 0 by rw [t0]; rfl), if_pos t0, q1]
                  · rw [if_neg (show ¬ nI t = 0 from nI_ne0 (by omega) (by omega)), if_neg t0]
          · rw [if_neg (fun q => q1 ((n_eq (by omega) (by omega)).mp q)), if_pos z00]
            exact go (fun q => q1 q.2)) zFU (2 ^ yO u) (zfu (by omega))
      exact inner 0 (by omega) (fun _ _ _ => Nat.zero_le _)) zFU (yO u) (zfu (by omega))
  exact key 0 (by omega) (fun _ _ => Nat.zero_le _)
def oN (q : Option Nat) : Int32 := match q with
  | none => -1
  | some B => nI B
theorem oN_n : oN none = -1 := rfl
theorem oN_s (B : Nat) : oN (some B) = nI B := rfl
def oP (u : gW) (s o x : Nat) (q : Option Nat) : Prop := match q with
  | none => ∀ S, yV u s o S → x ≤ S
  | some B => yV u s o B ∧ B < x ∧ ∀ S, yV u s o S → S < x → ypc B < ypc S ∨ ypc B = ypc S ∧ B ≤ S
theorem M_planL (K : zK u) {w : gW} (h : zE u w) {s : Nat} (hL : LD u s (yT u) w) {o t : Nat} (ho : o < yO u) (ht : t < 2) : ((∀ S, ¬ yV u s o S) ∧ f_M_plan_b44 (nI o) (nI t) (-1 : Int32) (0 : Int32) w = some (-1, w)) ∨ ∃ S, yLe u s o S ∧ f_M_plan_b44 (nI o) (nI t) (-1 : Int32) (0 : Int32) w = some (nI (if t = 0 then ypc S else S), w) := by
  have h8 := K.O8
  have h256 : 2 ^ yO u ≤ 2 ^ 8 := Nat.pow_le_pow_right (by decide) h8
  have e6 : w.1 107 6 = nI (yO u) := (h.k.i rfl).trans K.C.2.2.2.1.2
  have key := zfx_ind (fun _ _ _ _ _ => none) f_M_plan_b44_s (fun m kk => ∀ x (q : Option Nat), x + m = 2 ^ yO u → (oP u s o x q) → ((∀ S, ¬ yV u s o S) ∧ kk (nI o) (nI t) (oN q) (nI x) w = some (-1, w)) ∨ ∃ S, yLe u s o S ∧ kk (nI o) (nI t) (oN q) (nI x) w = some (nI (if t = 0 then ypc S else S), w)) (fun m kk ih x q hx hq => by
    unfold f_M_plan_b44_s
    rw [e6, n_1sh (by omega)]
    cases m with
    | zero =>
      rw [if_pos (by rw [n_le (by omega) (by omega)]; omega)]
      cases q with
      | none =>
        have hq : ∀ S, yV u s o S → x ≤ S := hq
        rw [oN_n, if_pos zm1]
        exact Or.inl ⟨fun S hS => by have a := hq S hS; have b := hS.1; omega, rfl⟩
      | some B =>
        have hq : yV u s o B ∧ B < x ∧ ∀ S, yV u s o S → S < x → ypc B < ypc S ∨ ypc B = ypc S ∧ B ≤ S := hq
        have hB := hq.1.1
        have hpB := ypc_le B
        rw [oN_s, if_neg (show ¬ nI B = (-1 : Int32) by rw [n_m1 (by omega)]; exact id)]
        refine Or.inr ⟨B, ⟨hq.1, fun S' hS' => hq.2.2 S' hS' (by have := hS'.1; omega)⟩, ?_⟩
        by_cases t0 : t = 0
        · rw [if_pos (show nI t = 0 by rw [t0]; rfl), Int_bitCount (by omega), zb_s, if_pos t0]; rfl
        · rw [if_neg (show ¬ nI t = 0 from nI_ne0 (by omega) (by omega)), if_neg t0]
    | succ m =>
      rw [if_neg (by rw [n_le (by omega) (by omega)]; omega), M_hasB _ _ (by omega) (by omega), zb_s]
      have go : ∀ q2 : Option Nat, (oP u s o (x + 1) q2) → ((∀ S, ¬ yV u s o S) ∧ f_M_plan_b100 kk (nI o) (nI t) (oN q2) (nI x) w = some (-1, w)) ∨ ∃ S, yLe u s o S ∧ f_M_plan_b100 kk (nI o) (nI t) (oN q2) (nI x) w = some (nI (if t = 0 then ypc S else S), w) := by
        intro q2 h2
        unfold f_M_plan_b100
        rw [zl_s, n_1]
        exact ih m (by omega) (x + 1) q2 (by omega) h2
      have skip : ¬ yV u s o x → ((∀ S, ¬ yV u s o S) ∧ f_M_plan_b100 kk (nI o) (nI t) (oN q) (nI x) w = some (-1, w)) ∨ ∃ S, yLe u s o S ∧ f_M_plan_b100 kk (nI o) (nI t) (oN q) (nI x) w = some (nI (if t = 0 then ypc S else S), w) := by
        intro hn
        refine go q ?_
        cases q with
        | none =>
          dsimp only [oN, oP] at hq ⊢
          intro S hS
          have a := hq S hS
          apply Classical.byContradiction
          intro z
          have : S = x := by omega
          subst this
          exact hn hS
        | some B =>
          dsimp only [oN, oP] at hq ⊢
          refine ⟨hq.1, by omega, fun S hS hlt => ?_⟩
          by_cases z : S = x
          · subst z; exact absurd hS hn
          · exact hq.2.2 S hS (by omega)
      have hpx := ypc_le x
      cases e : x.testBit o with
      | true => rw [if_neg bt0]; exact skip (fun z => z.2.1 e)
      | false =>
        rw [if_pos bf0]
        obtain ⟨b, b1, b2⟩ := M_plan K h hL (S := x) (by omega) ho
        have hV : yV u s o x ↔ b = true := ⟨fun z => b2.mpr z.2.2, fun z => ⟨by omega, by rw [e]; decide, b2.mp z⟩⟩
        have h83 : (∀ S, yV u s o S → S < x → ypc x < ypc S) → ((∀ S, ¬ yV u s o S) ∧ f_M_plan_b83 kk (nI o) (nI t) (oN q) (nI x) w = some (-1, w)) ∨ ∃ S, yLe u s o S ∧ f_M_plan_b83 kk (nI o) (nI t) (oN q) (nI x) w = some (nI (if t = 0 then ypc S else S), w) := by
          intro hlow
          unfold f_M_plan_b83
          rw [b1, zb_s]
          cases b with
          | false => rw [if_pos bf0]; exact skip (fun z => by have := hV.mp z; cases this)
          | true =>
            rw [if_neg bt0]
            refine go (some x) ⟨hV.mpr rfl, by omega, fun S hS hlt => ?_⟩
            by_cases z : S = x
            · subst z; exact Or.inr ⟨rfl, Nat.le_refl _⟩
            · exact Or.inl (hlow S hS (by omega))
        cases q with
        | none =>
          have hq : ∀ S, yV u s o S → x ≤ S := hq
          rw [oN_n] at h83 ⊢
          rw [if_pos zm1]
          exact h83 (fun S hS hlt => by have := hq S hS; omega)
        | some B =>
          have hq : yV u s o B ∧ B < x ∧ ∀ S, yV u s o S → S < x → ypc B < ypc S ∨ ypc B = ypc S ∧ B ≤ S := hq
          have hB := hq.1.1
          have hpB := ypc_le B
          rw [oN_s] at h83 ⊢
          rw [if_neg (show ¬ nI B = (-1 : Int32) by rw [n_m1 (by omega)]; exact id), Int_bitCount (by omega), zb_s, Int_bitCount (by omega), zb_s]
          show (_ ∧ (if nI (ypc B) ≤ nI (ypc x) then _ else _) = _) ∨ ∃ S, _ ∧ (if nI (ypc B) ≤ nI (ypc x) then _ else _) = _
          by_cases z : ypc B ≤ ypc x
          · rw [if_pos ((n_le (by omega) (by omega)).mpr z)]
            refine go (some B) ⟨hq.1, by omega, fun S hS hlt => ?_⟩
            by_cases z2 : S = x
            · subst z2; omega
            · exact hq.2.2 S hS (by omega)
          · rw [if_neg (fun y => z ((n_le (by omega) (by omega)).mp y))]
            exact h83 (fun S hS hlt => by have := hq.2.2 S hS hlt; omega)) zFU (2 ^ yO u) (zfu (by omega))
  exact key 0 none (by omega) (fun _ _ => Nat.zero_le _)
theorem q_plan (J : zJ u) (a b c : Int32) : zQ u (f_X_plan a b c) (f_M_plan a b c) := by
  have K := J.K
  have h6 := K.Y6
  by_cases g : (gO u a = true ∧ gD u b = true) ∧ (0 ≤ c.toInt ∧ c.toInt < (2 : Nat))
  · obtain ⟨⟨g1, g2⟩, g3⟩ := g
    obtain ⟨o, rfl, ho⟩ := gO_t g1
    obtain ⟨s, rfl, hs, h0⟩ := gD_t g2
    obtain ⟨ec, hc⟩ := z_nIx g3
    generalize ix c = t at ec hc
    subst ec
    have hX : ∀ v, zE u v → f_X_plan (nI o) (nI s) (nI t) v = zb (f_Cs_leastPlan (nI o) (nI s) (nI t) v) (fun v7 w8 => some (v7, w8)) := by
      intro v hv
      unfold f_X_plan
      rw [X_isSuch' K hv.k, zb_s, g1, g2, if_neg (show ¬ bI (true && true) = 0 by decide), X_is01, zb_s, decide_eq_true g3, if_neg bt0]
    have hM : ∀ v, zE u v → f_M_plan (nI o) (nI s) (nI t) v = zb (f_M_layDay (nI s) (zsI v 107 0 0)) (fun _ w12 => f_M_plan_b44 (nI o) (nI t) (-1 : Int32) (0 : Int32) w12) := by
      intro v hv
      unfold f_M_plan
      rw [zl_s, M_isOathB K hv.m0.k, zb_s, g1, if_neg bt0, M_isSeenDay' K hv.m0.k, zb_s, g2, if_neg bt0, isIn_lit (nI t) (c := 1) 2 rfl, zb_s, decide_eq_true g3, if_neg bt0]
    by_cases q : ∃ S, yLe u s o S
    · obtain ⟨S, hS⟩ := q
      refine ⟨nI (if t = 0 then ypc S else S), fun v hv => ?_, fun v hv => ?_⟩
      · obtain ⟨v1, e1, hh⟩ := X_plan J hv ho (s := s) (t := t) (by omega) hc
        rcases hh with ⟨n, -⟩ | ⟨S', z1, z2⟩
        · exact absurd hS.1 (n S)
        · rw [yLe_u hS z1]
          exact ⟨v1, by rw [hX v hv, z2, zb_s], e1⟩
      · obtain ⟨v1, e1, e2, e3⟩ := M_layDay K J.R hv.m0 (s := s) (by omega)
        rcases M_planL K e2 e3 ho hc with ⟨n, -⟩ | ⟨S', z1, z2⟩
        · exact absurd hS.1 (n S)
        · rw [yLe_u hS z1]
          exact ⟨v1, by rw [hM v hv, e1, zb_s, z2], e2⟩
    · refine ⟨-1, fun v hv => ?_, fun v hv => ?_⟩
      · obtain ⟨v1, e1, hh⟩ := X_plan J hv ho (s := s) (t := t) (by omega) hc
        rcases hh with ⟨-, z2⟩ | ⟨S', z1, -⟩
        · exact ⟨v1, by rw [hX v hv, z2, zb_s], e1⟩
        · exact absurd ⟨S', z1⟩ q
      · obtain ⟨v1, e1, e2, e3⟩ := M_layDay K J.R hv.m0 (s := s) (by omega)
        rcases M_planL K e2 e3 ho hc with ⟨-, z2⟩ | ⟨S', z1, -⟩
        · exact ⟨v1, by rw [hM v hv, e1, zb_s, z2], e2⟩
        · exact absurd ⟨S', z1⟩ q
  · refine ⟨-1, fun v hv => ⟨v, ?_, hv⟩, fun v hv => ⟨_, ?_, hv.m0⟩⟩
    · unfold f_X_plan
      rw [X_isSuch' K hv.k, zb_s]
      cases e : (gO u a && gD u b) with
      | false => rw [if_pos bf0]
      | true =>
        rw [Bool.and_eq_true] at e
        have g3 : ¬ (0 ≤ c.toInt ∧ c.toInt < (2 : Nat)) := fun z => g ⟨e, z⟩
        rw [if_neg bt0, X_is01, zb_s, decide_eq_false g3, if_pos bf0]
    · unfold f_M_plan
      rw [zl_s, M_isOathB K hv.m0.k, zb_s]
      cases e1 : gO u a with
      | false => rw [if_pos bf0]
      | true =>
        rw [if_neg bt0, M_isSeenDay' K hv.m0.k, zb_s]
        cases e2 : gD u b with
        | false => rw [if_pos bf0]
        | true =>
          have g3 : ¬ (0 ≤ c.toInt ∧ c.toInt < (2 : Nat)) := fun z => g ⟨⟨e1, e2⟩, z⟩
          rw [if_neg bt0, isIn_lit c (c := 1) 2 rfl, zb_s, decide_eq_false g3, if_pos bf0]
end
