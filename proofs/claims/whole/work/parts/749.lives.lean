/-! PURE: the model's land and lives laid -/
section
variable {u : gW}
theorem blk_mod {p y Z o : Nat} (h : p % (y * Z) = 0) : (p + o * Z) % Z = 0 := by
  rw [Nat.add_mul_mod_self_right, ← Nat.mod_mul_left_mod p y Z, h, Nat.zero_mod]
theorem M_lay (K : zB u) : ∀ (m d fu : Nat), d + m = yD u → m < fu → ∀ (p N : Nat) (v : gW), p % yZd u d = 0 → p + yZd u d ≤ yT u → (∀ k, p ≤ k → k < p + yZd u d → yn u k d = N) → v.1 107 21 = nI (yD u) → (∀ e, e < yD u → v.1 113 e = nI (yf u e) ∧ v.1 114 e = nI (yl u e)) → v.1 107 26 = nI p → ∃ v' : gW, zfx (fun _ _ _ => none) f_M_layLives_rec fu (nI d) (nI N) v = some ((), v') ∧ v'.1 107 26 = nI (p + yZd u d) ∧ (∀ k, p ≤ k → k < p + yZd u d → v'.1 118 k = nI (yN u k)) ∧ (∀ a b, ¬ (a = 118 ∧ p ≤ b ∧ b < p + yZd u d) → ¬ (a = 107 ∧ b = 26) → v'.1 a b = v.1 a b) ∧ v'.2 = v.2 := by
  have h5 := K.D5
  have hT := K.T7
  intro m
  induction m with
  | zero =>
    intro d fu hd hf p N v hp1 hp2 hN c21 cT c26
    obtain ⟨f', rfl⟩ : ∃ f', fu = f' + 1 := ⟨fu - 1, by omega⟩
    have ed : d = yD u := by omega
    rw [zfx_s]
    generalize zfx (fun _ _ _ => none) f_M_layLives_rec f' = Z
    unfold f_M_layLives_rec
    rw [ed, yZd_e] at hp2 hN ⊢
    have e1 : yN u p = N := hN p (Nat.le_refl _) (by omega)
    rw [c21, if_pos rfl, c26, if_pos (z_inbn (by omega) (by decide)), zl_s, zl_s, z_ix (by omega)]
    have c26' : (zsI v 118 p (nI N)).1 107 26 = nI p := c26
    rw [c26', n_1]
    refine ⟨_, rfl, rfl, fun k k1 k2 => ?_, fun a b q1 q2 => ?_, rfl⟩
    · have ek : k = p := by omega
      subst ek
      rw [zsI_g, if_neg (by omega), zsI_g, if_pos ⟨rfl, rfl⟩, e1]
    · rw [zsI_g, if_neg q2, zsI_g, if_neg (by omega)]
  | succ m ih =>
    intro d fu hd hf p N v hp1 hp2 hN c21 cT c26
    obtain ⟨f', rfl⟩ : ∃ f', fu = f' + 1 := ⟨fu - 1, by omega⟩
    have hdD : d < yD u := by omega
    have eZ := yZd_sB K hdD
    have ihf := ih (d + 1) f' (by omega) (by omega)
    rw [zfx_s]
    generalize zfx (fun _ _ _ => none) f_M_layLives_rec f' = Z at ihf ⊢
    unfold f_M_layLives_rec
    have q := K.dd hdD
    have hyo : yo u d = yl u d + 2 - yf u d := rfl
    generalize hS : yZd u (d + 1) = S at *
    rw [c21, if_neg (by rw [n_eq (by omega) (by omega)]; omega), if_pos (z_inbn (by omega) (by decide)), zl_s, z_ix (by omega), (cT d hdD).1]
    have key := zfx_ind (fun _ _ _ _ => none) (f_M_layLives_b36_s Z) (fun m2 k2 => ∀ o v1, o + m2 = yo u d - 1 → v1.1 107 26 = nI (p + o * S) → (∀ k, p ≤ k → k < p + o * S → v1.1 118 k = nI (yN u k)) → (∀ a b, ¬ (a = 118 ∧ p ≤ b ∧ b < p + yZd u d) → ¬ (a = 107 ∧ b = 26) → v1.1 a b = v.1 a b) → v1.2 = v.2 → ∃ v' : gW, k2 (nI d) (nI N) (nI (yf u d + o)) v1 = some ((), v') ∧ v'.1 107 26 = nI (p + yZd u d) ∧ (∀ k, p ≤ k → k < p + yZd u d → v'.1 118 k = nI (yN u k)) ∧ (∀ a b, ¬ (a = 118 ∧ p ≤ b ∧ b < p + yZd u d) → ¬ (a = 107 ∧ b = 26) → v'.1 a b = v.1 a b) ∧ v'.2 = v.2) (fun m2 k2 ih2 o v1 hm2 g26 g118 gf g2 => by
      unfold f_M_layLives_b36_s
      have c114 : v1.1 114 d = nI (yl u d) := (gf 114 d (by omega) (by omega)).trans (cT d hdD).2
      rw [if_pos (z_inbn (by omega) (by decide)), z_ix (by omega), c114]
      have ble : (o + 1) * S ≤ yZd u d := by rw [eZ.1]; exact Nat.mul_le_mul_right _ (by omega)
      rw [Nat.succ_mul] at ble
      have nn : ∀ k, p + o * S ≤ k → k < p + o * S + S → yn u k (d + 1) = 10 * N + yg u d o := fun k k1 k2 => by
        have eo := yop_bB (u := u) (d := d) (p := p) (o := o) (k := k) K hdD (by omega) hp1 (by rw [hS]; exact k1) (by rw [hS, Nat.succ_mul]; omega)
        show yn u k d * 10 + yd u k d = _
        rw [hN k (by omega) (by omega)]
        unfold yd
        rw [eo, Nat.mul_comm]
      obtain ⟨v', r1, r2, r3, r4, r5⟩ := ihf (p + o * S) (10 * N + yg u d o) v1 (by rw [eZ.1] at hp1; exact blk_mod hp1) (by omega) nn ((gf 107 21 (by omega) (by omega)).trans c21) (fun e he => ⟨(gf 113 e (by omega) (by omega)).trans (cT e he).1, (gf 114 e (by omega) (by omega)).trans (cT e he).2⟩) g26
      have r6 : v'.1 107 26 = nI (p + (o + 1) * S) := by rw [r2, Nat.succ_mul, Nat.add_assoc]
      have r7 : ∀ k, p ≤ k → k < p + (o + 1) * S → v'.1 118 k = nI (yN u k) := fun k k1 k2 => by
        rw [Nat.succ_mul] at k2
        by_cases z : k < p + o * S
        · rw [r4 118 k (by omega) (by omega)]
          exact g118 k k1 z
        · exact r3 k (by omega) (by omega)
      have r8 : ∀ a b, ¬ (a = 118 ∧ p ≤ b ∧ b < p + yZd u d) → ¬ (a = 107 ∧ b = 26) → v'.1 a b = v.1 a b := fun a b q1 q2 => by
        rw [r4 a b (by omega) q2]
        exact gf a b q1 q2
      have r9 : v'.2 = v.2 := r5.trans g2
      cases m2 with
      | zero =>
        have e9 : yg u d o = 9 := by
          unfold yg
          rw [if_neg (by omega)]
        rw [e9] at r1
        rw [if_pos (by rw [n_lt (by omega) (by omega)]; omega), n_1, show (10 : Int32) = nI 10 from rfl, show (9 : Int32) = nI 9 from rfl, pk_mul, nI_add, r1, zb_s]
        have eo : (o + 1) * S = yZd u d := by rw [eZ.1, show yo u d = o + 1 by omega]
        rw [eo] at r6 r7
        exact ⟨v', rfl, r6, r7, r8, r9⟩
      | succ m2 =>
        have eg : yg u d o = yf u d + o := by
          unfold yg
          rw [if_pos (by omega)]
        rw [eg] at r1
        rw [if_neg (by rw [n_lt (by omega) (by omega)]; omega), n_1, show (10 : Int32) = nI 10 from rfl, pk_mul, nI_add, r1, zb_s, zl_s, n_1]
        exact ih2 m2 (by omega) (o + 1) v' (by omega) r6 r7 r8 r9) zFU (yo u d - 1) (zfu (by omega))
    exact key 0 v (by omega) (by rw [Nat.zero_mul]; exact c26) (fun k k1 k2 => absurd k2 (by omega)) (fun _ _ _ _ => rfl) rfl
theorem M_layLives' (K : zB u) {w : gW} (c21 : w.1 107 21 = nI (yD u)) (cT : ∀ e, e < yD u → w.1 113 e = nI (yf u e) ∧ w.1 114 e = nI (yl u e)) (c26 : w.1 107 26 = 0) : ∃ v : gW, f_M_layLives (0 : Int32) (0 : Int32) w = some ((), v) ∧ v.1 107 26 = nI (yT u) ∧ (∀ k, k < yT u → v.1 118 k = nI (yN u k)) ∧ (∀ a b, a ≠ 118 → ¬ (a = 107 ∧ b = 26) → v.1 a b = w.1 a b) ∧ v.2 = w.2 := by
  have h5 := K.D5
  obtain ⟨v, e1, e2, e3, e4, e5⟩ := M_lay K (yD u) 0 16 (by omega) (by omega) 0 0 w (Nat.zero_mod _) (by rw [yZd_T K, Nat.zero_add]; exact Nat.le_refl _) (fun k _ _ => rfl) c21 cT c26
  rw [yZd_T K, Nat.zero_add] at e2 e3
  exact ⟨v, e1, e2, fun k hk => e3 k (Nat.zero_le _) hk, fun a b q1 q2 => e4 a b (fun z => q1 z.1) q2, e5⟩
/-- the model's text of a land, the draft read -/
theorem M_lay133 (K : zB u) {w : gW} (c21 : w.1 107 21 = nI (yD u)) (cT : ∀ e, e < yD u → w.1 115 e = nI (yr u e) ∧ w.1 116 e = nI (yf u e) ∧ w.1 117 e = nI (yl u e)) : ∃ v : gW, f_M_text_b133 (0 : Int32) w = some (nI (yD u), v) ∧ (v.1 107 35 = 0 ∧ v.1 107 36 = 0 ∧ v.1 107 37 = 0 ∧ v.1 107 58 = 0 ∧ v.1 107 26 = nI (yT u)) ∧ (∀ e, e < yD u → v.1 112 e = nI (yr u e) ∧ v.1 113 e = nI (yf u e) ∧ v.1 114 e = nI (yl u e)) ∧ (∀ j, j < 50 → v.1 129 j = 1) ∧ (∀ k, k < yT u → v.1 118 k = nI (yN u k)) ∧ (∀ a b, ¬ (a = 107 ∧ (b = 35 ∨ b = 36 ∨ b = 37 ∨ b = 58 ∨ b = 26)) → ¬ (112 ≤ a ∧ a ≤ 114) → a ≠ 118 → a ≠ 129 → v.1 a b = w.1 a b) ∧ v.2 = w.2 := by
  have h5 := K.D5
  have key := zfx_ind (fun _ _ => none) f_M_text_b133_s (fun m kk => ∀ d v, d + m = 5 → (∀ a b, ¬ (112 ≤ a ∧ a ≤ 114) → a ≠ 129 → v.1 a b = w.1 a b) → v.2 = w.2 → (∀ e, e < d → v.1 112 e = w.1 115 e ∧ v.1 113 e = w.1 116 e ∧ v.1 114 e = w.1 117 e) → (∀ j, j < 10 * d → v.1 129 j = 1) → ∃ v' : gW, kk (nI d) v = some (nI (yD u), v') ∧ (v'.1 107 35 = 0 ∧ v'.1 107 36 = 0 ∧ v'.1 107 37 = 0 ∧ v'.1 107 58 = 0 ∧ v'.1 107 26 = nI (yT u)) ∧ (∀ e, e < yD u → v'.1 112 e = nI (yr u e) ∧ v'.1 113 e = nI (yf u e) ∧ v'.1 114 e = nI (yl u e)) ∧ (∀ j, j < 50 → v'.1 129 j = 1) ∧ (∀ k, k < yT u → v'.1 118 k = nI (yN u k)) ∧ (∀ a b, ¬ (a = 107 ∧ (b = 35 ∨ b = 36 ∨ b = 37 ∨ b = 58 ∨ b = 26)) → ¬ (112 ≤ a ∧ a ≤ 114) → a ≠ 118 → a ≠ 129 → v'.1 a b = w.1 a b) ∧ v'.2 = w.2) (fun m kk ih d v hm hv h2 hT h9 => by
    unfold f_M_text_b133_s
    cases m with
    | zero =>
      have e5 : d = 5 := by omega
      subst e5
      rw [if_pos (show (5 : Int32) ≤ nI 5 by decide), zl_s, zl_s, zl_s, zl_s, zl_s]
      generalize hW : zsI (zsI (zsI (zsI (zsI v 107 35 0) 107 36 0) 107 37 0) 107 58 0) 107 26 0 = W
      have Wo : ∀ a b, ¬ (a = 107 ∧ (b = 35 ∨ b = 36 ∨ b = 37 ∨ b = 58 ∨ b = 26)) → W.1 a b = v.1 a b := fun a b q => by
        rw [← hW, zsI_g, if_neg (by omega), zsI_g, if_neg (by omega), zsI_g, if_neg (by omega), zsI_g, if_neg (by omega), zsI_g, if_neg (by omega)]
      have eT : ∀ e, e < yD u → W.1 112 e = nI (yr u e) ∧ W.1 113 e = nI (yf u e) ∧ W.1 114 e = nI (yl u e) := fun e he => by
        have a := cT e he
        have b := hT e (by omega)
        rw [Wo _ _ (by omega), Wo _ _ (by omega), Wo _ _ (by omega), b.1, b.2.1, b.2.2]
        exact a
      have W21 : W.1 107 21 = nI (yD u) := by rw [Wo _ _ (by omega), hv _ _ (by omega) (by omega)]; exact c21
      obtain ⟨v', l1, l2, l3, l4, l5⟩ := M_layLives' K (w := W) W21 (fun e he => (eT e he).2) (by rw [← hW]; rfl)
      rw [l1, zb_s, l4 107 21 (by omega) (by omega), W21]
      have z : ∀ b, b = 35 ∨ b = 36 ∨ b = 37 ∨ b = 58 → v'.1 107 b = 0 := fun b hb => by
        rw [l4 107 b (by omega) (by omega), ← hW]
        rcases hb with e | e | e | e <;> subst e <;> rfl
      refine ⟨v', rfl, ⟨z 35 (by omega), z 36 (by omega), z 37 (by omega), z 58 (by omega), l2⟩, fun e he => ?_, fun j hj => ?_, l3, fun a b q1 q2 q3 q4 => ?_, ?_⟩
      · rw [l4 _ _ (by omega) (by omega), l4 _ _ (by omega) (by omega), l4 _ _ (by omega) (by omega)]
        exact eT e he
      · rw [l4 _ _ (by omega) (by omega), Wo _ _ (by omega)]
        exact h9 j (by omega)
      · rw [l4 a b q3 (by omega), Wo a b q1]
        exact hv a b q2 q4
      · rw [l5, ← hW]
        exact h2
    | succ m =>
      have i5 : inb (nI d) 5 := z_inbn (by omega) (by decide)
      rw [if_neg (by rw [show (5 : Int32) = nI 5 from rfl, n_le (by omega) (by omega)]; omega)]
      simp only [if_pos i5]
      rw [zl_s, zl_s, zl_s, z_ix (by omega)]
      generalize hW : zsI (zsI (zsI v 112 d (v.1 115 d)) 113 d ((zsI v 112 d (v.1 115 d)).1 116 d)) 114 d ((zsI (zsI v 112 d (v.1 115 d)) 113 d ((zsI v 112 d (v.1 115 d)).1 116 d)).1 117 d) = W
      have Wo : ∀ a b, ¬ (112 ≤ a ∧ a ≤ 114) → W.1 a b = v.1 a b := fun a b q => by
        rw [← hW, zsI_g, if_neg (by omega), zsI_g, if_neg (by omega), zsI_g, if_neg (by omega)]
      have WT : ∀ e, e < d + 1 → W.1 112 e = w.1 115 e ∧ W.1 113 e = w.1 116 e ∧ W.1 114 e = w.1 117 e := fun e he => by
        rw [← hW]
        by_cases z : e = d
        · subst z
          refine ⟨?_, ?_, ?_⟩
          · rw [zsI_g, if_neg (by omega), zsI_g, if_neg (by omega), zsI_g, if_pos ⟨rfl, rfl⟩]
            exact hv _ _ (by omega) (by omega)
          · rw [zsI_g, if_neg (by omega), zsI_g, if_pos ⟨rfl, rfl⟩, zsI_g, if_neg (by omega)]
            exact hv _ _ (by omega) (by omega)
          · rw [zsI_g, if_pos ⟨rfl, rfl⟩, zsI_g, if_neg (by omega), zsI_g, if_neg (by omega)]
            exact hv _ _ (by omega) (by omega)
        · have := hT e (by omega)
          refine ⟨?_, ?_, ?_⟩
          · rw [zsI_g, if_neg (by omega), zsI_g, if_neg (by omega), zsI_g, if_neg (by omega)]
            exact this.1
          · rw [zsI_g, if_neg (by omega), zsI_g, if_neg (by omega), zsI_g, if_neg (by omega)]
            exact this.2.1
          · rw [zsI_g, if_neg (by omega), zsI_g, if_neg (by omega), zsI_g, if_neg (by omega)]
            exact this.2.2
      have W2 : W.2 = w.2 := by rw [← hW]; exact h2
      have key2 := zfx_ind (fun _ _ _ => none) (f_M_text_b177_s kk) (fun m2 k2 => ∀ e v1, e + m2 = 10 → (∀ a b, a ≠ 129 → v1.1 a b = W.1 a b) → v1.2 = w.2 → (∀ j, j < 10 * d + e → v1.1 129 j = 1) → ∃ v' : gW, k2 (nI d) (nI e) v1 = some (nI (yD u), v') ∧ (v'.1 107 35 = 0 ∧ v'.1 107 36 = 0 ∧ v'.1 107 37 = 0 ∧ v'.1 107 58 = 0 ∧ v'.1 107 26 = nI (yT u)) ∧ (∀ e, e < yD u → v'.1 112 e = nI (yr u e) ∧ v'.1 113 e = nI (yf u e) ∧ v'.1 114 e = nI (yl u e)) ∧ (∀ j, j < 50 → v'.1 129 j = 1) ∧ (∀ k, k < yT u → v'.1 118 k = nI (yN u k)) ∧ (∀ a b, ¬ (a = 107 ∧ (b = 35 ∨ b = 36 ∨ b = 37 ∨ b = 58 ∨ b = 26)) → ¬ (112 ≤ a ∧ a ≤ 114) → a ≠ 118 → a ≠ 129 → v'.1 a b = w.1 a b) ∧ v'.2 = w.2) (fun m2 k2 ih2 e v1 hm2 g1 g2 g9 => by
        unfold f_M_text_b177_s
        cases m2 with
        | zero =>
          rw [if_pos (by rw [show (9 : Int32) = nI 9 from rfl, n_lt (by omega) (by omega)]; omega), zl_s, n_1]
          refine ih m (by omega) (d + 1) v1 (by omega) (fun a b q1 q2 => ?_) g2 (fun x hx => ?_) (fun j hj => g9 j (by omega))
          · rw [g1 a b q2, Wo a b q1]
            exact hv a b q1 q2
          · rw [g1 _ _ (by omega), g1 _ _ (by omega), g1 _ _ (by omega)]
            exact WT x hx
        | succ m2 =>
          have e10 : (10 : Int32) * nI d + nI e = nI (10 * d + e) := by rw [show (10 : Int32) = nI 10 from rfl, pk_mul, nI_add]
          rw [if_neg (by rw [show (9 : Int32) = nI 9 from rfl, n_lt (by omega) (by omega)]; omega), e10, if_pos (z_inbn (by omega) (by decide)), zl_s, zl_s, n_1, z_ix (by omega)]
          refine ih2 m2 (by omega) (e + 1) _ (by omega) (fun a b q => ?_) g2 (fun j hj => ?_)
          · rw [zsI_g, if_neg (fun z => q z.1)]
            exact g1 a b q
          · rw [zsI_g]
            by_cases z : j = 10 * d + e
            · rw [if_pos ⟨rfl, z⟩]
            · rw [if_neg (by omega)]
              exact g9 j (by omega)) zFU 10 (zfu (by omega))
      exact key2 0 W (by omega) (fun _ _ _ => rfl) W2 (fun j hj => by rw [Wo _ _ (by omega)]; exact h9 j (by omega))) zFU 5 (zfu (by omega))
  exact key 0 w (by omega) (fun _ _ _ _ => rfl) rfl (fun e he => absurd he (Nat.not_lt_zero e)) (fun j hj => absurd hj (by omega))
end
