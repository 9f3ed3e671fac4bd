/-! PURE: duel, the model and the call -/
section
variable {u : gW}
theorem cN_c {x c : Nat} (K : zK u) (hc : cN u x c) (hx : x ≤ 9) (q : x < yO u ∨ x = 9) : (cod u c = x ∧ c ≤ yO u) ∧ cN u (x + 1) (c + 1) := by
  have h8 := K.O8
  unfold cN at hc ⊢
  unfold cod
  by_cases y : x < yO u
  · rw [if_neg (by omega)]; omega
  · rw [if_pos (by omega)]; omega
theorem cN_n {x c : Nat} (hc : cN u x c) (hx : x ≤ 9) (q : ¬ (x < yO u ∨ x = 9)) : cN u (x + 1) c := by
  unfold cN at hc ⊢
  omega
theorem M_duelL (K : zK u) {w : gW} (h : zE u w) {s : Nat} {pr : Int32} (L : LD u s (yT u) w) (a : Int32) : f_M_duel_b32 pr a (0 : Int32) (0 : Int32) w = some (rDu u s pr a, w) := by
  have h8 := K.O8
  have key := zfx_ind (fun _ _ _ _ _ => none) f_M_duel_b32_s (fun m kk => ∀ x i, x + m = 10 → cN u x i → fd (yRe u s pr) a (i * (yO u + 1)) = none → kk pr a (nI (fb_ct (yRe u s pr) (i * (yO u + 1)))) (nI x) w = some (rDu u s pr a, w)) (fun m kk ih x i hx hc hn => by
    unfold f_M_duel_b32_s
    cases m with
    | zero =>
      rw [if_pos (show (9 : Int32) < nI x by rw [show (9 : Int32) = nI 9 from rfl, n_lt (by omega) (by omega)]; omega)]
      have ei : i = yO u + 1 := by unfold cN at hc; omega
      unfold rDu
      rw [ei] at hn ⊢
      rw [hn]
      dsimp only
      by_cases c : a = -1
      · rw [if_pos c, if_pos c]
      · rw [if_neg c, if_neg c]
    | succ m =>
      rw [if_neg (show ¬ (9 : Int32) < nI x by rw [show (9 : Int32) = nI 9 from rfl, n_lt (by omega) (by omega)]; omega)]
      by_cases q : x < yO u ∨ x = 9
      · obtain ⟨⟨ci, hi2⟩, hnx⟩ := cN_c K hc (by omega) q
        have inner := zfx_ind (fun _ _ _ _ _ _ => none) (f_M_duel_b42_s kk) (fun m2 k2 => ∀ y j, y + m2 = 10 → cN u y j → fd (yRe u s pr) a (i * (yO u + 1) + j) = none → k2 pr a (nI (fb_ct (yRe u s pr) (i * (yO u + 1) + j))) (nI x) (nI y) w = some (rDu u s pr a, w)) (fun m2 k2 ih2 y j hy hcj hn => by
          unfold f_M_duel_b42_s
          cases m2 with
          | zero =>
            rw [if_pos (show (9 : Int32) < nI y by rw [show (9 : Int32) = nI 9 from rfl, n_lt (by omega) (by omega)]; omega), zl_s, n_1]
            have ej : j = yO u + 1 := by unfold cN at hcj; omega
            subst ej
            rw [← Nat.succ_mul] at hn ⊢
            exact ih m (by omega) (x + 1) (i + 1) (by omega) hnx hn
          | succ m2 =>
            rw [if_neg (show ¬ (9 : Int32) < nI y by rw [show (9 : Int32) = nI 9 from rfl, n_lt (by omega) (by omega)]; omega), M_choice' K h (by omega), zb_s, decide_eq_true q, if_neg bt0, M_choice' K h (by omega), zb_s]
            by_cases qy : y < yO u ∨ y = 9
            · obtain ⟨⟨cj, hj2⟩, hny⟩ := cN_c K hcj (by omega) qy
              have hb := yRe_b (u := u) s pr (i := i) hj2
              have es := fd_s hn
              have ec : fb_ct (yRe u s pr) (i * (yO u + 1) + j + 1) = fb_ct (yRe u s pr) (i * (yO u + 1) + j) + if yRe u s pr (i * (yO u + 1) + j) = true then 1 else 0 := fb_ct_succ _ _
              rw [decide_eq_true qy, if_neg bt0]
              obtain ⟨bb, e1, e2⟩ := M_rest K h L hi2 hj2
              rw [ci, cj] at e1
              rw [e1, zb_s]
              have go : ∀ ct, ct = fb_ct (yRe u s pr) (i * (yO u + 1) + j + 1) → fd (yRe u s pr) a (i * (yO u + 1) + j + 1) = none → f_M_duel_b100 kk k2 pr a (nI ct) (nI x) (nI y) w = some (rDu u s pr a, w) := by
                intro ct hct hf
                subst hct
                unfold f_M_duel_b100
                rw [zl_s, n_1]
                exact ih2 m2 (by omega) (y + 1) (j + 1) (by omega) hny hf
              cases bb with
              | false =>
                have z : ¬ yRe u s pr (i * (yO u + 1) + j) = true := fun z => by have := e2.mpr (hb.mp z); cases this
                rw [if_pos bf0]
                exact go _ (by rw [ec, if_neg z]; rfl) (by rw [es, if_neg (fun y => z y.1)])
              | true =>
                have hr := hb.mpr (e2.mp rfl)
                rw [if_neg bt0]
                by_cases c : nI (fb_ct (yRe u s pr) (i * (yO u + 1) + j)) = a
                · rw [if_pos c, rDu_s hi2 hj2 hn hr c, ci, cj, show (10 : Int32) = nI 10 from rfl, pk_mul, nI_add]
                · rw [if_neg c, n_1, zl_s]
                  exact go _ (by rw [ec, if_pos hr]) (by rw [es, if_neg (fun y => c y.2)])
            · rw [decide_eq_false qy, if_pos bf0]
              unfold f_M_duel_b100
              rw [zl_s, n_1]
              exact ih2 m2 (by omega) (y + 1) j (by omega) (cN_n hcj (by omega) qy) hn) zFU 10 (zfu (by omega))
        exact inner 0 0 (by omega) (Or.inl ⟨by omega, by omega⟩) hn
      · have inner := zfx_ind (fun _ _ _ _ _ _ => none) (f_M_duel_b42_s kk) (fun m2 k2 => ∀ y, y + m2 = 10 → k2 pr a (nI (fb_ct (yRe u s pr) (i * (yO u + 1)))) (nI x) (nI y) w = some (rDu u s pr a, w)) (fun m2 k2 ih2 y hy => by
          unfold f_M_duel_b42_s
          cases m2 with
          | zero =>
            rw [if_pos (show (9 : Int32) < nI y by rw [show (9 : Int32) = nI 9 from rfl, n_lt (by omega) (by omega)]; omega), zl_s, n_1]
            exact ih m (by omega) (x + 1) i (by omega) (cN_n hc (by omega) q) hn
          | succ m2 =>
            rw [if_neg (show ¬ (9 : Int32) < nI y by rw [show (9 : Int32) = nI 9 from rfl, n_lt (by omega) (by omega)]; omega), M_choice' K h (by omega), zb_s, decide_eq_false q, if_pos bf0]
            unfold f_M_duel_b100
            rw [zl_s, n_1]
            exact ih2 m2 (by omega) (y + 1) (by omega)) zFU 10 (zfu (by omega))
        exact inner 0 (by omega)) zFU 10 (zfu (by omega))
  have k0 := key 0 0 (by omega) (Or.inl ⟨by omega, by omega⟩) (by rw [Nat.zero_mul]; rfl)
  rw [Nat.zero_mul] at k0
  exact k0
theorem fd_neg (R : Nat → Bool) {a : Int32} (ha : a < -1) : ∀ n, n < 2 ^ 30 → fd R a n = none
  | 0, _ => rfl
  | n + 1, hn => by
    rw [fd_s (fd_neg R ha n (by omega)), if_neg (fun z => by
      have hc := fb_ct_le R n
      have := z.2
      rw [← this, n_ltm1 (by omega)] at ha
      exact ha)]
theorem rDu_neg (K : zK u) {s : Nat} {pr a : Int32} (ha : a < -1) : rDu u s pr a = -1 := by
  have h8 := K.O8
  have hm : (yO u + 1) * (yO u + 1) ≤ 9 * 9 := Nat.mul_le_mul (by omega) (by omega)
  unfold rDu
  rw [fd_neg _ ha _ (by omega)]
  dsimp only
  rw [if_neg (fun z => by rw [z] at ha; exact absurd ha (by decide))]
theorem q_duel (J : zJ u) (a b c : Int32) : zQ u (f_X_duel a b c) (f_M_duel a b c) := by
  have K := J.K
  have h6 := K.Y6
  by_cases g : gD u a = true ∧ (0 ≤ b.toInt ∧ b.toInt < (100 : Nat))
  · obtain ⟨g1, g3⟩ := g
    obtain ⟨s, rfl, hs, h0⟩ := gD_t g1
    refine ⟨rDu u s b c, fun v hv => ?_, fun v hv => ?_⟩
    · obtain ⟨v1, e1, h1, T1, p1⟩ := Ga_prepare' K J.C hv (s := s) (by omega) b
      refine ⟨v1, ?_, h1⟩
      unfold f_X_duel
      rw [La_isDay' K hv.k, zb_s, g1, if_neg bt0, X_price, zb_s, decide_eq_true g3, if_neg bt0, e1, zb_s, Ga_duel K J.G h1 T1 p1, zb_s]
    · have hd : f_M_isDuel (nI s) b (zsI v 107 0 0) = some (1, zsI v 107 0 0) := by
        rw [M_isDuel' K hv.m0, g1, decide_eq_true g3]; rfl
      by_cases hm : (-1 : Int32) ≤ c
      · obtain ⟨v1, e1, e2, e3⟩ := M_layDay K J.R hv.m0 (s := s) (by omega)
        refine ⟨v1, ?_, e2⟩
        unfold f_M_duel
        rw [zl_s, hd, zb_s, if_neg (show ¬ (1 : Int32) = 0 by decide), if_pos hm, e1, zb_s, M_duelL K e2 e3]
      · refine ⟨_, ?_, hv.m0⟩
        unfold f_M_duel
        rw [zl_s, hd, zb_s, if_neg (show ¬ (1 : Int32) = 0 by decide), if_neg hm, rDu_neg K (by rw [i_le] at hm; rw [i_lt]; omega)]
  · refine ⟨-1, fun v hv => ⟨v, ?_, hv⟩, fun v hv => ⟨_, ?_, hv.m0⟩⟩
    · unfold f_X_duel
      rw [La_isDay' K hv.k, zb_s]
      cases e : gD u a with
      | false => rw [if_pos bf0]
      | true =>
        have g3 : ¬ (0 ≤ b.toInt ∧ b.toInt < (100 : Nat)) := fun z => g ⟨e, z⟩
        rw [if_neg bt0, X_price, zb_s, decide_eq_false g3, if_pos bf0]
    · unfold f_M_duel
      rw [zl_s, M_isDuel' K hv.m0, zb_s]
      cases e : gD u a with
      | false => rw [if_pos (show bI (false && _) = 0 from rfl)]
      | true =>
        have g3 : ¬ (0 ≤ b.toInt ∧ b.toInt < (100 : Nat)) := fun z => g ⟨e, z⟩
        rw [decide_eq_false g3, if_pos (show bI (true && false) = 0 from rfl)]
end
