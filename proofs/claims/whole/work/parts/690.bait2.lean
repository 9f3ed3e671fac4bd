/-! PURE: bait, the call -/
section
variable {u : gW}
theorem M_baitL (K : zK u) {w : gW} (h : zE u w) {s : Nat} {pr : Int32} (L : LD u s (yT u) w) : f_M_bait_b26 pr (-1 : Int32) (0 : Int32) w = some (rBt u s pr, w) := by
  have h8 := K.O8
  have key := zfx_ind (fun _ _ _ _ => none) f_M_bait_b26_s (fun m kk => ∀ x c, x + m = 10 → cN u x c → kk pr (sM u (bv u s pr) c) (nI x) w = some (rBt u s pr, w)) (fun m kk ih x c hx hc => by
    unfold f_M_bait_b26_s
    cases m with
    | zero =>
      rw [if_pos (show (9 : Int32) < nI x by rw [show (9 : Int32) = nI 9 from rfl, n_lt (by omega) (by omega)]; omega)]
      have ec : c = yO u + 1 := by unfold cN at hc; omega
      rw [ec, show sM u (bv u s pr) (yO u + 1) = nI (cod u (am (bv u s pr) (yO u))) from rfl, M_ans K h L (am_le _ _), zb_s, show (10 : Int32) = nI 10 from rfl, pk_mul, nI_add]
      rfl
    | succ m =>
      rw [if_neg (show ¬ (9 : Int32) < nI x by rw [show (9 : Int32) = nI 9 from rfl, n_lt (by omega) (by omega)]; omega), M_choice' K h (by omega), zb_s]
      by_cases q : x < yO u ∨ x = 9
      · have hcc : cod u c = x ∧ c ≤ yO u := by
          unfold cN at hc
          unfold cod
          by_cases y : x < yO u
          · rw [if_neg (by omega)]; omega
          · rw [if_pos (by omega)]; omega
        have hn : cN u (x + 1) (c + 1) := by unfold cN at hc ⊢; omega
        rw [decide_eq_true q, if_neg bt0]
        have nxt := ih m (by omega) (x + 1) (c + 1) (by omega) hn
        cases c with
        | zero =>
          rw [show sM u (bv u s pr) 0 = -1 from rfl, if_pos zm1]
          unfold f_M_bait_b76 f_M_bait_b79
          rw [zl_s, n_1]
          have e : sM u (bv u s pr) (0 + 1) = nI x := by rw [← hcc.1]; rfl
          rw [e] at nxt
          exact nxt
        | succ c =>
          have ha := am_le (bv u s pr) c
          have hk := cod_9 K (i := am (bv u s pr) c) (by omega)
          have e0 : sM u (bv u s pr) (c + 1) = nI (cod u (am (bv u s pr) c)) := rfl
          have e1 : sM u (bv u s pr) (c + 1 + 1) = nI (cod u (am (bv u s pr) (c + 1))) := rfl
          rw [e1, am_s] at nxt
          rw [e0, if_neg (by rw [n_m1 (by omega)]; exact id), ← hcc.1, M_ans K h L hcc.2, zb_s, M_share K h L hcc.2 (an_le _ _ _), zb_s, M_ans K h L (by omega), zb_s, M_share K h L (by omega) (an_le _ _ _), zb_s]
          by_cases cc : bv u s pr (c + 1) ≤ bv u s pr (am (bv u s pr) c)
          · rw [if_pos (show shV u s pr (c + 1) (an u s pr (c + 1)) ≤ shV u s pr (am (bv u s pr) c) (an u s pr (am (bv u s pr) c)) from cc)]
            rw [if_pos cc] at nxt
            unfold f_M_bait_b79
            rw [zl_s, n_1, hcc.1]
            exact nxt
          · rw [if_neg (show ¬ shV u s pr (c + 1) (an u s pr (c + 1)) ≤ shV u s pr (am (bv u s pr) c) (an u s pr (am (bv u s pr) c)) from cc)]
            rw [if_neg cc] at nxt
            unfold f_M_bait_b76 f_M_bait_b79
            rw [zl_s, n_1]
            rw [hcc.1] at nxt ⊢
            exact nxt
      · rw [decide_eq_false q, if_pos bf0]
        unfold f_M_bait_b79
        rw [zl_s, n_1]
        exact ih m (by omega) (x + 1) c (by omega) (by unfold cN at hc ⊢; omega)) zFU 10 (zfu (by omega))
  exact key 0 0 (by omega) (Or.inl ⟨by omega, by omega⟩)
theorem X_price (a : Int32) (w : gW) : f_X_isPrice a w = some (bI (decide (0 ≤ a.toInt ∧ a.toInt < (100 : Nat))), w) := by
  unfold f_X_isPrice
  by_cases c0 : a < 0
  · rw [if_pos c0]
    rw [i_lt, i_0] at c0
    rw [decide_eq_false (by omega)]; rfl
  · rw [if_neg c0]
    rw [i_lt, i_0] at c0
    by_cases c1 : (99 : Int32) < a
    · rw [if_pos c1]
      rw [i_lt, show (99 : Int32).toInt = 99 from rfl] at c1
      rw [decide_eq_false (by omega)]; rfl
    · rw [if_neg c1]
      rw [i_lt, show (99 : Int32).toInt = 99 from rfl] at c1
      rw [decide_eq_true (by omega)]; rfl
theorem M_isDuel' (K : zK u) {w : gW} (h : zE u w) (a b : Int32) : f_M_isDuel a b w = some (bI (gD u a && decide (0 ≤ b.toInt ∧ b.toInt < (100 : Nat))), w) := by
  unfold f_M_isDuel
  rw [M_isSeenDay' K h.k, zb_s]
  cases gD u a with
  | false => rw [if_pos bf0]; rfl
  | true =>
    rw [if_neg bt0, isIn_lit b (c := 99) 100 rfl, zb_s]
    cases e : decide (0 ≤ b.toInt ∧ b.toInt < ((100 : Nat) : Int)) with
    | false => rw [if_pos bf0]; rfl
    | true => rw [if_neg bt0]; rfl
theorem zJ.G (J : zJ u) : jGai u := J.2.2.2.2.1
theorem q_bait (J : zJ u) (a b : Int32) : zQ u (f_X_bait a b) (f_M_bait a b) := by
  have K := J.K
  have h6 := K.Y6
  by_cases g : gD u a = true ∧ (0 ≤ b.toInt ∧ b.toInt < (100 : Nat))
  · obtain ⟨g1, g3⟩ := g
    obtain ⟨s, rfl, hs, h0⟩ := gD_t g1
    refine ⟨rBt u s b, fun v hv => ?_, fun v hv => ?_⟩
    · obtain ⟨v1, e1, h1, T1, p1⟩ := Ga_prepare' K J.C hv (s := s) (by omega) b
      refine ⟨v1, ?_, h1⟩
      unfold f_X_bait
      rw [La_isDay' K hv.k, zb_s, g1, if_neg bt0, X_price, zb_s, decide_eq_true g3, if_neg bt0, e1, zb_s, Ga_bait K J.G h1 T1 p1, zb_s]
    · obtain ⟨v1, e1, e2, e3⟩ := M_layDay K J.R hv.m0 (s := s) (by omega)
      refine ⟨v1, ?_, e2⟩
      unfold f_M_bait
      rw [zl_s, M_isDuel' K hv.m0, zb_s, g1, decide_eq_true g3, if_neg (show ¬ bI (true && true) = 0 by decide), e1, zb_s, M_baitL K e2 e3]
  · refine ⟨-1, fun v hv => ⟨v, ?_, hv⟩, fun v hv => ⟨_, ?_, hv.m0⟩⟩
    · unfold f_X_bait
      rw [La_isDay' K hv.k, zb_s]
      cases e : gD u a with
      | false => rw [if_pos bf0]
      | true =>
        have g3 : ¬ (0 ≤ b.toInt ∧ b.toInt < (100 : Nat)) := fun z => g ⟨e, z⟩
        rw [if_neg bt0, X_price, zb_s, decide_eq_false g3, if_pos bf0]
    · unfold f_M_bait
      rw [zl_s, M_isDuel' K hv.m0, zb_s]
      cases e : gD u a with
      | false => rw [if_pos (show bI (false && _) = 0 from rfl)]
      | true =>
        have g3 : ¬ (0 ≤ b.toInt ∧ b.toInt < (100 : Nat)) := fun z => g ⟨e, z⟩
        rw [decide_eq_false g3, if_pos (show bI (true && false) = 0 from rfl)]
end
