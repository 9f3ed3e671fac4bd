/-! PURE: the rest of a duel, both sides -/
section
variable {u : gW}
def yBst (u : gW) (s : Nat) (pr : Int32) (i j : Nat) : Prop := ∀ l, l ≤ yO u → shV u s pr l j ≤ shV u s pr i j
theorem Ga_best (K : zK u) (G : jGai u) {w : gW} (h : zE u w) {s : Nat} {pr : Int32} (T : GT u s w) (hp : w.1 105 3 = pr) {i j : Nat} (hi : i ≤ yO u) (hj : j ≤ yO u) : ∃ b : Bool, f_Ga_isBest (nI i) (nI j) w = some (bI b, w) ∧ (b = true ↔ yBst u s pr i j) := by
  have h8 := K.O8
  have key := zfx_ind (fun _ _ _ _ => none) f_Ga_isBest_b2_s (fun m kk => ∀ l, l + m = yO u + 1 → (∀ l2, l2 < l → shV u s pr l2 j ≤ shV u s pr i j) → ∃ b : Bool, kk (nI i) (nI j) (nI l) w = some (bI b, w) ∧ (b = true ↔ yBst u s pr i j)) (fun m kk ih l hl hq => by
    unfold f_Ga_isBest_b2_s
    rw [Oa_size' K h.k, zb_s]
    cases m with
    | zero =>
      rw [if_pos (by rw [n_lt (by omega) (by omega)]; omega)]
      exact ⟨true, rfl, fun _ l2 h2 => hq l2 (by omega), fun _ => rfl⟩
    | succ m =>
      rw [if_neg (by rw [n_lt (by omega) (by omega)]; omega), Ga_share K G h T hp (by omega) hj, zb_s, Ga_share K G h T hp hi hj, zb_s]
      by_cases c : shV u s pr l j ≤ shV u s pr i j
      · rw [if_pos c, zl_s, n_1]
        refine ih m (by omega) (l + 1) (by omega) (fun l2 h2 => ?_)
        by_cases y : l2 = l
        · rw [y]; exact c
        · exact hq l2 (by omega)
      · rw [if_neg c]
        exact ⟨false, rfl, fun z => (by cases z), fun z => absurd (z l (by omega)) c⟩) zFU (yO u + 1) (zfu (by omega))
  unfold f_Ga_isBest
  exact key 0 (by omega) (fun l2 h2 => absurd h2 (Nat.not_lt_zero l2))
theorem M_rest (K : zK u) {w : gW} (h : zE u w) {s : Nat} {pr : Int32} (L : LD u s (yT u) w) {i j : Nat} (hi : i ≤ yO u) (hj : j ≤ yO u) : ∃ b : Bool, f_M_isRest (nI (cod u i)) (nI (cod u j)) pr w = some (bI b, w) ∧ (b = true ↔ yBst u s pr i j ∧ yBst u s pr j i) := by
  have h8 := K.O8
  have key := zfx_ind (fun _ _ _ _ _ => none) f_M_isRest_b3_s (fun m kk => ∀ x c, x + m = 10 → cN u x c → (∀ l, l < c → shV u s pr l j ≤ shV u s pr i j ∧ shV u s pr l i ≤ shV u s pr j i) → ∃ b : Bool, kk (nI (cod u i)) (nI (cod u j)) pr (nI x) w = some (bI b, w) ∧ (b = true ↔ yBst u s pr i j ∧ yBst u s pr j i)) (fun m kk ih x c hx hc hq => by
    unfold f_M_isRest_b3_s
    cases m with
    | zero =>
      rw [if_pos (show (9 : Int32) < nI x by rw [show (9 : Int32) = nI 9 from rfl, n_lt (by omega) (by omega)]; omega)]
      have ec : c = yO u + 1 := by unfold cN at hc; omega
      exact ⟨true, rfl, fun _ => ⟨fun l hl => (hq l (by omega)).1, fun l hl => (hq l (by omega)).2⟩, fun _ => rfl⟩
    | succ m =>
      rw [if_neg (show ¬ (9 : Int32) < nI x by rw [show (9 : Int32) = nI 9 from rfl, n_lt (by omega) (by omega)]; omega), M_choice' K h (by omega), zb_s]
      by_cases q : x < yO u ∨ x = 9
      · have hcc : cod u c = x ∧ c ≤ yO u := by
          unfold cN at hc
          unfold cod
          by_cases y : x < yO u
          · rw [if_neg (by omega)]; omega
          · rw [if_pos (by omega)]; omega
        have hn : cN u (x + 1) (c + 1) := by unfold cN at hc ⊢; omega
        rw [decide_eq_true q, if_neg bt0, ← hcc.1, M_share K h L hcc.2 hj, zb_s, M_share K h L hi hj, zb_s]
        by_cases c1 : shV u s pr i j < shV u s pr c j
        · rw [if_pos c1]
          refine ⟨false, rfl, fun z => (by cases z), fun z => ?_⟩
          have := z.1 c hcc.2
          rw [i_le] at this
          rw [i_lt] at c1
          omega
        · rw [if_neg c1, M_share K h L hcc.2 hi, zb_s, M_share K h L hj hi, zb_s]
          by_cases c2 : shV u s pr c i ≤ shV u s pr j i
          · rw [if_pos c2]
            unfold f_M_isRest_b57
            rw [zl_s, n_1, hcc.1]
            refine ih m (by omega) (x + 1) (c + 1) (by omega) hn (fun l hl => ?_)
            by_cases y : l = c
            · rw [y]
              refine ⟨?_, c2⟩
              rw [i_le]
              rw [i_lt] at c1
              omega
            · exact hq l (by omega)
          · rw [if_neg c2]
            exact ⟨false, rfl, fun z => (by cases z), fun z => absurd (z.2 c hcc.2) c2⟩
      · rw [decide_eq_false q, if_pos bf0]
        unfold f_M_isRest_b57
        rw [zl_s, n_1]
        exact ih m (by omega) (x + 1) c (by omega) (by unfold cN at hc ⊢; omega) hq) zFU 10 (zfu (by omega))
  unfold f_M_isRest
  exact key 0 0 (by omega) (Or.inl ⟨by omega, by omega⟩) (fun l hl => absurd hl (Nat.not_lt_zero l))
end
