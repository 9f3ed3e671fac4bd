/-! PURE: bait -/
def am (f : Nat → Int32) : Nat → Nat
  | 0 => 0
  | i + 1 => if f (i + 1) ≤ f (am f i) then am f i else i + 1
theorem am_le (f : Nat → Int32) : ∀ i, am f i ≤ i
  | 0 => Nat.le_refl _
  | i + 1 => by
    have := am_le f i
    unfold am
    split <;> omega
theorem am_s (f : Nat → Int32) (i : Nat) : am f (i + 1) = if f (i + 1) ≤ f (am f i) then am f i else i + 1 := rfl
section
variable {u : gW}
noncomputable def an (u : gW) (s : Nat) (pr : Int32) (j : Nat) : Nat := am (fun i => shV u s pr i j) (yO u)
noncomputable def bv (u : gW) (s : Nat) (pr : Int32) (i : Nat) : Int32 := shV u s pr i (an u s pr i)
theorem an_le (s : Nat) (pr : Int32) (j : Nat) : an u s pr j ≤ yO u := am_le _ _
theorem cod_9 (K : zK u) {i : Nat} (h : i ≤ yO u) : cod u i ≤ 9 := by
  have := K.O8
  unfold cod
  split <;> omega
theorem Ga_ans (K : zK u) (G : jGai u) {w : gW} (h : zE u w) {s : Nat} {pr : Int32} (T : GT u s w) (hp : w.1 105 3 = pr) {j : Nat} (hj : j ≤ yO u) : f_Ga_answerTo (nI j) w = some (nI (an u s pr j), w) := by
  have h8 := K.O8
  have key := zfx_ind (fun _ _ _ _ => none) f_Ga_answerTo_b4_s (fun m kk => ∀ y, y + m = yO u → kk (nI j) (nI (am (fun i => shV u s pr i j) y)) (nI (y + 1)) w = some (nI (an u s pr j), w)) (fun m kk ih y hy => by
    have ha := am_le (fun i => shV u s pr i j) y
    unfold f_Ga_answerTo_b4_s
    rw [Oa_size' K h.k, zb_s]
    cases m with
    | zero =>
      rw [if_pos (by rw [n_lt (by omega) (by omega)]; omega)]
      unfold an
      rw [show y = yO u by omega]
    | succ m =>
      rw [if_neg (by rw [n_lt (by omega) (by omega)]; omega), Ga_share K G h T hp (by omega) hj, zb_s, Ga_share K G h T hp (by omega) hj, zb_s]
      have es := am_s (fun i => shV u s pr i j) y
      have go : ∀ z, z = am (fun i => shV u s pr i j) (y + 1) → f_Ga_answerTo_b32 kk (nI j) (nI z) (nI (y + 1)) w = some (nI (an u s pr j), w) := by
        intro z hz
        subst hz
        unfold f_Ga_answerTo_b32
        rw [zl_s, n_1]
        exact ih m (by omega) (y + 1) (by omega)
      by_cases c : shV u s pr (y + 1) j ≤ shV u s pr (am (fun i => shV u s pr i j) y) j
      · rw [if_pos c]; exact go _ (by rw [es, if_pos c])
      · rw [if_neg c]; exact go _ (by rw [es, if_neg c])) zFU (yO u) (zfu (by omega))
  unfold f_Ga_answerTo
  exact key 0 (by omega)
theorem Ga_code (K : zK u) {w : gW} (h : zE u w) {i : Nat} (hi : i ≤ yO u) : f_Ga_codeOf (nI i) w = some (nI (cod u i), w) := by
  have h8 := K.O8
  unfold f_Ga_codeOf cod
  rw [Oa_size' K h.k, zb_s]
  by_cases q : i = yO u
  · rw [if_pos (by rw [q]), if_pos q]; rfl
  · rw [if_neg (by rw [n_eq (by omega) (by omega)]; exact q), if_neg q]
noncomputable def rBt (u : gW) (s : Nat) (pr : Int32) : Int32 := nI (10 * cod u (am (bv u s pr) (yO u)) + cod u (an u s pr (am (bv u s pr) (yO u))))
theorem Ga_bait (K : zK u) (G : jGai u) {w : gW} (h : zE u w) {s : Nat} {pr : Int32} (T : GT u s w) (hp : w.1 105 3 = pr) : f_Ga_bestBait w = some (rBt u s pr, w) := by
  have h8 := K.O8
  have key := zfx_ind (fun _ _ _ => none) f_Ga_bestBait_b4_s (fun m kk => ∀ y, y + m = yO u → kk (nI (am (bv u s pr) y)) (nI (y + 1)) w = some (rBt u s pr, w)) (fun m kk ih y hy => by
    have ha := am_le (bv u s pr) y
    unfold f_Ga_bestBait_b4_s
    rw [Oa_size' K h.k, zb_s]
    cases m with
    | zero =>
      rw [if_pos (by rw [n_lt (by omega) (by omega)]; omega), Ga_code K h (by omega), zb_s, Ga_ans K G h T hp (by omega), zb_s, Ga_code K h (an_le _ _ _), zb_s, show (10 : Int32) = nI 10 from rfl, pk_mul, nI_add]
      unfold rBt
      rw [show y = yO u by omega]
    | succ m =>
      rw [if_neg (by rw [n_lt (by omega) (by omega)]; omega), Ga_ans K G h T hp (by omega), zb_s, Ga_share K G h T hp (by omega) (an_le _ _ _), zb_s, Ga_ans K G h T hp (by omega), zb_s, Ga_share K G h T hp (by omega) (an_le _ _ _), zb_s]
      have es := am_s (bv u s pr) y
      have go : ∀ z, z = am (bv u s pr) (y + 1) → f_Ga_bestBait_b40 kk (nI z) (nI (y + 1)) w = some (rBt u s pr, w) := by
        intro z hz
        subst hz
        unfold f_Ga_bestBait_b40
        rw [zl_s, n_1]
        exact ih m (by omega) (y + 1) (by omega)
      by_cases c : bv u s pr (y + 1) ≤ bv u s pr (am (bv u s pr) y)
      · rw [if_pos (show shV u s pr (y + 1) (an u s pr (y + 1)) ≤ shV u s pr (am (bv u s pr) y) (an u s pr (am (bv u s pr) y)) from c)]; exact go _ (by rw [es, if_pos c])
      · rw [if_neg (show ¬ shV u s pr (y + 1) (an u s pr (y + 1)) ≤ shV u s pr (am (bv u s pr) y) (an u s pr (am (bv u s pr) y)) from c)]; exact go _ (by rw [es, if_neg c])) zFU (yO u) (zfu (by omega))
  unfold f_Ga_bestBait
  exact key 0 (by omega)
theorem M_choice' (K : zK u) {w : gW} (h : zE u w) {x : Nat} (hx : x ≤ 9) : f_M_isChoice (nI x) w = some (bI (decide (x < yO u ∨ x = 9)), w) := by
  have h8 := K.O8
  unfold f_M_isChoice f_M_isChoice_b14
  rw [M_isOathB K h.k, zb_s]
  by_cases q : x < yO u
  · rw [show gO u (nI x) = true by unfold gO; rw [i_nI (by omega)]; exact decide_eq_true ⟨by omega, by omega⟩, if_neg bt0, decide_eq_true (Or.inl q)]; rfl
  · rw [show gO u (nI x) = false by unfold gO; rw [i_nI (by omega)]; exact decide_eq_false (by omega), if_pos bf0]
    by_cases q9 : x = 9
    · rw [if_pos (show nI x = (9 : Int32) by rw [q9]; rfl), decide_eq_true (Or.inr q9)]; rfl
    · rw [if_neg (show ¬ nI x = (9 : Int32) from fun z => q9 ((n_eq (a := x) (b := 9) (by omega) (by omega)).mp z)), decide_eq_false (by omega)]; rfl
/-- the best of the first c choices, as its code -/
def sM (u : gW) (f : Nat → Int32) : Nat → Int32
  | 0 => -1
  | c + 1 => nI (cod u (am f c))
def cN (u : gW) (x c : Nat) : Prop := (x ≤ 9 ∧ c = min x (yO u)) ∨ (x = 10 ∧ c = yO u + 1)
theorem M_ans (K : zK u) {w : gW} (h : zE u w) {s : Nat} {pr : Int32} (L : LD u s (yT u) w) {j : Nat} (hj : j ≤ yO u) : f_M_answerTo (nI (cod u j)) pr w = some (nI (cod u (an u s pr j)), w) := by
  have h8 := K.O8
  have key := zfx_ind (fun _ _ _ _ _ => none) f_M_answerTo_b5_s (fun m kk => ∀ x c, x + m = 10 → cN u x c → kk (nI (cod u j)) pr (sM u (fun i => shV u s pr i j) c) (nI x) w = some (nI (cod u (an u s pr j)), w)) (fun m kk ih x c hx hc => by
    unfold f_M_answerTo_b5_s
    cases m with
    | zero =>
      rw [if_pos (show (9 : Int32) < nI x by rw [show (9 : Int32) = nI 9 from rfl, n_lt (by omega) (by omega)]; omega)]
      have ec : c = yO u + 1 := by unfold cN at hc; omega
      rw [ec]
      rfl
    | succ m =>
      rw [if_neg (show ¬ (9 : Int32) < nI x by rw [show (9 : Int32) = nI 9 from rfl, n_lt (by omega) (by omega)]; omega), M_choice' K h (by omega), zb_s]
      by_cases q : x < yO u ∨ x = 9
      · have hcc : cod u c = x ∧ c ≤ yO u := by
          unfold cN at hc
          unfold cod
          by_cases y : x < yO u
          · rw [if_neg (by omega)]; omega
          · rw [if_pos (by omega)]; omega
        have hn : cN u (x + 1) (c + 1) := by unfold cN at hc ⊢; omega
        rw [decide_eq_true q, if_neg bt0]
        have nxt := ih m (by omega) (x + 1) (c + 1) (by omega) hn
        cases c with
        | zero =>
          rw [show sM u (fun i => shV u s pr i j) 0 = -1 from rfl, if_pos zm1]
          unfold f_M_answerTo_b44 f_M_answerTo_b47
          rw [zl_s, n_1]
          have e : sM u (fun i => shV u s pr i j) (0 + 1) = nI x := by rw [← hcc.1]; rfl
          rw [e] at nxt
          exact nxt
        | succ c =>
          have ha := am_le (fun i => shV u s pr i j) c
          have hk := cod_9 K (i := am (fun i => shV u s pr i j) c) (by omega)
          have e0 : sM u (fun i => shV u s pr i j) (c + 1) = nI (cod u (am (fun i => shV u s pr i j) c)) := rfl
          have e1 : sM u (fun i => shV u s pr i j) (c + 1 + 1) = nI (cod u (am (fun i => shV u s pr i j) (c + 1))) := rfl
          rw [e1, am_s] at nxt
          rw [e0, if_neg (by rw [n_m1 (by omega)]; exact id), ← hcc.1, M_share K h L hcc.2 hj, zb_s, M_share K h L (by omega) hj, zb_s]
          by_cases cc : shV u s pr (c + 1) j ≤ shV u s pr (am (fun i => shV u s pr i j) c) j
          · rw [if_pos cc]
            rw [if_pos cc] at nxt
            unfold f_M_answerTo_b47
            rw [zl_s, n_1, hcc.1]
            exact nxt
          · rw [if_neg cc]
            rw [if_neg cc] at nxt
            unfold f_M_answerTo_b44 f_M_answerTo_b47
            rw [zl_s, n_1]
            rw [hcc.1] at nxt ⊢
            exact nxt
      · rw [decide_eq_false q, if_pos bf0]
        unfold f_M_answerTo_b47
        rw [zl_s, n_1]
        exact ih m (by omega) (x + 1) c (by omega) (by unfold cN at hc ⊢; omega)) zFU 10 (zfu (by omega))
  unfold f_M_answerTo
  exact key 0 0 (by omega) (Or.inl ⟨by omega, by omega⟩)
end
