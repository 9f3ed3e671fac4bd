/-! PURE: a text as a land -/
theorem pDs_p {f : Nat → Nat} {n Y : Nat} (hY : Y ≤ 6) (hY2 : 2 ≤ Y) : ∀ (m d p : Nat) (T : Nat → Nat → Nat), p ≤ n → (pDs f n Y m d p T).2.1 ≤ n
  | 0, d, p, T, hp => sk_le hp
  | m + 1, d, p, T, hp => by
    have k0 : sk f n p ≤ n := sk_le hp
    unfold pDs
    by_cases c1 : sg f n p = 59
    · have l1 := (sg_lt (f := f) (n := n) (p := p) (by omega)).1
      have k1 : sk f n (sk f n p + 1) ≤ n := sk_le (by omega)
      rw [if_pos c1]
      by_cases c2 : sg f n (sk f n p + 1) = 101
      · have l2 := (sg_lt (f := f) (n := n) (p := sk f n p + 1) (by omega)).1
        rw [if_pos c2]
        obtain ⟨t1, -, -⟩ := pIr_t0 (f := f) (n := n) (p := sk f n (sk f n p + 1) + 1) hY hY2 (by omega)
        by_cases c3 : (pIr f n Y (sk f n (sk f n p + 1) + 1)).1 = true
        · rw [if_pos c3]
          by_cases c4 : sg f n (pIr f n Y (sk f n (sk f n p + 1) + 1)).2.1 = 0
          · rw [if_pos c4]; exact t1
          · rw [if_neg c4]; exact pDs_p hY hY2 m (d + 1) _ _ t1
        · rw [if_neg c3]; exact t1
      · rw [if_neg c2]; exact k1
    · rw [if_neg c1]; exact k0
theorem pLd_p (f : Nat → Nat) (n : Nat) : (pLd f n).2.1 ≤ n := by
  have k0 : sk f n 0 ≤ n := sk_le (Nat.zero_le n)
  unfold pLd
  by_cases c1 : sg f n 0 = 116
  · have l1 := (sg_lt (f := f) (n := n) (p := 0) (by omega)).1
    rw [if_pos c1]
    rcases pD_c (f := f) (n := n) (lo := 2) (hi := 6) (p := sk f n 0 + 1) (by omega) with ⟨a1, a2, a3, a4⟩ | ⟨a1, a2, -⟩
    · rw [if_pos a1]
      exact pDs_p a3 a2 5 0 _ _ a4
    · rw [if_neg (by rw [a1]; decide)]
      exact a2
  · rw [if_neg c1]
    exact k0
section
variable {w : gW}
/-- a world that tells a land -/
def ldW (Y k : Nat) (T : Nat → Nat → Nat) : gW := (fun a b => if a = 107 ∧ b = 21 then nI k else if a = 107 ∧ b = 22 then nI Y else if a = 112 then nI (T b 0) else if a = 113 then nI (T b 1) else if a = 114 then nI (T b 2) else 0, fun _ _ => 0)
theorem ldW_B {Y k : Nat} {T : Nat → Nat → Nat} (hY : 2 ≤ Y ∧ Y ≤ 6) (hk : 1 ≤ k ∧ k ≤ 5) (hT : ∀ e, e < k → tOk Y (T e)) : (yD (ldW Y k T) = k ∧ yY (ldW Y k T) = Y) ∧ (∀ e, e < k → yr (ldW Y k T) e = T e 0 ∧ yf (ldW Y k T) e = T e 1 ∧ yl (ldW Y k T) e = T e 2) ∧ zB (ldW Y k T) := by
  have eD : yD (ldW Y k T) = k := by
    show ix (nI k) = k
    exact z_ix (by omega)
  have eY : yY (ldW Y k T) = Y := by
    show ix (nI Y) = Y
    exact z_ix (by omega)
  have eT : ∀ e, e < k → yr (ldW Y k T) e = T e 0 ∧ yf (ldW Y k T) e = T e 1 ∧ yl (ldW Y k T) e = T e 2 := fun e he => by
    obtain ⟨a, b, c⟩ := hT e he
    refine ⟨?_, ?_, ?_⟩
    · show ix (nI (T e 0)) = _
      exact z_ix (by omega)
    · show ix (nI (T e 1)) = _
      exact z_ix (by omega)
    · show ix (nI (T e 2)) = _
      exact z_ix (by omega)
  refine ⟨⟨eD, eY⟩, eT, ⟨by omega, by omega⟩, by omega, fun d hd => ?_⟩
  rw [eD] at hd
  obtain ⟨a, b, c⟩ := hT d hd
  have r := eT d hd
  rw [r.1, r.2.1, r.2.2, eY]
  exact ⟨rfl, rfl, rfl, by omega, b, c⟩
/-- the ints of a new land -/
def nlI (u w : gW) : Nat → Nat → Int32 := fun a b => if a = 107 then (if b = 21 then nI (yD u) else if b = 22 then nI (yY u) else if b = 26 then nI (yT u) else if b = 35 ∨ b = 36 ∨ b = 37 then 0 else w.1 107 b) else if a = 112 then nI (yr u b) else if a = 113 then nI (yf u b) else if a = 114 then nI (yl u b) else if a = 118 then nI (yN u b) else if a = 129 then 1 else w.1 a b
theorem nlI_o (u w : gW) {a b : Nat} (h : a ≠ 107 ∧ ¬ (112 ≤ a ∧ a ≤ 114) ∧ a ≠ 118 ∧ a ≠ 129) : nlI u w a b = w.1 a b := by
  unfold nlI
  rw [if_neg h.1, if_neg (by omega), if_neg (by omega), if_neg (by omega), if_neg (by omega), if_neg (by omega)]
theorem nlI_7 (u w : gW) {b : Nat} (h : b ≠ 21 ∧ b ≠ 22 ∧ b ≠ 26 ∧ ¬ (b = 35 ∨ b = 36 ∨ b = 37)) : nlI u w 107 b = w.1 107 b := by
  unfold nlI
  rw [if_pos rfl, if_neg h.1, if_neg h.2.1, if_neg h.2.2.1, if_neg h.2.2.2]
theorem nlI_M (u w : gW) (l : Nat → Nat → Int64) : nM u (nlI u w, l) := ⟨⟨rfl, rfl⟩, fun _ _ => ⟨rfl, rfl, rfl⟩, ⟨rfl, rfl, rfl, rfl⟩, fun _ _ => rfl, fun _ _ => rfl⟩
theorem text0_ok (J : zJ w) {n : Nat} {f : Nat → Nat} (T : jT n f w) {Y k : Nat} {TT : Nat → Nat → Nat} {v' : gW} (e1 : f_Rd_read w = some ((-1 : Int32), v')) (e2 : zDr w v') (cY : v'.1 3 1 = nI Y) (ck : v'.1 3 2 = nI k) (cT : ∀ e, e < k → ∀ j, j < 3 → v'.1 4 (3 * e + j) = nI (TT e j)) (hM : ∀ g : gW, g.1 107 5 = nI n → (∀ j, j < n → 0 < f j ∧ f j < 256 ∧ g.1 108 j = (nI (f j)).toInt8.toInt32) → ∃ v : gW, f_M_fault (0 : Int32) g = some ((-1 : Int32), v) ∧ zE g v ∧ v.1 107 24 = nI Y ∧ v.1 107 23 = nI k ∧ dftM v k TT) (hY : 2 ≤ Y ∧ Y ≤ 6) (hk : 1 ≤ k ∧ k ≤ 5) (hT : ∀ e, e < k → tOk Y (TT e)) : ∃ (r : Int32) (w1 w2 : gW), f_X_text (0 : Int32) w = some (r, w1) ∧ f_M_text (0 : Int32) w1 = some (r, w2) ∧ zJ w2 := by
  obtain ⟨⟨eD, eY⟩, eT, K⟩ := ldW_B hY hk hT
  generalize ldW Y k TT = u at eD eY eT K
  have K0 := J.K
  have h8 := K0.O8
  have hE : zE w v' := zDr.e (zE.rf w) e2
  -- the class's side up to its review
  obtain ⟨s, s1, s2, s3, s4, s5, s6, s7⟩ := La_settle_s K (w := v') (by rw [eY]; exact cY) (by rw [eD]; exact ck) (fun d hd => by
    rw [eD] at hd
    have r := eT d hd
    rw [r.1, r.2.1, r.2.2]
    exact ⟨cT d hd 0 (by decide), cT d hd 1 (by decide), cT d hd 2 (by decide)⟩)
  obtain ⟨c, c1, c2, c3, c4, c5⟩ := An_clear' s
  generalize hw7 : zsI c 0 11 0 = w7
  have w7_2 : w7.2 = s.2 := by rw [← hw7]; exact c5
  have w7_c : ∀ a b, ¬ (a = 0 ∧ b = 11) → ¬ (a = 59 ∧ (b = 6 ∨ b = 7)) → a ≠ 65 → w7.1 a b = s.1 a b := fun a b q1 q2 q3 => by
    rw [← hw7, zsI_g, if_neg q1]
    exact c4 a b q2 q3
  have w7_o : ∀ a b, zScrI a b = false → ¬ (a = 0 ∧ b = 11) → ¬ (a = 59 ∧ (b = 6 ∨ b = 7)) → a ≠ 65 → ¬ (19 ≤ a ∧ a ≤ 22) → w7.1 a b = w.1 a b := fun a b q0 q1 q2 q3 q4 => by
    rw [w7_c a b q1 q2 q3, s2 a b q4]
    exact hE.1 a b q0
  have w7_r : ∀ a, zScrL a = false → ¬ (24 ≤ a ∧ a < 59) → w7.2 a = w.2 a := fun a q0 q1 => by
    rw [w7_2, s3 a q1]
    exact funext (fun b => hE.2 a b q0)
  -- what the class tells, whatever else
  have nCof : ∀ g : gW, (∀ a b, a = 19 ∨ a = 20 ∨ a = 21 ∨ a = 22 ∨ a = 59 ∨ a = 65 → g.1 a b = w7.1 a b) → (∀ a, 24 ≤ a ∧ a < 59 → g.2 a = w7.2 a) → nC u g := by
    intro g g1 g2
    have a19 : ∀ a b, 19 ≤ a ∧ a ≤ 22 → g.1 a b = s.1 a b := fun a b h => by
      rw [g1 a b (by omega)]
      exact w7_c a b (by omega) (by omega) (by omega)
    refine ⟨by rw [a19 19 4 (by omega)]; exact s4, fun d hd => by rw [a19 20 _ (by omega)]; exact s5 d hd, ?_, fun d hd x hx i hi => ?_, ⟨?_, ?_⟩, fun j hj => ?_⟩
    · refine ⟨⟨by rw [a19 19 5 (by omega)]; exact s6.1.1, by rw [a19 19 6 (by omega)]; exact s6.1.2⟩, fun d hd => ?_⟩
      rw [a19 20 _ (by omega), a19 20 _ (by omega), a19 21 _ (by omega), a19 22 _ (by omega)]
      exact s6.2 d hd
    · have r := s7 d hd x hx i hi
      unfold zbt at r ⊢
      have := K.D5
      rw [g2 _ (by omega), w7_2]
      exact r
    · rw [g1 59 6 (by omega), ← hw7]; exact c2.1
    · rw [g1 59 7 (by omega), ← hw7]; exact c2.2
    · rw [g1 65 j (by omega), ← hw7]; exact c3 j hj
  have bO : ∀ g : gW, g.1 107 6 = w.1 107 6 → g.1 5 4 = w.1 5 4 → yO g ≤ 8 ∧ g.1 5 4 = nI (yO g) ∧ g.1 107 6 = nI (yO g) := fun g h1 h2 => by
    have eO : yO g = yO w := by unfold yO; rw [h1]
    rw [eO, h1, h2]
    exact ⟨h8, K0.C.2.2.2.1⟩
  -- the review
  have iM : nM u (nlI u w7, w7.2) := nlI_M u w7 w7.2
  have iC : nC u (nlI u w7, w7.2) := nCof _ (fun a b h => nlI_o u w7 (by omega)) (fun _ _ => rfl)
  have iO : jOat (nlI u w7, w7.2) := jOat_o h8 ((nlI_7 u w7 (by omega)).trans (w7_o 107 6 rfl (by omega) (by omega) (by omega) (by omega))) (fun a h => funext (fun b => by
    show nlI u w7 a b = _
    rw [nlI_o u w7 (by omega)]
    refine w7_o a b ?_ (by omega) (by omega) (by omega) (by omega)
    have h9 : a = 7 ∨ a = 8 ∨ a = 9 ∨ a = 10 ∨ a = 11 ∨ a = 12 ∨ a = 13 ∨ a = 14 ∨ a = 15 ∨ a = 16 ∨ a = 17 ∨ a = 109 ∨ a = 110 := by omega
    rcases h9 with z | z | z | z | z | z | z | z | z | z | z | z | z <;> subst z <;> rfl)) K0.2.2
  have iN : jNum (nlI u w7, w7.2) := newN K (by omega) iM iC (bO _ ((nlI_7 u w7 (by omega)).trans (w7_o 107 6 rfl (by omega) (by omega) (by omega) (by omega))) ((nlI_o u w7 (by omega)).trans (w7_o 5 4 rfl (by omega) (by omega) (by omega) (by omega))))
  obtain ⟨x, x1, -, -, x4, x5⟩ := rev_step (w1 := w7) (i2 := nlI u w7) ⟨iN, newL K iM iC, iO⟩ (newR iM iC) (fun a b q => by
    rw [Bool.or_eq_false_iff, decide_eq_false_iff_not] at q
    exact (nlI_o u w7 (by omega)).symm)
  have tp : w7.1 1 1 = nI n := (w7_o 1 1 rfl (by omega) (by omega) (by omega) (by omega)).trans T.2.1
  have h120 := T.1
  have iCx : nC u (w7.1, x) := nCof _ (fun _ _ _ => rfl) (fun a h => x5 a (by
    have : ∀ a, a < 59 → 24 ≤ a → zCr a = false := by decide +kernel
    exact this a h.2 h.1))
  generalize hg : zsI ((w7.1, x) : gW) 1 1 0 = g
  have g_o : ∀ a b, ¬ (a = 1 ∧ b = 1) → g.1 a b = w7.1 a b := fun a b q => by rw [← hg, zsI_g, if_neg q]
  have g_2 : g.2 = x := by rw [← hg]; rfl
  have X : f_X_text (0 : Int32) w = some (nI k, g) := by
    unfold f_X_text
    rw [if_pos z00, e1, zb_s, if_pos (show (-1 : Int32) = -1 from rfl), s1, zb_s, c1, zb_s, zl_s, hw7, x1, zb_s]
    unfold f_Tp_cut f_La_deedCount
    have t2 : ((w7.1, x) : gW).1 1 1 = nI n := tp
    rw [if_neg (show ¬ (0 : Int32) < 0 by decide), t2, if_pos (show (0 : Int32) ≤ nI n from by rw [show (0 : Int32) = nI 0 from rfl, n_le (by omega) (by omega)]; omega), zl_s, zb_s, hg, zb_s, g_o 19 5 (by omega), ← eD]
    have := iCx.2.2.1.1.1
    rw [show w7.1 19 5 = nI (yD u) from this]
  -- the model's side
  have gn : (zsI g 107 0 0).1 107 5 = nI n := by
    rw [z107 _ _ _ (by decide), g_o _ _ (by omega), w7_o 107 5 rfl (by omega) (by omega) (by omega) (by omega)]
    exact T.2.2.1
  obtain ⟨v, m1, m2, m3, m4, m5⟩ := hM (zsI g 107 0 0) gn (fun j hj => by
    rw [z_o _ _ _ _ _ _ (by decide), g_o _ _ (by omega), w7_o 108 j rfl (by omega) (by omega) (by omega) (by omega)]
    exact ⟨(T.2.2.2 j hj).1, (T.2.2.2 j hj).2.1, (T.2.2.2 j hj).2.2.2⟩)
  generalize hh : zsI (zsI (zsI v 107 5 0) 107 21 (nI k)) 107 22 (nI Y) = h
  have h_o : ∀ a b, zScrI a b = false → ¬ (a = 107 ∧ (b = 5 ∨ b = 21 ∨ b = 22)) → h.1 a b = g.1 a b := fun a b q0 q1 => by
    rw [← hh, zsI_g, if_neg (by omega), zsI_g, if_neg (by omega), zsI_g, if_neg (by omega), m2.1 a b q0, zsI_g, if_neg (fun z => by obtain ⟨rfl, rfl⟩ := z; cases q0)]
  obtain ⟨v2, l1, l2, l3, l4, l5, l6, l7⟩ := M_lay133 K (w := h) (by rw [← hh, eD]; rfl) (fun e he => by
    rw [eD] at he
    have r := eT e he
    have d := m5 e he
    rw [r.1, r.2.1, r.2.2, ← hh]
    exact d)
  have Mx : f_M_text (0 : Int32) g = some (nI k, v2) := by
    have a1 : (zsI v 107 5 0).1 107 23 = nI k := m4
    have a2 : (zsI (zsI v 107 5 0) 107 21 (nI k)).1 107 24 = nI Y := m3
    unfold f_M_text f_M_text_b29
    rw [zl_s, isIn_lit (0 : Int32) 2 rfl, zb_s, decide_eq_true (show 0 ≤ (0 : Int32).toInt ∧ (0 : Int32).toInt < ((2 : Nat) : Int) from ⟨by decide, by decide⟩), if_neg bt0, if_neg (show ¬ (0 : Int32) = 1 by decide), m1, zb_s, if_pos (show (-1 : Int32) = -1 from rfl), zl_s, zl_s, if_neg (show ¬ (0 : Int32) = 1 by decide), zl_s, zl_s, a1, a2, hh, l1, eD]
  refine ⟨nI k, g, v2, X, Mx, ?_⟩
  -- the new world
  have v_o : ∀ a b, zScrI a b = false → ¬ (a = 107 ∧ (b = 5 ∨ b = 21 ∨ b = 22 ∨ b = 35 ∨ b = 36 ∨ b = 37 ∨ b = 58 ∨ b = 26)) → ¬ (112 ≤ a ∧ a ≤ 114) → a ≠ 118 → a ≠ 129 → v2.1 a b = g.1 a b := fun a b q0 q1 q2 q3 q4 => by
    rw [l6 a b (by omega) q2 q3 q4]
    exact h_o a b q0 (by omega)
  have v_r : ∀ a, zScrL a = false → v2.2 a = x a := fun a q => by
    rw [l7, ← hh]
    show v.2 a = _
    rw [← g_2]
    exact funext (fun b => m2.2 a b q)
  have v_w : ∀ a b, zScrI a b = false → ¬ (a = 107 ∧ (b = 5 ∨ b = 21 ∨ b = 22 ∨ b = 35 ∨ b = 36 ∨ b = 37 ∨ b = 58 ∨ b = 26)) → ¬ (112 ≤ a ∧ a ≤ 114) → a ≠ 118 → a ≠ 129 → ¬ (a = 1 ∧ b = 1) → ¬ (a = 0 ∧ b = 11) → ¬ (a = 59 ∧ (b = 6 ∨ b = 7)) → a ≠ 65 → ¬ (19 ≤ a ∧ a ≤ 22) → v2.1 a b = w.1 a b := fun a b q0 q1 q2 q3 q4 q5 q6 q7 q8 q9 => by
    rw [v_o a b q0 q1 q2 q3 q4, g_o a b q5]
    exact w7_o a b q0 q6 q7 q8 q9
  have vM : nM u v2 := by
    refine ⟨⟨?_, ?_⟩, l3, ⟨l2.1, l2.2.1, l2.2.2.1, l2.2.2.2.2⟩, l4, l5⟩
    · rw [l6 107 21 (by omega) (by omega) (by omega) (by omega), ← hh, eD]; rfl
    · rw [l6 107 22 (by omega) (by omega) (by omega) (by omega), ← hh, eY]; rfl
  have vC : nC u v2 := by
    refine nCof v2 (fun a b q => ?_) (fun a q => ?_)
    · rw [v_o a b ?_ (by omega) (by omega) (by omega) (by omega)]
      · exact g_o a b (by omega)
      · rcases q with z | z | z | z | z | z <;> subst z <;> rfl
    · have z1 : ∀ a, a < 59 → 24 ≤ a → zScrL a = false ∧ zCr a = false := by decide +kernel
      rw [v_r a (z1 a q.2 q.1).1]
      exact x5 a (z1 a q.2 q.1).2
  have vO : jOat v2 := jOat_o h8 (v_w 107 6 rfl (by omega) (by omega) (by omega) (by omega) (by omega) (by omega) (by omega) (by omega) (by omega)) (fun a q => funext (fun b => v_w a b (by
    have h9 : a = 7 ∨ a = 8 ∨ a = 9 ∨ a = 10 ∨ a = 11 ∨ a = 12 ∨ a = 13 ∨ a = 14 ∨ a = 15 ∨ a = 16 ∨ a = 17 ∨ a = 109 ∨ a = 110 := by omega
    rcases h9 with z | z | z | z | z | z | z | z | z | z | z | z | z <;> subst z <;> rfl) (by omega) (by omega) (by omega) (by omega) (by omega) (by omega) (by omega) (by omega) (by omega))) K0.2.2
  refine ⟨⟨newN K (by omega) vM vC (bO v2 (v_w 107 6 rfl (by omega) (by omega) (by omega) (by omega) (by omega) (by omega) (by omega) (by omega) (by omega)) (v_w 5 4 rfl (by omega) (by omega) (by omega) (by omega) (by omega) (by omega) (by omega) (by omega) (by omega))), newL K vM vC, vO⟩, newR vM vC, newC (g := (nlI u w7, x)) K (nlI_M u w7 x) vM (fun a q => ?_) x4, ⟨0, f, Nat.zero_le _, ?_, ?_, fun j hj => absurd hj (Nat.not_lt_zero j)⟩, jGai_c J.2.2.2.2.1 ?_ ?_, Or.inl ⟨?_, ?_⟩⟩
  · rcases q with z | z <;> subst z <;> exact v_r _ rfl
  · rw [v_o 1 1 rfl (by omega) (by omega) (by omega) (by omega), ← hg]; rfl
  · rw [l6 107 5 (by omega) (by omega) (by omega) (by omega), ← hh]; rfl
  · exact funext (fun b => v_w 18 b rfl (by omega) (by omega) (by omega) (by omega) (by omega) (by omega) (by omega) (by omega) (by omega))
  · exact funext (fun b => v_w 131 b rfl (by omega) (by omega) (by omega) (by omega) (by omega) (by omega) (by omega) (by omega) (by omega))
  · rw [v_o 0 11 rfl (by omega) (by omega) (by omega) (by omega), g_o 0 11 (by omega), ← hw7]; rfl
  · exact l2.2.2.2.1
theorem t_text0 (J : zJ w) : ∃ (r : Int32) (w1 w2 : gW), f_X_text (0 : Int32) w = some (r, w1) ∧ f_M_text (0 : Int32) w1 = some (r, w2) ∧ zJ w2 := by
  obtain ⟨n, f, T⟩ := J.2.2.2.1
  obtain ⟨v', e1, e2, e3⟩ := Rd_read' (jT_tpe T)
  have h120 := T.1
  by_cases ok : (pLd f n).1 = true
  · rw [if_pos ok] at e1
    obtain ⟨a1, a2, a3⟩ := e3 ok
    obtain ⟨b1, b2, b3⟩ := pLd_v ok
    refine text0_ok J T e1 e2 a1 a2 a3 (fun g hn hc => ?_) b1 b2 b3
    obtain ⟨v, m1, m2, m3⟩ := M_fault0r hn h120 hc
    rw [if_pos ok] at m1
    exact ⟨v, m1, m2, m3 ok⟩
  · rw [if_neg ok] at e1
    have hE : zE w v' := zDr.e (zE.rf w) e2
    have T2 := jT_E T hE.m0
    obtain ⟨v, m1, m2, -⟩ := M_fault0r (w := zsI v' 107 0 0) (n := n) (f := f) T2.2.2.1 h120 (fun j hj => ⟨(T2.2.2.2 j hj).1, (T2.2.2.2 j hj).2.1, (T2.2.2.2 j hj).2.2.2⟩)
    rw [if_neg ok] at m1
    have pl : (pLd f n).2.1 < 2 ^ 31 := by
      have := pLd_p f n
      omega
    have nm : ¬ nI (pLd f n).2.1 = (-1 : Int32) := by rw [n_m1 pl]; exact id
    refine ⟨-1, v', v, ?_, ?_, zJ_E m2 (zJ_E hE.m0 J)⟩
    · unfold f_X_text f_X_text_b66
      rw [if_pos z00, e1, zb_s, if_neg nm, if_neg (show ¬ (0 : Int32) = 1 by decide)]
    · unfold f_M_text f_M_text_b29
      rw [zl_s, isIn_lit (0 : Int32) 2 rfl, zb_s, decide_eq_true (show 0 ≤ (0 : Int32).toInt ∧ (0 : Int32).toInt < ((2 : Nat) : Int) from ⟨by decide, by decide⟩), if_neg bt0, if_neg (show ¬ (0 : Int32) = 1 by decide), m1, zb_s, if_neg nm]
theorem t_text (J : zJ w) (a : Int32) : ∃ (r : Int32) (w1 w2 : gW), f_X_text a w = some (r, w1) ∧ f_M_text a w1 = some (r, w2) ∧ zJ w2 := by
  by_cases q0 : a = 0
  · subst q0
    exact t_text0 J
  · by_cases q1 : a = 1
    · subst q1
      exact t_text1 J
    · have ng : ¬ (0 ≤ a.toInt ∧ a.toInt < ((2 : Nat) : Int)) := fun z => by
        obtain ⟨e, l⟩ := z_nIx z
        have : ix a = 0 ∨ ix a = 1 := by omega
        rcases this with h | h
        · rw [h] at e; exact q0 e
        · rw [h] at e; exact q1 e
      refine ⟨-1, w, zsI w 107 0 0, ?_, ?_, zJ_E (zE.rf w).m0 J⟩
      · unfold f_X_text f_X_text_b66
        rw [if_neg q0, if_neg q1]
      · unfold f_M_text
        rw [zl_s, isIn_lit a 2 rfl, zb_s, decide_eq_false ng, if_pos bf0]
end
