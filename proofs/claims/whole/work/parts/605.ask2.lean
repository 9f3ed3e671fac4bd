/-! PURE: settled, implies, same, days -/
section
variable {u : gW}
theorem zMe.tE {w v : gW} (h : zE u w) (k : zMe w v) : zE u v := k.e h
theorem M_keepsE (K : zK u) {w : gW} (h : zE u w) {o s k : Nat} (hl : lvL u k w) (ho : o < yO u) (hs : s < 7) : ∃ w' : gW, f_M_keeps (nI o) (nI s) (nI (yal u)) w = some (bI (yH u o s (yal u) k), w') ∧ zE u w' ∧ lvL u k w' ∧ zML w w' := by
  obtain ⟨w', e1, e2⟩ := M_keeps K h.k hl ho hs (th := yal u) (by have := yal_lt K; omega)
  exact ⟨w', e1, e2.e h, hl.m e2, e2.ml⟩
def yYes (u : gW) (o s k : Nat) : Bool := yfi u k && yH u o s (yal u) k
def yNo (u : gW) (o s k : Nat) : Bool := yfi u k && !yH u o s (yal u) k
def ySet (u : gW) (o s : Nat) : Int32 := if fb_ct (yYes u o s) (yT u) + fb_ct (yNo u o s) (yT u) = 0 then -1 else if fb_ct (yNo u o s) (yT u) = 0 then 1 else if fb_ct (yYes u o s) (yT u) = 0 then 0 else 2
theorem M_settled (J : zJ u) {w : gW} (h : zE u w) {o s : Nat} (ho : o < yO u) (hs : s < 7) : ∃ w' : gW, f_M_settled_b31 (nI o) (nI s) (0 : Int32) (0 : Int32) (0 : Int32) w = some (ySet u o s, w') ∧ zE u w' := by
  have K := J.K
  have ht := K.T7
  have key := zfx_ind (fun _ _ _ _ _ _ => none) f_M_settled_b31_s (fun m kk => ∀ k v, k + m = yT u → zE u v → ∃ w' : gW, kk (nI o) (nI s) (nI (fb_ct (yYes u o s) k)) (nI (fb_ct (yNo u o s) k)) (nI k) v = some (ySet u o s, w') ∧ zE u w') (fun m kk ih k v hk hv => by
    have c1 := fb_ct_le (yYes u o s) k
    have c2 := fb_ct_le (yNo u o s) k
    unfold f_M_settled_b31_s
    rw [hv.k.i rfl, K.L.2.2.2.2.1]
    cases m with
    | zero =>
      rw [if_pos (by rw [n_le (by omega) (by omega)]; omega), nI_add]
      have e : yT u = k := by omega
      unfold ySet
      rw [e]
      refine ⟨v, ?_, hv⟩
      have z0 : ∀ n, n < 40000 → ((nI n = (0 : Int32)) ↔ n = 0) := fun n hn => n_eq (b := 0) (by omega) (by omega)
      by_cases q1 : fb_ct (yYes u o s) k + fb_ct (yNo u o s) k = 0
      · rw [if_pos ((z0 _ (by omega)).mpr q1), if_pos q1]
      · rw [if_neg (fun z => q1 ((z0 _ (by omega)).mp z)), if_neg q1]
        by_cases q2 : fb_ct (yNo u o s) k = 0
        · rw [if_pos ((z0 _ (by omega)).mpr q2), if_pos q2]
        · rw [if_neg (fun z => q2 ((z0 _ (by omega)).mp z)), if_neg q2]
          by_cases q3 : fb_ct (yYes u o s) k = 0
          · rw [if_pos ((z0 _ (by omega)).mpr q3), if_pos q3]
          · rw [if_neg (fun z => q3 ((z0 _ (by omega)).mp z)), if_neg q3]
    | succ m =>
      rw [if_neg (by rw [n_le (by omega) (by omega)]; omega), if_pos (z_inbn (by omega) (by decide))]
      obtain ⟨w3, l3, m3, h3, F3⟩ := M_lf K J.R hv (k := k) (by omega)
      rw [F3]
      have go : ∀ v2 a b, zE u v2 → a = fb_ct (yYes u o s) (k + 1) → b = fb_ct (yNo u o s) (k + 1) → ∃ w' : gW, f_M_settled_b83 kk (nI o) (nI s) (nI a) (nI b) (nI k) v2 = some (ySet u o s, w') ∧ zE u w' := by
        intro v2 a b h2 ea eb
        subst ea
        subst eb
        unfold f_M_settled_b83
        rw [zl_s, n_1]
        exact ih m (by omega) (k + 1) v2 (by omega) h2
      have s1 : fb_ct (yYes u o s) (k + 1) = fb_ct (yYes u o s) k + if yYes u o s k = true then 1 else 0 := fb_ct_succ _ _
      have s2 : fb_ct (yNo u o s) (k + 1) = fb_ct (yNo u o s) k + if yNo u o s k = true then 1 else 0 := fb_ct_succ _ _
      cases hf : yfi u k with
      | false =>
        rw [if_pos bf0]
        have y1 : yYes u o s k = false := by unfold yYes; rw [hf]; rfl
        have y2 : yNo u o s k = false := by unfold yNo; rw [hf]; rfl
        exact go w3 _ _ h3 (by rw [s1, y1]; rfl) (by rw [s2, y2]; rfl)
      | true =>
        rw [if_neg bt0, M_all K h3.k, zb_s]
        obtain ⟨w4, e4, h4, l4, -⟩ := M_keepsE K h3 l3 ho hs
        rw [e4, zb_s]
        cases hh : yH u o s (yal u) k with
        | false =>
          rw [if_pos bf0, zl_s, n_1]
          have y1 : yYes u o s k = false := by unfold yYes; rw [hf, hh]; rfl
          have y2 : yNo u o s k = true := by unfold yNo; rw [hf, hh]; rfl
          exact go w4 _ _ h4 (by rw [s1, y1]; rfl) (by rw [s2, y2]; rfl)
        | true =>
          rw [if_neg bt0, zl_s, n_1]
          have y1 : yYes u o s k = true := by unfold yYes; rw [hf, hh]; rfl
          have y2 : yNo u o s k = false := by unfold yNo; rw [hf, hh]; rfl
          exact go w4 _ _ h4 (by rw [s1, y1]; rfl) (by rw [s2, y2]; rfl)) zFU (yT u) (zfu (by omega))
  exact key 0 w (by omega) h
theorem hRowE {o : Nat} {w v : gW} (ho : o < 8) (h : zE u w) (k : zRw (fun a => a == 74 || a == 91 + o) w v) : zE u v := zRw.e h k (fun a q => by
  apply hMk_s
  unfold hMk
  rw [Bool.or_eq_true, beq_iff_eq, beq_iff_eq] at q
  rw [Bool.or_eq_true, Bool.and_eq_true, beq_iff_eq, decide_eq_true_eq, decide_eq_true_eq]
  omega)
theorem q_settled (J : zJ u) (a b : Int32) : zQ u (f_X_settled a b) (f_M_settled a b) := by
  have K := J.K
  have h8 := K.O8
  have h6 := K.Y6
  have hn := nW_le K
  by_cases g : (gO u a && gD u b) = true
  · rw [Bool.and_eq_true] at g
    obtain ⟨o, rfl, ho⟩ := gO_t g.1
    obtain ⟨s, rfl, hs, h0⟩ := gD_t g.2
    refine ⟨ySet u o s, fun v hv => ?_, fun v hv => ?_⟩
    · unfold f_X_settled f_Cs_settlement f_Co_fitting
      rw [X_isSuch' K hv.k, zb_s, g.1, g.2, if_neg (show ¬ bI (true && true) = 0 by decide), Cs_rowOf' (by omega), zb_s]
      obtain ⟨v1, e1, e2, e3⟩ := Co_hear' K J.C hv ho (s := s) (by omega) (hRow_h (o := o) (by omega))
      have hE := hRowE (o := o) (by omega) hv e2
      refine ⟨v1, ?_, hE⟩
      obtain ⟨b1, r1, r2⟩ := Ro_empty K row_76 v1
      rw [e1, zb_s, zb_s, La_words' K hE.k, zb_s, show f_Ro_isEmpty 76 (nI ((yT u + 63) / 64)) v1 = _ from r1, zb_s]
      have hemp : b1 = true ↔ fb_ct (yYes u o s) (yT u) + fb_ct (yNo u o s) (yT u) = 0 := by
        rw [r2, Nat.add_eq_zero_iff, fb_ct_zero, fb_ct_zero]
        constructor
        · intro z
          have hz : ∀ k, k < yT u → yfi u k = false := by
            intro k hk
            have := z k (nW_ge hk)
            rw [fit_b J.C hE (by have := nW_ge hk; omega), decide_eq_true hk, Bool.true_and] at this
            simpa using this
          exact ⟨fun k hk => by unfold yYes; rw [hz k hk]; rfl, fun k hk => by unfold yNo; rw [hz k hk]; rfl⟩
        · intro ⟨z1, z2⟩ k hk hq
          rw [fit_b J.C hE (by omega), Bool.and_eq_true, decide_eq_true_eq] at hq
          have a1 := z1 k hq.1
          have a2 := z2 k hq.1
          unfold yYes at a1
          unfold yNo at a2
          rw [hq.2] at a1 a2
          rw [Bool.true_and] at a1 a2
          rw [a1] at a2
          cases a2
      cases b1 with
      | true =>
        rw [if_neg bt0]
        unfold ySet
        rw [if_pos (hemp.mp rfl), zb_s]
      | false =>
        have hne : ¬ (fb_ct (yYes u o s) (yT u) + fb_ct (yNo u o s) (yT u) = 0) := fun z => by have := hemp.mpr z; cases this
        obtain ⟨b2, c1, c2⟩ := Cs_canBe' K J.C hE ho e3
        rw [if_pos bf0, c1, zb_s]
        have hyes : b2 = true ↔ ¬ fb_ct (yYes u o s) (yT u) = 0 := by
          rw [c2, fb_ct_zero]
          constructor
          · intro ⟨k, z1, z2, z3, _⟩ z
            have := z k z1
            unfold yYes at this
            rw [z2, z3] at this
            cases this
          · intro z
            apply Classical.byContradiction
            intro q
            apply z
            intro k hk
            unfold yYes
            cases e1 : yfi u k with
            | false => rfl
            | true => cases e2 : yH u o s (yal u) k with
              | false => rfl
              | true => exact absurd ⟨k, hk, e1, e2, e2⟩ q
        have hno : (∀ k, k < yT u → yfi u k = true → yH u o s (yal u) k = true) ↔ fb_ct (yNo u o s) (yT u) = 0 := by
          rw [fb_ct_zero]
          constructor
          · intro z k hk
            unfold yNo
            cases e1 : yfi u k with
            | false => rfl
            | true => rw [z k hk e1]; rfl
          · intro z k hk hf
            have := z k hk
            unfold yNo at this
            rw [hf, Bool.true_and] at this
            cases e2 : yH u o s (yal u) k with
            | true => rfl
            | false => rw [e2] at this; cases this
        obtain ⟨b3, d1, d2⟩ := Cs_in K J.C hE ho e3
        have d3 := d2.trans hno
        unfold ySet
        rw [if_neg hne]
        cases b2 with
        | false =>
          have hy : fb_ct (yYes u o s) (yT u) = 0 := Classical.byContradiction (fun z => by have := hyes.mpr z; cases this)
          have hn2 : ¬ fb_ct (yNo u o s) (yT u) = 0 := fun z => hne (by omega)
          rw [if_pos bf0, if_neg hn2, if_pos hy, zb_s]
        | true =>
          have hy := hyes.mp rfl
          rw [if_neg bt0, zb_s, Cs_rowOf' (by omega), zb_s, La_words' K hE.k, zb_s, show f_Ro_isWithin 76 (91 + o) (nI ((yT u + 63) / 64)) v1 = _ from d1, zb_s]
          cases b3 with
          | true =>
            rw [if_neg bt0, if_pos (d3.mp rfl), zb_s]
          | false =>
            have hn2 : ¬ fb_ct (yNo u o s) (yT u) = 0 := fun z => by have := d3.mpr z; cases this
            rw [if_pos bf0, if_neg hn2, if_neg hy, zb_s]
    · obtain ⟨v1, e1, e2⟩ := M_settled J hv.m0 ho (s := s) (by omega)
      refine ⟨v1, ?_, e2⟩
      unfold f_M_settled
      rw [zl_s, M_isOathB K hv.m0.k, zb_s, g.1, if_neg bt0, M_isSeenDay' K hv.m0.k, zb_s, g.2, if_neg bt0, e1]
  · have g' : (gO u a && gD u b) = false := by simpa using g
    refine ⟨-1, fun v hv => ⟨v, ?_, hv⟩, fun v hv => ⟨_, ?_, hv.m0⟩⟩
    · unfold f_X_settled
      rw [X_isSuch' K hv.k, zb_s, g', if_pos bf0]
    · unfold f_M_settled
      rw [zl_s, M_isOathB K hv.m0.k, zb_s]
      cases e : gO u a with
      | false => rw [if_pos bf0]
      | true =>
        rw [e, Bool.true_and] at g'
        rw [if_neg bt0, M_isSeenDay' K hv.m0.k, zb_s, g', if_pos bf0]
/-- implies -/
def yIm (u : gW) (a b s : Nat) : Prop := ∀ k, k < yT u → ypo u k = true → yH u a s (yal u) k = true → yH u b s (yal u) k = true
theorem Cs_imp (K : zK u) {w : gW} {s i j : Nat} (hi : i < yO u) (hj : j < yO u) (ri : ∀ k, k < 64 * nW u → zbt w (91 + i) k = yhr u i s k) (rj : ∀ k, k < 64 * nW u → zbt w (91 + j) k = yhr u j s k) : ∃ b : Bool, f_Ro_isWithin (91 + i) (91 + j) (nI (nW u)) w = some (bI b, w) ∧ (b = true ↔ yIm u i j s) := by
  have h8 := K.O8
  obtain ⟨r, e1, e2⟩ := Ro_within K (row_h i (by omega)) (row_h j (by omega)) w
  refine ⟨r, e1, e2.trans ⟨fun z k hk h1 h2 => ?_, fun z k hk h1 => ?_⟩⟩
  · have a := z k (nW_ge hk) (by rw [ri k (nW_ge hk)]; unfold yhr; rw [decide_eq_true hk, h1, h2]; rfl)
    rw [rj k (nW_ge hk)] at a
    unfold yhr at a
    simp only [Bool.and_eq_true] at a
    exact a.2.2
  · rw [ri k hk] at h1
    rw [rj k hk]
    unfold yhr at h1 ⊢
    simp only [Bool.and_eq_true, decide_eq_true_eq] at h1
    rw [decide_eq_true h1.1, h1.2.1, z k h1.1 h1.2.1 h1.2.2]
    rfl
theorem M_doesImply (J : zJ u) {w : gW} (h : zE u w) {a b s : Nat} (ha : a < yO u) (hb : b < yO u) (hs : s < 7) : ∃ (r : Bool) (w' : gW), f_M_doesImply (nI a) (nI b) (nI s) w = some (bI r, w') ∧ zE u w' ∧ (r = true ↔ yIm u a b s) := by
  have K := J.K
  have ht := K.T7
  have key := zfx_ind (fun _ _ _ _ _ => none) f_M_doesImply_b3_s (fun m kk => ∀ k v, k + m = yT u → zE u v → (∀ j, j < k → ypo u j = true → yH u a s (yal u) j = true → yH u b s (yal u) j = true) → ∃ (r : Bool) (w' : gW), kk (nI a) (nI b) (nI s) (nI k) v = some (bI r, w') ∧ zE u w' ∧ (r = true ↔ yIm u a b s)) (fun m kk ih k v hk hv hp => by
    unfold f_M_doesImply_b3_s
    rw [hv.k.i rfl, K.L.2.2.2.2.1]
    cases m with
    | zero =>
      rw [if_pos (by rw [n_le (by omega) (by omega)]; omega)]
      exact ⟨true, v, rfl, hv, fun _ j hj => hp j (by omega), fun _ => rfl⟩
    | succ m =>
      rw [if_neg (by rw [n_le (by omega) (by omega)]; omega), if_pos (z_inbn (by omega) (by decide))]
      obtain ⟨w1, e1, l1, m1⟩ := M_live K hv.k k
      have h1 := m1.e hv
      rw [z_ix (by omega), hv.k.i rfl, K.L.2.2.2.2.2.1 k (by omega), e1, zb_s, M_poss K J.R h1.k l1, zb_s]
      have go : ∀ v2, zE u v2 → (ypo u k = true → yH u a s (yal u) k = true → yH u b s (yal u) k = true) → ∃ (r : Bool) (w' : gW), f_M_doesImply_b58 kk (nI a) (nI b) (nI s) (nI k) v2 = some (bI r, w') ∧ zE u w' ∧ (r = true ↔ yIm u a b s) := by
        intro v2 h2 hq
        unfold f_M_doesImply_b58
        rw [zl_s, n_1]
        refine ih m (by omega) (k + 1) v2 (by omega) h2 (fun j hj => ?_)
        by_cases q : j = k
        · subst q; exact hq
        · exact hp j (by omega)
      cases hpo : ypo u k with
      | false => rw [if_pos bf0]; exact go w1 h1 (fun z => by rw [hpo] at z; cases z)
      | true =>
        rw [if_neg bt0, M_all K h1.k, zb_s]
        obtain ⟨w2, e2, h2, l2, -⟩ := M_keepsE K h1 l1 ha hs
        rw [e2, zb_s]
        cases hA : yH u a s (yal u) k with
        | false => rw [if_pos bf0]; exact go w2 h2 (fun _ z => by rw [hA] at z; cases z)
        | true =>
          rw [if_neg bt0, M_all K h2.k, zb_s]
          obtain ⟨w3, e3, h3, l3, -⟩ := M_keepsE K h2 l2 hb hs
          rw [e3, zb_s]
          cases hB : yH u b s (yal u) k with
          | false =>
            rw [if_pos bf0]
            exact ⟨false, w3, rfl, h3, fun z => (by cases z), fun z => by have := z k (by omega) hpo hA; rw [hB] at this; cases this⟩
          | true => rw [if_neg bt0]; exact go w3 h3 (fun _ _ => hB)) zFU (yT u) (zfu (by omega))
  exact key 0 w (by omega) h (fun j hj => absurd hj (Nat.not_lt_zero j))
theorem bb_eq {b c : Bool} {P : Prop} (h : b = true ↔ P) (k : c = true ↔ P) : b = c := by
  rw [Bool.eq_iff_iff, h, k]
theorem q_implies (J : zJ u) (a b c : Int32) : zQ u (f_X_implies a b c) (f_M_implies a b c) := by
  have K := J.K
  have h8 := K.O8
  have h6 := K.Y6
  by_cases g : (gO u a && gD u c) = true ∧ gO u b = true
  · obtain ⟨g0, gb⟩ := g
    rw [Bool.and_eq_true] at g0
    obtain ⟨i, rfl, hi⟩ := gO_t g0.1
    obtain ⟨s, rfl, hs, h0⟩ := gD_t g0.2
    obtain ⟨j, rfl, hj⟩ := gO_t gb
    obtain ⟨r0, -, -, -, r1⟩ := M_doesImply J (zE.rf u) hi hj (s := s) (by omega)
    refine ⟨bI r0, fun v hv => ?_, fun v hv => ?_⟩
    · obtain ⟨v1, e1, e2, e3⟩ := Cs_hearAll' K J.C hv (s := s) (by omega)
      have hE := zRw.h hv e2
      obtain ⟨r2, f1, f2⟩ := Cs_imp K hi hj (e3 i hi) (e3 j hj)
      refine ⟨v1, ?_, hE⟩
      unfold f_X_implies f_Cs_follows
      rw [X_isSuch' K hv.k, zb_s, g0.1, g0.2, if_neg (show ¬ bI (true && true) = 0 by decide), Oa_hasB K hv.k, zb_s, gb, if_neg bt0, e1, zb_s, Cs_rowOf' (by omega), zb_s, Cs_rowOf' (by omega), zb_s, La_words' K hE.k, zb_s, show f_Ro_isWithin (91 + i) (91 + j) (nI ((yT u + 63) / 64)) v1 = _ from f1, zb_s, bb_eq r1 f2]
      cases r2
      · rw [if_pos bf0]; rfl
      · rw [if_neg bt0]; rfl
    · obtain ⟨r2, v1, e1, e2, e3⟩ := M_doesImply J hv.m0 hi hj (s := s) (by omega)
      refine ⟨v1, ?_, e2⟩
      unfold f_M_implies
      rw [zl_s, M_isOathB K hv.m0.k, zb_s, g0.1, if_neg bt0, M_isOathB K hv.m0.k, zb_s, gb, if_neg bt0, M_isSeenDay' K hv.m0.k, zb_s, g0.2, if_neg bt0, e1, zb_s, bb_eq r1 e3]
      cases r2
      · rw [if_pos bf0]; rfl
      · rw [if_neg bt0]; rfl
  · refine ⟨-1, fun v hv => ⟨v, ?_, hv⟩, fun v hv => ⟨_, ?_, hv.m0⟩⟩
    · unfold f_X_implies
      rw [X_isSuch' K hv.k, zb_s]
      cases e : (gO u a && gD u c) with
      | false => rw [if_pos bf0]
      | true =>
        have eb : gO u b = false := by
          cases x : gO u b with
          | false => rfl
          | true => exact absurd ⟨e, x⟩ g
        rw [if_neg bt0, Oa_hasB K hv.k, zb_s, eb, if_pos bf0]
    · unfold f_M_implies f_M_implies_b29
      rw [zl_s, M_isOathB K hv.m0.k, zb_s]
      cases e1 : gO u a with
      | false => rw [if_pos bf0]
      | true =>
        rw [if_neg bt0, M_isOathB K hv.m0.k, zb_s]
        cases e2 : gO u b with
        | false => rw [if_pos bf0]
        | true =>
          rw [if_neg bt0, M_isSeenDay' K hv.m0.k, zb_s]
          cases e3 : gD u c with
          | false => rw [if_pos bf0]
          | true => exact absurd ⟨by rw [e1, e3]; rfl, e2⟩ g
theorem q_same (J : zJ u) (a b : Int32) : zQ u (f_X_same a b) (f_M_same a b) := by
  have K := J.K
  have h8 := K.O8
  have h6 := K.Y6
  by_cases g : (gO u a && gD u b) = true
  · rw [Bool.and_eq_true] at g
    obtain ⟨o, rfl, ho⟩ := gO_t g.1
    obtain ⟨s, rfl, hs, h0⟩ := gD_t g.2
    have hM : ∀ v, zE u v → ∃ (r : Nat) (v' : gW), f_M_same_b28 (nI o) (nI s) (0 : Int32) (0 : Int32) v = some (nI r, v') ∧ zE u v' ∧ isB (yO u) (fun i => yIm u o i s ∧ yIm u i o s) r := by
      intro v hv
      have key := zfx_ind (fun _ _ _ _ _ => none) f_M_same_b28_s (fun m kk => ∀ i r w, i + m = yO u → zE u w → isB i (fun i => yIm u o i s ∧ yIm u i o s) r → ∃ (r' : Nat) (v' : gW), kk (nI o) (nI s) (nI r) (nI i) w = some (nI r', v') ∧ zE u v' ∧ isB (yO u) (fun i => yIm u o i s ∧ yIm u i o s) r') (fun m kk ih i r w hi hw hr => by
        unfold f_M_same_b28_s
        rw [hw.k.i rfl, K.C.2.2.2.1.2]
        cases m with
        | zero =>
          rw [if_pos (by rw [n_le (by omega) (by omega)]; omega)]
          exact ⟨r, w, rfl, hw, by rw [show yO u = i by omega]; exact hr⟩
        | succ m =>
          rw [if_neg (by rw [n_le (by omega) (by omega)]; omega)]
          have st : ∀ (v2 : gW) (b : Bool) (x : Nat), zE u v2 → (b = true ↔ (yIm u o i s ∧ yIm u i o s)) → r ||| x = r ||| (if b = true then 2 ^ i else 0) → ∃ (r' : Nat) (v' : gW), f_M_same_b68 kk (nI o) (nI s) (nI i) (nI r) (nI x) v2 = some (nI r', v') ∧ zE u v' ∧ isB (yO u) (fun i => yIm u o i s ∧ yIm u i o s) r' := by
            intro v2 b x h2 hb hx
            unfold f_M_same_b68
            rw [n_or, hx, zl_s, zl_s, n_1]
            exact ih m (by omega) (i + 1) _ v2 (by omega) h2 (hr.s b hb)
          obtain ⟨r1, w1, e1, h1, k1⟩ := M_doesImply J hw ho (b := i) (by omega) (s := s) (by omega)
          rw [e1, zb_s]
          cases r1 with
          | false =>
            rw [if_pos bf0]
            exact st w1 false 0 h1 ⟨fun z => (by cases z), fun z => by have := k1.mpr z.1; cases this⟩ rfl
          | true =>
            obtain ⟨r2, w2, e2, h2, k2⟩ := M_doesImply J h1 (a := i) (by omega) ho (s := s) (by omega)
            rw [if_neg bt0, e2, zb_s]
            cases r2 with
            | false =>
              rw [if_pos bf0]
              exact st w2 false 0 h2 ⟨fun z => (by cases z), fun z => by have := k2.mpr z.2; cases this⟩ rfl
            | true =>
              rw [if_neg bt0, n_1sh (by omega)]
              exact st w2 true (2 ^ i) h2 ⟨fun _ => ⟨k1.mp rfl, k2.mp rfl⟩, fun _ => rfl⟩ rfl) zFU (yO u) (zfu (by omega))
      exact key 0 0 v (by omega) hv (isB.z _)
    obtain ⟨r0, -, -, -, k0⟩ := hM u (zE.rf u)
    refine ⟨nI r0, fun v hv => ?_, fun v hv => ?_⟩
    · obtain ⟨v1, e1, e2, e3⟩ := Cs_hearAll' K J.C hv (s := s) (by omega)
      have hE := zRw.h hv e2
      refine ⟨v1, ?_, hE⟩
      unfold f_X_same f_Cs_alike
      rw [X_isSuch' K hv.k, zb_s, g.1, g.2, if_neg (show ¬ bI (true && true) = 0 by decide), e1, zb_s]
      have key := zfx_ind (fun _ _ _ _ => none) f_Cs_alike_b10_s (fun m kk => ∀ i r, i + m = yO u → isB i (fun i => yIm u o i s ∧ yIm u i o s) r → kk (nI o) (nI r) (nI i) v1 = some (nI r0, v1)) (fun m kk ih i r hi hr => by
        unfold f_Cs_alike_b10_s
        rw [Oa_size' K hE.k, zb_s]
        cases m with
        | zero =>
          rw [if_pos (by rw [n_le (by omega) (by omega)]; omega)]
          rw [show yO u = i by omega] at k0
          rw [isB.un hr k0]
        | succ m =>
          rw [if_neg (by rw [n_le (by omega) (by omega)]; omega), Cs_rowOf' (by omega), zb_s, Cs_rowOf' (by omega), zb_s, La_words' K hE.k, zb_s]
          have st : ∀ (b : Bool) (x : Nat), (b = true ↔ (yIm u o i s ∧ yIm u i o s)) → r ||| x = r ||| (if b = true then 2 ^ i else 0) → f_Cs_alike_b91 kk (nI o) (nI i) (nI r) (nI x) v1 = some (nI r0, v1) := by
            intro b x hb hx
            unfold f_Cs_alike_b91
            rw [n_or, hx, zl_s, zl_s, n_1]
            exact ih m (by omega) (i + 1) _ (by omega) (hr.s b hb)
          obtain ⟨b1, d1, d2⟩ := Cs_imp K ho (j := i) (by omega) (e3 o ho) (e3 i (by omega))
          rw [show f_Ro_isWithin (91 + o) (91 + i) (nI ((yT u + 63) / 64)) v1 = _ from d1, zb_s]
          unfold f_Cs_alike_b74 f_Cs_alike_b75
          cases b1 with
          | false =>
            rw [if_pos bf0, if_pos z00]
            exact st false 0 ⟨fun z => (by cases z), fun z => by have := d2.mpr z.1; cases this⟩ rfl
          | true =>
            obtain ⟨b2, d3, d4⟩ := Cs_imp K (i := i) (by omega) ho (e3 i (by omega)) (e3 o ho)
            rw [if_neg bt0, Cs_rowOf' (by omega), zb_s, Cs_rowOf' (by omega), zb_s, La_words' K hE.k, zb_s, show f_Ro_isWithin (91 + i) (91 + o) (nI ((yT u + 63) / 64)) v1 = _ from d3, zb_s]
            cases b2 with
            | false =>
              rw [if_pos bf0, if_pos z00]
              exact st false 0 ⟨fun z => (by cases z), fun z => by have := d4.mpr z.2; cases this⟩ rfl
            | true =>
              rw [if_neg bt0, if_neg z10, n_1sh (by omega)]
              exact st true (2 ^ i) ⟨fun _ => ⟨d2.mp rfl, d4.mp rfl⟩, fun _ => rfl⟩ rfl) zFU (yO u) (zfu (by omega))
      rw [show f_Cs_alike_b10 (nI o) (0 : Int32) (0 : Int32) v1 = _ from key 0 0 (by omega) (isB.z _), zb_s]
    · obtain ⟨r1, v1, e1, e2, e3⟩ := hM _ hv.m0
      refine ⟨v1, ?_, e2⟩
      unfold f_M_same
      rw [zl_s, M_isOathB K hv.m0.k, zb_s, g.1, if_neg bt0, M_isSeenDay' K hv.m0.k, zb_s, g.2, if_neg bt0, e1, isB.un k0 e3]
  · have g' : (gO u a && gD u b) = false := by simpa using g
    refine ⟨-1, fun v hv => ⟨v, ?_, hv⟩, fun v hv => ⟨_, ?_, hv.m0⟩⟩
    · unfold f_X_same
      rw [X_isSuch' K hv.k, zb_s, g', if_pos bf0]
    · unfold f_M_same
      rw [zl_s, M_isOathB K hv.m0.k, zb_s]
      cases e : gO u a with
      | false => rw [if_pos bf0]
      | true =>
        rw [e, Bool.true_and] at g'
        rw [if_neg bt0, M_isSeenDay' K hv.m0.k, zb_s, g', if_pos bf0]
theorem M_hasB (a i : Nat) (ha : a < 2 ^ 31) (hi : i < 32) (w : gW) : f_M_has (nI a) (nI i) w = some (bI (a.testBit i), w) := by
  unfold f_M_has
  rw [n_bit ha hi]
  cases a.testBit i
  · rw [if_neg (by decide)]; rfl
  · rw [if_pos (show bI true = 1 from rfl)]; rfl
theorem q_days (J : zJ u) (a : Int32) : zQ u (f_X_days a) (f_M_days a) := by
  have K := J.K
  have h8 := K.O8
  have h6 := K.Y6
  have h5 := K.D5
  by_cases g : gO u a = true ∧ 0 < yD u
  · obtain ⟨g0, gd⟩ := g
    obtain ⟨o, rfl, ho⟩ := gO_t g0
    have hM : ∀ v, zE u v → ∃ (r : Nat) (v' : gW), f_M_days_b26 (nI o) (0 : Int32) (0 : Int32) v = some (nI r, v') ∧ zE u v' ∧ isB (yY u + 1) (fun s => yCB u s o o) r := by
      intro v hv
      have key := zfx_ind (fun _ _ _ _ => none) f_M_days_b26_s (fun m kk => ∀ s r w, s + m = yY u + 1 → zE u w → isB s (fun s => yCB u s o o) r → ∃ (r' : Nat) (v' : gW), kk (nI o) (nI r) (nI s) w = some (nI r', v') ∧ zE u v' ∧ isB (yY u + 1) (fun s => yCB u s o o) r') (fun m kk ih s r w hi hw hr => by
        unfold f_M_days_b26_s
        rw [hw.k.i rfl, K.C.2.2.1.2]
        cases m with
        | zero =>
          rw [if_pos (by rw [n_lt (by omega) (by omega)]; omega)]
          exact ⟨r, w, rfl, hw, by rw [show yY u + 1 = s by omega]; exact hr⟩
        | succ m =>
          rw [if_neg (by rw [n_lt (by omega) (by omega)]; omega)]
          obtain ⟨v1, e1, e2, e3⟩ := M_layDay K J.R hw (s := s) (by omega)
          have hsm := ysm_lt K s (yT u)
          rw [e1, zb_s, e3.1, M_hasB _ _ (by omega) (by omega), zb_s]
          have hb : (ysm u s (yT u)).testBit o = true ↔ yCB u s o o := ((ysm_B K s (yT u)).2 o ho).trans ⟨fun ⟨k, z1, z2, z3⟩ => ⟨k, z1, z2, z3, z3⟩, fun ⟨k, z1, z2, z3, _⟩ => ⟨k, z1, z2, z3⟩⟩
          have st : ∀ (x : Nat), r ||| x = r ||| (if (ysm u s (yT u)).testBit o = true then 2 ^ s else 0) → ∃ (r' : Nat) (v' : gW), f_M_days_b58 kk (nI o) (nI s) (nI r) (nI x) v1 = some (nI r', v') ∧ zE u v' ∧ isB (yY u + 1) (fun s => yCB u s o o) r' := by
            intro x hx
            unfold f_M_days_b58
            rw [n_or, hx, zl_s, zl_s, n_1]
            exact ih m (by omega) (s + 1) _ v1 (by omega) e2 (hr.s _ hb)
          cases e : (ysm u s (yT u)).testBit o with
          | false => rw [if_pos bf0]; exact st 0 (by rw [e]; rfl)
          | true => rw [if_neg bt0, n_1sh (by omega)]; exact st (2 ^ s) (by rw [e]; rfl)) zFU (yY u + 1) (zfu (by omega))
      exact key 0 0 v (by omega) hv (isB.z _)
    obtain ⟨r0, -, -, -, k0⟩ := hM u (zE.rf u)
    refine ⟨nI r0, fun v hv => ?_, fun v hv => ?_⟩
    · have key := zfx_ind (fun _ _ _ _ => none) f_Cs_openDays_b4_s (fun m kk => ∀ s r w, s + m = yY u + 1 → zE u w → isB s (fun s => yCB u s o o) r → ∃ (v' : gW), kk (nI o) (nI r) (nI s) w = some (nI r0, v') ∧ zE u v') (fun m kk ih s r w hi hw hr => by
        unfold f_Cs_openDays_b4_s f_La_dayCount
        rw [hw.k.i rfl, K.C.2.2.1.1, zb_s]
        cases m with
        | zero =>
          rw [if_pos (by rw [n_lt (by omega) (by omega)]; omega)]
          rw [show yY u + 1 = s by omega] at k0
          rw [isB.un hr k0]
          exact ⟨w, rfl, hw⟩
        | succ m =>
          rw [if_neg (by rw [n_lt (by omega) (by omega)]; omega), Cs_rowOf' (by omega), zb_s]
          obtain ⟨v1, e1, e2, e3⟩ := Co_hear' K J.C hw ho (s := s) (by omega) (hRow_h (o := o) (by omega))
          have hE := hRowE (o := o) (by omega) hw e2
          obtain ⟨b, c1, c2⟩ := Cs_canBe' K J.C hE ho e3
          rw [e1, zb_s, c1, zb_s]
          have st : ∀ (x : Nat), r ||| x = r ||| (if b = true then 2 ^ s else 0) → ∃ (v' : gW), f_Cs_openDays_b45 kk (nI o) (nI s) (nI r) (nI x) v1 = some (nI r0, v') ∧ zE u v' := by
            intro x hx
            unfold f_Cs_openDays_b45
            rw [n_or, hx, zl_s, zl_s, n_1]
            exact ih m (by omega) (s + 1) _ v1 (by omega) hE (hr.s _ c2)
          cases b with
          | false => rw [if_pos bf0]; exact st 0 rfl
          | true => rw [if_neg bt0, n_1sh (by omega)]; exact st (2 ^ s) rfl) zFU (yY u + 1) (zfu (by omega))
      obtain ⟨v1, e1, e2⟩ := key 0 0 v (by omega) hv (isB.z _)
      refine ⟨v1, ?_, e2⟩
      unfold f_X_days f_Cs_openDays
      rw [La_isThere' K hv.k, zb_s, decide_eq_true gd, if_neg bt0, Oa_hasB K hv.k, zb_s, g0, if_neg bt0, show f_Cs_openDays_b4 (nI o) (0 : Int32) (0 : Int32) v = _ from e1, zb_s]
    · obtain ⟨r1, v1, e1, e2, e3⟩ := hM _ hv.m0
      refine ⟨v1, ?_, e2⟩
      unfold f_M_days
      have h21 : (zsI v 107 0 0).1 107 21 = nI (yD u) := (hv.m0.k.i rfl).trans K.C.2.1.2
      have hz : ¬ nI (yD u) = 0 := nI_ne0 gd (by omega)
      rw [zl_s, M_isOathB K hv.m0.k, zb_s, g0, if_neg bt0, h21, if_neg hz, e1, isB.un k0 e3]
  · refine ⟨-1, fun v hv => ⟨v, ?_, hv⟩, fun v hv => ⟨_, ?_, hv.m0⟩⟩
    · unfold f_X_days
      rw [La_isThere' K hv.k, zb_s]
      by_cases q : 0 < yD u
      · have e : gO u a = false := by
          cases x : gO u a with
          | false => rfl
          | true => exact absurd ⟨x, q⟩ g
        rw [decide_eq_true q, if_neg bt0, Oa_hasB K hv.k, zb_s, e, if_pos bf0]
      · rw [decide_eq_false q, if_pos bf0]
    · unfold f_M_days
      have h21 : (zsI v 107 0 0).1 107 21 = nI (yD u) := (hv.m0.k.i rfl).trans K.C.2.1.2
      rw [zl_s, M_isOathB K hv.m0.k, zb_s]
      cases e : gO u a with
      | false => rw [if_pos bf0]
      | true =>
        have q : yD u = 0 := Classical.byContradiction (fun z => g ⟨e, by omega⟩)
        rw [if_neg bt0, h21, if_pos (by rw [q]; rfl)]
end
