/-! PURE: may, must, settled, implies, same, days -/
def gD (u : gW) (a : Int32) : Bool := decide (0 < yD u ∧ 0 ≤ a.toInt ∧ a.toInt ≤ (yY u : Int))
def gO (u : gW) (a : Int32) : Bool := decide (0 ≤ a.toInt ∧ a.toInt < (yO u : Int))
def gE (u : gW) (a : Int32) : Bool := decide (0 ≤ a.toInt ∧ a.toInt < (yD u : Int))
section
variable {u : gW}
theorem gD_t {a : Int32} (h : gD u a = true) : ∃ s, a = nI s ∧ s ≤ yY u ∧ 0 < yD u := by
  have q := of_decide_eq_true h
  exact ⟨ix a, i_nIx q.2.1, by have := i_ix a; rw [if_pos q.2.1] at this; omega, q.1⟩
theorem gO_t {a : Int32} (h : gO u a = true) : ∃ o, a = nI o ∧ o < yO u := by
  have q := of_decide_eq_true h
  obtain ⟨e, l⟩ := z_nIx q
  exact ⟨ix a, e, l⟩
theorem gE_t {a : Int32} (h : gE u a = true) : ∃ o, a = nI o ∧ o < yD u := by
  have q := of_decide_eq_true h
  obtain ⟨e, l⟩ := z_nIx q
  exact ⟨ix a, e, l⟩
theorem zK.ht (K : zK u) {w : gW} (h : zEk u w) : w.1 19 5 = nI (yD u) := (h.i rfl).trans K.C.2.1.1
theorem La_isDay' (K : zK u) {w : gW} (h : zEk u w) (a : Int32) : f_La_isDay a w = some (bI (gD u a), w) := by
  have h5 := K.D5
  have h6 := K.Y6
  unfold f_La_isDay gD
  rw [K.ht h, h.i (a := 19) (b := 4) rfl, K.C.2.2.1.1]
  by_cases q0 : nI (yD u) ≤ 0
  · have q : ¬ (0 < yD u ∧ 0 ≤ a.toInt ∧ a.toInt ≤ (yY u : Int)) := fun z => nI_nle z.1 (by omega) q0
    rw [if_pos q0, decide_eq_false q]; rfl
  · have q0' : 0 < yD u := by
      apply Nat.pos_of_ne_zero
      intro z
      rw [z] at q0
      exact q0 (by decide)
    rw [if_neg q0]
    by_cases q1 : a < 0
    · have q : ¬ (0 < yD u ∧ 0 ≤ a.toInt ∧ a.toInt ≤ (yY u : Int)) := fun z => by rw [i_lt, i_0] at q1; omega
      rw [if_pos q1, decide_eq_false q]; rfl
    · rw [if_neg q1]
      by_cases q2 : nI (yY u) < a
      · have q : ¬ (0 < yD u ∧ 0 ≤ a.toInt ∧ a.toInt ≤ (yY u : Int)) := fun z => by rw [i_lt, i_nI (by omega)] at q2; omega
        rw [if_pos q2, decide_eq_false q]; rfl
      · have q : 0 < yD u ∧ 0 ≤ a.toInt ∧ a.toInt ≤ (yY u : Int) := by
          rw [i_lt, i_nI (by omega)] at q2
          rw [i_lt, i_0] at q1
          exact ⟨q0', by omega, by omega⟩
        rw [if_neg q2, decide_eq_true q]; rfl
theorem M_isSeenDay' (K : zK u) {w : gW} (h : zEk u w) (a : Int32) : f_M_isSeenDay a w = some (bI (gD u a), w) := by
  have h5 := K.D5
  have h6 := K.Y6
  unfold f_M_isSeenDay gD
  rw [h.i (a := 107) (b := 21) rfl, K.C.2.1.2, h.i (a := 107) (b := 22) rfl, K.C.2.2.1.2]
  by_cases q0 : nI (yD u) ≤ 0
  · have q : ¬ (0 < yD u ∧ 0 ≤ a.toInt ∧ a.toInt ≤ (yY u : Int)) := fun z => nI_nle z.1 (by omega) q0
    rw [if_pos q0, decide_eq_false q]; rfl
  · have q0' : 0 < yD u := by
      apply Nat.pos_of_ne_zero
      intro z
      rw [z] at q0
      exact q0 (by decide)
    rw [if_neg q0, M_isIn, i_l, i_l, i_nI (by omega), zb_s, show (0 : Int64).toInt = 0 from rfl]
    by_cases q1 : 0 ≤ a.toInt ∧ a.toInt ≤ ((yY u : Nat) : Int)
    · have q : 0 < yD u ∧ 0 ≤ a.toInt ∧ a.toInt ≤ (yY u : Int) := ⟨q0', q1⟩
      rw [if_pos q1, if_neg z10, decide_eq_true q]; rfl
    · have q : ¬ (0 < yD u ∧ 0 ≤ a.toInt ∧ a.toInt ≤ (yY u : Int)) := fun z => q1 z.2
      rw [if_neg q1, if_pos z00, decide_eq_false q]; rfl
theorem Oa_hasB (K : zK u) {w : gW} (h : zEk u w) (a : Int32) : f_Oa_has a w = some (bI (gO u a), w) := by
  rw [Oa_has' K h, zbl_b]; rfl
theorem M_isOathB (K : zK u) {w : gW} (h : zEk u w) (a : Int32) : f_M_isOath a w = some (bI (gO u a), w) := by
  rw [M_isOath a w ((h.i rfl).trans K.C.2.2.2.1.2) K.O8, zbl_b]; rfl
theorem La_hasDeedB (K : zK u) {w : gW} (h : zEk u w) (a : Int32) : f_La_hasDeed a w = some (bI (gE u a), w) := by
  rw [La_hasDeed' K h, zbl_b]; rfl
theorem M_isDeedB (K : zK u) {w : gW} (h : zEk u w) (a : Int32) : f_M_isDeed a w = some (bI (gE u a), w) := by
  rw [M_isDeed a w ((h.i rfl).trans K.C.2.1.2) K.D5, zbl_b]; rfl
theorem X_isSuch' (K : zK u) {w : gW} (h : zEk u w) (a b : Int32) : f_X_isSuch a b w = some (bI (gO u a && gD u b), w) := by
  unfold f_X_isSuch
  rw [Oa_hasB K h, zb_s]
  cases gO u a
  · rw [if_pos (show bI false = 0 from rfl)]; rfl
  · rw [if_neg (show ¬ bI true = 0 by decide), La_isDay' K h, zb_s]
    cases gD u b
    · rw [if_pos (show bI false = 0 from rfl)]; rfl
    · rw [if_neg (show ¬ bI true = 0 by decide)]; rfl
theorem La_isThere' (K : zK u) {w : gW} (h : zEk u w) : f_La_isThere w = some (bI (decide (0 < yD u)), w) := by
  have h5 := K.D5
  unfold f_La_isThere
  rw [K.ht h]
  by_cases q : 0 < yD u
  · rw [if_neg (nI_nle q (by omega)), decide_eq_true q]; rfl
  · rw [if_pos (by rw [show yD u = 0 by omega]; decide), decide_eq_false q]; rfl
theorem zE.m0 {w : gW} (h : zE u w) : zE u (zsI w 107 0 0) := h.sI _ rfl
theorem bf0 : bI false = 0 := rfl
theorem bt0 : ¬ bI true = 0 := by decide
theorem zJ.K (J : zJ u) : zK u := J.1
theorem zJ.R (J : zJ u) : jRec u := J.2.1
theorem zJ.C (J : zJ u) : jCou u := J.2.2.1
theorem zRw.h {u w v : gW} (h : zE u w) (k : zRw hMk w v) : zE u v := zRw.e h k hMk_s
/-- or with one bit or none -/
theorem or_0 (a : Nat) : a ||| 0 = a := Nat.or_zero a
theorem ysm_B (K : zK u) (s : Nat) : ∀ n, isB (yO u) (fun i => ∃ k, k < n ∧ yfi u k = true ∧ yH u i s (yal u) k = true) (ysm u s n)
  | 0 => ⟨Nat.two_pow_pos _, fun i _ => ⟨fun h => (by rw [show ysm u s 0 = 0 from rfl, Nat.zero_testBit] at h; cases h), fun ⟨k, h, _⟩ => absurd h (Nat.not_lt_zero k)⟩⟩
  | n + 1 => by
    have ih := ysm_B K s n
    have hb := yhb_B u s n (yO u)
    unfold ysm
    by_cases hf : yfi u n = true
    · rw [if_pos hf]
      refine ⟨Nat.or_lt_two_pow ih.1 hb.1, fun i hi => ?_⟩
      rw [Nat.testBit_or, Bool.or_eq_true, ih.2 i hi, show yhB u s n = yhb u s n (yO u) from rfl, hb.2 i hi]
      constructor
      · intro z
        rcases z with ⟨k, z1, z2⟩ | z
        · exact ⟨k, by omega, z2⟩
        · exact ⟨n, by omega, hf, z⟩
      · intro ⟨k, z1, z2⟩
        by_cases q : k = n
        · subst q; exact Or.inr z2.2
        · exact Or.inl ⟨k, by omega, z2⟩
    · rw [if_neg hf]
      refine ih.cg (fun i _ => ⟨fun ⟨k, z1, z2⟩ => ⟨k, by omega, z2⟩, fun ⟨k, z1, z2⟩ => ⟨k, ?_, z2⟩⟩)
      by_cases q : k = n
      · subst q; exact absurd z2.1 hf
      · omega
theorem yea_B (K : zK u) (s : Nat) : ∀ n, isB (yO u) (fun i => ∀ k, k < n → yfi u k = true → yH u i s (yal u) k = true) (yea u s n)
  | 0 => ⟨by have := Nat.two_pow_pos (yO u); show 2 ^ yO u - 1 < _; omega, fun i hi => ⟨fun _ k hk => absurd hk (Nat.not_lt_zero k), fun _ => (by show (2 ^ yO u - 1).testBit i = true; rw [Nat.testBit_two_pow_sub_one, decide_eq_true hi])⟩⟩
  | n + 1 => by
    have ih := yea_B K s n
    have hb := yhb_B u s n (yO u)
    unfold yea
    by_cases hf : yfi u n = true
    · rw [if_pos hf]
      refine ⟨Nat.lt_of_le_of_lt Nat.and_le_left ih.1, fun i hi => ?_⟩
      rw [Nat.testBit_and, Bool.and_eq_true, ih.2 i hi, show yhB u s n = yhb u s n (yO u) from rfl, hb.2 i hi]
      constructor
      · intro ⟨z1, z2⟩ k hk hfk
        by_cases q : k = n
        · subst q; exact z2
        · exact z1 k (by omega) hfk
      · intro z
        exact ⟨fun k hk => z k (by omega), z n (by omega) hf⟩
    · rw [if_neg hf]
      refine ih.cg (fun i _ => ⟨fun z k hk hfk => ?_, fun z k hk => z k (by omega)⟩)
      by_cases q : k = n
      · subst q; exact absurd hfk hf
      · exact z k (by omega) hfk
theorem Cs_open (K : zK u) (C : jCou u) {w : gW} (h : zE u w) {s : Nat} (hA : hAl u s w) : f_Cs_openAsHeard w = some (nI (ysm u s (yT u)), w) := by
  have h8 := K.O8
  have key := zfx_ind (fun _ _ _ => none) f_Cs_openAsHeard_b4_s (fun m kk => ∀ i r, i + m = yO u → isB i (fun i => yCB u s i i) r → kk (nI r) (nI i) w = some (nI (ysm u s (yT u)), w)) (fun m kk ih i r hi hr => by
    unfold f_Cs_openAsHeard_b4_s
    rw [Oa_size' K h.k, zb_s]
    cases m with
    | zero =>
      rw [if_pos (by rw [n_le (by omega) (by omega)]; omega)]
      have e : yO u = i := by omega
      have e2 := ysm_B K s (yT u)
      rw [e] at e2
      rw [isB.un hr (e2.cg (fun i _ => ⟨fun ⟨k, z1, z2, z3⟩ => ⟨k, z1, z2, z3, z3⟩, fun ⟨k, z1, z2, z3, _⟩ => ⟨k, z1, z2, z3⟩⟩))]
    | succ m =>
      rw [if_neg (by rw [n_le (by omega) (by omega)]; omega)]
      obtain ⟨b, e1, e2⟩ := Cs_canBe' K C h (s := s) (i := i) (by omega) (hA i (by omega))
      rw [e1, zb_s]
      have hs := hr.s b e2
      have st : ∀ x : Nat, r ||| x = r ||| (if b = true then 2 ^ i else 0) → f_Cs_openAsHeard_b31 kk (nI i) (nI r) (nI x) w = some (nI (ysm u s (yT u)), w) := by
        intro x hx
        unfold f_Cs_openAsHeard_b31
        rw [n_or, hx, zl_s, zl_s, n_1]
        exact ih m (by omega) (i + 1) _ (by omega) hs
      cases b with
      | false => rw [if_pos bf0]; exact st 0 rfl
      | true => rw [if_neg bt0, n_1sh (by omega)]; exact st (2 ^ i) rfl) zFU (yO u) (zfu (by omega))
  exact key 0 0 (by omega) (isB.z _)
theorem q_may (J : zJ u) (a : Int32) : zQ u (f_X_may a) (f_M_may a) := by
  have K := J.K
  cases g : gD u a with
  | false =>
    refine ⟨-1, fun v hv => ⟨v, ?_, hv⟩, fun v hv => ⟨_, ?_, hv.m0⟩⟩
    · unfold f_X_may
      rw [La_isDay' K hv.k, zb_s, g, if_pos bf0]
    · unfold f_M_may
      rw [zl_s, M_isSeenDay' K hv.m0.k, zb_s, g, if_pos bf0]
  | true =>
    obtain ⟨s, rfl, hs, h0⟩ := gD_t g
    have h6 := K.Y6
    refine ⟨nI (ysm u s (yT u)), fun v hv => ?_, fun v hv => ?_⟩
    · obtain ⟨v1, e1, e2, e3⟩ := Cs_hearAll' K J.C hv (s := s) (by omega)
      refine ⟨v1, ?_, zRw.h hv e2⟩
      unfold f_X_may f_Cs_openOn
      rw [La_isDay' K hv.k, zb_s, g, if_neg bt0, e1, zb_s, Cs_open K J.C (zRw.h hv e2) e3, zb_s, zb_s]
    · obtain ⟨v1, e1, e2, e3⟩ := M_layDay K J.R hv.m0 (s := s) (by omega)
      refine ⟨v1, ?_, e2⟩
      unfold f_M_may
      rw [zl_s, M_isSeenDay' K hv.m0.k, zb_s, g, if_neg bt0, e1, zb_s, e3.1]
/-- the row of an oath that was heard, against the lives that fit -/
theorem Cs_in (K : zK u) (C : jCou u) {w : gW} (h : zE u w) {s i : Nat} (hi : i < yO u) (ri : ∀ k, k < 64 * nW u → zbt w (91 + i) k = yhr u i s k) : ∃ b : Bool, f_Ro_isWithin 76 (91 + i) (nI (nW u)) w = some (bI b, w) ∧ (b = true ↔ ∀ k, k < yT u → yfi u k = true → yH u i s (yal u) k = true) := by
  have h8 := K.O8
  have hn := nW_le K
  obtain ⟨r, e1, e2⟩ := Ro_within K row_76 (row_h i (by omega)) w
  refine ⟨r, e1, e2.trans ⟨fun z k hk hf => ?_, fun z k hk hf => ?_⟩⟩
  · have a := z k (nW_ge hk) (by rw [fit_b C h (by have := nW_ge hk; omega), decide_eq_true hk, hf]; rfl)
    rw [ri k (nW_ge hk)] at a
    unfold yhr at a
    simp only [Bool.and_eq_true] at a
    exact a.2.2
  · rw [fit_b C h (by omega), Bool.and_eq_true, decide_eq_true_eq] at hf
    rw [ri k hk]
    unfold yhr
    rw [decide_eq_true hf.1, yfi_po hf.2, z k hf.1 hf.2]
    rfl
theorem q_must (J : zJ u) (a : Int32) : zQ u (f_X_must a) (f_M_must a) := by
  have K := J.K
  have h8 := K.O8
  cases g : gD u a with
  | false =>
    refine ⟨-1, fun v hv => ⟨v, ?_, hv⟩, fun v hv => ⟨_, ?_, hv.m0⟩⟩
    · unfold f_X_must
      rw [La_isDay' K hv.k, zb_s, g, if_pos bf0]
    · unfold f_M_must
      rw [zl_s, M_isSeenDay' K hv.m0.k, zb_s, g, if_pos bf0]
  | true =>
    obtain ⟨s, rfl, hs, h0⟩ := gD_t g
    have h6 := K.Y6
    refine ⟨nI (yea u s (yT u)), fun v hv => ?_, fun v hv => ?_⟩
    · obtain ⟨v1, e1, e2, e3⟩ := Cs_hearAll' K J.C hv (s := s) (by omega)
      have hE := zRw.h hv e2
      refine ⟨v1, ?_, hE⟩
      unfold f_X_must f_Cs_sure
      rw [La_isDay' K hv.k, zb_s, g, if_neg bt0, e1, zb_s]
      have key := zfx_ind (fun _ _ _ => none) f_Cs_sure_b9_s (fun m kk => ∀ i r, i + m = yO u → isB i (fun i => ∀ k, k < yT u → yfi u k = true → yH u i s (yal u) k = true) r → kk (nI r) (nI i) v1 = some (nI (yea u s (yT u)), v1)) (fun m kk ih i r hi hr => by
        unfold f_Cs_sure_b9_s
        rw [Oa_size' K hE.k, zb_s]
        cases m with
        | zero =>
          rw [if_pos (by rw [n_le (by omega) (by omega)]; omega)]
          have e : yO u = i := by omega
          have e2 := yea_B K s (yT u)
          rw [e] at e2
          rw [isB.un hr e2]
        | succ m =>
          unfold f_Co_fitting
          rw [if_neg (by rw [n_le (by omega) (by omega)]; omega), zb_s, Cs_rowOf' (by omega), zb_s, La_words' K hE.k, zb_s]
          obtain ⟨b, b1, b2⟩ := Cs_in K J.C hE (s := s) (i := i) (by omega) (e3 i (by omega))
          rw [show f_Ro_isWithin 76 (91 + i) (nI ((yT u + 63) / 64)) v1 = _ from b1, zb_s]
          have hs := hr.s b b2
          have st : ∀ x : Nat, r ||| x = r ||| (if b = true then 2 ^ i else 0) → f_Cs_sure_b53 kk (nI i) (nI r) (nI x) v1 = some (nI (yea u s (yT u)), v1) := by
            intro x hx
            unfold f_Cs_sure_b53
            rw [n_or, hx, zl_s, zl_s, n_1]
            exact ih m (by omega) (i + 1) _ (by omega) hs
          cases b with
          | false => rw [if_pos bf0]; exact st 0 rfl
          | true => rw [if_neg bt0, n_1sh (by omega)]; exact st (2 ^ i) rfl) zFU (yO u) (zfu (by omega))
      rw [show f_Cs_sure_b9 (0 : Int32) (0 : Int32) v1 = _ from key 0 0 (by omega) (isB.z _), zb_s]
    · obtain ⟨v1, e1, e2, e3⟩ := M_layDay K J.R hv.m0 (s := s) (by omega)
      refine ⟨v1, ?_, e2⟩
      unfold f_M_must
      rw [zl_s, M_isSeenDay' K hv.m0.k, zb_s, g, if_neg bt0, e1, zb_s, e3.2.1]
end
