/-! PURE: holds, lives, when -/
section
variable {u : gW}
theorem q_holds (J : zJ u) (a b c : Int32) : zQ u (f_X_holds a b c) (f_M_holds a b c) := by
  have K := J.K
  have h8 := K.O8
  have h6 := K.Y6
  have ht := K.T7
  by_cases g : (gO u a && gD u b) = true
  · rw [Bool.and_eq_true] at g
    obtain ⟨o, rfl, ho⟩ := gO_t g.1
    obtain ⟨s, rfl, hs, h0⟩ := gD_t g.2
    by_cases q : ∃ k, k < yT u ∧ c = nI (yN u k)
    · obtain ⟨k, hk, rfl⟩ := q
      refine ⟨bI (yH u o s (yal u) k), fun v hv => ?_, fun v hv => ?_⟩
      · rcases La_placeOf' K hv.k (nI (yN u k)) with ⟨j, hj, e1, e2⟩ | ⟨e1, -⟩
        · have ejk : k = j := yN_inj K hk hj ((n_eq (by have := yN_lt K k; omega) (by have := yN_lt K j; omega)).mp e1)
          subst ejk
          have hal := yal_lt K
          obtain ⟨r, w', f1, f2, f3⟩ := Co_wordOf K hv.k ho (s := s) (by omega) (th := yal u) (by omega) (W := k / 64) (by omega)
          refine ⟨w', ?_, f2.e hv⟩
          unfold f_X_holds
          rw [e2, zb_s, X_isSuch' K hv.k, zb_s, g.1, g.2, if_neg (show ¬ bI (true && true) = 0 by decide), if_neg (show ¬ nI k = (-1 : Int32) by rw [n_m1 (by omega)]; exact id), An_all K hv.k, zb_s, n_sr6 (by omega), f1, zb_s, n_63 (by omega), L_bitI _ (Nat.mod_lt _ (by decide)), f3 (k % 64) (Nat.mod_lt _ (by decide)) (by omega), show 64 * (k / 64) + k % 64 = k by omega]
        · exact absurd rfl (e1 k hk)
      · rcases M_isLife' K hv.m0 (nI (yN u k)) with ⟨j, w1, hj, e1, e2, l1, h1⟩ | ⟨e1, -⟩
        · have ejk : k = j := yN_inj K hk hj ((n_eq (by have := yN_lt K k; omega) (by have := yN_lt K j; omega)).mp e1)
          subst ejk
          obtain ⟨w2, f1, h2, -, -⟩ := M_keepsE K h1 l1 ho (s := s) (by omega)
          refine ⟨w2, ?_, h2⟩
          unfold f_M_holds
          rw [zl_s, M_isOathB K hv.m0.k, zb_s, g.1, if_neg bt0, M_isSeenDay' K hv.m0.k, zb_s, g.2, if_neg bt0, e2, zb_s, if_neg z10, M_all K h1.k, zb_s, f1, zb_s]
          cases yH u o s (yal u) k
          · rw [if_pos bf0]; rfl
          · rw [if_neg bt0]; rfl
        · exact absurd rfl (e1 k hk)
    · refine ⟨-1, fun v hv => ?_, fun v hv => ?_⟩
      · rcases La_placeOf' K hv.k c with ⟨j, hj, e1, -⟩ | ⟨-, e2⟩
        · exact absurd ⟨j, hj, e1⟩ q
        · refine ⟨v, ?_, hv⟩
          unfold f_X_holds
          rw [e2, zb_s, X_isSuch' K hv.k, zb_s, g.1, g.2, if_neg (show ¬ bI (true && true) = 0 by decide), if_pos zm1]
      · rcases M_isLife' K hv.m0 c with ⟨j, w1, hj, e1, -⟩ | ⟨-, e2⟩
        · exact absurd ⟨j, hj, e1⟩ q
        · refine ⟨_, ?_, hv.m0⟩
          unfold f_M_holds
          rw [zl_s, M_isOathB K hv.m0.k, zb_s, g.1, if_neg bt0, M_isSeenDay' K hv.m0.k, zb_s, g.2, if_neg bt0, e2, zb_s, if_pos z00]
  · have g' : (gO u a && gD u b) = false := by simpa using g
    refine ⟨-1, fun v hv => ?_, fun v hv => ⟨_, ?_, hv.m0⟩⟩
    · rcases La_placeOf' K hv.k c with ⟨j, hj, e1, e2⟩ | ⟨-, e2⟩
      · refine ⟨v, ?_, hv⟩
        unfold f_X_holds
        rw [e2, zb_s, X_isSuch' K hv.k, zb_s, g', if_pos bf0]
      · refine ⟨v, ?_, hv⟩
        unfold f_X_holds
        rw [e2, zb_s, X_isSuch' K hv.k, zb_s, g', if_pos bf0]
    · unfold f_M_holds
      rw [zl_s, M_isOathB K hv.m0.k, zb_s]
      cases e : gO u a with
      | false => rw [if_pos bf0]
      | true =>
        rw [e, Bool.true_and] at g'
        rw [if_neg bt0, M_isSeenDay' K hv.m0.k, zb_s, g', if_pos bf0]
/-- those that are asked for: possible or fit -/
def yPF (u : gW) (x : Int32) : Nat → Bool := if x = 0 then ypo u else yfi u
theorem M_pf (K : zK u) (R : jRec u) {w : gW} (h : zE u w) {k : Nat} (hk : k < yT u) (x : Int32) : ∃ w3 : gW, zE u w3 ∧ ∀ (F G : gW → Option (Int32 × gW)), zb (f_M_live (w.1 118 (ix (nI k))) w) (fun _ w4 => if x = 0 then (zb (f_M_isPossible w4) (fun v6 w7 => if v6 = 0 then F w7 else G w7)) else (zb (f_M_fits w4) (fun v9 w10 => if v9 = 0 then F w10 else G w10))) = if yPF u x k = true then G w3 else F w3 := by
  have ht := K.T7
  obtain ⟨w1, e1, l1, m1⟩ := M_live K h.k k
  have h1 := m1.e h
  by_cases q : x = 0
  · refine ⟨w1, h1, fun F G => ?_⟩
    rw [z_ix (by omega), h.k.i rfl, K.L.2.2.2.2.2.1 k hk, e1, zb_s, if_pos q, M_poss K R h1.k l1, zb_s]
    unfold yPF
    rw [if_pos q]
    cases ypo u k
    · rw [if_pos bf0, if_neg (by decide)]
    · rw [if_neg bt0, if_pos rfl]
  · obtain ⟨w3, e3, m3⟩ := M_fits K R h1.k l1
    refine ⟨w3, m3.e h1, fun F G => ?_⟩
    rw [z_ix (by omega), h.k.i rfl, K.L.2.2.2.2.2.1 k hk, e1, zb_s, if_neg q, e3, zb_s]
    unfold yPF
    rw [if_neg q]
    cases yfi u k
    · rw [if_pos bf0, if_neg (by decide)]
    · rw [if_neg bt0, if_pos rfl]
theorem M_livesL (J : zJ u) {w : gW} (h : zE u w) (x a : Int32) : ∃ w' : gW, zE u w' ∧ ((∃ k, k < yT u ∧ yPF u x k = true ∧ a = nI (fb_ct (yPF u x) k) ∧ f_M_lives_b24 x a (0 : Int32) (0 : Int32) w = some (nI (yN u k), w')) ∨ ((∀ k, k < yT u → yPF u x k = true → a ≠ nI (fb_ct (yPF u x) k)) ∧ f_M_lives_b24 x a (0 : Int32) (0 : Int32) w = some ((if a = (-1 : Int32) then nI (fb_ct (yPF u x) (yT u)) else -1), w'))) := by
  have K := J.K
  have ht := K.T7
  have key := zfx_ind (fun _ _ _ _ _ => none) f_M_lives_b24_s (fun m kk => ∀ k v, k + m = yT u → zE u v → (∀ j, j < k → yPF u x j = true → a ≠ nI (fb_ct (yPF u x) j)) → ∃ w' : gW, zE u w' ∧ ((∃ k, k < yT u ∧ yPF u x k = true ∧ a = nI (fb_ct (yPF u x) k) ∧ kk x a (nI (fb_ct (yPF u x) k)) (nI k) v = kk x a (nI (fb_ct (yPF u x) k)) (nI k) v ∧ True) ∨ True) ∧ ((∃ j, j < yT u ∧ yPF u x j = true ∧ a = nI (fb_ct (yPF u x) j) ∧ kk x a (nI (fb_ct (yPF u x) k)) (nI k) v = some (nI (yN u j), w')) ∨ ((∀ j, j < yT u → yPF u x j = true → a ≠ nI (fb_ct (yPF u x) j)) ∧ kk x a (nI (fb_ct (yPF u x) k)) (nI k) v = some ((if a = (-1 : Int32) then nI (fb_ct (yPF u x) (yT u)) else -1), w')))) (fun m kk ih k v hk hv hp => by
    unfold f_M_lives_b24_s
    rw [hv.k.i rfl, K.L.2.2.2.2.1]
    cases m with
    | zero =>
      rw [if_pos (by rw [n_le (by omega) (by omega)]; omega)]
      refine ⟨v, hv, Or.inr trivial, Or.inr ⟨fun j hj => hp j (by omega), ?_⟩⟩
      by_cases q : a = (-1 : Int32)
      · rw [if_pos q, if_pos q, show yT u = k by omega]
      · rw [if_neg q, if_neg q]
    | succ m =>
      rw [if_neg (by rw [n_le (by omega) (by omega)]; omega), if_pos (z_inbn (by omega) (by decide))]
      obtain ⟨w3, h3, F3⟩ := M_pf K J.R hv (k := k) (by omega) x
      rw [F3]
      have go : ∀ c, c = fb_ct (yPF u x) (k + 1) → (yPF u x k = true → a ≠ nI (fb_ct (yPF u x) k)) → ∃ w' : gW, zE u w' ∧ True ∧ ((∃ j, j < yT u ∧ yPF u x j = true ∧ a = nI (fb_ct (yPF u x) j) ∧ f_M_lives_b84 kk x a (nI c) (nI k) w3 = some (nI (yN u j), w')) ∨ ((∀ j, j < yT u → yPF u x j = true → a ≠ nI (fb_ct (yPF u x) j)) ∧ f_M_lives_b84 kk x a (nI c) (nI k) w3 = some ((if a = (-1 : Int32) then nI (fb_ct (yPF u x) (yT u)) else -1), w'))) := by
        intro c hc hq
        subst hc
        unfold f_M_lives_b84
        rw [zl_s, n_1]
        obtain ⟨w', a1, -, a3⟩ := ih m (by omega) (k + 1) w3 (by omega) h3 (fun j hj => by
          by_cases q : j = k
          · subst q; exact hq
          · exact hp j (by omega))
        exact ⟨w', a1, trivial, a3⟩
      have s1 : fb_ct (yPF u x) (k + 1) = fb_ct (yPF u x) k + if yPF u x k = true then 1 else 0 := fb_ct_succ _ _
      by_cases hpf : yPF u x k = true
      · rw [if_pos hpf]
        unfold f_M_lives_b68
        by_cases q : nI (fb_ct (yPF u x) k) = a
        · rw [if_pos q, if_pos (z_inbn (by omega) (by decide)), z_ix (by omega), h3.k.i rfl, K.L.2.2.2.2.2.1 k (by omega)]
          exact ⟨w3, h3, Or.inr trivial, Or.inl ⟨k, by omega, hpf, q.symm, rfl⟩⟩
        · rw [if_neg q, zl_s, n_1]
          obtain ⟨w', a1, -, a3⟩ := go (fb_ct (yPF u x) k + 1) (by rw [s1, if_pos hpf]) (fun _ e => q e.symm)
          exact ⟨w', a1, Or.inr trivial, a3⟩
      · rw [if_neg hpf]
        obtain ⟨w', a1, -, a3⟩ := go (fb_ct (yPF u x) k) (by rw [s1, if_neg hpf]; rfl) (fun z => absurd z hpf)
        exact ⟨w', a1, Or.inr trivial, a3⟩) zFU (yT u) (zfu (by omega))
  obtain ⟨w', a1, -, a3⟩ := key 0 w (by omega) h (fun j hj => absurd hj (Nat.not_lt_zero j))
  exact ⟨w', a1, a3⟩
theorem X_livesL (J : zJ u) {w : gW} (h : zE u w) (x a : Int32) : f_X_lives_b33 a (if x = 0 then 75 else 76) w = (if a = (-1 : Int32) then some (nI (fb_ct (yPF u x) (yT u)), w) else f_X_lives_b33 a (if x = 0 then 75 else 76) w) ∧ ((∃ k, k < yT u ∧ yPF u x k = true ∧ a = nI (fb_ct (yPF u x) k) ∧ f_X_lives_b33 a (if x = 0 then 75 else 76) w = some (nI (yN u k), w)) ∨ ((∀ k, k < yT u → yPF u x k = true → a ≠ nI (fb_ct (yPF u x) k)) ∧ (a ≠ (-1 : Int32) → f_X_lives_b33 a (if x = 0 then 75 else 76) w = some (-1, w)))) := by
  have K := J.K
  have ht := K.T7
  have hn := nW_le K
  have hct : fb_ct (zbt w (if x = 0 then 75 else 76)) (64 * nW u) = fb_ct (yPF u x) (yT u) := by
    unfold yPF
    by_cases q : x = 0
    · rw [if_pos q, if_pos q]; exact ct_pos K J.C h
    · rw [if_neg q, if_neg q]; exact ct_fit K J.C h
  have hbt : ∀ k, k < 64 * nW u → zbt w (if x = 0 then 75 else 76) k = (decide (k < yT u) && yPF u x k) := by
    intro k hk
    unfold yPF
    by_cases q : x = 0
    · rw [if_pos q, if_pos q]; exact pos_b J.C h (by omega)
    · rw [if_neg q, if_neg q]; exact fit_b J.C h (by omega)
  have hrow : isRow (if x = 0 then 75 else 76) := by
    by_cases q : x = 0
    · rw [if_pos q]; exact row_75
    · rw [if_neg q]; exact row_76
  generalize (if x = 0 then 75 else 76 : Nat) = c at hct hbt hrow
  have hcut : ∀ k, k ≤ yT u → fb_ct (zbt w c) k = fb_ct (yPF u x) k := fun k hk => fb_ct_cong (fun j hj => by rw [hbt j (by have := nW_ge (u := u) (k := j) (by omega); omega), decide_eq_true (by omega), Bool.true_and])
  unfold f_X_lives_b33
  refine ⟨?_, ?_⟩
  · by_cases q : a = (-1 : Int32)
    · rw [if_pos q, if_pos q, La_words' K h.k, zb_s, show f_Ro_size c (nI ((yT u + 63) / 64)) w = _ from Ro_size' K hrow w, zb_s, hct]
    · rw [if_neg q, if_neg q]
  · by_cases q : a = (-1 : Int32)
    · refine Or.inr ⟨fun k hk _ e => ?_, fun z => absurd q z⟩
      have := fb_ct_le (yPF u x) k
      rw [q] at e
      exact (n_m1' (by omega)).mp e
    · rw [if_neg q, La_words' K h.k, zb_s]
      show (∃ k, k < yT u ∧ yPF u x k = true ∧ a = nI (fb_ct (yPF u x) k) ∧ zb (f_Ro_pick c (nI (nW u)) a w) _ = _) ∨ (_ ∧ (_ → zb (f_Ro_pick c (nI (nW u)) a w) _ = _))
      by_cases c0 : a < 0
      · rw [Ro_pick_neg c0, zb_s, La_number_m1, zb_s]
        refine Or.inr ⟨fun k hk _ e => ?_, fun _ => rfl⟩
        have := fb_ct_le (yPF u x) k
        rw [e] at c0
        exact nI_pos (by omega) c0
      · obtain ⟨j, hj, rfl⟩ := nI_of c0
        rcases Ro_pick' K hrow w hj with ⟨k, k1, k2, k3, k4⟩ | ⟨k1, k2⟩
        · rw [hbt k k1, Bool.and_eq_true, decide_eq_true_eq] at k2
          rw [hcut k (by omega)] at k3
          rw [k4, zb_s, La_numberAt' K h.k k2.1, zb_s]
          exact Or.inl ⟨k, k2.1, k2.2, by rw [k3], rfl⟩
        · rw [k2, zb_s, La_number_m1, zb_s]
          rw [hct] at k1
          refine Or.inr ⟨fun k hk hpf e => ?_, fun _ => rfl⟩
          have a1 := fb_ct_le (yPF u x) k
          have a2 := fb_ct_lt hk hpf
          have := (n_eq hj (by omega)).mp e
          omega
theorem q_lives (J : zJ u) (x a : Int32) : zQ u (f_X_lives x a) (f_M_lives x a) := by
  have K := J.K
  have ht := K.T7
  by_cases gd : 0 < yD u
  · have hX : ∀ v, zE u v → f_X_lives x a v = f_X_lives_b33 a (if x = 0 then 75 else 76) v := by
      intro v hv
      unfold f_X_lives f_Co_possible f_Co_fitting
      rw [La_isThere' K hv.k, zb_s, decide_eq_true gd, if_neg bt0]
      by_cases q : x = 0
      · rw [if_pos q, zb_s, if_pos q]
      · rw [if_neg q, zb_s, if_neg q]
    have hM : ∀ v, zE u v → f_M_lives x a v = if (-1 : Int32) ≤ a then f_M_lives_b24 x a (0 : Int32) (0 : Int32) (zsI v 107 0 0) else some (-1, zsI v 107 0 0) := by
      intro v hv
      have h5 := K.D5
      have h21 : (zsI v 107 0 0).1 107 21 = nI (yD u) := (hv.m0.k.i rfl).trans K.C.2.1.2
      have hz : ¬ nI (yD u) = 0 := nI_ne0 gd (by omega)
      unfold f_M_lives
      rw [zl_s, h21, if_neg hz]
    by_cases q : ∃ k, k < yT u ∧ yPF u x k = true ∧ a = nI (fb_ct (yPF u x) k)
    · obtain ⟨k, hk, hpf, ha⟩ := q
      have hkl := fb_ct_le (yPF u x) k
      have un : ∀ j, j < yT u → yPF u x j = true → a = nI (fb_ct (yPF u x) j) → j = k := by
        intro j hj hpj e
        rw [ha] at e
        have hjl := fb_ct_le (yPF u x) j
        have e2 := (n_eq (by omega) (by omega)).mp e
        apply Classical.byContradiction
        intro z
        rcases Nat.lt_or_gt_of_ne z with z | z
        · have := fb_ct_lt z hpj; omega
        · have := fb_ct_lt z hpf; omega
      refine ⟨nI (yN u k), fun v hv => ?_, fun v hv => ?_⟩
      · rcases (X_livesL J hv x a).2 with ⟨j, hj, hpj, ej, er⟩ | ⟨z, -⟩
        · have := un j hj hpj ej
          subst this
          exact ⟨v, by rw [hX v hv, er], hv⟩
        · exact absurd ha (z k hk hpf)
      · obtain ⟨w', h', hh⟩ := M_livesL J hv.m0 x a
        rcases hh with ⟨j, hj, hpj, ej, er⟩ | ⟨z, -⟩
        · have := un j hj hpj ej
          subst this
          refine ⟨w', ?_, h'⟩
          rw [hM v hv, if_pos (by rw [ha, n_mem1 (by omega)]; trivial), er]
        · exact absurd ha (z k hk hpf)
    · by_cases q1 : a = (-1 : Int32)
      · subst q1
        refine ⟨nI (fb_ct (yPF u x) (yT u)), fun v hv => ?_, fun v hv => ?_⟩
        · refine ⟨v, ?_, hv⟩
          rw [hX v hv, (X_livesL J hv x (-1)).1, if_pos rfl]
        · obtain ⟨w', h', hh⟩ := M_livesL J hv.m0 x (-1)
          rcases hh with ⟨j, hj, hpj, ej, er⟩ | ⟨z, er⟩
          · exact absurd ⟨j, hj, hpj, ej⟩ q
          · refine ⟨w', ?_, h'⟩
            rw [hM v hv, if_pos (by decide), er, if_pos rfl]
      · refine ⟨-1, fun v hv => ?_, fun v hv => ?_⟩
        · rcases (X_livesL J hv x a).2 with ⟨j, hj, hpj, ej, er⟩ | ⟨-, er⟩
          · exact absurd ⟨j, hj, hpj, ej⟩ q
          · exact ⟨v, by rw [hX v hv, er q1], hv⟩
        · obtain ⟨w', h', hh⟩ := M_livesL J hv.m0 x a
          rcases hh with ⟨j, hj, hpj, ej, er⟩ | ⟨z, er⟩
          · exact absurd ⟨j, hj, hpj, ej⟩ q
          · rw [hM v hv]
            by_cases q2 : (-1 : Int32) ≤ a
            · exact ⟨w', by rw [if_pos q2, er, if_neg q1], h'⟩
            · exact ⟨_, by rw [if_neg q2], hv.m0⟩
  · have hd : yD u = 0 := by omega
    refine ⟨-1, fun v hv => ⟨v, ?_, hv⟩, fun v hv => ⟨_, ?_, hv.m0⟩⟩
    · unfold f_X_lives
      rw [La_isThere' K hv.k, zb_s, decide_eq_false gd, if_pos bf0]
    · have h21 : (zsI v 107 0 0).1 107 21 = nI (yD u) := (hv.m0.k.i rfl).trans K.C.2.1.2
      unfold f_M_lives
      rw [zl_s, h21, if_pos (by rw [hd]; rfl)]
def ywh (u : gW) (d : Nat) : Nat → Nat
  | 0 => 0
  | k + 1 => if yfi u k = true then ywh u d k ||| 2 ^ yd u k d else ywh u d k
theorem ywh_B (K : zK u) {d : Nat} (hd : d < yD u) : ∀ n, isB 10 (fun y => ∃ k, k < n ∧ yfi u k = true ∧ yd u k d = y) (ywh u d n)
  | 0 => ⟨by show 0 < 2 ^ 10; decide, fun i _ => ⟨fun h => (by rw [show ywh u d 0 = 0 from rfl, Nat.zero_testBit] at h; cases h), fun ⟨k, h, _⟩ => absurd h (Nat.not_lt_zero k)⟩⟩
  | n + 1 => by
    have ih := ywh_B K hd n
    have h9 := (K.d9 hd n).1
    unfold ywh
    by_cases hf : yfi u n = true
    · rw [if_pos hf]
      refine ⟨Nat.or_lt_two_pow ih.1 (Nat.pow_lt_pow_right (by decide) (by omega)), fun i hi => ?_⟩
      rw [Nat.testBit_or, Bool.or_eq_true, ih.2 i hi, Nat.testBit_two_pow, decide_eq_true_eq]
      constructor
      · intro z
        rcases z with ⟨k, z1, z2⟩ | z
        · exact ⟨k, by omega, z2⟩
        · exact ⟨n, by omega, hf, z⟩
      · intro ⟨k, z1, z2⟩
        by_cases q : k = n
        · subst q; exact Or.inr z2.2
        · exact Or.inl ⟨k, by omega, z2⟩
    · rw [if_neg hf]
      refine ih.cg (fun i _ => ⟨fun ⟨k, z1, z2⟩ => ⟨k, by omega, z2⟩, fun ⟨k, z1, z2⟩ => ⟨k, ?_, z2⟩⟩)
      by_cases q : k = n
      · subst q; exact absurd z2.1 hf
      · omega
theorem and2_z {x y : Int64} : (x &&& y = 0) ↔ ∀ i, i < 64 → ¬ (bL x i = true ∧ bL y i = true) := by
  rw [bL_z]
  constructor
  · intro h i hi q
    have := h i hi
    rw [bL_and, q.1, q.2] at this
    cases this
  · intro h i hi
    have := h i hi
    rw [bL_and]
    cases e1 : bL x i with
    | false => rfl
    | true => cases e2 : bL y i with
      | false => rfl
      | true => exact absurd ⟨e1, e2⟩ this
theorem fit_w (C : jCou u) {w : gW} (h : zE u w) {W b : Nat} (hW : W < 263) (hb : b < 64) : bL (w.2 76 W) b = (decide (64 * W + b < yT u) && yfi u (64 * W + b)) := by
  rw [← zbt_w hb]
  exact fit_b C h (by omega)
theorem Cs_isDone' (K : zK u) (C : jCou u) {w : gW} (h : zE u w) {d y : Nat} (hd : d < yD u) (hy : y < yY u ∨ y = 9) : ∃ b : Bool, f_Cs_isDone (nI d) (nI y) w = some (bI b, w) ∧ (b = true ↔ ∃ k, k < yT u ∧ yfi u k = true ∧ yd u k d = y) := by
  have hn := nW_le K
  have key := zfx_ind (fun _ _ _ _ => none) f_Cs_isDone_b2_s (fun m kk => ∀ W, W + m = nW u → (∀ k, k < 64 * W → ¬ (k < yT u ∧ yfi u k = true ∧ yd u k d = y)) → ∃ b : Bool, kk (nI d) (nI y) (nI W) w = some (bI b, w) ∧ (b = true ↔ ∃ k, k < yT u ∧ yfi u k = true ∧ yd u k d = y)) (fun m kk ih W hW hp => by
    unfold f_Cs_isDone_b2_s f_Co_fitting
    rw [La_words' K h.k, zb_s]
    show ∃ b : Bool, (if nI (nW u) ≤ nI W then _ else _) = _ ∧ _
    cases m with
    | zero =>
      rw [if_pos (by rw [n_le (by omega) (by omega)]; omega)]
      refine ⟨false, rfl, fun z => (by cases z), fun ⟨k, z⟩ => absurd z (hp k (by have := nW_ge z.1; rw [show W = nW u by omega]; exact this))⟩
    | succ m =>
      rw [if_neg (by rw [n_le (by omega) (by omega)]; omega), zb_s, Ro_word' row_76 (by omega), zb_s, La_dateWord' K h.k hd hy (by omega), zb_s]
      have hbit : ∀ b, b < 64 → ((bL (w.2 76 W) b = true ∧ bL (yDw u d y W) b = true) ↔ (64 * W + b < yT u ∧ yfi u (64 * W + b) = true ∧ yd u (64 * W + b) d = y)) := by
        intro b hb
        rw [fit_w C h (by omega) hb, Bool.and_eq_true, decide_eq_true_eq]
        constructor
        · intro z
          rw [yDw_b K hd hy hb z.1.1, decide_eq_true_eq] at z
          exact ⟨z.1.1, z.1.2, z.2⟩
        · intro z
          rw [yDw_b K hd hy hb z.1, decide_eq_true_eq]
          exact ⟨⟨z.1, z.2.1⟩, z.2.2⟩
      by_cases q : (w.2 76 W) &&& (yDw u d y W) = 0
      · rw [if_pos ((lc_eq _ _).mpr q), zl_s, n_1]
        exact ih m (by omega) (W + 1) (by omega) (bits_s hp (fun b hb z => and2_z.mp q b hb ((hbit b hb).mpr z)))
      · rw [if_neg (fun z => q ((lc_eq _ _).mp z))]
        refine ⟨true, rfl, fun _ => ?_, fun _ => rfl⟩
        apply Classical.byContradiction
        intro z
        exact q (and2_z.mpr (fun b hb z2 => z ⟨64 * W + b, (hbit b hb).mp z2⟩))) zFU (nW u) (zfu (by omega))
  exact key 0 (by omega) (fun k hk => absurd hk (by omega))
theorem q_when (J : zJ u) (a : Int32) : zQ u (f_X_when a) (f_M_when a) := by
  have K := J.K
  have h5 := K.D5
  have h6 := K.Y6
  have ht := K.T7
  cases g : gE u a with
  | false =>
    refine ⟨-1, fun v hv => ⟨v, ?_, hv⟩, fun v hv => ⟨_, ?_, hv.m0⟩⟩
    · unfold f_X_when
      rw [La_hasDeedB K hv.k, zb_s, g, if_pos bf0]
    · unfold f_M_when
      rw [zl_s, M_isDeedB K hv.m0.k, zb_s, g, if_pos bf0]
  | true =>
    obtain ⟨d, rfl, hd⟩ := gE_t g
    refine ⟨nI (ywh u d (yT u)), fun v hv => ⟨v, ?_, hv⟩, fun v hv => ?_⟩
    · unfold f_X_when f_Cs_datesOf
      rw [La_hasDeedB K hv.k, zb_s, g, if_neg bt0]
      have key := zfx_ind (fun _ _ _ _ => none) f_Cs_datesOf_b4_s (fun m kk => ∀ y r, y + m = 10 → isB y (fun y => ∃ k, k < yT u ∧ yfi u k = true ∧ yd u k d = y) r → kk (nI d) (nI r) (nI y) v = some (nI (ywh u d (yT u)), v)) (fun m kk ih y r hy hr => by
        unfold f_Cs_datesOf_b4_s
        cases m with
        | zero =>
          rw [if_pos (by rw [show (9 : Int32) = nI 9 from rfl, n_lt (by omega) (by omega)]; omega)]
          have e2 := ywh_B K hd (yT u)
          rw [show (10 : Nat) = y by omega] at e2
          rw [isB.un hr e2]
        | succ m =>
          rw [if_neg (by rw [show (9 : Int32) = nI 9 from rfl, n_lt (by omega) (by omega)]; omega)]
          have st : ∀ (b : Bool) (x : Nat), (b = true ↔ ∃ k, k < yT u ∧ yfi u k = true ∧ yd u k d = y) → r ||| x = r ||| (if b = true then 2 ^ y else 0) → f_Cs_datesOf_b39 kk (nI d) (nI y) (nI r) (nI x) v = some (nI (ywh u d (yT u)), v) := by
            intro b x hb hx
            unfold f_Cs_datesOf_b39
            rw [n_or, hx, zl_s, zl_s, n_1]
            exact ih m (by omega) (y + 1) _ (by omega) (hr.s b hb)
          rw [La_hasDate (nI d) (nI y) v (K.ht hv.k) h5 ((hv.k.i rfl).trans K.C.2.2.1.1) (by omega), zb_s, n_zbl hd (by omega), if_neg z10]
          unfold f_Cs_datesOf_b38
          by_cases q : y < yY u ∨ y = 9
          · have e1 : ¬ (if nI y = (9 : Int32) then (1 : Int32) else zbl (nI y) (yY u)) = 0 := by
              by_cases q9 : y = 9
              · rw [if_pos (by rw [q9]; rfl)]; exact z10
              · rw [if_neg (by rw [show (9 : Int32) = nI 9 from rfl, n_eq (by omega) (by omega)]; exact q9), n_zbl (by omega) (by omega)]; exact z10
            rw [if_neg e1]
            obtain ⟨b, b1, b2⟩ := Cs_isDone' K J.C hv hd q
            rw [b1, zb_s]
            cases b with
            | false => rw [if_pos bf0]; exact st false 0 b2 rfl
            | true => rw [if_neg bt0, n_1sh (by omega)]; exact st true (2 ^ y) b2 rfl
          · have e1 : (if nI y = (9 : Int32) then (1 : Int32) else zbl (nI y) (yY u)) = 0 := by
              rw [if_neg (by rw [show (9 : Int32) = nI 9 from rfl, n_eq (by omega) (by omega)]; omega), n_zbl0 (by omega) (by omega)]
            rw [if_pos e1]
            exact st false 0 ⟨fun z => (by cases z), fun ⟨k, z1, z2, z3⟩ => by have := (K.d9 hd k).2; omega⟩ rfl) zFU 10 (zfu (by omega))
      rw [show f_Cs_datesOf_b4 (nI d) (0 : Int32) (0 : Int32) v = _ from key 0 0 (by omega) (isB.z _), zb_s]
    · have key := zfx_ind (fun _ _ _ _ => none) f_M_when_b19_s (fun m kk => ∀ k v, k + m = yT u → zE u v → ∃ v' : gW, kk (nI d) (nI (ywh u d k)) (nI k) v = some (nI (ywh u d (yT u)), v') ∧ zE u v') (fun m kk ih k v hk hv => by
        unfold f_M_when_b19_s
        rw [hv.k.i rfl, K.L.2.2.2.2.1]
        cases m with
        | zero =>
          rw [if_pos (by rw [n_le (by omega) (by omega)]; omega), show k = yT u by omega]
          exact ⟨v, rfl, hv⟩
        | succ m =>
          rw [if_neg (by rw [n_le (by omega) (by omega)]; omega), if_pos (z_inbn (by omega) (by decide))]
          obtain ⟨w3, l3, m3, h3, F3⟩ := M_lf K J.R hv (k := k) (by omega)
          rw [F3]
          have go : ∀ r, r = ywh u d (k + 1) → ∃ v' : gW, f_M_when_b55 kk (nI d) (nI r) (nI k) w3 = some (nI (ywh u d (yT u)), v') ∧ zE u v' := by
            intro r hr
            subst hr
            unfold f_M_when_b55
            rw [zl_s, n_1]
            exact ih m (by omega) (k + 1) w3 (by omega) h3
          cases hf : yfi u k with
          | false =>
            rw [if_pos bf0]
            exact go _ (by show _ = if yfi u k = true then _ else _; rw [hf]; rfl)
          | true =>
            have h9 := (K.d9 hd k).1
            rw [if_neg bt0, if_pos (z_inbn (by omega) (by decide)), z_ix (by omega), l3 d hd, n_1sh (by omega), n_or, zl_s]
            exact go _ (by show _ = if yfi u k = true then _ else _; rw [hf]; rfl)) zFU (yT u) (zfu (by omega))
      obtain ⟨v1, e1, e2⟩ := key 0 _ (by omega) hv.m0
      refine ⟨v1, ?_, e2⟩
      unfold f_M_when
      rw [zl_s, M_isDeedB K hv.m0.k, zb_s, g, if_neg bt0]
      exact e1
end
