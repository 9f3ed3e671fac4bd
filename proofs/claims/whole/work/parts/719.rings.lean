/-! PURE: rings -/
def rgF (P : Nat → Bool) (a : Int32) : Nat → Nat → Nat → Int32
  | 0, _, c => if a = -1 then nI c else -1
  | m + 1, s, c => if P s = true then (if nI c = a then nI s else rgF P a m (s + 1) (c + 1)) else rgF P a m (s + 1) c
theorem rgF_s (P : Nat → Bool) (a : Int32) (m s c : Nat) : rgF P a (m + 1) s c = if P s = true then (if nI c = a then nI s else rgF P a m (s + 1) (c + 1)) else rgF P a m (s + 1) c := rfl
theorem rgF_neg (P : Nat → Bool) {a : Int32} (ha : a < -1) : ∀ (m s c : Nat), c + m < 2 ^ 31 → rgF P a m s c = -1
  | 0, s, c, _ => if_neg (fun z => by rw [z] at ha; exact absurd ha (by decide))
  | m + 1, s, c, h => by
    rw [rgF_s]
    by_cases q : P s = true
    · have : ¬ nI c = a := fun z => by
        rw [← z, i_lt, i_nI (by omega), show (-1 : Int32).toInt = -1 from rfl] at ha
        omega
      rw [if_pos q, if_neg this]
      exact rgF_neg P ha m (s + 1) (c + 1) (by omega)
    · rw [if_neg q]
      exact rgF_neg P ha m (s + 1) c (by omega)
section
variable {u : gW}
/-- a sworn one that names none -/
def yFx (u : gW) (i : Nat) : Bool := decide (nmO (ycs u (ix (u.1 120 i))) = 0)
def yFX (u : gW) : Nat := bB (yFx u) (yS u)
theorem yFx_h {i k th th' : Nat} (h : yFx u i = true) : yHs u i th k = yHs u i th' k := by
  unfold yHs
  refine yH_nm (fun a ha => ?_)
  rw [of_decide_eq_true h, Nat.zero_testBit] at ha
  cases ha
theorem nmO_lt (K : zK u) {o : Nat} (ho : o < yO u) : nmO (ycs u o) < 1024 := by
  have hv := (K.cv ho).2.2.1
  apply Nat.lt_of_not_le
  intro z
  have hz : 2 ^ 10 ≤ nmO (ycs u o) := z
  obtain ⟨i, hi, hb⟩ := Nat.exists_ge_and_testBit_of_ge_two_pow hz
  obtain ⟨c, c1, c2, c3⟩ := (nmO_b _ _).mp hb
  have := (hv c c1).2.1 c2
  omega
theorem Le_without (K : zK u) (R : jRec u) {w : gW} (h : zE u w) : f_Le_withoutNames w = some (nI (yFX u), w) := by
  have h10 := K.S10
  have key := zfx_ind (fun _ _ _ => none) f_Le_withoutNames_b4_s (fun m kk => ∀ i, i + m = yS u → kk (nI (bB (yFx u) i)) (nI i) w = some (nI (yFX u), w)) (fun m kk ih i hi => by
    unfold f_Le_withoutNames_b4_s f_An_swornCount
    rw [zb_s, h.k.i rfl, K.C.2.2.2.2.1.1]
    cases m with
    | zero =>
      rw [if_pos (by rw [n_le (by omega) (by omega)]; omega)]
      unfold yFX
      rw [show yS u = i by omega]
    | succ m =>
      have hO := (R.1 i (by omega)).2.2.1.2
      have hl := nmO_lt K hO
      rw [if_neg (by rw [n_le (by omega) (by omega)]; omega), An_oathOf' K R h.k (by omega), zb_s, Oa_named' K h.k hO, zb_s]
      have st : ∀ (x : Nat), x = (if yFx u i = true then 2 ^ i else 0) → f_Le_withoutNames_b41 kk (nI i) (nI (bB (yFx u) i)) (nI x) w = some (nI (yFX u), w) := by
        intro x hx
        unfold f_Le_withoutNames_b41
        rw [zl_s, zl_s, n_1, n_or, hx]
        exact ih m (by omega) (i + 1) (by omega)
      by_cases q : nmO (ycs u (ix (u.1 120 i))) = 0
      · rw [if_pos (by rw [q]; rfl), n_1sh (by omega)]
        have e : yFx u i = true := decide_eq_true q
        exact st _ (by rw [if_pos e])
      · rw [if_neg (nI_ne0 (by omega) (by omega))]
        have e : yFx u i = false := decide_eq_false q
        exact st 0 (by rw [if_neg (by rw [e]; decide)])) zFU (yS u) (zfu (by omega))
  exact key 0 (by omega)
/-- just those in the set hold -/
def yRg (u : gW) (k S : Nat) : Bool := decide (∀ i, i < yS u → yHs u i S k = S.testBit i)
theorem b_one : ∀ j, j < 32 → bt (1 : Int32) j = decide (j = 0) := by decide +kernel
theorem n_low (x : Int32) : x &&& (1 : Int32) = bI (bt x 0) := by
  apply b_ext
  intro j hj
  rw [b_and, b_one j hj]
  have hb : bt (bI (bt x 0)) j = (bt x 0 && decide (j = 0)) := by
    cases bt x 0 with
    | false => exact BitVec.getLsbD_zero
    | true => rw [Bool.true_and]; exact b_one j hj
  rw [hb]
  by_cases z : j = 0
  · subst z; rfl
  · rw [decide_eq_false z, Bool.and_false, Bool.and_false]
theorem n_bitv (v : Int32) {i : Nat} (hi : i < 32) : (v >>> (nI i &&& 31)) &&& (1 : Int32) = bI (bt v i) := by
  rw [n_low]
  congr 1
  show (v.toBitVec.sshiftRight ((nI i &&& 31).toBitVec.smod 32).toNat).getLsbD 0 = v.toBitVec.getLsbD i
  rw [n_s31 i hi, BitVec.getLsbD_sshiftRight]
  simp [hi]
theorem b_nx (a : Nat) {i : Nat} (hi : i < 32) : bt (nI a ^^^ (-1 : Int32)) i = !a.testBit i := by
  rw [b_xor, b_m1 i hi, b_nI _ hi, Bool.xor_true]
theorem bI_inj {a b : Bool} (h : bI a = bI b) : a = b := by
  cases a <;> cases b
  · rfl
  · exact absurd h (by decide)
  · exact absurd h (by decide)
  · rfl
theorem X_ringsL (J : zJ u) {w : gW} (h : zE u w) {k : Nat} (hk : k < yT u) (a : Int32) : ∃ v : gW, f_Le_ringsAt (nI k) a w = some (rgF (yRg u k) a (2 ^ yS u) 0 0, v) ∧ zE u v := by
  have K := J.K
  have h10 := K.S10
  have hT := K.T7
  have hp := yS_2 K
  have hp0 := Nat.two_pow_pos (yS u)
  have FX := bB_B (yFx u) (yS u)
  have FXl : yFX u < 1024 := Nat.lt_of_lt_of_le FX.1 hp
  unfold f_Le_ringsAt
  rw [Le_without K J.R h, zb_s]
  have hH := bB_B (fun i => yFx u i && yHs u i 0 k) (yS u)
  generalize bB (fun i => yFx u i && yHs u i 0 k) (yS u) = H at hH
  obtain ⟨v1, e1, f1⟩ := Le_holdingAt' K J.R J.C h (k := k) (th := 0) (a := nI (yFX u)) (D := fun i => (yFX u).testBit i) hk hp0 (fun i hi => n_bit (by omega) (by omega)) (hH.cg (fun i hi => by
    show (yFx u i && yHs u i 0 k) = true ↔ (yFX u).testBit i = true ∧ _
    have := FX.2 i hi
    unfold yFX
    rw [this, Bool.and_eq_true]))
  rw [show f_Le_holdingAt (nI k) (nI (yFX u)) (0 : Int32) w = _ from e1, zb_s]
  have Hl : H < 1024 := Nat.lt_of_lt_of_le hH.1 hp
  have key := zfx_ind (fun _ _ _ _ _ _ _ => none) f_Le_ringsAt_b20_s (fun m kk => ∀ S c v, S + m = 2 ^ yS u → c ≤ S → zE u v → ∃ v' : gW, kk (nI k) a (nI (yFX u)) (nI H) (nI c) (nI S) v = some (rgF (yRg u k) a m S c, v') ∧ zE u v') (fun m kk ih S c v hS hc hv => by
    unfold f_Le_ringsAt_b20_s
    rw [An_all K hv.k, zb_s]
    have hal : yal u = 2 ^ yS u - 1 := rfl
    cases m with
    | zero =>
      rw [if_pos (by rw [n_lt (by omega) (by omega)]; omega)]
      unfold rgF
      by_cases q : a = -1
      · rw [if_pos q, if_pos q]; exact ⟨v, rfl, hv⟩
      · rw [if_neg q, if_neg q]; exact ⟨v, rfl, hv⟩
    | succ m =>
      rw [if_neg (by rw [n_lt (by omega) (by omega)]; omega), n_and]
      have no : yRg u k S = false → ∀ v2, zE u v2 → ∃ v' : gW, f_Le_ringsAt_b64 kk (nI k) a (nI (yFX u)) (nI H) (nI c) (nI S) v2 = some (rgF (yRg u k) a (m + 1) S c, v') ∧ zE u v' := by
        intro e v2 hv2
        unfold f_Le_ringsAt_b64 f_Le_ringsAt_b65
        rw [if_pos z00]
        unfold f_Le_ringsAt_b81
        rw [if_pos z00]
        unfold f_Le_ringsAt_b93
        rw [zl_s, zl_s, n_1, rgF_s, if_neg (by rw [e]; decide), show nI c + (0 : Int32) = nI c from nI_add c 0]
        exact ih m (by omega) (S + 1) c v2 (by omega) (by omega) hv2
      have yes : yRg u k S = true → ∀ v2, zE u v2 → ∃ v' : gW, f_Le_ringsAt_b65 kk (nI k) a (nI (yFX u)) (nI H) (nI c) (nI S) (1 : Int32) v2 = some (rgF (yRg u k) a (m + 1) S c, v') ∧ zE u v' := by
        intro e v2 hv2
        unfold f_Le_ringsAt_b65
        rw [if_neg z10, rgF_s, if_pos e]
        by_cases q : nI c = a
        · rw [if_pos q, if_pos q]; exact ⟨v2, rfl, hv2⟩
        · rw [if_neg q, if_neg q]
          unfold f_Le_ringsAt_b81
          rw [if_neg z10]
          unfold f_Le_ringsAt_b93
          rw [zl_s, zl_s, n_1, n_1]
          exact ih m (by omega) (S + 1) (c + 1) v2 (by omega) (by omega) hv2
      have hSS : S < 2 ^ yS u := by omega
      have andl : S &&& yFX u < 1024 := and_1024 FXl
      by_cases q1 : nI (S &&& yFX u) = nI H
      · rw [if_pos q1]
        have q1' := (n_eq (by omega) (by omega)).mp q1
        have hG := bB_B (fun i => !yFx u i && yHs u i S k) (yS u)
        generalize bB (fun i => !yFx u i && yHs u i S k) (yS u) = G at hG
        obtain ⟨v2, e2, f2⟩ := Le_holdingAt' K J.R J.C hv (k := k) (th := S) (a := nI (yFX u) ^^^ (-1 : Int32)) (D := fun i => bt (nI (yFX u) ^^^ (-1 : Int32)) i) hk hSS (fun i hi => n_bitv _ (by omega)) (hG.cg (fun i hi => by
          show (!yFx u i && yHs u i S k) = true ↔ bt (nI (yFX u) ^^^ (-1 : Int32)) i = true ∧ _
          have := FX.2 i hi
          rw [b_nx _ (by omega), Bool.and_eq_true]
          unfold yFX
          cases e : yFx u i with
          | false => cases e2 : (bB (yFx u) (yS u)).testBit i with
            | false => rfl
            | true => rw [this.mp e2] at e; cases e
          | true => rw [this.mpr e]))
        rw [e2, zb_s]
        have an : nI S &&& (nI (yFX u) ^^^ (-1 : Int32)) = nI (bB (fun i => S.testBit i && !(yFX u).testBit i) (yS u)) := n_anb (fun i h32 => by
          have b := bB_B (fun i => S.testBit i && !(yFX u).testBit i) (yS u)
          by_cases z : i < yS u
          · rw [Bool.eq_iff_iff, b.2 i z]
          · rw [b.hi (by omega)]
            have : S.testBit i = false := by
              cases e : S.testBit i with
              | false => rfl
              | true => exact absurd (lt2_b hSS e) z
            rw [this, Bool.false_and])
        have b := bB_B (fun i => S.testBit i && !(yFX u).testBit i) (yS u)
        rw [an]
        generalize bB (fun i => S.testBit i && !(yFX u).testBit i) (yS u) = Q at b
        -- what both tests come to
        have fxb : ∀ i, i < yS u → (yFX u).testBit i = yFx u i := fun i hi => by rw [Bool.eq_iff_iff]; exact FX.2 i hi
        have t1 : ∀ i, i < yS u → (S.testBit i && yFx u i) = (yFx u i && yHs u i 0 k) := by
          intro i hi
          have x1 : (S &&& yFX u).testBit i = H.testBit i := by rw [q1']
          rw [Nat.testBit_and, fxb i hi] at x1
          rw [x1, Bool.eq_iff_iff]
          exact hH.2 i hi
        by_cases q2 : nI G = nI Q
        · rw [if_pos q2]
          have q2' := (n_eq (by have := hG.1; omega) (by have := b.1; omega)).mp q2
          refine yes (decide_eq_true (fun i hi => ?_)) v2 (zFl.e hv f2)
          have y1 := t1 i hi
          have y2 : G.testBit i = true ↔ (!yFx u i && yHs u i S k) = true := hG.2 i hi
          have y3 : Q.testBit i = true ↔ (S.testBit i && !(yFX u).testBit i) = true := b.2 i hi
          rw [q2', y3, fxb i hi] at y2
          cases e : yFx u i with
          | true =>
            rw [e, Bool.and_true, Bool.true_and] at y1
            rw [y1]
            exact yFx_h e
          | false =>
            rw [e, Bool.not_false, Bool.and_true, Bool.true_and] at y2
            rw [Bool.eq_iff_iff]
            exact y2.symm
        · rw [if_neg q2]
          refine no ?_ v2 (zFl.e hv f2)
          cases e : yRg u k S with
          | false => rfl
          | true =>
            have e' := of_decide_eq_true e
            refine absurd (congrArg nI (isB.un hG (b.cg (fun i hi => ?_)))) q2
            rw [fxb i hi, e' i hi, Bool.and_eq_true, Bool.and_eq_true]
            exact And.comm
      · rw [if_neg q1]
        refine no ?_ v hv
        cases e : yRg u k S with
        | false => rfl
        | true =>
          have e' := of_decide_eq_true e
          refine absurd ?_ q1
          congr 1
          apply Nat.eq_of_testBit_eq
          intro i
          rw [Nat.testBit_and]
          by_cases z : i < yS u
          · have hh : H.testBit i = true ↔ (yFx u i && yHs u i 0 k) = true := hH.2 i z
            rw [Bool.eq_iff_iff, hh, Bool.and_eq_true, Bool.and_eq_true]
            have x := FX.2 i z
            show S.testBit i = true ∧ (bB (yFx u) (yS u)).testBit i = true ↔ _
            rw [x, ← e' i z]
            constructor
            · intro y; exact ⟨y.2, by rw [yFx_h (th' := S) y.2]; exact y.1⟩
            · intro y; exact ⟨by rw [yFx_h (th' := 0) y.1]; exact y.2, y.1⟩
          · rw [hH.hi (by omega)]
            have : S.testBit i = false := by
              cases e : S.testBit i with
              | false => rfl
              | true => exact absurd (lt2_b hSS e) z
            rw [this, Bool.false_and]) zFU (2 ^ yS u) (zfu (by omega))
  exact key 0 0 v1 (by omega) (Nat.le_refl _) (zFl.e h f1)
theorem M_ringsL (J : zJ u) {w : gW} (h : zE u w) {k : Nat} (hl : lvL u k w) (a : Int32) : ∃ v : gW, f_M_rings_b25 a (0 : Int32) (0 : Int32) w = some (rgF (yRg u k) a (2 ^ yS u) 0 0, v) ∧ zE u v := by
  have K := J.K
  have h10 := K.S10
  have hp := yS_2 K
  have hp0 := Nat.two_pow_pos (yS u)
  have key := zfx_ind (fun _ _ _ _ => none) f_M_rings_b25_s (fun m kk => ∀ S c v, S + m = 2 ^ yS u → c ≤ S → zE u v → lvL u k v → ∃ v' : gW, kk a (nI c) (nI S) v = some (rgF (yRg u k) a m S c, v') ∧ zE u v') (fun m kk ih S c v hS hc hv hl => by
    unfold f_M_rings_b25_s
    rw [M_all K hv.k, zb_s]
    have hal : yal u = 2 ^ yS u - 1 := rfl
    cases m with
    | zero =>
      rw [if_pos (by rw [n_lt (by omega) (by omega)]; omega)]
      unfold rgF
      by_cases q : a = -1
      · rw [if_pos q, if_pos q]; exact ⟨v, rfl, hv⟩
      · rw [if_neg q, if_neg q]; exact ⟨v, rfl, hv⟩
    | succ m =>
      rw [if_neg (by rw [n_lt (by omega) (by omega)]; omega)]
      have done : ∀ (v : gW) (bo : Bool), zE u v → lvL u k v → bo = yRg u k S → ∃ v' : gW, f_M_rings_b85 kk a (nI c) (nI S) (bI bo) v = some (rgF (yRg u k) a (m + 1) S c, v') ∧ zE u v' := by
        intro v bo hv hl hbo
        unfold f_M_rings_b85 f_M_rings_b104
        rw [rgF_s, ← hbo]
        cases bo with
        | false =>
          rw [if_pos bf0, zl_s, n_1, if_neg (by decide)]
          exact ih m (by omega) (S + 1) c v (by omega) (by omega) hv hl
        | true =>
          rw [if_neg bt0, if_pos rfl]
          by_cases q : nI c = a
          · rw [if_pos q, if_pos q]; exact ⟨v, rfl, hv⟩
          · rw [if_neg q, if_neg q, zl_s, zl_s, n_1, n_1]
            exact ih m (by omega) (S + 1) (c + 1) v (by omega) (by omega) hv hl
      have inner := zfx_ind (fun _ _ _ _ _ _ => none) (f_M_rings_b40_s kk) (fun m2 k2 => ∀ i v (bo : Bool), i + m2 = yS u → zE u v → lvL u k v → (bo = true ↔ ∀ j, j < i → yHs u j S k = S.testBit j) → ∃ v' : gW, k2 a (nI c) (nI S) (bI bo) (nI i) v = some (rgF (yRg u k) a (m + 1) S c, v') ∧ zE u v') (fun m2 k2 ih2 i v bo hi hv hl hbo => by
        unfold f_M_rings_b40_s
        rw [hv.k.i rfl, K.C.2.2.2.2.1.2]
        cases m2 with
        | zero =>
          rw [if_pos (by rw [n_le (by omega) (by omega)]; omega)]
          refine done v bo hv hl ?_
          rw [Bool.eq_iff_iff, hbo]
          unfold yRg
          rw [decide_eq_true_eq, show yS u = i by omega]
        | succ m2 =>
          rw [if_neg (by rw [n_le (by omega) (by omega)]; omega)]
          cases bo with
          | false =>
            rw [if_pos bf0]
            refine done v false hv hl ?_
            cases e : yRg u k S with
            | false => rfl
            | true =>
              have e' := of_decide_eq_true e
              have := hbo.mpr (fun j hj => e' j (by omega))
              cases this
          | true =>
            rw [if_neg bt0]
            obtain ⟨v', f1, f2⟩ := M_holds K J.R hv.k hl (i := i) (th := S) (by omega) (by omega)
            rw [f1, zb_s, M_hasB S i (by omega) (by omega), zb_s]
            have st : ∀ (b : Bool), (b = true ↔ yHs u i S k = S.testBit i) → ∃ v'' : gW, f_M_rings_b77 kk k2 a (nI c) (nI S) (nI i) (bI b) v' = some (rgF (yRg u k) a (m + 1) S c, v'') ∧ zE u v'' := by
              intro b hb
              unfold f_M_rings_b77
              rw [zl_s, n_1]
              refine ih2 m2 (by omega) (i + 1) v' b (by omega) (f2.e hv) (hl.m f2) ?_
              rw [hb]
              constructor
              · intro z j hj
                by_cases e : j = i
                · subst e; exact z
                · exact hbo.mp rfl j (by omega)
              · intro z
                exact z i (by omega)
            by_cases q : bI (yHs u i S k) = bI (S.testBit i)
            · rw [if_pos q]
              exact st true ⟨fun _ => bI_inj q, fun _ => rfl⟩
            · rw [if_neg q]
              exact st false ⟨fun z => (by cases z), fun z => absurd (congrArg bI z) q⟩) zFU (yS u) (zfu (by omega))
      exact inner 0 v true (by omega) hv hl ⟨fun _ j hj => absurd hj (Nat.not_lt_zero j), fun _ => rfl⟩) zFU (2 ^ yS u) (zfu (by omega))
  exact key 0 0 w (by omega) (Nat.le_refl _) h hl
theorem q_rings (J : zJ u) (a b : Int32) : zQ u (f_X_rings a b) (f_M_rings a b) := by
  have K := J.K
  have hp := yS_2 K
  have hT := K.T7
  rcases La_placeOf' K (zE.rf u).k a with ⟨k, hk, rfl, -⟩ | ⟨hno, -⟩
  · refine ⟨rgF (yRg u k) b (2 ^ yS u) 0 0, fun v hv => ?_, fun v hv => ?_⟩
    · unfold f_X_rings
      rcases La_placeOf' K hv.k (nI (yN u k)) with ⟨j, hj, ej, e1⟩ | ⟨hno, -⟩
      · have ekj : k = j := yN_inj K hk hj ((n_eq (by have := yN_lt K k; omega) (by have := yN_lt K j; omega)).mp ej)
        subst ekj
        rw [e1, zb_s, if_neg (show ¬ nI k = (-1 : Int32) by rw [n_m1 (by omega)]; exact id)]
        obtain ⟨v1, e2, g1⟩ := X_ringsL J hv hk b
        exact ⟨v1, by rw [e2, zb_s], g1⟩
      · exact absurd rfl (hno k hk)
    · unfold f_M_rings
      rw [zl_s]
      by_cases q : b < -1
      · rw [if_pos q, rgF_neg _ q _ _ _ (by omega)]
        exact ⟨_, rfl, hv.m0⟩
      · rw [if_neg q]
        rcases M_isLife' K hv.m0 (nI (yN u k)) with ⟨j, w', hj, ej, e1, l1, g1⟩ | ⟨hno, -⟩
        · have ekj : k = j := yN_inj K hk hj ((n_eq (by have := yN_lt K k; omega) (by have := yN_lt K j; omega)).mp ej)
          subst ekj
          rw [e1, zb_s, if_neg z10]
          exact M_ringsL J g1 l1 b
        · exact absurd rfl (hno k hk)
  · refine ⟨-1, fun v hv => ?_, fun v hv => ?_⟩
    · unfold f_X_rings
      rcases La_placeOf' K hv.k a with ⟨j, hj, ej, -⟩ | ⟨-, e1⟩
      · exact absurd ej (hno j hj)
      · rw [e1, zb_s, if_pos rfl]
        exact ⟨v, rfl, hv⟩
    · unfold f_M_rings
      rw [zl_s]
      by_cases q : b < -1
      · rw [if_pos q]
        exact ⟨_, rfl, hv.m0⟩
      · rw [if_neg q]
        rcases M_isLife' K hv.m0 a with ⟨j, w', hj, ej, -⟩ | ⟨-, e1⟩
        · exact absurd ej (hno j hj)
        · rw [e1, zb_s, if_pos z00]
          exact ⟨_, rfl, hv.m0⟩
end
