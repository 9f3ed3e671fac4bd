/-! PURE: the model's layPlain and canHold -/
section
variable {u : gW}
theorem M_layPlain' (J : zJ u) {w : gW} (h : zE u w) {A : Nat} (hA : isB (yS u) (yAk u) A) : ∃ w' : gW, f_M_layPlain w = some ((), w') ∧ zE u w' ∧ LQ u A (yT u) w' := by
  have K := J.K
  have h10 := K.S10
  unfold f_M_layPlain
  rw [zl_s]
  have key := zfx_ind (fun _ _ => none) f_M_layPlain_b7_s (fun m kk => ∀ i v r, i + m = yS u → zE u v → v.1 107 39 = nI r → isB i (yAk u) r → ∃ w' : gW, kk (nI i) v = some ((), w') ∧ zE u w' ∧ LQ u A (yT u) w') (fun m kk ih i v r hi hv hr hB => by
    unfold f_M_layPlain_b7_s
    rw [hv.k.i rfl, K.C.2.2.2.2.1.2]
    cases m with
    | zero =>
      rw [if_pos (by rw [n_le (by omega) (by omega)]; omega)]
      have e : yS u = i := by omega
      rw [← e] at hB
      exact M_lp2 J hv hA (by rw [hr, hB.un hA])
    | succ m =>
      rw [if_neg (by rw [n_le (by omega) (by omega)]; omega)]
      obtain ⟨o1, o2⟩ := (J.R.1 i (by omega)).2.2.1
      have h8 := K.O8
      obtain ⟨n, f, n1, n2, n3, n4⟩ := K.hs o2
      have ii : inb (nI i) 10 := z_inbn (by omega) (by decide)
      have ez : ix (nI i) = i := z_ix (by omega)
      have inner := zfx_ind (fun _ _ _ => none) (f_M_layPlain_b17_s kk) (fun m2 k2 => ∀ j v (bo : Bool), j + m2 = n → zE u v → v.1 107 39 = nI (r ||| (if bo = true then 2 ^ i else 0)) → (bo = true ↔ ∃ j', j' < j ∧ f j' = 35) → ∃ w' : gW, k2 (nI i) (nI j) v = some ((), w') ∧ zE u w' ∧ LQ u A (yT u) w') (fun m2 k2 ih2 j v bo hj hv hr2 hbo => by
        unfold f_M_layPlain_b17_s
        rw [if_pos ii, ez, hv.k.i (a := 120) rfl, o1, if_pos (z_inbn (by omega) (by decide)), z_ix (show ix (u.1 120 i) < 2 ^ 31 by omega), hv.k.i (a := 110) rfl, n2]
        cases m2 with
        | zero =>
          rw [if_pos (by rw [n_le (by omega) (by omega)]; omega), zl_s, n_1]
          refine ih m (by omega) (i + 1) v _ (by omega) hv hr2 (hB.s bo ?_)
          rw [hbo]
          show _ ↔ hsh _ = true
          rw [← n4, show n = j by omega]
        | succ m2 =>
          have e120 : (120 : Int32) * nI (ix (u.1 120 i)) + nI j = nI (120 * ix (u.1 120 i) + j) := by rw [show (120 : Int32) = nI 120 from rfl, pk_mul, nI_add]
          rw [if_neg (by rw [n_le (by omega) (by omega)]; omega), if_pos ii, e120, if_pos (z_inbn (by omega) (by decide)), z_ix (show 120 * ix (u.1 120 i) + j < 2 ^ 31 by omega), hv.k.i (a := 109) rfl, (n3 j (by omega)).2]
          have go : ∀ (c : Bool), (c = true ↔ f j = 35) → ∃ w' : gW, f_M_layPlain_b65 kk k2 (nI i) (nI j) (v.1 107 39) (nI (if c = true then 2 ^ i else 0)) v = some ((), w') ∧ zE u w' ∧ LQ u A (yT u) w' := by
            intro c hc
            unfold f_M_layPlain_b65
            rw [zl_s, zl_s, n_1, hr2, n_or]
            refine ih2 m2 (by omega) (j + 1) _ (bo || c) (by omega) (hv.sI _ rfl) ?_ ?_
            · rw [zsI_g, if_pos ⟨rfl, rfl⟩]
              congr 1
              cases bo <;> cases c <;> simp [Nat.or_assoc]
            · rw [Bool.or_eq_true, hbo, hc]
              constructor
              · intro z
                rcases z with ⟨a, a1, a2⟩ | z
                · exact ⟨a, by omega, a2⟩
                · exact ⟨j, by omega, z⟩
              · intro ⟨a, a1, a2⟩
                by_cases q : a = j
                · subst q; exact Or.inr a2
                · exact Or.inl ⟨a, by omega, a2⟩
          by_cases q : f j = 35
          · rw [if_pos ((mb_35 _ (n3 j (by omega)).1).mpr q), n_1sh (by omega)]
            exact go true ⟨fun _ => q, fun _ => rfl⟩
          · rw [if_neg (fun z => q ((mb_35 _ (n3 j (by omega)).1).mp z))]
            exact go false ⟨fun z => (by cases z), fun z => absurd z q⟩) zFU n (zfu (by omega))
      exact inner 0 v false (by omega) hv (by rw [hr, if_neg (by decide), Nat.or_zero]) ⟨fun z => (by cases z), fun ⟨j, j1, _⟩ => absurd j1 (Nat.not_lt_zero j)⟩) zFU (yS u) (zfu (by omega))
  exact key 0 _ 0 (by omega) (h.sI _ rfl) (by rw [zsI_g, if_pos ⟨rfl, rfl⟩]; rfl) (isB.z _)
/-- some possible life has all of a set hold, if just some are there -/
def yCan (u : gW) (S th : Nat) : Prop := ∃ k, k < yT u ∧ ypo u k = true ∧ ∀ i, i < yS u → S.testBit i = true → yHs u i th k = true
noncomputable def yCb (u : gW) (S th : Nat) : Bool := @decide (yCan u S th) (Classical.propDecidable _)
theorem yCb_i {S th : Nat} : yCb u S th = true ↔ yCan u S th := by
  unfold yCb
  exact @decide_eq_true_iff _ (Classical.propDecidable _)
theorem n_z0 {a : Nat} (h : a < 2 ^ 31) : (nI a = 0) ↔ a = 0 := n_eq (b := 0) h (by decide)
theorem M_canHold' (J : zJ u) {w : gW} (h : zE u w) {A : Nat} (hA : isB (yS u) (yAk u) A) (hL : LQ u A (yT u) w) {S th : Nat} (hS : S < 2 ^ yS u) (hth : th < 2 ^ 31) : ∃ w' : gW, f_M_canHold (nI S) (nI th) w = some (bI (yCb u S th), w') ∧ zE u w' ∧ LQ u A (yT u) w' := by
  have K := J.K
  have h10 := K.S10
  have ht := K.T7
  have p31 : 2 ^ yS u ≤ 2 ^ 31 := Nat.pow_le_pow_right (by decide) (by omega)
  have hSA : S &&& A < 2 ^ 31 := Nat.lt_of_le_of_lt Nat.and_le_left (by omega)
  have key := zfx_ind (fun _ _ _ _ => none) f_M_canHold_b2_s (fun m kk => ∀ k v, k + m = yT u → zE u v → LQ u A (yT u) v → (∀ j, j < k → ¬ (ypo u j = true ∧ ∀ i, i < yS u → S.testBit i = true → yHs u i th j = true)) → ∃ w' : gW, kk (nI S) (nI th) (nI k) v = some (bI (yCb u S th), w') ∧ zE u w' ∧ LQ u A (yT u) w') (fun m kk ih k v hk hv hq hno => by
    unfold f_M_canHold_b2_s
    rw [hv.k.i (a := 107) (b := 26) rfl, K.L.2.2.2.2.1]
    cases m with
    | zero =>
      rw [if_pos (by rw [n_le (by omega) (by omega)]; omega)]
      have e : yCb u S th = false := by
        cases e : yCb u S th with
        | false => rfl
        | true =>
          obtain ⟨j, j1, j2⟩ := yCb_i.mp e
          exact absurd j2 (hno j (by omega))
      rw [e]
      exact ⟨v, rfl, hv, hq⟩
    | succ m =>
      have ik : inb (nI k) 16807 := z_inbn (by omega) (by decide)
      have ez : ix (nI k) = k := z_ix (by omega)
      rw [if_neg (by rw [n_le (by omega) (by omega)]; omega)]
      simp only [if_pos ik, ez]
      have next : ∀ v2, zE u v2 → LQ u A (yT u) v2 → ¬ (ypo u k = true ∧ ∀ i, i < yS u → S.testBit i = true → yHs u i th k = true) → ∃ w' : gW, f_M_canHold_b126 kk (nI S) (nI th) (nI k) v2 = some (bI (yCb u S th), w') ∧ zE u w' ∧ LQ u A (yT u) w' := by
        intro v2 a1 a2 a3
        unfold f_M_canHold_b126
        rw [zl_s, n_1]
        refine ih m (by omega) (k + 1) v2 (by omega) a1 a2 (fun j hj => ?_)
        by_cases z : j = k
        · subst z; exact a3
        · exact hno j (by omega)
      have hE := hq.2 k (by omega)
      cases hp : ypo u k with
      | false =>
        rw [hE.1 hp, if_pos rfl]
        exact next v hv hq (fun z => by have := z.1; rw [hp] at this; cases this)
      | true =>
        obtain ⟨B, b1, b2⟩ := hE.2 hp
        have hB31 : B < 2 ^ 31 := by have := b2.1; omega
        rw [b1, if_neg (show ¬ nI B = (-1 : Int32) by rw [n_m1 hB31]; exact id), hq.1]
        by_cases q1 : (nI S &&& (nI A ^^^ (-1 : Int32))) &&& (nI B ^^^ (-1 : Int32)) = 0
        · rw [if_pos q1]
          have q2 := n_an2.mp q1
          -- those without # in the set hold
          have pl : ∀ i, i < yS u → S.testBit i = true → ¬ yAk u i → yHs u i th k = true := by
            intro i hi hs ha
            have ea : A.testBit i = false := by
              cases e : A.testBit i with
              | false => rfl
              | true => exact absurd ((hA.2 i hi).mp e) ha
            have := (b2.2 i hi).mp (q2 i (by omega) hs ea)
            rw [yHs_n (th' := 0) ha]
            exact this.2
          have loop : ∀ v2, zE u v2 → LQ u A (yT u) v2 → (S &&& A = 0 ∨ lvL u k v2) → ∃ w' : gW, f_M_canHold_b65 kk (nI S) (nI th) (nI k) (1 : Int32) v2 = some (bI (yCb u S th), w') ∧ zE u w' ∧ LQ u A (yT u) w' := by
            intro v2 a1 a2 a3
            have inner := zfx_ind (fun _ _ _ _ _ _ => none) (f_M_canHold_b68_s kk) (fun m2 k2 => ∀ i v (bo : Bool), i + m2 = yS u → zE u v → LQ u A (yT u) v → (S &&& A = 0 ∨ lvL u k v) → (bo = true ↔ ∀ j, j < i → (S &&& A).testBit j = true → yHs u j th k = true) → ∃ w' : gW, k2 (nI S) (nI th) (nI k) (bI bo) (nI i) v = some (bI (yCb u S th), w') ∧ zE u w' ∧ LQ u A (yT u) w') (fun m2 k2 ih2 i v bo hi hv hq hl hbo => by
              unfold f_M_canHold_b68_s
              rw [hv.k.i (a := 107) (b := 35) rfl, K.C.2.2.2.2.1.2]
              have nope : bo = false → ∃ w' : gW, f_M_canHold_b119 kk (nI S) (nI th) (nI k) (bI bo) v = some (bI (yCb u S th), w') ∧ zE u w' ∧ LQ u A (yT u) w' := by
                intro e
                unfold f_M_canHold_b119
                rw [e, if_pos bf0]
                refine next v hv hq (fun z => ?_)
                have : bo = true := hbo.mpr (fun j hj hs => z.2 j (by omega) (by rw [Nat.testBit_and, Bool.and_eq_true] at hs; exact hs.1))
                rw [e] at this; cases this
              cases m2 with
              | zero =>
                rw [if_pos (by rw [n_le (by omega) (by omega)]; omega)]
                cases bo with
                | false => exact nope rfl
                | true =>
                  unfold f_M_canHold_b119
                  rw [if_neg bt0]
                  have e : yCb u S th = true := yCb_i.mpr ⟨k, by omega, hp, fun j hj hs => by
                    by_cases z : yAk u j
                    · exact hbo.mp rfl j (by omega) (by rw [Nat.testBit_and, hs, (hA.2 j hj).mpr z]; rfl)
                    · exact pl j hj hs z⟩
                  rw [e]
                  exact ⟨v, rfl, hv, hq⟩
              | succ m2 =>
                rw [if_neg (by rw [n_le (by omega) (by omega)]; omega)]
                cases bo with
                | false => rw [if_pos bf0]; exact nope rfl
                | true =>
                  rw [if_neg bt0, hq.1, n_and, M_hasB (S &&& A) i hSA (by omega), zb_s]
                  have st : ∀ (b : Bool) (v' : gW), (b = true ↔ ((S &&& A).testBit i = true → yHs u i th k = true)) → zE u v' → LQ u A (yT u) v' → (S &&& A = 0 ∨ lvL u k v') → ∃ w' : gW, f_M_canHold_b111 kk k2 (nI S) (nI th) (nI k) (nI i) (bI b) v' = some (bI (yCb u S th), w') ∧ zE u w' ∧ LQ u A (yT u) w' := by
                    intro b v' hb z1 z2 z3
                    unfold f_M_canHold_b111
                    rw [zl_s, n_1]
                    refine ih2 m2 (by omega) (i + 1) v' b (by omega) z1 z2 z3 ?_
                    rw [hb]
                    constructor
                    · intro z j hj hs
                      by_cases e : j = i
                      · subst e; exact z hs
                      · exact hbo.mp rfl j (by omega) hs
                    · intro z hs
                      exact z i (by omega) hs
                  cases es : (S &&& A).testBit i with
                  | false =>
                    rw [if_pos bf0]
                    unfold f_M_canHold_b106
                    exact st true v ⟨fun _ z => (by rw [es] at z; cases z), fun _ => rfl⟩ hv hq hl
                  | true =>
                    rw [if_neg bt0]
                    have l2 : lvL u k v := by
                      rcases hl with z | z
                      · rw [z, Nat.zero_testBit] at es; cases es
                      · exact z
                    obtain ⟨v', f1, f2⟩ := M_holds K J.R hv.k l2 (i := i) (th := th) (by omega) hth
                    rw [f1, zb_s]
                    cases eh : yHs u i th k with
                    | false =>
                      rw [if_pos bf0]
                      exact st false v' ⟨fun z => (by cases z), fun z => by have := z es; rw [eh] at this; cases this⟩ (f2.e hv) (hq.ml f2.ml) (Or.inr (l2.m f2))
                    | true =>
                      rw [if_neg bt0]
                      unfold f_M_canHold_b106
                      exact st true v' ⟨fun _ _ => eh, fun _ => rfl⟩ (f2.e hv) (hq.ml f2.ml) (Or.inr (l2.m f2))) zFU (yS u) (zfu (by omega))
            unfold f_M_canHold_b65
            exact inner 0 v2 true (by omega) a1 a2 a3 ⟨fun _ j hj => absurd hj (Nat.not_lt_zero j), fun _ => rfl⟩
          rw [n_and]
          by_cases q3 : nI (S &&& A) = 0
          · rw [if_pos q3]
            exact loop v hv hq (Or.inl ((n_z0 hSA).mp q3))
          · rw [if_neg q3]
            obtain ⟨v1, e1, l1, m1⟩ := M_live K hv.k k
            rw [hv.k.i (a := 118) rfl, K.L.2.2.2.2.2.1 k (by omega), e1, zb_s]
            exact loop v1 (m1.e hv) (hq.ml m1.ml) (Or.inr l1)
        · rw [if_neg q1]
          refine next v hv hq (fun z => q1 (n_an2.mpr (fun i h32 hs ha => ?_)))
          have hi := lt2_b hS hs
          have hna : ¬ yAk u i := fun y => by rw [(hA.2 i hi).mpr y] at ha; cases ha
          exact (b2.2 i hi).mpr ⟨hna, by rw [yHs_n (th' := th) hna]; exact z.2 i hi hs⟩) zFU (yT u) (zfu (by omega))
  exact key 0 w (by omega) h hL (fun j hj => absurd hj (Nat.not_lt_zero j))
end
