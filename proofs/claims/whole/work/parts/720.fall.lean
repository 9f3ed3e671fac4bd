/-! PURE: fall -/
section
variable {u : gW}
def yNg (u : gW) (g : Nat) : Nat := bB (fun i => !g.testBit i) (yS u)
theorem yNg_n (u : gW) (g : Nat) : nI (yal u) &&& (nI g ^^^ (-1 : Int32)) = nI (yNg u g) := n_anb (fun i h32 => by
  have b := bB_B (fun i => !g.testBit i) (yS u)
  show (bB _ _).testBit i = _
  rw [yal_b]
  by_cases z : i < yS u
  · rw [decide_eq_true z, Bool.true_and, Bool.eq_iff_iff]
    exact b.2 i z
  · rw [b.hi (by omega), decide_eq_false z, Bool.false_and])
theorem yNg_lt (u : gW) (g : Nat) : yNg u g < 2 ^ yS u := (bB_B (fun i => !g.testBit i) (yS u)).1
theorem yNg_b {g i : Nat} (hi : i < yS u) : (yNg u g).testBit i = !g.testBit i := by
  rw [Bool.eq_iff_iff]
  exact (bB_B (fun i => !g.testBit i) (yS u)).2 i hi
theorem Le_canAll' (K : zK u) (R : jRec u) (C : jCou u) {w : gW} (h : zE u w) {th : Nat} (hth : th < 2 ^ yS u) : ∃ v : gW, f_Le_canAllHold (nI th) w = some (bI (yCb u th th), v) ∧ zE u v := by
  have h10 := K.S10
  have hn := nW_le K
  have hp := yS_2 K
  have key := zfx_ind (fun _ _ _ => none) f_Le_canAllHold_b2_s (fun m kk => ∀ W v, W + m = nW u → zE u v → (∀ k, k < 64 * W → ¬ (k < yT u ∧ ypo u k = true ∧ ∀ i, i < yS u → th.testBit i = true → yHs u i th k = true)) → ∃ v' : gW, kk (nI th) (nI W) v = some (bI (yCb u th th), v') ∧ zE u v') (fun m kk ih W v hW hv hno => by
    unfold f_Le_canAllHold_b2_s
    rw [La_words' K hv.k, zb_s]
    show ∃ v' : gW, (if nI (nW u) ≤ nI W then _ else _) = _ ∧ _
    cases m with
    | zero =>
      rw [if_pos (by rw [n_le (by omega) (by omega)]; omega)]
      have e : yCb u th th = false := by
        cases e : yCb u th th with
        | false => rfl
        | true =>
          obtain ⟨k, z⟩ := yCb_i.mp e
          have := nW_ge z.1
          exact absurd z (hno k (by omega))
      rw [e]
      exact ⟨v, rfl, hv⟩
    | succ m =>
      rw [if_neg (by rw [n_le (by omega) (by omega)]; omega)]
      unfold f_Co_possible
      rw [zb_s, Ro_word' row_75 (by omega), zb_s]
      have hpw : ∀ b, b < 64 → bL (v.2 75 W) b = (decide (64 * W + b < yT u) && ypo u (64 * W + b)) := fun b hb => pos_w C hv (by omega) hb
      have inner := zfx_ind (fun _ _ _ _ _ => none) (f_Le_canAllHold_b28_s kk) (fun m2 k2 => ∀ i (x : Int64) v, i + m2 = yS u → zE u v → (∀ b, b < 64 → (bL x b = true ↔ (64 * W + b < yT u ∧ ypo u (64 * W + b) = true ∧ ∀ j, j < i → th.testBit j = true → yHs u j th (64 * W + b) = true))) → ∃ v' : gW, k2 (nI th) (nI W) x (nI i) v = some (bI (yCb u th th), v') ∧ zE u v') (fun m2 k2 ih2 i x v hi hv hx => by
        unfold f_Le_canAllHold_b28_s
        by_cases x0 : x = 0
        · rw [if_pos ((lc_eq _ _).mpr x0)]
          unfold f_Le_canAllHold_b81
          rw [if_pos ((lc_eq _ _).mpr x0), zl_s, n_1]
          refine ih m (by omega) (W + 1) v (by omega) hv (bits_s hno (fun b hb z => ?_))
          have := (hx b hb).mpr ⟨z.1, z.2.1, fun j hj => z.2.2 j (by omega)⟩
          rw [x0, bL_0] at this
          cases this
        · rw [if_neg (fun z => x0 ((lc_eq _ _).mp z))]
          unfold f_An_swornCount
          rw [zb_s, hv.k.i rfl, K.C.2.2.2.2.1.1]
          cases m2 with
          | zero =>
            rw [if_pos (by rw [n_le (by omega) (by omega)]; omega)]
            unfold f_Le_canAllHold_b81
            rw [if_neg (fun z => x0 ((lc_eq _ _).mp z))]
            obtain ⟨b, b1, b2⟩ := bL_nz.mp x0
            have z := (hx b b1).mp b2
            have e : yCb u th th = true := yCb_i.mpr ⟨64 * W + b, z.1, z.2.1, fun j hj => z.2.2 j (by omega)⟩
            rw [e]
            exact ⟨v, rfl, hv⟩
          | succ m2 =>
            rw [if_neg (by rw [n_le (by omega) (by omega)]; omega), n_bit (by omega) (by omega)]
            have st : ∀ (y : Int64) (v1 : gW), zE u v1 → (∀ b, b < 64 → 64 * W + b < yT u → (bL y b = true ↔ (th.testBit i = true → yHs u i th (64 * W + b) = true))) → ∃ v' : gW, f_Le_canAllHold_b73 kk k2 (nI th) (nI W) (nI i) x y v1 = some (bI (yCb u th th), v') ∧ zE u v' := by
              intro y v1 hv1 hy
              unfold f_Le_canAllHold_b73
              rw [zl_s, zl_s, n_1]
              refine ih2 m2 (by omega) (i + 1) _ v1 (by omega) hv1 (fun b hb => ?_)
              rw [bL_and, Bool.and_eq_true, hx b hb]
              constructor
              · intro z
                refine ⟨z.1.1, z.1.2.1, fun j hj hs => ?_⟩
                by_cases e : j = i
                · subst e; exact (hy b hb z.1.1).mp z.2 hs
                · exact z.1.2.2 j (by omega) hs
              · intro z
                exact ⟨⟨z.1, z.2.1, fun j hj => z.2.2 j (by omega)⟩, (hy b hb z.1).mpr (z.2.2 i (by omega))⟩
            cases es : th.testBit i with
            | false =>
              rw [if_pos bf0]
              exact st (-1) v hv (fun b hb hk => ⟨fun _ z => (by rw [es] at z; cases z), fun _ => bL_m1 b hb⟩)
            | true =>
              rw [if_neg bt0]
              obtain ⟨r, v1, e1, s1, b1⟩ := Co_swornWord' K R C hv (i := i) (by omega) hth (W := W) (by omega)
              rw [e1, zb_s]
              refine st r v1 (zSk.e hv s1) (fun b hb hk => ?_)
              rw [b1 b hb hk]
              exact ⟨fun z _ => z, fun z => z es⟩) zFU (yS u) (zfu (by omega))
      exact inner 0 _ v (by omega) hv (fun b hb => by
        rw [hpw b hb, Bool.and_eq_true, decide_eq_true_eq]
        exact ⟨fun z => ⟨z.1, z.2, fun j hj => absurd hj (Nat.not_lt_zero j)⟩, fun z => ⟨z.1, z.2.1⟩⟩)) zFU (nW u) (zfu (by omega))
  exact key 0 w (by omega) h (fun k hk => absurd hk (by omega))
noncomputable def flI (u : gW) (n : Nat) : Nat → Nat → Option Nat
  | 0, _ => none
  | m + 1, g => if (decide (ypc g = n) && yCb u (yNg u g) (yNg u g)) = true then some g else flI u n m (g + 1)
noncomputable def flO (u : gW) (t : Nat) : Nat → Nat → Int32
  | 0, _ => -1
  | m + 1, n => match flI u n (2 ^ yS u) 0 with
    | some g => if t = 0 then nI n else nI g
    | none => flO u t m (n + 1)
theorem flI_s (n m g : Nat) : flI u n (m + 1) g = if (decide (ypc g = n) && yCb u (yNg u g) (yNg u g)) = true then some g else flI u n m (g + 1) := rfl
theorem flI_0 (h : ∀ S th, yCb u S th = false) (n : Nat) : ∀ m g, flI u n m g = none
  | 0, _ => rfl
  | m + 1, g => by
    rw [flI_s, h, Bool.and_false, if_neg (by decide)]
    exact flI_0 h n m (g + 1)
theorem flO_0 (h : ∀ S th, yCb u S th = false) (t : Nat) : ∀ m n, flO u t m n = -1
  | 0, _ => rfl
  | m + 1, n => by
    show (match flI u n (2 ^ yS u) 0 with
    | some g => if t = 0 then nI n else nI g
    | none => flO u t m (n + 1)) = -1
    rw [flI_0 h n]
    exact flO_0 h t m (n + 1)
def hpB (u : gW) (H : Nat) : Prop := H < 2 ^ yS u ∧ ∀ i, i < yS u → H.testBit i = true → yFx u i = true ∧ yCb u (2 ^ i ||| 2 ^ i) (yal u) = false
theorem X_fallO (J : zJ u) {w : gW} (h : zE u w) {H t : Nat} (ht : t < 2) (hH : hpB u H) : ∃ v : gW, f_Le_leastFall_b84 (nI t) (nI H) (0 : Int32) w = some (flO u t (yS u + 1) 0, v) ∧ zE u v := by
  have K := J.K
  have h10 := K.S10
  have hp := yS_2 K
  have hp0 := Nat.two_pow_pos (yS u)
  have hal : yal u = 2 ^ yS u - 1 := rfl
  have H1 := hH.1
  have key := zfx_ind (fun _ _ _ _ => none) f_Le_leastFall_b84_s (fun m kk => ∀ n v, n + m = yS u + 1 → zE u v → ∃ v' : gW, kk (nI t) (nI H) (nI n) v = some (flO u t m n, v') ∧ zE u v') (fun m kk ih n v hn hv => by
    unfold f_Le_leastFall_b84_s f_An_swornCount
    rw [zb_s, hv.k.i rfl, K.C.2.2.2.2.1.1]
    cases m with
    | zero =>
      rw [if_pos (by rw [n_lt (by omega) (by omega)]; omega)]
      exact ⟨v, rfl, hv⟩
    | succ m =>
      rw [if_neg (by rw [n_lt (by omega) (by omega)]; omega)]
      have inner := zfx_ind (fun _ _ _ _ _ => none) (f_Le_leastFall_b99_s kk) (fun m2 k2 => ∀ g v, g + m2 = 2 ^ yS u → zE u v → ∃ v' : gW, k2 (nI t) (nI H) (nI n) (nI g) v = some ((match flI u n m2 g with
        | some g => if t = 0 then nI n else nI g
        | none => flO u t m (n + 1)), v') ∧ zE u v') (fun m2 k2 ih2 g v hg hv => by
        unfold f_Le_leastFall_b99_s
        rw [An_all K hv.k, zb_s]
        cases m2 with
        | zero =>
          rw [if_pos (by rw [n_lt (by omega) (by omega)]; omega), zl_s, n_1]
          exact ih m (by omega) (n + 1) v (by omega) hv
        | succ m2 =>
          rw [if_neg (by rw [n_lt (by omega) (by omega)]; omega), Int_bitCount (by omega), zb_s]
          show ∃ v' : gW, (if nI (ypc g) = nI n then _ else _) = _ ∧ _
          have hyp := ypc_le g
          have next : ∀ v1, zE u v1 → (decide (ypc g = n) && yCb u (yNg u g) (yNg u g)) = false → ∃ v' : gW, f_Le_leastFall_b173 kk k2 (nI t) (nI H) (nI n) (nI g) v1 = some ((match flI u n (m2 + 1) g with
              | some g => if t = 0 then nI n else nI g
              | none => flO u t m (n + 1)), v') ∧ zE u v' := by
            intro v1 hv1 e
            unfold f_Le_leastFall_b173
            rw [zl_s, n_1, flI_s, if_neg (by rw [e]; decide)]
            exact ih2 m2 (by omega) (g + 1) v1 (by omega) hv1
          have no : (decide (ypc g = n) && yCb u (yNg u g) (yNg u g)) = false → ∃ v' : gW, f_Le_leastFall_b134 kk k2 (nI t) (nI H) (nI n) (nI g) v = some ((match flI u n (m2 + 1) g with
              | some g => if t = 0 then nI n else nI g
              | none => flO u t m (n + 1)), v') ∧ zE u v' := by
            intro e
            unfold f_Le_leastFall_b134 f_Le_leastFall_b135
            rw [if_pos z00]
            exact next v hv e
          by_cases q1 : ypc g = n
          · rw [if_pos (by rw [q1])]
            by_cases q2 : nI H &&& (nI g ^^^ (-1 : Int32)) = 0
            · rw [if_pos q2]
              unfold f_Le_leastFall_b135
              rw [if_neg z10, An_all K hv.k, zb_s, yNg_n]
              obtain ⟨v1, e1, g1⟩ := Le_canAll' K J.R J.C hv (yNg_lt u g)
              rw [e1, zb_s]
              cases c1 : yCb u (yNg u g) (yNg u g) with
              | false =>
                rw [if_pos bf0]
                exact next v1 g1 (by rw [c1, Bool.and_false])
              | true =>
                have ef : flI u n (m2 + 1) g = some g := by
                  rw [flI_s, c1, decide_eq_true q1]
                  rfl
                rw [if_neg bt0, ef]
                dsimp only
                by_cases t0 : t = 0
                · rw [if_pos (show nI t = 0 by rw [t0]; rfl), if_pos t0]; exact ⟨v1, rfl, g1⟩
                · rw [if_neg (show ¬ nI t = 0 from nI_ne0 (by omega) (by omega)), if_neg t0]; exact ⟨v1, rfl, g1⟩
            · rw [if_neg q2]
              refine no ?_
              have hh : yCb u (yNg u g) (yNg u g) = false := by
                cases c1 : yCb u (yNg u g) (yNg u g) with
                | false => rfl
                | true =>
                  obtain ⟨k, k1, k2, k3⟩ := yCb_i.mp c1
                  refine absurd ((n_andn (by omega)).mpr (fun i hi h32 => ?_)) q2
                  have iS := lt2_b H1 hi
                  cases eg : g.testBit i with
                  | true => rfl
                  | false =>
                    have y := hH.2 i iS hi
                    have y1 := k3 i iS (by rw [yNg_b iS, eg]; rfl)
                    have : yCb u (2 ^ i ||| 2 ^ i) (yal u) = true := yCb_i.mpr ⟨k, k1, k2, fun j hj hs => by
                      rw [or_self2, Nat.testBit_two_pow, decide_eq_true_eq] at hs
                      rw [← hs, yFx_h (th' := yNg u g) y.1]
                      exact y1⟩
                    rw [y.2] at this
                    cases this
              rw [hh, Bool.and_false]
          · rw [if_neg (by rw [n_eq (by omega) (by omega)]; exact q1)]
            exact no (by rw [decide_eq_false q1, Bool.false_and])) zFU (2 ^ yS u) (zfu (by omega))
      exact inner 0 v (by omega) hv) zFU (yS u + 1) (zfu (by omega))
  exact key 0 w (by omega) h
theorem X_fallL (J : zJ u) {w : gW} (h : zE u w) {t : Nat} (ht : t < 2) : ∃ v : gW, f_Le_leastFall (nI t) w = some (flO u t (yS u + 1) 0, v) ∧ zE u v := by
  have K := J.K
  have h10 := K.S10
  have hn := nW_le K
  have hp := yS_2 K
  have FX := bB_B (yFx u) (yS u)
  have FXl : yFX u < 1024 := Nat.lt_of_lt_of_le FX.1 hp
  unfold f_Le_leastFall f_Co_possible
  obtain ⟨r, r1, r2⟩ := Ro_empty K row_75 w
  rw [zb_s, La_words' K h.k, zb_s, show f_Ro_isEmpty 75 (nI ((yT u + 63) / 64)) w = _ from r1, zb_s]
  cases r with
  | true =>
    rw [if_neg bt0, flO_0 (fun S th => ?_)]
    · exact ⟨w, rfl, h⟩
    · cases e : yCb u S th with
      | false => rfl
      | true =>
        obtain ⟨k, k1, k2, -⟩ := yCb_i.mp e
        have kw := nW_ge k1
        refine absurd ?_ (r2.mp rfl k kw)
        rw [pos_b J.C h (by omega), decide_eq_true k1, k2]
        rfl
  | false =>
    rw [if_pos bf0, Le_without K J.R h, zb_s]
    have key := zfx_ind (fun _ _ _ _ _ => none) f_Le_leastFall_b32_s (fun m kk => ∀ i r v, i + m = yS u → zE u v → isB i (fun i => yFx u i = true ∧ yCb u (2 ^ i ||| 2 ^ i) (yal u) = false) r → ∃ v' : gW, kk (nI t) (nI (yFX u)) (nI r) (nI i) v = some (flO u t (yS u + 1) 0, v') ∧ zE u v') (fun m kk ih i r v hi hv hr => by
      unfold f_Le_leastFall_b32_s f_An_swornCount
      rw [zb_s, hv.k.i rfl, K.C.2.2.2.2.1.1]
      cases m with
      | zero =>
        rw [if_pos (by rw [n_le (by omega) (by omega)]; omega)]
        have iS : i = yS u := by omega
        rw [iS] at hr
        exact X_fallO J hv ht ⟨hr.1, fun j hj hs => (hr.2 j hj).mp hs⟩
      | succ m =>
        rw [if_neg (by rw [n_le (by omega) (by omega)]; omega), n_bit (by omega) (by omega)]
        have st : ∀ (b : Bool) (x : Nat) (v1 : gW), x = (if b = true then 2 ^ i else 0) → (b = true ↔ yFx u i = true ∧ yCb u (2 ^ i ||| 2 ^ i) (yal u) = false) → zE u v1 → ∃ v' : gW, f_Le_leastFall_b73 kk (nI t) (nI (yFX u)) (nI i) (nI r) (nI x) v1 = some (flO u t (yS u + 1) 0, v') ∧ zE u v' := by
          intro b x v1 hx hb hv1
          unfold f_Le_leastFall_b73
          rw [zl_s, zl_s, n_1, n_or, hx]
          exact ih m (by omega) (i + 1) _ v1 (by omega) hv1 (hr.s b hb)
        have fb : (yFX u).testBit i = yFx u i := by rw [Bool.eq_iff_iff]; exact FX.2 i (by omega)
        rw [fb]
        cases ef : yFx u i with
        | false =>
          rw [if_pos bf0]
          unfold f_Le_leastFall_b72
          exact st false 0 v rfl ⟨fun z => (by cases z), fun z => by rw [ef] at z; exact absurd z.1 (by decide)⟩ hv
        | true =>
          rw [if_neg bt0]
          obtain ⟨v1, e1, g1⟩ := Le_canHold' K J.R J.C hv (i := i) (j := i) (by omega) (by omega)
          rw [e1, zb_s]
          cases c1 : yCb u (2 ^ i ||| 2 ^ i) (yal u) with
          | false =>
            rw [if_pos bf0, n_1sh (by omega)]
            exact st true (2 ^ i) v1 rfl ⟨fun _ => ⟨ef, c1⟩, fun _ => rfl⟩ g1
          | true =>
            rw [if_neg bt0]
            unfold f_Le_leastFall_b72
            exact st false 0 v1 rfl ⟨fun z => (by cases z), fun z => by rw [c1] at z; exact absurd z.2 (by decide)⟩ g1) zFU (yS u) (zfu (by omega))
    exact key 0 0 w (by omega) h (isB.z _)
theorem M_fallL (J : zJ u) {w : gW} (h : zE u w) {A t : Nat} (hA : isB (yS u) (yAk u) A) (hL : LQ u A (yT u) w) (ht : t < 2) : ∃ v : gW, f_M_fall_b30 (nI t) (0 : Int32) w = some (flO u t (yS u + 1) 0, v) ∧ zE u v := by
  have K := J.K
  have h10 := K.S10
  have hp := yS_2 K
  have hp0 := Nat.two_pow_pos (yS u)
  have hal : yal u = 2 ^ yS u - 1 := rfl
  have key := zfx_ind (fun _ _ _ => none) f_M_fall_b30_s (fun m kk => ∀ n v, n + m = yS u + 1 → zE u v → LQ u A (yT u) v → ∃ v' : gW, kk (nI t) (nI n) v = some (flO u t m n, v') ∧ zE u v') (fun m kk ih n v hn hv hL => by
    unfold f_M_fall_b30_s
    rw [hv.k.i rfl, K.C.2.2.2.2.1.2]
    cases m with
    | zero =>
      rw [if_pos (by rw [n_lt (by omega) (by omega)]; omega)]
      exact ⟨v, rfl, hv⟩
    | succ m =>
      rw [if_neg (by rw [n_lt (by omega) (by omega)]; omega)]
      have inner := zfx_ind (fun _ _ _ _ => none) (f_M_fall_b40_s kk) (fun m2 k2 => ∀ g v, g + m2 = 2 ^ yS u → zE u v → LQ u A (yT u) v → ∃ v' : gW, k2 (nI t) (nI n) (nI g) v = some ((match flI u n m2 g with
        | some g => if t = 0 then nI n else nI g
        | none => flO u t m (n + 1)), v') ∧ zE u v') (fun m2 k2 ih2 g v hg hv hL => by
        unfold f_M_fall_b40_s
        rw [M_all K hv.k, zb_s]
        cases m2 with
        | zero =>
          rw [if_pos (by rw [n_lt (by omega) (by omega)]; omega), zl_s, n_1]
          exact ih m (by omega) (n + 1) v (by omega) hv hL
        | succ m2 =>
          rw [if_neg (by rw [n_lt (by omega) (by omega)]; omega), Int_bitCount (by omega), zb_s]
          show ∃ v' : gW, (if nI (ypc g) = nI n then _ else _) = _ ∧ _
          have hyp := ypc_le g
          have next : ∀ v1, zE u v1 → LQ u A (yT u) v1 → (decide (ypc g = n) && yCb u (yNg u g) (yNg u g)) = false → ∃ v' : gW, f_M_fall_b92 kk k2 (nI t) (nI n) (nI g) v1 = some ((match flI u n (m2 + 1) g with
              | some g => if t = 0 then nI n else nI g
              | none => flO u t m (n + 1)), v') ∧ zE u v' := by
            intro v1 hv1 hL1 e
            unfold f_M_fall_b92
            rw [zl_s, n_1, flI_s, if_neg (by rw [e]; decide)]
            exact ih2 m2 (by omega) (g + 1) v1 (by omega) hv1 hL1
          by_cases q1 : ypc g = n
          · rw [if_pos (by rw [q1]), M_all K hv.k, zb_s, M_all K hv.k, zb_s, yNg_n]
            obtain ⟨v1, e1, g1, l1⟩ := M_canHold' J hv hA hL (S := yNg u g) (th := yNg u g) (yNg_lt u g) (by have := yNg_lt u g; omega)
            rw [e1, zb_s]
            cases c1 : yCb u (yNg u g) (yNg u g) with
            | false =>
              rw [if_pos bf0]
              exact next v1 g1 l1 (by rw [c1, Bool.and_false])
            | true =>
              have ef : flI u n (m2 + 1) g = some g := by
                rw [flI_s, c1, decide_eq_true q1]
                rfl
              rw [if_neg bt0, ef]
              dsimp only
              by_cases t0 : t = 0
              · rw [if_pos (show nI t = 0 by rw [t0]; rfl), if_pos t0]; exact ⟨v1, rfl, g1⟩
              · rw [if_neg (show ¬ nI t = 0 from nI_ne0 (by omega) (by omega)), if_neg t0]; exact ⟨v1, rfl, g1⟩
          · rw [if_neg (by rw [n_eq (by omega) (by omega)]; exact q1)]
            exact next v hv hL (by rw [decide_eq_false q1, Bool.false_and])) zFU (2 ^ yS u) (zfu (by omega))
      exact inner 0 v (by omega) hv hL) zFU (yS u + 1) (zfu (by omega))
  exact key 0 w (by omega) h hL
theorem q_fall (J : zJ u) (a : Int32) : zQ u (f_X_fall a) (f_M_fall a) := by
  have K := J.K
  have h5 := K.D5
  by_cases q : 0 < yD u
  · by_cases q2 : 0 ≤ a.toInt ∧ a.toInt < (2 : Nat)
    · obtain ⟨ea, ha⟩ := z_nIx q2
      generalize ix a = t at ea ha
      subst ea
      have hq3 : (0 : Int) ≤ (nI t).toInt ∧ (nI t).toInt < ((2 : Nat) : Int) := q2
      refine ⟨flO u t (yS u + 1) 0, fun v hv => ?_, fun v hv => ?_⟩
      · unfold f_X_fall
        rw [La_isThere' K hv.k, zb_s, decide_eq_true q, if_neg bt0, X_is01, zb_s, decide_eq_true q2, if_neg bt0]
        obtain ⟨v1, e1, g1⟩ := X_fallL J hv ha
        exact ⟨v1, by rw [e1, zb_s], g1⟩
      · unfold f_M_fall
        obtain ⟨A, hA⟩ := isB.ex (yAk u) (yS u)
        obtain ⟨v1, e1, g1, l1⟩ := M_layPlain' J hv.m0 hA
        rw [zl_s, there21 K hv.m0, if_neg (nI_ne0 q (by omega)), isIn_lit (nI t) 2 rfl, zb_s, decide_eq_true hq3, if_neg bt0, e1, zb_s]
        exact M_fallL J g1 hA l1 ha
    · refine ⟨-1, fun v hv => ⟨v, ?_, hv⟩, fun v hv => ⟨_, ?_, hv.m0⟩⟩
      · unfold f_X_fall
        rw [La_isThere' K hv.k, zb_s, decide_eq_true q, if_neg bt0, X_is01, zb_s, decide_eq_false q2, if_pos bf0]
      · unfold f_M_fall
        rw [zl_s, there21 K hv.m0, if_neg (nI_ne0 q (by omega)), isIn_lit a 2 rfl, zb_s, decide_eq_false q2, if_pos bf0]
  · refine ⟨-1, fun v hv => ⟨v, ?_, hv⟩, fun v hv => ⟨_, ?_, hv.m0⟩⟩
    · unfold f_X_fall
      rw [La_isThere' K hv.k, zb_s, decide_eq_false q, if_pos bf0]
    · unfold f_M_fall
      rw [zl_s, there21 K hv.m0, if_pos (by rw [show yD u = 0 by omega]; rfl)]
end
