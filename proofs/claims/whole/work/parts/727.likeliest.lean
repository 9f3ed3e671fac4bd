/-! PURE: likeliest -/
def qG (f : Nat → Nat) (q : Option Nat) : Int64 := match q with
  | none => -1
  | some j => lN (f j)
theorem qG_n (f : Nat → Nat) : qG f none = -1 := rfl
theorem qG_s (f : Nat → Nat) (j : Nat) : qG f (some j) = lN (f j) := rfl
section
variable {u : gW}
def LG (u : gW) (q : Option Nat) (v : gW) : Prop := v.2 102 5 = qG (ypw u) q ∧ v.1 102 6 = qN q
theorem lg_lt1 (x y : Int64) : (lg_cmp x y ≤ 0) ↔ ¬ y.toInt < x.toInt := by
  rw [lg_le0, lc_gt]
theorem qG_t (K : zK u) (R : jRec u) (hD : 0 < yD u) (q : Option Nat) : (qG (ypw u) q).toInt = (match q with
    | none => (-1 : Int)
    | some j => (ypw u j : Int)) := by
  cases q with
  | none => rfl
  | some j =>
    have := ypw_le K R hD j
    rw [qG_s, pk_lT (by omega)]
theorem Ch_seek' (K : zK u) (R : jRec u) (C : jCou u) (hD : 0 < yD u) : ∀ (m d fu : Nat), d + m = yD u → m < fu → ∀ (p pr : Nat) (v : gW) (q : Option Nat), p % yZd u d = 0 → p + yZd u d ≤ yT u → (∀ k, p ≤ k → k < p + yZd u d → pr = ypr u k d) → zE u v → LG u q v → isT (yPf u) (ypw u) p q → ∃ (v' : gW) (q' : Option Nat), zfx (fun _ _ _ _ _ => none) f_Ch_seekHeaviest_rec fu 76 (nI d) (nI p) (lN pr) v = some ((), v') ∧ zE u v' ∧ LG u q' v' ∧ isT (yPf u) (ypw u) (p + yZd u d) q' := by
  have h5 := K.D5
  have hT := K.T7
  intro m
  induction m with
  | zero =>
    intro d fu hd hf p pr v q hp1 hp2 hpr hv hL hq
    obtain ⟨f', rfl⟩ : ∃ f', fu = f' + 1 := ⟨fu - 1, by omega⟩
    have ed : d = yD u := by omega
    rw [zfx_s]
    generalize zfx (fun _ _ _ _ _ => none) f_Ch_seekHeaviest_rec f' = Z
    unfold f_Ch_seekHeaviest_rec
    rw [ed, yZd_e] at hp2 hpr
    have e1 : pr = ypw u p := hpr p (Nat.le_refl _) (by omega)
    have ple := ypw_le K R hD p
    rw [La_hasDeed' K hv.k, zb_s, n_zbl0 (by omega) (by omega), if_pos z00, hL.1, ed, yZd_e]
    have hb : zbt v 76 p = yPf u p := fit_b C hv (by omega)
    have keep : (∃ j, q = some j ∧ ypw u p ≤ ypw u j) ∨ yPf u p = false → isT (yPf u) (ypw u) (p + 1) q := by
      intro z
      refine isT_keep hq (by omega) (fun i h1 h2 hP => ?_)
      have ei : i = p := by omega
      subst ei
      rcases z with z | z
      · exact z
      · rw [z] at hP; cases hP
    by_cases q1 : lg_cmp (lN pr) (qG (ypw u) q) ≤ 0
    · rw [if_pos q1]
      refine ⟨v, q, rfl, hv, hL, keep (Or.inl ?_)⟩
      rw [lg_lt1, qG_t K R hD, pk_lT (by omega)] at q1
      cases q with
      | none => exact absurd (by dsimp only; omega) q1
      | some j => exact ⟨j, rfl, by dsimp only at q1; omega⟩
    · rw [if_neg q1, Ro_has' row_76 (by omega), zb_s, hb]
      cases eP : yPf u p with
      | false =>
        rw [if_pos bf0]
        exact ⟨v, q, rfl, hv, hL, keep (Or.inr eP)⟩
      | true =>
        rw [if_neg bt0, zl_s, zl_s]
        refine ⟨_, some p, rfl, (hv.sL _ rfl).sI _ rfl, ⟨?_, ?_⟩, ?_⟩
        · rw [zsI_l, rw_g, if_pos ⟨rfl, rfl⟩, qG_s, e1]
        · rw [zsI_g, if_pos ⟨rfl, rfl⟩, qN_s]
        · have q1' : (qG (ypw u) q).toInt < (lN pr).toInt := by
            apply Classical.byContradiction
            intro z
            exact q1 ((lg_lt1 _ _).mpr z)
          rw [qG_t K R hD, pk_lT (by omega)] at q1'
          have a := isT_1 hq eP
          cases q with
          | none => exact a
          | some j =>
            rw [nx_s, if_pos (by dsimp only at q1'; omega)] at a
            exact a
  | succ m ih =>
    intro d fu hd hf p pr v q hp1 hp2 hpr hv hL hq
    obtain ⟨f', rfl⟩ : ∃ f', fu = f' + 1 := ⟨fu - 1, by omega⟩
    have hdD : d < yD u := by omega
    have eZ := yZd_s K hdD
    have ihf := ih (d + 1) f' (by omega) (by omega)
    rw [zfx_s]
    generalize zfx (fun _ _ _ _ _ => none) f_Ch_seekHeaviest_rec f' = Z at ihf ⊢
    have o27 := K.o27 hdD
    have z1 : 1 ≤ yZd u (d + 1) := by rw [← eZ.2]; exact (K.st hdD).1
    have z2 : yZd u (d + 1) ≤ 2401 := by rw [← eZ.2]; exact (K.st hdD).2
    unfold f_Ch_seekHeaviest_rec
    rw [La_hasDeed' K hv.k, zb_s, n_zbl hdD (by omega), if_neg z10]
    have key := zfx_ind (fun _ _ _ _ _ _ => none) (f_Ch_seekHeaviest_b44_s Z) (fun m2 k2 => ∀ o v q, o + m2 = yo u d → zE u v → LG u q v → isT (yPf u) (ypw u) (p + o * yZd u (d + 1)) q → ∃ (v' : gW) (q' : Option Nat), k2 76 (nI d) (nI p) (lN pr) (nI o) v = some ((), v') ∧ zE u v' ∧ LG u q' v' ∧ isT (yPf u) (ypw u) (p + yZd u d) q') (fun m2 k2 ih2 o v q ho hv hL hq => by
      unfold f_Ch_seekHeaviest_b44_s
      rw [La_options' K hv.k hdD, zb_s]
      cases m2 with
      | zero =>
        rw [if_pos (by rw [n_le (by omega) (by omega)]; omega)]
        rw [show o = yo u d by omega, ← eZ.1] at hq
        exact ⟨v, q, rfl, hv, hL, hq⟩
      | succ m2 =>
        have w9 := ywt_9 R hD (d := d) (y := yg u d o) (by omega) (by have := (K.g9 hdD (show o < yo u d by omega)).1; omega)
        rw [if_neg (by rw [n_le (by omega) (by omega)]; omega), La_stride' K hv.k hdD, zb_s, zl_s, Ch_weightOf' K R hv.k hdD (by omega), zb_s, n_1, eZ.2, n_m, nI_add, nI_l (by omega), lN_mul]
        have b1 : o * yZd u (d + 1) + yZd u (d + 1) ≤ yZd u d := by
          rw [eZ.1, ← Nat.succ_mul]
          exact Nat.mul_le_mul_right _ (by omega)
        obtain ⟨v1, q1, e1, a1, a2, a3⟩ := ihf (p + o * yZd u (d + 1)) (pr * ywt u d (yg u d o)) v q (blk_m (q := yo u d) (by rw [← eZ.1]; exact hp1)) (by omega) (fun k k1 k2 => by
          show pr * _ = ypr u k d * ywt u d (yg u d (yop u k d))
          rw [yop_b K hdD (show o < yo u d by omega) hp1 k1 (by rw [Nat.succ_mul]; omega), ← hpr k (by omega) (by omega)]) hv hL hq
        rw [e1, zb_s, zl_s, n_1]
        rw [Nat.add_assoc, ← Nat.succ_mul] at a3
        exact ih2 m2 (by omega) (o + 1) v1 q1 (by omega) a1 a2 a3) zFU (yo u d) (zfu (by omega))
    exact key 0 v q (by omega) hv hL (by rw [Nat.zero_mul]; exact hq)
def yLk (u : gW) : Option Nat := sc (yPf u) (ypw u) (yT u)
theorem X_likeL (J : zJ u) {w : gW} (h : zE u w) (hD : 0 < yD u) : ∃ v : gW, f_Ch_heaviest w = some (qNN u (yLk u), v) ∧ zE u v := by
  have K := J.K
  have hT := K.T7
  have eT : yZd u 0 = yT u := yZ_T hD
  unfold f_Ch_heaviest f_Co_fitting
  rw [zl_s, zl_s, zb_s]
  obtain ⟨v, q, e1, h1, l1, t1⟩ := Ch_seek' K J.R J.C hD (yD u) 0 16 (by omega) (by have := K.D5; omega) 0 1 (zsI (zsL w 102 5 (-1)) 102 6 (-1)) none (Nat.zero_mod _) (by rw [eT]; omega) (fun k _ _ => rfl) ((h.sL _ rfl).sI _ rfl) ⟨by rw [zsI_l, rw_g, if_pos ⟨rfl, rfl⟩]; rfl, by rw [zsI_g, if_pos ⟨rfl, rfl⟩]; rfl⟩ ⟨fun _ i hi => absurd hi (Nat.not_lt_zero i), fun j e => by cases e⟩
  rw [show f_Ch_seekHeaviest 76 (0 : Int32) (0 : Int32) (1 : Int64) (zsI (zsL w 102 5 (-1)) 102 6 (-1)) = _ from e1, zb_s, l1.2]
  rw [eT, Nat.zero_add] at t1
  have eq : q = yLk u := isT_u t1 (sc_T _ _ _)
  rw [← eq]
  cases q with
  | none => rw [qN_n, La_number_m1, zb_s]; exact ⟨v, rfl, h1⟩
  | some j =>
    have hj : j < yT u := (t1.2 j rfl).1
    rw [qN_s, La_numberAt' K h1.k hj, zb_s]
    exact ⟨v, rfl, h1⟩
theorem M_likeL (J : zJ u) {w : gW} (h : zE u w) (hD : 0 < yD u) : ∃ v : gW, f_M_likeliest_b21 (-1 : Int32) (0 : Int64) (0 : Int32) w = some (qNN u (yLk u), v) ∧ zE u v := by
  have K := J.K
  have hT := K.T7
  have key := zfx_ind (fun _ _ _ _ => none) f_M_likeliest_b21_s (fun m kk => ∀ k v q (x : Int64), k + m = yT u → zE u v → isT (yPf u) (ypw u) k q → (∀ j, q = some j → x = lN (ypw u j)) → ∃ v' : gW, kk (qNN u q) x (nI k) v = some (qNN u (yLk u), v') ∧ zE u v') (fun m kk ih k v q x hk hv hq hx => by
    unfold f_M_likeliest_b21_s
    rw [hv.k.i rfl, K.L.2.2.2.2.1]
    cases m with
    | zero =>
      rw [if_pos (by rw [n_le (by omega) (by omega)]; omega)]
      rw [show k = yT u by omega] at hq
      have eq : q = yLk u := isT_u hq (sc_T _ _ _)
      rw [← eq]
      exact ⟨v, rfl, hv⟩
    | succ m =>
      have ik : inb (nI k) 16807 := z_inbn (by omega) (by decide)
      rw [if_neg (by rw [n_le (by omega) (by omega)]; omega), if_pos ik]
      obtain ⟨v3, l3, m3, h3, F3⟩ := M_lf K J.R hv (k := k) (by omega)
      rw [F3]
      have wk := ypw_le K J.R hD k
      cases ef : yfi u k with
      | false =>
        rw [if_pos bf0]
        unfold f_M_likeliest_b78
        rw [zl_s, n_1]
        refine ih m (by omega) (k + 1) v3 q x (by omega) h3 (isT_keep hq (by omega) (fun i h1 h2 hP => ?_)) hx
        have ei : i = k := by omega
        subst ei
        rw [yPf_k (by omega), ef] at hP
        cases hP
      | true =>
        have eP : yPf u k = true := by rw [yPf_k (by omega)]; exact ef
        have a := isT_1 hq eP
        rw [if_neg bt0]
        have take : isT (yPf u) (ypw u) (k + 1) (some k) → ∃ v' : gW, f_M_likeliest_b65 kk (nI k) v3 = some (qNN u (yLk u), v') ∧ zE u v' := by
          intro a
          unfold f_M_likeliest_b65 f_M_likeliest_b78
          rw [if_pos ik, zl_s, M_weight' K J.R h3.k l3 hD, zb_s, zl_s, n_1, z_ix (by omega), h3.k.i rfl, K.L.2.2.2.2.2.1 k (by omega)]
          exact ih m (by omega) (k + 1) v3 (some k) _ (by omega) h3 a (fun j e => by cases e; rfl)
        cases q with
        | none =>
          rw [qNN_n, if_pos rfl]
          exact take a
        | some j =>
          have wj := ypw_le K J.R hD j
          rw [qNN_s, if_neg (show ¬ nI (yN u j) = (-1 : Int32) by rw [n_m1 (by have := yN_lt K j; omega)]; exact id), M_weight' K J.R h3.k l3 hD, zb_s, hx j rfl]
          rw [nx_s] at a
          by_cases q2 : 0 < lg_cmp (lN (ypw u k)) (lN (ypw u j))
          · rw [if_pos q2]
            rw [lc_gt, pk_lT (by omega), pk_lT (by omega)] at q2
            rw [if_pos (by omega)] at a
            exact take a
          · rw [if_neg q2]
            rw [lc_gt, pk_lT (by omega), pk_lT (by omega)] at q2
            rw [if_neg (by omega)] at a
            unfold f_M_likeliest_b78
            rw [zl_s, n_1]
            have := ih m (by omega) (k + 1) v3 (some j) (lN (ypw u j)) (by omega) h3 a (fun j2 e => by cases e; rfl)
            rw [qNN_s] at this
            exact this) zFU (yT u) (zfu (by omega))
  exact key 0 w none 0 (by omega) h ⟨fun _ i hi => absurd hi (Nat.not_lt_zero i), fun j e => by cases e⟩ (fun j e => by cases e)
theorem q_likeliest (J : zJ u) : zQ u f_X_likeliest f_M_likeliest := by
  have K := J.K
  have h5 := K.D5
  by_cases q : 0 < yD u
  · refine ⟨qNN u (yLk u), fun v hv => ?_, fun v hv => ?_⟩
    · unfold f_X_likeliest
      rw [La_isThere' K hv.k, zb_s, decide_eq_true q, if_neg bt0]
      obtain ⟨v1, e1, g1⟩ := X_likeL J hv q
      exact ⟨v1, by rw [e1, zb_s], g1⟩
    · unfold f_M_likeliest
      rw [zl_s, there21 K hv.m0, if_neg (nI_ne0 q (by omega))]
      exact M_likeL J hv.m0 q
  · refine ⟨-1, fun v hv => ⟨v, ?_, hv⟩, fun v hv => ⟨_, ?_, hv.m0⟩⟩
    · unfold f_X_likeliest
      rw [La_isThere' K hv.k, zb_s, decide_eq_false q, if_pos bf0]
    · unfold f_M_likeliest
      rw [zl_s, there21 K hv.m0, if_pos (by rw [show yD u = 0 by omega]; rfl)]
end
