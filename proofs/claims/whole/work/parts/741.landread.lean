/-! PURE: the class reads a land -/
theorem zDr.g {w v : gW} (h : zDr w v) {a b : Nat} (q : ((a == 1 && b == 2) || ((a == 3 && (b == 1 || b == 2)) || a == 4)) = false) : v.1 a b = w.1 a b := h.1 a b q
theorem pIr_t0 {f : Nat → Nat} {n Y p : Nat} (hY : Y ≤ 6) (hY2 : 2 ≤ Y) (hp : p ≤ n) : (pIr f n Y p).2.1 ≤ n ∧ sk f n (pIr f n Y p).2.1 = (pIr f n Y p).2.1 ∧ tOk Y (pIr f n Y p).2.2 := pIt_ok hY 4 _ 0 p hp (iT_ok hY2)
theorem Rd_readItems' {n Y d p : Nat} {f : Nat → Nat} {v : gW} (hY : Y ≤ 6) (hY2 : 2 ≤ Y) (hd : d < 5) (ht : tpe n f v) (hp : v.1 1 2 = nI p) (hpn : p ≤ n) (h31 : v.1 3 1 = nI Y) : ∃ v' : gW, f_Rd_readItems (nI d) v = some (bI (pIr f n Y p).1, v') ∧ zDr v v' ∧ (v'.1 3 1 = v.1 3 1 ∧ ∀ j, ¬ (3 * d ≤ j ∧ j < 3 * d + 3) → v'.1 4 j = v.1 4 j) ∧ v'.1 1 2 = nI (pIr f n Y p).2.1 ∧ ∀ j, j < 3 → v'.1 4 (3 * d + j) = nI ((pIr f n Y p).2.2 j) := by
  unfold f_Rd_readItems
  have e1 : f_Rd_set (nI d) (0 : Int32) (0 : Int32) v = some ((), zsI v 4 (3 * d + 0) 0) := Rd_set' hd (w := 0) (by decide) 0 v
  have e2 : f_Rd_set (nI d) (1 : Int32) (0 : Int32) (zsI v 4 (3 * d + 0) 0) = some ((), zsI (zsI v 4 (3 * d + 0) 0) 4 (3 * d + 1) 0) := Rd_set' hd (w := 1) (by decide) 0 _
  have e3 : ∀ x, f_Rd_set (nI d) (2 : Int32) x (zsI (zsI v 4 (3 * d + 0) 0) 4 (3 * d + 1) 0) = some ((), zsI (zsI (zsI v 4 (3 * d + 0) 0) 4 (3 * d + 1) 0) 4 (3 * d + 2) x) := fun x => Rd_set' hd (w := 2) (by decide) x _
  have o31 : (zsI (zsI v 4 (3 * d + 0) 0) 4 (3 * d + 1) 0).1 3 1 = nI Y := h31
  rw [e1, zb_s, e2, zb_s, e3, zb_s, o31, show (1 : Int32) = nI 1 from rfl, n_sub (by omega)]
  obtain ⟨v', r1, r2, r3, r4, r5⟩ := Rd_items (v := zsI (zsI (zsI v 4 (3 * d + 0) 0) 4 (3 * d + 1) (0 : Int32)) 4 (3 * d + 2) (nI (Y - 1))) hY hd (m := 4) (told := 0) (p := p) (t := iT Y) rfl (by decide) ⟨ht.1, ht.2.1, ht.2.2⟩ hp hpn (iT_ok hY2) h31 (fun j hj => by
    have hj3 : j = 0 ∨ j = 1 ∨ j = 2 := by omega
    unfold iT
    rcases hj3 with e | e | e
    · subst e
      rw [zsI_g, if_neg (by omega), zsI_g, if_neg (by omega), zsI_g, if_pos ⟨rfl, rfl⟩, if_neg (by decide)]; rfl
    · subst e
      rw [zsI_g, if_neg (by omega), zsI_g, if_pos ⟨rfl, rfl⟩, if_neg (by decide)]; rfl
    · subst e
      rw [zsI_g, if_pos ⟨rfl, rfl⟩, if_pos rfl])
  refine ⟨v', r1, ((((zDr.rf v).d _ _).d _ _).d _ _).tr r2, ⟨r3.1, fun j hj => ?_⟩, r4, r5⟩
  rw [r3.2 j hj, zsI_g, if_neg (by omega), zsI_g, if_neg (by omega), zsI_g, if_neg (by omega)]
theorem Rd_deeds {n Y : Nat} {f : Nat → Nat} (hY : Y ≤ 6) (hY2 : 2 ≤ Y) {m d p : Nat} {T : Nat → Nat → Nat} {v : gW} (hm : d + m = 5) (ht : tpe n f v) (hp : v.1 1 2 = nI p) (hpn : p ≤ n) (h31 : v.1 3 1 = nI Y) (hT : ∀ e, e < d → ∀ j, j < 3 → v.1 4 (3 * e + j) = nI (T e j)) : ∃ v' : gW, f_Rd_read_b44 (nI d) v = some ((if (pDs f n Y m d p T).1 = true then -1 else nI (pDs f n Y m d p T).2.1), v') ∧ zDr v v' ∧ ((pDs f n Y m d p T).1 = true → v'.1 3 1 = nI Y ∧ v'.1 3 2 = nI (pDs f n Y m d p T).2.2.1 ∧ ∀ e, e < (pDs f n Y m d p T).2.2.1 → ∀ j, j < 3 → v'.1 4 (3 * e + j) = nI ((pDs f n Y m d p T).2.2.2 e j)) := by
  have key := zfx_ind (fun _ _ => none) f_Rd_read_b44_s (fun m kk => ∀ d p T v, d + m = 5 → tpe n f v → v.1 1 2 = nI p → p ≤ n → v.1 3 1 = nI Y → (∀ e, e < d → ∀ j, j < 3 → v.1 4 (3 * e + j) = nI (T e j)) → ∃ v' : gW, kk (nI d) v = some ((if (pDs f n Y m d p T).1 = true then -1 else nI (pDs f n Y m d p T).2.1), v') ∧ zDr v v' ∧ ((pDs f n Y m d p T).1 = true → v'.1 3 1 = nI Y ∧ v'.1 3 2 = nI (pDs f n Y m d p T).2.2.1 ∧ ∀ e, e < (pDs f n Y m d p T).2.2.1 → ∀ j, j < 3 → v'.1 4 (3 * e + j) = nI ((pDs f n Y m d p T).2.2.2 e j))) (fun m kk ih d p T v hm ht hp hpn h31 hT => by
    have h120 := ht.1
    unfold f_Rd_read_b44_s
    have spot : ∀ (v1 : gW) (q : Nat), zDr v v1 → v1.1 1 2 = nI q → q ≤ n → f_Rd_read_b76 v1 = some (nI (sk f n q), zsI v1 1 2 (nI (sk f n q))) := by
      intro v1 q a1 a2 a3
      unfold f_Rd_read_b76
      rw [Tp_spot (a1.t ht) a2 a3, zb_s]
    cases m with
    | zero =>
      rw [if_pos (by rw [show (5 : Int32) = nI 5 from rfl, n_le (by omega) (by omega)]; omega), Tp_spot ht hp hpn, zb_s]
      unfold pDs
      rw [if_neg (show ¬ false = true by decide)]
      exact ⟨_, rfl, (zDr.rf v).p _, fun z => by cases z⟩
    | succ m =>
      have q5 : ¬ (5 : Int32) ≤ nI d := by rw [show (5 : Int32) = nI 5 from rfl, n_le (by omega) (by omega)]; omega
      have g1 := sk_le (f := f) hpn
      unfold pDs
      rw [if_neg q5, show f_Tp_passes (59 : Int32) v = _ from Tp_passes ht hp hpn (c := 59) (by decide) (by decide)]
      by_cases c1 : sg f n p = 59
      · have l1 := (sg_lt (f := f) (n := n) (p := p) (by omega)).1
        have g2 := sk_le (f := f) (n := n) (p := sk f n p + 1) (by omega)
        rw [if_pos c1, zb_s, if_neg z10, if_pos c1, show f_Tp_passes (101 : Int32) (zsI v 1 2 (nI (sk f n p + 1))) = _ from Tp_passes (ht.pl _) (pl_g _ _) (by omega) (c := 101) (by decide) (by decide), zsI_zsI, zsI_zsI]
        by_cases c2 : sg f n (sk f n p + 1) = 101
        · have l2 := (sg_lt (f := f) (n := n) (p := sk f n p + 1) (by omega)).1
          rw [if_pos c2, zb_s, if_neg z10, if_pos c2]
          obtain ⟨v1, r1, r2, r3, r4, r5⟩ := Rd_readItems' (v := zsI v 1 2 (nI (sk f n (sk f n p + 1) + 1))) hY hY2 (show d < 5 by omega) (ht.pl _) (pl_g _ _) (by omega) h31
          obtain ⟨k1, k2, k3⟩ := pIr_t0 (f := f) (n := n) (p := sk f n (sk f n p + 1) + 1) hY hY2 (by omega)
          have d1 : zDr v v1 := ((zDr.rf v).p _).tr r2
          rw [r1, zb_s]
          generalize pIr f n Y (sk f n (sk f n p + 1) + 1) = r at *
          by_cases c3 : r.1 = true
          · rw [c3, if_neg bt0, zl_s, n_1]
            have d2 : zDr v (zsI v1 3 2 (nI (d + 1))) := zAg.sI d1 _ rfl
            have p2 : (zsI v1 3 2 (nI (d + 1))).1 1 2 = nI r.2.1 := r4
            have hT2 : ∀ e, e < d + 1 → ∀ j, j < 3 → v1.1 4 (3 * e + j) = nI (upT T d r.2.2 e j) := by
              intro e he j hj
              unfold upT
              by_cases q : e = d
              · subst q
                rw [if_pos rfl]
                exact r5 j hj
              · rw [if_neg q, r3.2 _ (by omega)]
                exact hT e (by omega) j hj
            rw [Tp_atEnd (d2.t ht) p2 k1, zb_s, if_pos (show true = true from rfl)]
            by_cases c4 : sg f n r.2.1 = 0
            · rw [decide_eq_true c4, if_neg bt0, if_pos c4, if_pos (show true = true from rfl)]
              refine ⟨_, rfl, d2.p _, fun _ => ⟨?_, rfl, fun e he j hj => hT2 e he j hj⟩⟩
              exact r3.1.trans h31
            · rw [decide_eq_false c4, if_pos bf0, if_neg c4, zl_s]
              obtain ⟨v', s1, s2, s3⟩ := ih m (by omega) (d + 1) r.2.1 (upT T d r.2.2) (zsI (zsI v1 3 2 (nI (d + 1))) 1 2 (nI (sk f n r.2.1))) (by omega) ((d2.p _).t ht) (by rw [k2]; rfl) k1 (r3.1.trans h31) (fun e he j hj => hT2 e he j hj)
              exact ⟨v', s1, (d2.p _).tr s2, s3⟩
          · have c3' : r.1 = false := by
              cases e : r.1 with
              | false => rfl
              | true => exact absurd e c3
            rw [c3', if_pos bf0, if_neg (show ¬ false = true by decide), if_neg (show ¬ false = true by decide), spot v1 _ d1 r4 k1, k2]
            exact ⟨_, rfl, d1.p _, fun z => by cases z⟩
        · rw [if_neg c2, zb_s, if_pos z00, if_neg c2, if_neg (show ¬ false = true by decide), spot (zsI v 1 2 (nI (sk f n (sk f n p + 1)))) (sk f n (sk f n p + 1)) ((zDr.rf v).p _) (pl_g _ _) g2, sk_sk]
          exact ⟨_, rfl, ((zDr.rf v).p _).p _, fun z => by cases z⟩
      · rw [if_neg c1, zb_s, if_pos z00, if_neg c1, if_neg (show ¬ false = true by decide), spot (zsI v 1 2 (nI (sk f n p))) (sk f n p) ((zDr.rf v).p _) (pl_g _ _) g1, sk_sk]
        exact ⟨_, rfl, ((zDr.rf v).p _).p _, fun z => by cases z⟩) zFU m (zfu (by omega))
  exact key d p T v hm ht hp hpn h31 hT
/-- the class reads a land -/
theorem Rd_read' {n : Nat} {f : Nat → Nat} {v : gW} (ht : tpe n f v) : ∃ v' : gW, f_Rd_read v = some ((if (pLd f n).1 = true then -1 else nI (pLd f n).2.1), v') ∧ zDr v v' ∧ ((pLd f n).1 = true → v'.1 3 1 = nI (pLd f n).2.2.1 ∧ v'.1 3 2 = nI (pLd f n).2.2.2.1 ∧ ∀ e, e < (pLd f n).2.2.2.1 → ∀ j, j < 3 → v'.1 4 (3 * e + j) = nI ((pLd f n).2.2.2.2 e j)) := by
  have h120 := ht.1
  have g1 := sk_le (f := f) (Nat.zero_le n)
  unfold f_Rd_read f_Tp_rewind
  rw [zl_s, zb_s, show f_Tp_passes (116 : Int32) (zsI v 1 2 (0 : Int32)) = _ from Tp_passes (ht.pl (nI 0)) (pl_g _ _) (Nat.zero_le n) (c := 116) (by decide) (by decide)]
  unfold pLd
  by_cases c1 : sg f n 0 = 116
  · have l1 := (sg_lt (f := f) (n := n) (p := 0) (by omega)).1
    rw [if_pos c1, zb_s, if_neg z10, if_pos c1, zsI_zsI, show f_Tp_digit (2 : Int32) (6 : Int32) (zsI v 1 2 (nI (sk f n 0 + 1))) = _ from Tp_digit (ht.pl _) (pl_g _ _) (by omega) (lo := 2) (hi := 6) (by decide) (by decide), zb_s, zsI_zsI, zl_s]
    rcases pD_c (f := f) (n := n) (lo := 2) (hi := 6) (p := sk f n 0 + 1) (by omega) with ⟨a1, a2, a3, a4⟩ | ⟨a1, a2, a3⟩
    · rw [if_pos a1, if_pos a1]
      generalize hY : (pD f n 2 6 (sk f n 0 + 1)).2.2 = Y at *
      generalize hP : (pD f n 2 6 (sk f n 0 + 1)).2.1 = P at *
      have o31 : (zsI (zsI v 1 2 (nI P)) 3 1 (nI Y)).1 3 1 = nI Y := rfl
      rw [o31, if_neg (show ¬ nI Y = (-1 : Int32) by rw [n_m1 (by omega)]; exact id)]
      obtain ⟨v', s1, s2, s3⟩ := Rd_deeds (v := zsI (zsI v 1 2 (nI P)) 3 1 (nI Y)) a3 a2 (m := 5) (d := 0) (p := P) (T := fun _ _ => 0) rfl ⟨h120, ht.2.1, ht.2.2⟩ rfl a4 o31 (fun e he => absurd he (Nat.not_lt_zero e))
      exact ⟨v', s1, (zAg.sI ((zDr.rf v).p _) _ rfl : zDr v (zsI (zsI v 1 2 (nI P)) 3 1 (nI Y))).tr s2, s3⟩
    · have nt : ¬ (pD f n 2 6 (sk f n 0 + 1)).1 = true := by rw [a1]; decide
      rw [if_neg nt, if_neg nt]
      generalize hP : (pD f n 2 6 (sk f n 0 + 1)).2.1 = P at *
      have o31 : (zsI (zsI v 1 2 (nI P)) 3 1 (-1 : Int32)).1 3 1 = -1 := rfl
      have dd : zDr v (zsI (zsI v 1 2 (nI P)) 3 1 (-1 : Int32)) := zAg.sI ((zDr.rf v).p _) _ rfl
      rw [o31, if_pos rfl, Tp_spot (p := P) (dd.t ht) rfl a2, zb_s, a3, if_neg (show ¬ false = true by decide)]
      exact ⟨_, rfl, dd.p _, fun z => by cases z⟩
  · rw [if_neg c1, zb_s, if_pos z00, if_neg c1, zsI_zsI, Tp_spot (ht.pl _) (pl_g _ _) g1, zb_s, sk_sk, if_neg (show ¬ false = true by decide)]
    exact ⟨_, rfl, ((zDr.rf v).p _).p _, fun z => by cases z⟩
