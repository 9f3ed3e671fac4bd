/-! PURE: the text of a land as a function of bytes; the class reads it -/
def tw (s : Nat) : Nat := if s = 112 then 0 else if s = 102 then 1 else if s = 108 then 2 else 3
def lo3 (t : Nat → Nat) (w : Nat) : Nat := if w = 2 then t 1 else 0
def hi3 (Y : Nat) (t : Nat → Nat) (w : Nat) : Nat := if w = 0 then 5 else if w = 1 then t 2 else Y - 1
def up3 (t : Nat → Nat) (w v : Nat) : Nat → Nat := fun j => if j = w then v else t j
def pIt (f : Nat → Nat) (n Y : Nat) : Nat → (Nat → Nat) → Nat → Nat → Bool × Nat × (Nat → Nat)
  | 0, t, _, p => (false, sk f n p, t)
  | m + 1, t, told, p =>
    if tw (sg f n p) = 3 then (true, sk f n p, t)
    else if told.testBit (tw (sg f n p)) = true then (false, sk f n p, t)
    else if (pD f n (lo3 t (tw (sg f n p))) (hi3 Y t (tw (sg f n p))) (sk f n p + 1)).1 = true then pIt f n Y m (up3 t (tw (sg f n p)) (pD f n (lo3 t (tw (sg f n p))) (hi3 Y t (tw (sg f n p))) (sk f n p + 1)).2.2) (told ||| 2 ^ tw (sg f n p)) (pD f n (lo3 t (tw (sg f n p))) (hi3 Y t (tw (sg f n p))) (sk f n p + 1)).2.1
    else (false, (pD f n (lo3 t (tw (sg f n p))) (hi3 Y t (tw (sg f n p))) (sk f n p + 1)).2.1, t)
def iT (Y : Nat) : Nat → Nat := fun j => if j = 2 then Y - 1 else 0
def pIr (f : Nat → Nat) (n Y p : Nat) : Bool × Nat × (Nat → Nat) := pIt f n Y 4 (iT Y) 0 p
def upT (T : Nat → Nat → Nat) (d : Nat) (t : Nat → Nat) : Nat → Nat → Nat := fun e => if e = d then t else T e
def pDs (f : Nat → Nat) (n Y : Nat) : Nat → Nat → Nat → (Nat → Nat → Nat) → Bool × Nat × Nat × (Nat → Nat → Nat)
  | 0, d, p, T => (false, sk f n p, d, T)
  | m + 1, d, p, T =>
    if sg f n p = 59 then
      (if sg f n (sk f n p + 1) = 101 then
        (if (pIr f n Y (sk f n (sk f n p + 1) + 1)).1 = true then
          (if sg f n (pIr f n Y (sk f n (sk f n p + 1) + 1)).2.1 = 0 then (true, (pIr f n Y (sk f n (sk f n p + 1) + 1)).2.1, d + 1, upT T d (pIr f n Y (sk f n (sk f n p + 1) + 1)).2.2)
           else pDs f n Y m (d + 1) (pIr f n Y (sk f n (sk f n p + 1) + 1)).2.1 (upT T d (pIr f n Y (sk f n (sk f n p + 1) + 1)).2.2))
         else (false, (pIr f n Y (sk f n (sk f n p + 1) + 1)).2.1, d, T))
       else (false, sk f n (sk f n p + 1), d, T))
    else (false, sk f n p, d, T)
def pLd (f : Nat → Nat) (n : Nat) : Bool × Nat × Nat × Nat × (Nat → Nat → Nat) :=
  if sg f n 0 = 116 then
    (if (pD f n 2 6 (sk f n 0 + 1)).1 = true then ((pDs f n (pD f n 2 6 (sk f n 0 + 1)).2.2 5 0 (pD f n 2 6 (sk f n 0 + 1)).2.1 (fun _ _ => 0)).1, (pDs f n (pD f n 2 6 (sk f n 0 + 1)).2.2 5 0 (pD f n 2 6 (sk f n 0 + 1)).2.1 (fun _ _ => 0)).2.1, (pD f n 2 6 (sk f n 0 + 1)).2.2, (pDs f n (pD f n 2 6 (sk f n 0 + 1)).2.2 5 0 (pD f n 2 6 (sk f n 0 + 1)).2.1 (fun _ _ => 0)).2.2)
     else (false, (pD f n 2 6 (sk f n 0 + 1)).2.1, 0, 0, fun _ _ => 0))
  else (false, sk f n 0, 0, 0, fun _ _ => 0)
theorem tw_le (s : Nat) : tw s ≤ 3 := by
  unfold tw
  split
  · omega
  · split
    · omega
    · split <;> omega
theorem tw_sg {f : Nat → Nat} {n p : Nat} (h : tw (sg f n p) ≠ 3) : sk f n p < n := by
  apply (sg_lt (f := f) (n := n) (p := p) ?_).1
  intro z
  rw [z] at h
  exact h rfl
def tOk (Y : Nat) (t : Nat → Nat) : Prop := t 0 ≤ 5 ∧ t 1 ≤ t 2 ∧ t 2 < Y
theorem pD_c {f : Nat → Nat} {n lo hi p : Nat} (hp : p ≤ n) : ((pD f n lo hi p).1 = true ∧ lo ≤ (pD f n lo hi p).2.2 ∧ (pD f n lo hi p).2.2 ≤ hi ∧ (pD f n lo hi p).2.1 ≤ n) ∨ ((pD f n lo hi p).1 = false ∧ (pD f n lo hi p).2.1 ≤ n ∧ sk f n (pD f n lo hi p).2.1 = (pD f n lo hi p).2.1) := by
  by_cases h : (pD f n lo hi p).1 = true
  · obtain ⟨a1, a2, a3, a4, a5⟩ := pD_ok hp h
    left
    refine ⟨h, ?_, ?_, ?_⟩
    · rw [a4]; show lo ≤ f (sk f n p) - 48; omega
    · rw [a4]; show f (sk f n p) - 48 ≤ hi; omega
    · rw [a4]; exact a1
  · have e := pD_no h
    right
    rw [e]
    exact ⟨rfl, sk_le hp, sk_sk _ _ _⟩
theorem up3_ok {Y : Nat} {t : Nat → Nat} {w v : Nat} (h : tOk Y t) (hY : Y ≤ 6) (hw : w < 3) (h1 : lo3 t w ≤ v) (h2 : v ≤ hi3 Y t w) : tOk Y (up3 t w v) := by
  obtain ⟨a, b, c⟩ := h
  have hw3 : w = 0 ∨ w = 1 ∨ w = 2 := by omega
  unfold tOk up3
  unfold lo3 at h1
  unfold hi3 at h2
  rcases hw3 with e | e | e
  · subst e
    rw [if_pos rfl, if_neg (by decide), if_neg (by decide)]
    rw [if_pos rfl] at h2
    exact ⟨h2, b, c⟩
  · subst e
    rw [if_neg (by decide), if_pos rfl, if_neg (by decide)]
    rw [if_neg (by decide), if_pos rfl] at h2
    exact ⟨a, h2, c⟩
  · subst e
    rw [if_neg (by decide), if_neg (by decide), if_pos rfl]
    rw [if_neg (by decide), if_neg (by decide)] at h2
    rw [if_pos rfl] at h1
    exact ⟨a, h1, by omega⟩
theorem pIt_ok {f : Nat → Nat} {n Y : Nat} (hY : Y ≤ 6) : ∀ (m : Nat) (t : Nat → Nat) (told p : Nat), p ≤ n → tOk Y t → (pIt f n Y m t told p).2.1 ≤ n ∧ sk f n (pIt f n Y m t told p).2.1 = (pIt f n Y m t told p).2.1 ∧ tOk Y (pIt f n Y m t told p).2.2
  | 0, t, told, p, hp, ht => ⟨sk_le hp, sk_sk _ _ _, ht⟩
  | m + 1, t, told, p, hp, ht => by
    unfold pIt
    by_cases c1 : tw (sg f n p) = 3
    · rw [if_pos c1]; exact ⟨sk_le hp, sk_sk _ _ _, ht⟩
    · rw [if_neg c1]
      by_cases c2 : told.testBit (tw (sg f n p)) = true
      · rw [if_pos c2]; exact ⟨sk_le hp, sk_sk _ _ _, ht⟩
      · rw [if_neg c2]
        have l := tw_sg c1
        have w3 := tw_le (sg f n p)
        rcases pD_c (f := f) (n := n) (lo := lo3 t (tw (sg f n p))) (hi := hi3 Y t (tw (sg f n p))) (p := sk f n p + 1) (by omega) with ⟨a1, a2, a3, a4⟩ | ⟨a1, a2, a3⟩
        · rw [if_pos a1]
          exact pIt_ok hY m _ _ _ a4 (up3_ok ht hY (by omega) a2 a3)
        · rw [if_neg (by rw [a1]; decide)]
          exact ⟨a2, a3, ht⟩
theorem iT_ok {Y : Nat} (h : 2 ≤ Y) : tOk Y (iT Y) := by
  unfold tOk iT
  rw [if_neg (by decide), if_neg (by decide), if_pos rfl]
  omega
/-- how many are told -/
def tc (told : Nat) : Nat := (if told.testBit 0 = true then 1 else 0) + (if told.testBit 1 = true then 1 else 0) + (if told.testBit 2 = true then 1 else 0)
theorem tc_s : ∀ told, told < 8 → ∀ w, w < 3 → told.testBit w = false → tc (told ||| 2 ^ w) = tc told + 1 ∧ (told ||| 2 ^ w) < 8 := by decide
theorem tc_le (told : Nat) : tc told ≤ 3 := by
  unfold tc
  split <;> split <;> split <;> omega
/-- the draft's slots -/
def zDr (w v : gW) : Prop := zAg (fun a b => (a == 1 && b == 2) || ((a == 3 && (b == 1 || b == 2)) || a == 4)) (fun _ => false) w v
theorem zDr.rf (w : gW) : zDr w w := zAg.rf _ _ _
theorem zDr.tr {u w v : gW} (h : zDr u w) (k : zDr w v) : zDr u v := zAg.tr h k
theorem zDr.t {n : Nat} {f : Nat → Nat} {w v : gW} (h : zDr w v) (t : tpe n f w) : tpe n f v := ⟨t.1, (h.1 1 1 rfl).trans t.2.1, fun j hj => ⟨(t.2.2 j hj).1, (t.2.2 j hj).2.1, (h.1 2 j rfl).trans (t.2.2 j hj).2.2⟩⟩
theorem zDr.p {u w : gW} (h : zDr u w) (x : Int32) : zDr u (zsI w 1 2 x) := zAg.sI h x rfl
theorem zDr.d {u w : gW} (h : zDr u w) (j : Nat) (x : Int32) : zDr u (zsI w 4 j x) := zAg.sI h x rfl
theorem zDr.e {u w v : gW} (h : zE u w) (k : zDr w v) : zE u v := zAg.tr (show zAg zScrI zScrL u w from h) (zAg.wk k (fun a b q => by
  simp only [Bool.or_eq_true, Bool.and_eq_true, beq_iff_eq] at q
  rcases q with ⟨rfl, rfl⟩ | ⟨rfl, q⟩ | rfl
  · rfl
  · rcases q with q | q <;> subst q <;> rfl
  · rfl) (fun _ q => by cases q))
theorem Rd_set' {d w : Nat} (hd : d < 5) (hw : w < 3) (x : Int32) (v : gW) : f_Rd_set (nI d) (nI w) x v = some ((), zsI v 4 (3 * d + w) x) := by
  unfold f_Rd_set
  have e : nI d * (3 : Int32) + nI w = nI (3 * d + w) := by rw [show (3 : Int32) = nI 3 from rfl, pk_mul, nI_add, Nat.mul_comm]
  rw [e, zl_s, if_neg (nI_pos (by omega)), if_neg (by rw [n_le (by omega) (by omega)]; omega), if_pos (z_inbn (by omega) (by decide)), zl_s, z_ix (by omega)]
theorem Rd_trait' {d w : Nat} (hd : d < 5) (hw : w < 3) (v : gW) : f_Rd_trait (nI d) (nI w) v = some (v.1 4 (3 * d + w), v) := by
  unfold f_Rd_trait
  have e : nI d * (3 : Int32) + nI w = nI (3 * d + w) := by rw [show (3 : Int32) = nI 3 from rfl, pk_mul, nI_add, Nat.mul_comm]
  rw [e, zl_s, if_neg (nI_pos (by omega)), if_neg (by rw [n_le (by omega) (by omega)]; omega), if_pos (z_inbn (by omega) (by decide)), z_ix (by omega)]
theorem Rd_traitOf' {s : Nat} (hs : s < 256) (v : gW) : f_Rd_traitOf (nI s) v = some (if tw s = 3 then -1 else nI (tw s), v) := by
  unfold f_Rd_traitOf tw
  by_cases c1 : s = 112
  · subst c1; rw [if_neg (by decide), if_neg (by decide), if_pos rfl]; rfl
  · by_cases c2 : s = 102
    · subst c2; rw [if_pos rfl]; rfl
    · by_cases c3 : s = 108
      · subst c3; rw [if_neg (by decide), if_pos rfl]; rfl
      · rw [if_neg (by rw [n_eq (by omega) (by omega)]; exact c2), if_neg (by rw [n_eq (by omega) (by omega)]; exact c3), if_neg (by rw [n_eq (by omega) (by omega)]; exact c1), if_neg c1, if_neg c2, if_neg c3, if_pos rfl]
theorem Rd_items {n Y d : Nat} {f : Nat → Nat} (hY : Y ≤ 6) (hd : d < 5) {m : Nat} {told p : Nat} {t : Nat → Nat} {v : gW} (hm : tc told + m = 4) (h8 : told < 8) (ht : tpe n f v) (hp : v.1 1 2 = nI p) (hpn : p ≤ n) (ok : tOk Y t) (h31 : v.1 3 1 = nI Y) (hT : ∀ j, j < 3 → v.1 4 (3 * d + j) = nI (t j)) : ∃ v' : gW, f_Rd_readItems_b31 (nI d) (nI told) (nI (tc told)) v = some (bI (pIt f n Y m t told p).1, v') ∧ zDr v v' ∧ (v'.1 3 1 = v.1 3 1 ∧ ∀ j, ¬ (3 * d ≤ j ∧ j < 3 * d + 3) → v'.1 4 j = v.1 4 j) ∧ v'.1 1 2 = nI (pIt f n Y m t told p).2.1 ∧ ∀ j, j < 3 → v'.1 4 (3 * d + j) = nI ((pIt f n Y m t told p).2.2 j) := by
  have key := zfx_ind (fun _ _ _ _ => none) f_Rd_readItems_b31_s (fun m kk => ∀ told p t v, tc told + m = 4 → told < 8 → tpe n f v → v.1 1 2 = nI p → p ≤ n → tOk Y t → v.1 3 1 = nI Y → (∀ j, j < 3 → v.1 4 (3 * d + j) = nI (t j)) → ∃ v' : gW, kk (nI d) (nI told) (nI (tc told)) v = some (bI (pIt f n Y m t told p).1, v') ∧ zDr v v' ∧ (v'.1 3 1 = v.1 3 1 ∧ ∀ j, ¬ (3 * d ≤ j ∧ j < 3 * d + 3) → v'.1 4 j = v.1 4 j) ∧ v'.1 1 2 = nI (pIt f n Y m t told p).2.1 ∧ ∀ j, j < 3 → v'.1 4 (3 * d + j) = nI ((pIt f n Y m t told p).2.2 j)) (fun m kk ih told p t v hm h8 ht hp hpn ok h31 hT => by
    have tl := tc_le told
    have hs := ht.sgl p
    have h120 := ht.1
    cases m with
    | zero => omega
    | succ m =>
      unfold f_Rd_readItems_b31_s
      have q3 : ¬ (3 : Int32) < nI (tc told) := by rw [show (3 : Int32) = nI 3 from rfl, n_lt (by omega) (by omega)]; omega
      rw [if_neg q3, Tp_sign ht hp hpn, zb_s, Rd_traitOf' hs, zb_s]
      unfold pIt
      have w3 := tw_le (sg f n p)
      by_cases c1 : tw (sg f n p) = 3
      · rw [if_pos c1, if_pos rfl, if_pos c1]
        exact ⟨_, rfl, (zDr.rf v).p _, ⟨rfl, fun _ _ => rfl⟩, rfl, hT⟩
      · have l := tw_sg c1
        rw [if_neg c1, if_neg (show ¬ nI (tw (sg f n p)) = (-1 : Int32) by rw [n_m1 (by omega)]; exact id), if_neg c1, n_bit (by omega) (by omega)]
        cases c2 : told.testBit (tw (sg f n p)) with
        | true =>
          rw [if_neg bt0, if_pos rfl]
          exact ⟨_, rfl, (zDr.rf v).p _, ⟨rfl, fun _ _ => rfl⟩, rfl, hT⟩
        | false =>
          obtain ⟨s1, s2⟩ := tc_s told h8 _ (show tw (sg f n p) < 3 by omega) c2
          rw [if_pos bf0, if_neg (show ¬ false = true by decide), n_1sh (by omega), n_or, zl_s, Tp_step (ht.pl _) (pl_g _ _) l, zb_s, zsI_zsI]
          have ht1 := ht.pl (nI (sk f n p + 1))
          generalize hW : tw (sg f n p) = W at *
          have lo : f_Rd_lowOf (nI d) (nI W) (zsI v 1 2 (nI (sk f n p + 1))) = some (nI (lo3 t W), zsI v 1 2 (nI (sk f n p + 1))) := by
            unfold f_Rd_lowOf lo3
            by_cases e : W = 2
            · subst e
              rw [if_pos (show nI 2 = (2 : Int32) from rfl), if_pos rfl, show f_Rd_trait (nI d) (1 : Int32) _ = _ from Rd_trait' hd (w := 1) (by decide) _, zb_s]
              show some (v.1 4 (3 * d + 1), _) = _
              rw [hT 1 (by decide)]
            · rw [if_neg (show ¬ nI W = (2 : Int32) by rw [show (2 : Int32) = nI 2 from rfl, n_eq (by omega) (by omega)]; exact e), if_neg e]
              rfl
          have hi : f_Rd_highOf (nI d) (nI W) (zsI v 1 2 (nI (sk f n p + 1))) = some (nI (hi3 Y t W), zsI v 1 2 (nI (sk f n p + 1))) := by
            unfold f_Rd_highOf hi3
            by_cases e0 : W = 0
            · subst e0
              rw [if_pos (show nI 0 = (0 : Int32) from rfl), if_pos rfl]
              rfl
            · rw [if_neg (nI_ne0 (by omega) (by omega)), if_neg e0]
              by_cases e : W = 1
              · subst e
                rw [if_pos (show nI 1 = (1 : Int32) from rfl), if_pos rfl, show f_Rd_trait (nI d) (2 : Int32) _ = _ from Rd_trait' hd (w := 2) (by decide) _, zb_s]
                show some (v.1 4 (3 * d + 2), _) = _
                rw [hT 2 (by decide)]
              · rw [if_neg (show ¬ nI W = (1 : Int32) by rw [show (1 : Int32) = nI 1 from rfl, n_eq (by omega) (by omega)]; exact e), if_neg e]
                show some (v.1 3 1 - (1 : Int32), _) = _
                have := ok.2.2
                rw [h31, show (1 : Int32) = nI 1 from rfl, n_sub (by omega)]
          have b1 : lo3 t W < 100 := by
            have := ok
            unfold tOk at this
            unfold lo3
            split <;> omega
          have b2 : hi3 Y t W < 100 := by
            have := ok
            unfold tOk at this
            unfold hi3
            split
            · omega
            · split <;> omega
          rw [lo, zb_s, hi, zb_s, Tp_digit ht1 (pl_g _ _) (by omega) b1 b2, zb_s, zsI_zsI]
          rcases pD_c (f := f) (n := n) (lo := lo3 t W) (hi := hi3 Y t W) (p := sk f n p + 1) (by omega) with ⟨a1, a2, a3, a4⟩ | ⟨a1, a2, a3⟩
          · rw [if_pos a1, if_neg (show ¬ nI (pD f n (lo3 t W) (hi3 Y t W) (sk f n p + 1)).2.2 = (-1 : Int32) by rw [n_m1 (by omega)]; exact id), Rd_set' hd (by omega), zb_s, zl_s, n_1, if_pos a1, ← s1]
            generalize (pD f n (lo3 t W) (hi3 Y t W) (sk f n p + 1)).2.1 = P at *
            generalize hV : (pD f n (lo3 t W) (hi3 Y t W) (sk f n p + 1)).2.2 = V at *
            obtain ⟨v', r1, r2, r3, r4, r5⟩ := ih m (by omega) (told ||| 2 ^ W) P (up3 t W V) (zsI (zsI v 1 2 (nI P)) 4 (3 * d + W) (nI V)) (by omega) s2 ⟨h120, ht.2.1, ht.2.2⟩ rfl a4 (up3_ok ok hY (by omega) a2 a3) h31 (fun j hj => by
              unfold up3
              rw [zsI_g]
              by_cases e : j = W
              · rw [if_pos ⟨rfl, by omega⟩, if_pos e]
              · rw [if_neg (by omega), if_neg e]
                exact hT j hj)
            refine ⟨v', r1, (((zDr.rf v).p _).d _ _).tr r2, ⟨r3.1, fun j hj => ?_⟩, r4, r5⟩
            rw [r3.2 j hj, zsI_g, if_neg (by omega)]
            rfl
          · have nt : ¬ (pD f n (lo3 t W) (hi3 Y t W) (sk f n p + 1)).1 = true := by rw [a1]; decide
            rw [if_neg nt, if_pos rfl, if_neg nt]
            exact ⟨_, rfl, (zDr.rf v).p _, ⟨rfl, fun _ _ => rfl⟩, rfl, hT⟩) zFU m (zfu (by omega))
  exact key told p t v hm h8 ht hp hpn ok h31 hT
