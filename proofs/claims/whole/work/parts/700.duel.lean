/-! PURE: duel -/
section
variable {u : gW}
noncomputable def yRe (u : gW) (s : Nat) (pr : Int32) (p : Nat) : Bool := @decide (yBst u s pr (p / (yO u + 1)) (p % (yO u + 1)) ∧ yBst u s pr (p % (yO u + 1)) (p / (yO u + 1))) (Classical.propDecidable _)
theorem dN {N i j : Nat} (h : j < N) : (i * N + j) / N = i ∧ (i * N + j) % N = j := by
  have h0 : 0 < N := by omega
  rw [Nat.mul_comm i]
  exact ⟨by rw [Nat.mul_add_div h0, Nat.div_eq_of_lt h]; omega, by rw [Nat.mul_add_mod, Nat.mod_eq_of_lt h]⟩
theorem yRe_b (s : Nat) (pr : Int32) {i j : Nat} (hj : j ≤ yO u) : yRe u s pr (i * (yO u + 1) + j) = true ↔ yBst u s pr i j ∧ yBst u s pr j i := by
  obtain ⟨a, b⟩ := dN (i := i) (show j < yO u + 1 by omega)
  unfold yRe
  rw [a, b]
  exact @decide_eq_true_iff _ (Classical.propDecidable _)
/-- the place with that number -/
def fd (R : Nat → Bool) (a : Int32) : Nat → Option Nat
  | 0 => none
  | n + 1 => match fd R a n with
    | some p => some p
    | none => if R n = true ∧ nI (fb_ct R n) = a then some n else none
theorem fd_m {R : Nat → Bool} {a : Int32} {n p : Nat} (h : fd R a n = some p) : ∀ m, fd R a (n + m) = some p
  | 0 => h
  | m + 1 => by
    show (match fd R a (n + m) with
      | some p => some p
      | none => if R (n + m) = true ∧ nI (fb_ct R (n + m)) = a then some (n + m) else none) = some p
    rw [fd_m h m]
theorem fd_s {R : Nat → Bool} {a : Int32} {n : Nat} (h : fd R a n = none) : fd R a (n + 1) = if R n = true ∧ nI (fb_ct R n) = a then some n else none := by
  show (match fd R a n with
    | some p => some p
    | none => if R n = true ∧ nI (fb_ct R n) = a then some n else none) = _
  rw [h]
noncomputable def rDu (u : gW) (s : Nat) (pr a : Int32) : Int32 := match fd (yRe u s pr) a ((yO u + 1) * (yO u + 1)) with
  | some p => nI (10 * cod u (p / (yO u + 1)) + cod u (p % (yO u + 1)))
  | none => if a = -1 then nI (fb_ct (yRe u s pr) ((yO u + 1) * (yO u + 1))) else -1
theorem rDu_s {s : Nat} {pr a : Int32} {i j : Nat} (hi : i ≤ yO u) (hj : j ≤ yO u) (hn : fd (yRe u s pr) a (i * (yO u + 1) + j) = none) (hr : yRe u s pr (i * (yO u + 1) + j) = true) (ha : nI (fb_ct (yRe u s pr) (i * (yO u + 1) + j)) = a) : rDu u s pr a = nI (10 * cod u i + cod u j) := by
  have e : fd (yRe u s pr) a (i * (yO u + 1) + j + 1) = some (i * (yO u + 1) + j) := by rw [fd_s hn, if_pos ⟨hr, ha⟩]
  have hle : (i + 1) * (yO u + 1) ≤ (yO u + 1) * (yO u + 1) := Nat.mul_le_mul_right _ (by omega)
  rw [Nat.succ_mul] at hle
  have e2 := fd_m e ((yO u + 1) * (yO u + 1) - (i * (yO u + 1) + j + 1))
  rw [show i * (yO u + 1) + j + 1 + ((yO u + 1) * (yO u + 1) - (i * (yO u + 1) + j + 1)) = (yO u + 1) * (yO u + 1) by omega] at e2
  obtain ⟨a1, a2⟩ := dN (i := i) (show j < yO u + 1 by omega)
  unfold rDu
  rw [e2]
  dsimp only
  rw [a1, a2]
theorem Ga_duel (K : zK u) (G : jGai u) {w : gW} (h : zE u w) {s : Nat} {pr : Int32} (T : GT u s w) (hp : w.1 105 3 = pr) (a : Int32) : f_Ga_restAt a w = some (rDu u s pr a, w) := by
  have h8 := K.O8
  have key := zfx_ind (fun _ _ _ _ => none) f_Ga_restAt_b4_s (fun m kk => ∀ i, i + m = yO u + 1 → fd (yRe u s pr) a (i * (yO u + 1)) = none → kk a (nI (fb_ct (yRe u s pr) (i * (yO u + 1)))) (nI i) w = some (rDu u s pr a, w)) (fun m kk ih i hi hn => by
    unfold f_Ga_restAt_b4_s
    rw [Oa_size' K h.k, zb_s]
    cases m with
    | zero =>
      have ei : i = yO u + 1 := by omega
      rw [if_pos (by rw [n_lt (by omega) (by omega)]; omega)]
      unfold rDu
      rw [ei] at hn ⊢
      rw [hn]
      dsimp only
      by_cases c : a = -1
      · rw [if_pos c, if_pos c]
      · rw [if_neg c, if_neg c]
    | succ m =>
      rw [if_neg (by rw [n_lt (by omega) (by omega)]; omega)]
      have inner := zfx_ind (fun _ _ _ _ _ => none) (f_Ga_restAt_b18_s kk) (fun m2 k2 => ∀ j, j + m2 = yO u + 1 → fd (yRe u s pr) a (i * (yO u + 1) + j) = none → k2 a (nI (fb_ct (yRe u s pr) (i * (yO u + 1) + j))) (nI i) (nI j) w = some (rDu u s pr a, w)) (fun m2 k2 ih2 j hj hn => by
        unfold f_Ga_restAt_b18_s
        rw [Oa_size' K h.k, zb_s]
        cases m2 with
        | zero =>
          rw [if_pos (by rw [n_lt (by omega) (by omega)]; omega), zl_s, n_1]
          have ej : j = yO u + 1 := by omega
          subst ej
          rw [← Nat.succ_mul] at hn ⊢
          exact ih m (by omega) (i + 1) (by omega) hn
        | succ m2 =>
          have hi2 : i ≤ yO u := by omega
          have hj2 : j ≤ yO u := by omega
          have hb := yRe_b (u := u) s pr (i := i) hj2
          have es := fd_s hn
          have ec : fb_ct (yRe u s pr) (i * (yO u + 1) + j + 1) = fb_ct (yRe u s pr) (i * (yO u + 1) + j) + if yRe u s pr (i * (yO u + 1) + j) = true then 1 else 0 := fb_ct_succ _ _
          rw [if_neg (by rw [n_lt (by omega) (by omega)]; omega)]
          have no : ¬ yRe u s pr (i * (yO u + 1) + j) = true → f_Ga_restAt_b54 kk k2 a (nI (fb_ct (yRe u s pr) (i * (yO u + 1) + j))) (nI i) (nI j) w = some (rDu u s pr a, w) := by
            intro z
            unfold f_Ga_restAt_b54 f_Ga_restAt_b55
            rw [if_pos rfl]
            unfold f_Ga_restAt_b83
            rw [if_pos rfl]
            unfold f_Ga_restAt_b94
            rw [if_neg z] at ec
            rw [show (0 : Int32) = nI 0 from rfl, nI_add, zl_s, zl_s, n_1, ← ec]
            exact ih2 m2 (by omega) (j + 1) (by omega) (by rw [← Nat.add_assoc, es, if_neg (fun y => z y.1)])
          obtain ⟨b1, e1, e2⟩ := Ga_best K G h T hp hi2 hj2
          obtain ⟨b2, f1, f2⟩ := Ga_best K G h T hp hj2 hi2
          rw [e1, zb_s]
          cases b1 with
          | false => rw [if_pos bf0]; exact no (fun z => by have := e2.mpr (hb.mp z).1; cases this)
          | true =>
            rw [if_neg bt0, f1, zb_s]
            cases b2 with
            | false => rw [if_pos bf0]; exact no (fun z => by have := f2.mpr (hb.mp z).2; cases this)
            | true =>
              have hr := hb.mpr ⟨e2.mp rfl, f2.mp rfl⟩
              rw [if_neg bt0]
              unfold f_Ga_restAt_b55
              rw [if_neg (show ¬ (1 : Int32) = 0 by decide)]
              by_cases c : nI (fb_ct (yRe u s pr) (i * (yO u + 1) + j)) = a
              · rw [if_pos c, Ga_code K h hi2, zb_s, Ga_code K h hj2, zb_s, show (10 : Int32) = nI 10 from rfl, pk_mul, nI_add, rDu_s hi2 hj2 hn hr c]
              · rw [if_neg c]
                unfold f_Ga_restAt_b83
                rw [if_neg (show ¬ (1 : Int32) = 0 by decide)]
                unfold f_Ga_restAt_b94
                rw [if_pos hr] at ec
                rw [n_1, zl_s, zl_s, n_1, ← ec]
                exact ih2 m2 (by omega) (j + 1) (by omega) (by rw [← Nat.add_assoc, es, if_neg (fun y => c y.2)])) zFU (yO u + 1) (zfu (by omega))
      exact inner 0 (by omega) hn) zFU (yO u + 1) (zfu (by omega))
  unfold f_Ga_restAt
  have k0 := key 0 (by omega) (by rw [Nat.zero_mul]; rfl)
  rw [Nat.zero_mul] at k0
  exact k0
end
