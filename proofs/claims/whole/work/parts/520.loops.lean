/-! PURE: counting loops -/
def zit (T : Nat → gW → gW) : Nat → Nat → gW → gW
  | _, 0, w => w
  | j, n + 1, w => zit T (j + 1) n (T j w)
theorem zit_s (T : Nat → gW → gW) : ∀ (n j : Nat) (w : gW), zit T j (n + 1) w = T (j + n) (zit T j n w)
  | 0, _, _ => rfl
  | n + 1, j, w => by
    show zit T (j + 1) (n + 1) (T j w) = T (j + (n + 1)) (zit T (j + 1) n (T j w))
    rw [zit_s T n (j + 1) (T j w), show j + 1 + n = j + (n + 1) by omega]
/-- a loop that counts from j to N and then goes on with E -/
theorem zlp_f {α : Type} {S : (Int32 → gW → Option (α × gW)) → Int32 → gW → Option (α × gW)} {bot : Int32 → gW → Option (α × gW)} (N : Nat) (E : gW → Option (α × gW)) (T : Nat → gW → gW) (P : Nat → gW → Prop)
    (hE : ∀ (k : Int32 → gW → Option (α × gW)) (w : gW), P N w → S k (nI N) w = E w) (hT : ∀ (k : Int32 → gW → Option (α × gW)) (j : Nat) (w : gW), j < N → P j w → S k (nI j) w = k (nI (j + 1)) (T j w)) (hP : ∀ (j : Nat) (w : gW), j < N → P j w → P (j + 1) (T j w)) :
    ∀ (n j f : Nat) (w : gW), j + n = N → n < f → P j w → zfx bot S f (nI j) w = E (zit T j n w) ∧ P N (zit T j n w)
  | 0, j, f, w, hj, hf, hw => by
    obtain ⟨f', rfl⟩ : ∃ f', f = f' + 1 := ⟨f - 1, by omega⟩
    have e : j = N := by omega
    subst e
    exact ⟨by rw [zfx_s]; exact hE _ w hw, hw⟩
  | n + 1, j, f, w, hj, hf, hw => by
    obtain ⟨f', rfl⟩ : ∃ f', f = f' + 1 := ⟨f - 1, by omega⟩
    rw [zfx_s, hT _ j w (by omega) hw]
    exact zlp_f N E T P hE hT hP n (j + 1) f' (T j w) (by omega) (by omega) (hP j w (by omega) hw)
theorem zlp {α : Type} {S : (Int32 → gW → Option (α × gW)) → Int32 → gW → Option (α × gW)} {bot : Int32 → gW → Option (α × gW)} (N : Nat) (E : gW → Option (α × gW)) (T : Nat → gW → gW) (hN : N < 99999)
    (hE : ∀ (k : Int32 → gW → Option (α × gW)) (w : gW), S k (nI N) w = E w) (hT : ∀ (k : Int32 → gW → Option (α × gW)) (j : Nat) (w : gW), j < N → S k (nI j) w = k (nI (j + 1)) (T j w)) (w : gW) : zfx bot S zFU (nI 0) w = E (zit T 0 N w) :=
  (zlp_f N E T (fun _ _ => True) (fun k w _ => hE k w) (fun k j w h _ => hT k j w h) (fun _ _ _ _ => trivial) N 0 zFU w (by omega) (by show N < 100000; omega) trivial).1
theorem n_le {a b : Nat} (ha : a < 2 ^ 31) (hb : b < 2 ^ 31) : (nI a ≤ nI b) ↔ a ≤ b := by rw [i_le, i_nI ha, i_nI hb]; omega
theorem n_lt {a b : Nat} (ha : a < 2 ^ 31) (hb : b < 2 ^ 31) : (nI a < nI b) ↔ a < b := by rw [i_lt, i_nI ha, i_nI hb]; omega
theorem n_1 (j : Nat) : nI j + (1 : Int32) = nI (j + 1) := nI_add j 1
theorem n_m (a j : Nat) : nI a * nI j = nI (a * j) := pk_mul a j
def zcp1E (u : gW) : gW := zsI (zsI (zcI (zcI u 71 (va_cpy (u.1 64) (u.1 71) 0 0 30)) 72 (va_cpy (u.1 65) (u.1 72) 0 0 50)) 66 6 (u.1 59 6)) 66 7 (u.1 59 7)
def zcp1T (j : Nat) (u : gW) : gW := zsI u 70 j ((u.1 63 j) &&& 1)
theorem An_copy_loop (w : gW) : f_An_copyOf_66_59_b56 (0 : Int32) w = some ((), zcp1E (zit zcp1T 0 20 w)) := by
  unfold f_An_copyOf_66_59_b56
  refine zlp (S := f_An_copyOf_66_59_b56_s) 20 (fun u => some ((), zcp1E u)) zcp1T (by decide) (fun k w => ?_) (fun k j w hj => ?_) w
  · unfold f_An_copyOf_66_59_b56_s
    rw [if_pos (by decide), if_pos (by decide +kernel)]
    simp only [zl_s]
    rw [if_pos (by decide +kernel)]
    rfl
  · unfold f_An_copyOf_66_59_b56_s
    rw [if_neg (by rw [show (20 : Int32) = nI 20 from rfl, n_le (by decide) (by omega)]; omega), if_pos (z_inbn hj (by decide)), if_pos (z_inbn hj (by decide))]
    simp only [zl_s]
    rw [n_1, z_ix (by omega)]
    rfl
theorem zcp1_g : ∀ (n : Nat) (w : gW) (a b : Nat), (zit zcp1T 0 n w).1 a b = if a = 70 ∧ b < n then (w.1 63 b) &&& 1 else w.1 a b
  | 0, w, a, b => by rw [if_neg (by omega)]; rfl
  | n + 1, w, a, b => by
    rw [zit_s, Nat.zero_add]
    show (zsI (zit zcp1T 0 n w) 70 n (((zit zcp1T 0 n w).1 63 n) &&& 1)).1 a b = _
    rw [zsI_g, zcp1_g n w a b, zcp1_g n w 63 n, if_neg (by omega : ¬ (63 = 70 ∧ n < n))]
    by_cases h : a = 70 ∧ b = n
    · obtain ⟨rfl, rfl⟩ := h
      rw [if_pos ⟨rfl, rfl⟩, if_pos ⟨rfl, by omega⟩]
    · rw [if_neg h]
      by_cases h2 : a = 70 ∧ b < n
      · rw [if_pos h2, if_pos ⟨h2.1, by omega⟩]
      · rw [if_neg h2, if_neg (by omega)]
/-- the world after the class has laid its image -/
def zim (w : gW) : gW := zcp1E (zit zcp1T 0 20 (zcI (zcI (zcI w 67 (va_cpy (w.1 60) (w.1 67) 0 0 40)) 68 (va_cpy (w.1 61) (w.1 68) 0 0 20)) 69 (va_cpy (w.1 62) (w.1 69) 0 0 20)))
theorem An_copy (w : gW) : f_An_copyOf_66_59 w = some ((), zim w) := by
  unfold f_An_copyOf_66_59
  rw [if_pos (by decide +kernel)]
  simp only [zl_s]
  rw [if_pos (by decide +kernel), if_pos (by decide +kernel), An_copy_loop]
  rfl
