/-! PURE: back over the invariant -/
def zcq1E (u : gW) : gW := zsI (zsI (zcI (zcI u 64 (va_cpy (u.1 71) (u.1 64) 0 0 30)) 65 (va_cpy (u.1 72) (u.1 65) 0 0 50)) 59 6 (u.1 66 6)) 59 7 (u.1 66 7)
def zcq1T (j : Nat) (u : gW) : gW := zsI u 63 j ((u.1 70 j) &&& 1)
theorem An_back_loop (w : gW) : f_An_copyOf_59_66_b56 (0 : Int32) w = some ((), zcq1E (zit zcq1T 0 20 w)) := by
  unfold f_An_copyOf_59_66_b56
  refine zlp (S := f_An_copyOf_59_66_b56_s) 20 (fun u => some ((), zcq1E u)) zcq1T (by decide) (fun k w => ?_) (fun k j w hj => ?_) w
  · unfold f_An_copyOf_59_66_b56_s
    rw [if_pos (by decide), if_pos (by decide +kernel)]
    simp only [zl_s]
    rw [if_pos (by decide +kernel)]
    rfl
  · unfold f_An_copyOf_59_66_b56_s
    rw [if_neg (by rw [show (20 : Int32) = nI 20 from rfl, n_le (by decide) (by omega)]; omega), if_pos (z_inbn hj (by decide)), if_pos (z_inbn hj (by decide))]
    simp only [zl_s]
    rw [n_1, z_ix (by omega)]
    rfl
theorem zcq1_g : ∀ (n : Nat) (w : gW) (a b : Nat), (zit zcq1T 0 n w).1 a b = if a = 63 ∧ b < n then (w.1 70 b) &&& 1 else w.1 a b
  | 0, w, a, b => by rw [if_neg (by omega)]; rfl
  | n + 1, w, a, b => by
    rw [zit_s, Nat.zero_add]
    show (zsI (zit zcq1T 0 n w) 63 n (((zit zcq1T 0 n w).1 70 n) &&& 1)).1 a b = _
    rw [zsI_g, zcq1_g n w a b, zcq1_g n w 70 n, if_neg (by omega : ¬ (70 = 63 ∧ n < n))]
    by_cases h : a = 63 ∧ b = n
    · obtain ⟨rfl, rfl⟩ := h
      rw [if_pos ⟨rfl, rfl⟩, if_pos ⟨rfl, by omega⟩]
    · rw [if_neg h]
      by_cases h2 : a = 63 ∧ b < n
      · rw [if_pos h2, if_pos ⟨h2.1, by omega⟩]
      · rw [if_neg h2, if_neg (by omega)]
/-- the world after the class has gone back -/
def zbk (w : gW) : gW := zcq1E (zit zcq1T 0 20 (zcI (zcI (zcI w 60 (va_cpy (w.1 67) (w.1 60) 0 0 40)) 61 (va_cpy (w.1 68) (w.1 61) 0 0 20)) 62 (va_cpy (w.1 69) (w.1 62) 0 0 20)))
theorem An_back (w : gW) : f_An_copyOf_59_66 w = some ((), zbk w) := by
  unfold f_An_copyOf_59_66
  rw [if_pos (by decide +kernel)]
  simp only [zl_s]
  rw [if_pos (by decide +kernel), if_pos (by decide +kernel), An_back_loop]
  rfl
def zmb1 (j : Nat) (u : gW) : gW := zsI (zsI (zsI (zsI u 119 j (u.1 132 (4 * j))) 120 j (u.1 132 (4 * j + 1))) 121 j (u.1 132 (4 * j + 2))) 122 j (u.1 132 (4 * j + 3))
def zmb2 (j : Nat) (u : gW) : gW := zsI (zsI (zsI u 123 j (u.1 132 (40 + 2 * j))) 124 j (u.1 132 (40 + 2 * j + 1))) 125 j ((u.1 133 j) &&& 1)
def zmb3 (j : Nat) (u : gW) : gW := zsI u 129 j (u.1 132 (80 + j))
def zmb4 (j : Nat) (u : gW) : gW := zsI u 126 j ((u.1 134 j) &&& 1)
def zmbE (w : gW) : gW := zsI (zsI (zsI w 107 35 (w.1 107 55)) 107 36 (w.1 107 56)) 107 37 (w.1 107 57)
theorem M_back4 (w : gW) : f_M_back_b183 (0 : Int32) w = some ((zit zmb4 0 30 w).1 107 57, zmbE (zit zmb4 0 30 w)) := by
  unfold f_M_back_b183
  refine zlp (S := f_M_back_b183_s) 30 (fun u => some (u.1 107 57, zmbE u)) zmb4 (by decide) (fun k w => ?_) (fun k j w hj => ?_) w
  · unfold f_M_back_b183_s
    rw [if_pos (by decide)]
    rfl
  · unfold f_M_back_b183_s
    rw [if_neg (by rw [show (30 : Int32) = nI 30 from rfl, n_le (by decide) (by omega)]; omega), if_pos (z_inbn hj (by decide)), if_pos (z_inbn hj (by decide))]
    simp only [zl_s]
    rw [n_1, z_ix (by omega)]
    rfl
theorem M_back3 (w : gW) : f_M_back_b154 (0 : Int32) w = f_M_back_b183 (0 : Int32) (zit zmb3 0 50 w) := by
  unfold f_M_back_b154
  refine zlp (S := f_M_back_b154_s) 50 (fun u => f_M_back_b183 (0 : Int32) u) zmb3 (by decide) (fun k w => ?_) (fun k j w hj => ?_) w
  · unfold f_M_back_b154_s
    rw [if_pos (by decide)]
  · unfold f_M_back_b154_s
    rw [if_neg (by rw [show (50 : Int32) = nI 50 from rfl, n_le (by decide) (by omega)]; omega), n_80, if_pos (z_inbn (by omega) (by decide)), if_pos (z_inbn hj (by decide))]
    simp only [zl_s]
    rw [n_1, z_ix (n := j) (by omega), z_ix (n := 80 + j) (by omega)]
    rfl
theorem M_back2 (w : gW) : f_M_back_b92 (0 : Int32) w = f_M_back_b154 (0 : Int32) (zit zmb2 0 20 w) := by
  unfold f_M_back_b92
  refine zlp (S := f_M_back_b92_s) 20 (fun u => f_M_back_b154 (0 : Int32) u) zmb2 (by decide) (fun k w => ?_) (fun k j w hj => ?_) w
  · unfold f_M_back_b92_s
    rw [if_pos (by decide)]
  · unfold f_M_back_b92_s
    rw [if_neg (by rw [show (20 : Int32) = nI 20 from rfl, n_le (by decide) (by omega)]; omega)]
    simp only [n_40, n_1, zl_s]
    simp only [if_pos (show inb (nI j) 20 from z_inbn hj (by decide)), if_pos (show inb (nI (40 + 2 * j)) 130 from z_inbn (by omega) (by decide)), if_pos (show inb (nI (40 + 2 * j + 1)) 130 from z_inbn (by omega) (by decide))]
    rw [z_ix (n := j) (by omega), z_ix (n := 40 + 2 * j) (by omega), z_ix (n := 40 + 2 * j + 1) (by omega)]
    rfl
theorem M_back1 (w : gW) : f_M_back_b16 (0 : Int32) w = f_M_back_b92 (0 : Int32) (zit zmb1 0 10 w) := by
  unfold f_M_back_b16
  refine zlp (S := f_M_back_b16_s) 10 (fun u => f_M_back_b92 (0 : Int32) u) zmb1 (by decide) (fun k w => ?_) (fun k j w hj => ?_) w
  · unfold f_M_back_b16_s
    rw [if_pos (by decide)]
  · unfold f_M_back_b16_s
    rw [if_neg (by rw [show (10 : Int32) = nI 10 from rfl, n_le (by decide) (by omega)]; omega)]
    simp only [n_4, n_1, n_2, n_3, zl_s]
    simp only [if_pos (show inb (nI j) 10 from z_inbn hj (by decide)), if_pos (show inb (nI (4 * j)) 130 from z_inbn (by omega) (by decide)), if_pos (show inb (nI (4 * j + 1)) 130 from z_inbn (by omega) (by decide)), if_pos (show inb (nI (4 * j + 2)) 130 from z_inbn (by omega) (by decide)), if_pos (show inb (nI (4 * j + 3)) 130 from z_inbn (by omega) (by decide))]
    rw [z_ix (n := j) (by omega), z_ix (n := 4 * j) (by omega), z_ix (n := 4 * j + 1) (by omega), z_ix (n := 4 * j + 2) (by omega), z_ix (n := 4 * j + 3) (by omega)]
    rfl
def zmb (w : gW) : gW := zit zmb4 0 30 (zit zmb3 0 50 (zit zmb2 0 20 (zit zmb1 0 10 w)))
theorem M_back (w : gW) : f_M_back w = if w.1 107 58 = 0 then some (-1, zsI w 107 0 0) else some ((zmb (zsI w 107 0 0)).1 107 57, zmbE (zmb (zsI w 107 0 0))) := by
  unfold f_M_back
  simp only [zl_s]
  rw [z107 _ _ _ (by decide), M_back1, M_back2, M_back3, M_back4]
  rfl
theorem zmb1_g : ∀ (n : Nat) (w : gW) (a b : Nat), (zit zmb1 0 n w).1 a b = if (119 ≤ a ∧ a ≤ 122) ∧ b < n then w.1 132 (4 * b + (a - 119)) else w.1 a b
  | 0, w, a, b => by rw [if_neg (by omega)]; rfl
  | n + 1, w, a, b => by
    rw [zit_s, Nat.zero_add]
    have h0 : ∀ c, (zit zmb1 0 n w).1 132 c = w.1 132 c := fun c => by rw [zmb1_g n w 132 c, if_neg (by omega)]
    have hab := zmb1_g n w a b
    generalize zit zmb1 0 n w = X at h0 hab ⊢
    unfold zmb1
    simp only [zsI_g, h0, hab]
    by_cases e : b = n
    · subst e
      by_cases a1 : a = 122
      · subst a1; rw [if_pos ⟨rfl, rfl⟩, if_pos (by omega)]
      · rw [if_neg (by omega)]
        by_cases a2 : a = 121
        · subst a2; rw [if_pos ⟨rfl, rfl⟩, if_pos (by omega)]
        · rw [if_neg (by omega)]
          by_cases a3 : a = 120
          · subst a3; rw [if_pos ⟨rfl, rfl⟩, if_pos (by omega)]
          · rw [if_neg (by omega)]
            by_cases a4 : a = 119
            · subst a4; rw [if_pos ⟨rfl, rfl⟩, if_pos (by omega)]; rfl
            · rw [if_neg (by omega), if_neg (by omega), if_neg (by omega)]
    · rw [if_neg (by omega), if_neg (by omega), if_neg (by omega), if_neg (by omega)]
      by_cases h : (119 ≤ a ∧ a ≤ 122) ∧ b < n
      · rw [if_pos h, if_pos (by omega)]
      · rw [if_neg h, if_neg (by omega)]
theorem zmb2_g : ∀ (n : Nat) (w : gW) (a b : Nat), (zit zmb2 0 n w).1 a b = if (123 ≤ a ∧ a ≤ 124) ∧ b < n then w.1 132 (40 + 2 * b + (a - 123)) else if a = 125 ∧ b < n then (w.1 133 b) &&& 1 else w.1 a b
  | 0, w, a, b => by rw [if_neg (by omega), if_neg (by omega)]; rfl
  | n + 1, w, a, b => by
    rw [zit_s, Nat.zero_add]
    have h0 : ∀ c, (zit zmb2 0 n w).1 132 c = w.1 132 c := fun c => by rw [zmb2_g n w 132 c, if_neg (by omega), if_neg (by omega)]
    have h1 : ∀ c, (zit zmb2 0 n w).1 133 c = w.1 133 c := fun c => by rw [zmb2_g n w 133 c, if_neg (by omega), if_neg (by omega)]
    have hab := zmb2_g n w a b
    generalize zit zmb2 0 n w = X at h0 h1 hab ⊢
    unfold zmb2
    simp only [zsI_g, h0, h1, hab]
    by_cases e : b = n
    · subst e
      by_cases a1 : a = 125
      · subst a1; rw [if_pos ⟨rfl, rfl⟩, if_neg (by omega), if_pos ⟨rfl, by omega⟩]
      · rw [if_neg (by omega)]
        by_cases a2 : a = 124
        · subst a2; rw [if_pos ⟨rfl, rfl⟩, if_pos (by omega)]
        · rw [if_neg (by omega)]
          by_cases a3 : a = 123
          · subst a3; rw [if_pos ⟨rfl, rfl⟩, if_pos (by omega)]; rfl
          · rw [if_neg (by omega), if_neg (by omega), if_neg (by omega), if_neg (by omega), if_neg (by omega)]
    · rw [if_neg (by omega), if_neg (by omega), if_neg (by omega)]
      by_cases h : (123 ≤ a ∧ a ≤ 124) ∧ b < n
      · rw [if_pos h, if_pos (by omega)]
      · rw [if_neg h]
        have h3 : ¬ ((123 ≤ a ∧ a ≤ 124) ∧ b < n + 1) := by omega
        by_cases h2 : a = 125 ∧ b < n
        · rw [if_pos h2, if_neg h3, if_pos (by omega)]
        · rw [if_neg h2, if_neg h3, if_neg (by omega)]
theorem zmb3_g : ∀ (n : Nat) (w : gW) (a b : Nat), (zit zmb3 0 n w).1 a b = if a = 129 ∧ b < n then w.1 132 (80 + b) else w.1 a b
  | 0, w, a, b => by rw [if_neg (by omega)]; rfl
  | n + 1, w, a, b => by
    rw [zit_s, Nat.zero_add]
    have hab := zmb3_g n w a b
    have h0 := zmb3_g n w 132 (80 + n)
    rw [if_neg (by omega : ¬ (132 = 129 ∧ 80 + n < n))] at h0
    generalize zit zmb3 0 n w = X at h0 hab ⊢
    unfold zmb3
    rw [zsI_g, hab, h0]
    by_cases h : a = 129 ∧ b = n
    · obtain ⟨rfl, rfl⟩ := h
      rw [if_pos ⟨rfl, rfl⟩, if_pos ⟨rfl, by omega⟩]
    · rw [if_neg h]
      by_cases h2 : a = 129 ∧ b < n
      · rw [if_pos h2, if_pos ⟨h2.1, by omega⟩]
      · rw [if_neg h2, if_neg (by omega)]
theorem zmb4_g : ∀ (n : Nat) (w : gW) (a b : Nat), (zit zmb4 0 n w).1 a b = if a = 126 ∧ b < n then (w.1 134 b) &&& 1 else w.1 a b
  | 0, w, a, b => by rw [if_neg (by omega)]; rfl
  | n + 1, w, a, b => by
    rw [zit_s, Nat.zero_add]
    have hab := zmb4_g n w a b
    have h0 := zmb4_g n w 134 n
    rw [if_neg (by omega : ¬ (134 = 126 ∧ n < n))] at h0
    generalize zit zmb4 0 n w = X at h0 hab ⊢
    unfold zmb4
    rw [zsI_g, hab, h0]
    by_cases h : a = 126 ∧ b = n
    · obtain ⟨rfl, rfl⟩ := h
      rw [if_pos ⟨rfl, rfl⟩, if_pos ⟨rfl, by omega⟩]
    · rw [if_neg h]
      by_cases h2 : a = 126 ∧ b < n
      · rw [if_pos h2, if_pos ⟨h2.1, by omega⟩]
      · rw [if_neg h2, if_neg (by omega)]
section
variable {w : gW}
theorem zbk_o {a b : Nat} (h : ¬ (59 ≤ a ∧ a ≤ 65)) : (zbk w).1 a b = w.1 a b := by
  unfold zbk zcq1E
  simp only [zsI_g, zcI_g, zcq1_g]
  rw [if_neg (by omega), if_neg (by omega), if_neg (by omega), if_neg (by omega), if_neg (by omega), if_neg (by omega), if_neg (by omega), if_neg (by omega)]
theorem zbk_59 : (zbk w).1 59 6 = w.1 66 6 ∧ (zbk w).1 59 7 = w.1 66 7 := by
  unfold zbk zcq1E
  constructor <;> simp [zsI_g, zcI_g, zcq1_g]
theorem zbk_60 {j : Nat} (h : j < 40) : (zbk w).1 60 j = w.1 67 j := by
  unfold zbk zcq1E
  simp [zsI_g, zcI_g, zcq1_g]
  rw [pk_cpy_in (Nat.zero_le _) (by omega), Nat.zero_add, Nat.sub_zero]
theorem zbk_61 {j : Nat} (h : j < 20) : (zbk w).1 61 j = w.1 68 j := by
  unfold zbk zcq1E
  simp [zsI_g, zcI_g, zcq1_g]
  rw [pk_cpy_in (Nat.zero_le _) (by omega), Nat.zero_add, Nat.sub_zero]
theorem zbk_62 {j : Nat} (h : j < 20) : (zbk w).1 62 j = w.1 69 j := by
  unfold zbk zcq1E
  simp [zsI_g, zcI_g, zcq1_g]
  rw [pk_cpy_in (Nat.zero_le _) (by omega), Nat.zero_add, Nat.sub_zero]
theorem zbk_63 {j : Nat} (h : j < 20) : (zbk w).1 63 j = (w.1 70 j) &&& 1 := by
  unfold zbk zcq1E
  simp [zsI_g, zcI_g, zcq1_g, h]
theorem zbk_64 {j : Nat} (h : j < 30) : (zbk w).1 64 j = w.1 71 j := by
  unfold zbk zcq1E
  simp [zsI_g, zcI_g, zcq1_g]
  rw [pk_cpy_in (Nat.zero_le _) (by omega), Nat.zero_add, Nat.sub_zero]
  rw [zcq1_g, if_neg (by omega), zcI_g, if_neg (by omega), zcI_g, if_neg (by omega), zcI_g, if_neg (by omega)]
theorem zbk_65 {j : Nat} (h : j < 50) : (zbk w).1 65 j = w.1 72 j := by
  unfold zbk zcq1E
  simp [zsI_g, zcI_g, zcq1_g]
  rw [pk_cpy_in (Nat.zero_le _) (by omega), Nat.zero_add, Nat.sub_zero]
  rw [zcq1_g, if_neg (by omega), zcI_g, if_neg (by omega), zcI_g, if_neg (by omega), zcI_g, if_neg (by omega)]
theorem zbk_2 : (zbk w).2 = w.2 := by
  unfold zbk zcq1E
  generalize hX : zcI (zcI (zcI w 60 (va_cpy (w.1 67) (w.1 60) 0 0 40)) 61 (va_cpy (w.1 68) (w.1 61) 0 0 20)) 62 (va_cpy (w.1 69) (w.1 62) 0 0 20) = X
  have e := zit_2 zcq1T (fun _ _ => rfl) 20 0 X
  have e2 : X.2 = w.2 := by rw [← hX]; rfl
  rw [← e2, ← e]
  rfl
theorem zmb_o {a b : Nat} (h : ¬ (119 ≤ a ∧ a ≤ 126)) (h2 : a ≠ 129) : (zmb w).1 a b = w.1 a b := by
  unfold zmb
  rw [zmb4_g, if_neg (by omega), zmb3_g, if_neg (by omega), zmb2_g, if_neg (by omega), if_neg (by omega), zmb1_g, if_neg (by omega)]
theorem zmb_119 {i c : Nat} (hi : i < 10) (hc : c < 4) : (zmb w).1 (119 + c) i = w.1 132 (4 * i + c) := by
  unfold zmb
  rw [zmb4_g, if_neg (by omega), zmb3_g, if_neg (by omega), zmb2_g, if_neg (by omega), if_neg (by omega), zmb1_g, if_pos (by omega), show 119 + c - 119 = c by omega]
theorem zmb_123 {i c : Nat} (hi : i < 20) (hc : c < 2) : (zmb w).1 (123 + c) i = w.1 132 (40 + 2 * i + c) := by
  unfold zmb
  rw [zmb4_g, if_neg (by omega), zmb3_g, if_neg (by omega), zmb2_g, if_pos (by omega), show 123 + c - 123 = c by omega, zmb1_g, if_neg (by omega)]
theorem zmb_125 {i : Nat} (hi : i < 20) : (zmb w).1 125 i = (w.1 133 i) &&& 1 := by
  unfold zmb
  rw [zmb4_g, if_neg (by omega), zmb3_g, if_neg (by omega), zmb2_g, if_neg (by omega), if_pos ⟨rfl, hi⟩, zmb1_g, if_neg (by omega)]
theorem zmb_129 {j : Nat} (hj : j < 50) : (zmb w).1 129 j = w.1 132 (80 + j) := by
  unfold zmb
  rw [zmb4_g, if_neg (by omega), zmb3_g, if_pos ⟨rfl, hj⟩, zmb2_g, if_neg (by omega), if_neg (by omega), zmb1_g, if_neg (by omega)]
theorem zmb_126 {j : Nat} (hj : j < 30) : (zmb w).1 126 j = (w.1 134 j) &&& 1 := by
  unfold zmb
  rw [zmb4_g, if_pos ⟨rfl, hj⟩, zmb3_g, if_neg (by omega), zmb2_g, if_neg (by omega), if_neg (by omega), zmb1_g, if_neg (by omega)]
theorem zmbE_o {X : gW} {a b : Nat} (h : ¬ (a = 107 ∧ (b = 35 ∨ b = 36 ∨ b = 37))) : (zmbE X).1 a b = X.1 a b := by
  unfold zmbE
  rw [zsI_g, if_neg (by omega), zsI_g, if_neg (by omega), zsI_g, if_neg (by omega)]
theorem zmbE_35 (X : gW) : (zmbE X).1 107 35 = X.1 107 55 ∧ (zmbE X).1 107 36 = X.1 107 56 ∧ (zmbE X).1 107 37 = X.1 107 57 := ⟨rfl, rfl, rfl⟩
theorem zmb_1 (X Y : gW) (h : X.1 = Y.1) : (zmb X).1 = (zmb Y).1 := by
  funext a b
  unfold zmb
  simp only [zmb4_g, zmb3_g, zmb2_g, zmb1_g, h]
/-- the ints of the world after all -/
def bkW (w : gW) : gW := zmbE (zmb (zsI (zbk w) 107 0 0))
theorem bkW_o {a b : Nat} (h1 : ¬ (59 ≤ a ∧ a ≤ 65)) (h2 : ¬ (119 ≤ a ∧ a ≤ 126)) (h3 : a ≠ 129) (h4 : ¬ (a = 107 ∧ (b = 0 ∨ b = 35 ∨ b = 36 ∨ b = 37))) : (bkW w).1 a b = w.1 a b := by
  unfold bkW
  rw [zmbE_o (by omega), zmb_o h2 h3, zsI_g, if_neg (by omega), zbk_o h1]
theorem bkW_c {a b : Nat} (h1 : a < 107) : (bkW w).1 a b = (zbk w).1 a b := by
  unfold bkW
  rw [zmbE_o (by omega), zmb_o (by omega) (by omega), zsI_g, if_neg (by omega)]
theorem bkW_m {a b : Nat} (h1 : 108 ≤ a) : (bkW w).1 a b = (zmb (zsI (zbk w) 107 0 0)).1 a b := by
  unfold bkW
  rw [zmbE_o (by omega)]
theorem bk_pre {a b : Nat} (h1 : ¬ (59 ≤ a ∧ a ≤ 65)) (h3 : ¬ (a = 107 ∧ b = 0)) : (zsI (zbk w) 107 0 0).1 a b = w.1 a b := by
  rw [zsI_g, if_neg h3, zbk_o h1]
theorem bkW_107 : (bkW w).1 107 35 = w.1 107 55 ∧ (bkW w).1 107 36 = w.1 107 56 ∧ (bkW w).1 107 37 = w.1 107 57 := by
  unfold bkW
  rw [(zmbE_35 _).1, (zmbE_35 _).2.1, (zmbE_35 _).2.2, zmb_o (by omega) (by omega), zmb_o (by omega) (by omega), zmb_o (by omega) (by omega), bk_pre (by omega) (by omega), bk_pre (by omega) (by omega), bk_pre (by omega) (by omega)]
  exact ⟨rfl, rfl, rfl⟩
theorem zmb_2 : (zmb w).2 = w.2 := by
  unfold zmb
  rw [zit_2 zmb4 (fun _ _ => rfl), zit_2 zmb3 (fun _ _ => rfl), zit_2 zmb2 (fun _ _ => rfl), zit_2 zmb1 (fun _ _ => rfl)]
theorem zmbE_2 (X : gW) : (zmbE X).2 = X.2 := rfl
theorem bkW_2 : (bkW w).2 = w.2 := by
  unfold bkW
  rw [zmbE_2, zmb_2, zsI_l, zbk_2]
theorem bkW_lo : zLO w (bkW w) := by
  refine ⟨fun a b h => ?_, fun a b _ => by rw [bkW_2]⟩
  have n1 : ¬ (59 ≤ a ∧ a ≤ 65) := fun z => by
    have e : decide (59 ≤ a ∧ a ≤ 72) = true := decide_eq_true (by omega)
    unfold recm at h
    rw [e] at h
    simp at h
  have n2 : ¬ (119 ≤ a ∧ a ≤ 134) := fun z => by
    have e : decide (119 ≤ a ∧ a ≤ 134) = true := decide_eq_true (by omega)
    unfold recm at h
    rw [e] at h
    simp at h
  have n3 : ¬ (a = 107 ∧ (b = 0 ∨ b = 35 ∨ b = 36 ∨ b = 37)) := fun z => by
    obtain ⟨rfl, z⟩ := z
    rcases z with z | z | z | z <;> subst z <;> cases h
  exact bkW_o n1 (by omega) (by omega) n3
theorem t_back (J : zJ w) : ∃ (r : Int32) (w1 w2 : gW), f_X_back w = some (r, w1) ∧ f_M_back w1 = some (r, w2) ∧ zJ w2 := by
  obtain ⟨K, R, C, T, G, M⟩ := J
  have J0 : zJ w := ⟨K, R, C, T, G, M⟩
  rcases M with ⟨m1, m2⟩ | ⟨⟨m1, m2⟩, h0, ns, nf, ⟨hns, hnf⟩, ⟨a1, a2⟩, ⟨b1, b2, b3⟩, s1, f1, c1, w1⟩
  · refine ⟨-1, w, zsI w 107 0 0, ?_, ?_, zJ_E (zE.rf w).m0 J0⟩
    · unfold f_X_back
      rw [m1, if_pos rfl]
    · rw [M_back, m2, if_pos rfl]
  · have l := bkW_lo (w := w)
    have hD : yD (bkW w) = yD w := yD_l l
    have eS : yS (bkW w) = ns := by
      unfold yS
      rw [bkW_107.1, b1]
      exact z_ix (by omega)
    have eF : yF (bkW w) = nf := by
      unfold yF
      rw [bkW_107.2.1, b2]
      exact z_ix (by omega)
    have N : jNum (bkW w) := by
      unfold jNum jC
      rw [eS, eF, yD_l l, yY_l l, yO_l l]
      have n := K.1
      unfold jNum jC at n
      refine ⟨⟨⟨n.1.1.1, n.1.1.2.1, n.1.1.2.2.1, hns, hnf⟩, ⟨?_, ?_⟩, ⟨?_, ?_⟩, ⟨?_, ?_⟩, ⟨?_, ?_⟩, ⟨?_, ?_⟩, ?_⟩, Or.inr ?_⟩
      · rw [l.1 19 5 rfl]; exact n.1.2.1.1
      · rw [l.1 107 21 rfl]; exact n.1.2.1.2
      · rw [l.1 19 4 rfl]; exact n.1.2.2.1.1
      · rw [l.1 107 22 rfl]; exact n.1.2.2.1.2
      · rw [l.1 5 4 rfl]; exact n.1.2.2.2.1.1
      · rw [l.1 107 6 rfl]; exact n.1.2.2.2.1.2
      · rw [bkW_c (by omega), zbk_59.1]; exact a1
      · rw [bkW_107.1]; exact b1
      · rw [bkW_c (by omega), zbk_59.2]; exact a2
      · rw [bkW_107.2.1]; exact b2
      · rw [bkW_107.2.2]; exact b3
      · rcases n.2 with z | z
        · omega
        · exact z
    have R' : jRec (bkW w) := by
      unfold jRec
      rw [eS, eF, yD_l l, yY_l l, yO_l l]
      refine ⟨fun i hi => ?_, fun i hi => ?_, ⟨fun i hi => ?_, ?_⟩, fun h j hj => ?_⟩
      · have c60 : ∀ j, (bkW w).1 60 j = (zbk w).1 60 j := fun j => bkW_c (by omega)
        rw [c60, c60, c60, c60, zbk_60 (by omega), zbk_60 (by omega), zbk_60 (by omega), zbk_60 (by omega)]
        have e : ∀ c, c < 4 → (bkW w).1 (119 + c) i = w.1 132 (4 * i + c) := fun c hc => by
          rw [bkW_m (by omega), zmb_119 (by omega) hc, bk_pre (by omega) (by omega)]
        have e0 := e 0 (by decide)
        have e1 := e 1 (by decide)
        have e2 := e 2 (by decide)
        have e3 := e 3 (by decide)
        generalize (bkW w).1 = I at e0 e1 e2 e3 ⊢
        have e0' : I 119 i = w.1 132 (4 * i) := e0
        have e1' : I 120 i = w.1 132 (4 * i + 1) := e1
        have e2' : I 121 i = w.1 132 (4 * i + 2) := e2
        have e3' : I 122 i = w.1 132 (4 * i + 3) := e3
        rw [e0', e1', e2', e3']
        exact s1 i hi
      · have c61 : (bkW w).1 61 i = (zbk w).1 61 i := bkW_c (by omega)
        have c62 : (bkW w).1 62 i = (zbk w).1 62 i := bkW_c (by omega)
        have c63 : (bkW w).1 63 i = (zbk w).1 63 i := bkW_c (by omega)
        rw [c61, c62, c63, zbk_61 (by omega), zbk_62 (by omega), zbk_63 (by omega)]
        have e : ∀ c, c < 2 → (bkW w).1 (123 + c) i = w.1 132 (40 + 2 * i + c) := fun c hc => by
          rw [bkW_m (by omega), zmb_123 (by omega) hc, bk_pre (by omega) (by omega)]
        have e0 := e 0 (by decide)
        have e1 := e 1 (by decide)
        have o := f1 i hi
        have e2 : (bkW w).1 125 i = w.1 133 i := by
          rw [bkW_m (by omega), zmb_125 (by omega), bk_pre (by omega) (by omega), b1_and o.2.2.2]
        generalize (bkW w).1 = I at e0 e1 e2 ⊢
        have e0' : I 123 i = w.1 132 (40 + 2 * i) := e0
        have e1' : I 124 i = w.1 132 (40 + 2 * i + 1) := e1
        rw [e0', e1', e2]
        refine ⟨⟨o.1.1, o.1.2.1, ?_⟩, o.2⟩
        rw [o.1.2.2, b1_and o.2.2.2]
      · rw [bkW_c (by omega), zbk_64 (by omega), bkW_m (by omega), zmb_126 (by omega), bk_pre (by omega) (by omega)]
        rcases c1.1 i hi with z | z
        · left; exact ⟨z.1, by rw [z.2]; decide⟩
        · right; exact ⟨z.1, by rw [z.2]; decide⟩
      · refine (fb_ct_cong (q := fun a => decide (w.1 71 a = 1)) (fun k hk => ?_)).trans c1.2
        rw [bkW_c (by omega), zbk_64 (by omega)]
      · rw [bkW_c (by omega), zbk_65 hj, bkW_m (by omega), zmb_129 hj, bk_pre (by omega) (by omega)]
        exact w1 h j hj
    have K' : zK (bkW w) := zK_l K l N
    have hcc : ∀ x y, (zScrI x y || decide (107 ≤ x)) = false → (zbk w).1 x y = (bkW w).1 x y := by
      intro x y q
      rw [Bool.or_eq_false_iff, decide_eq_false_iff_not] at q
      exact (bkW_c (by omega)).symm
    have ev : bkW w = ((bkW w).1, (zbk w).2) := by
      rw [zbk_2]
      exact Prod.ext rfl bkW_2
    have K3 : zK ((bkW w).1, (zbk w).2) := by rw [← ev]; exact K'
    have R3 : jRec ((bkW w).1, (zbk w).2) := by rw [← ev]; exact R'
    have o : ∀ a, ¬ (59 ≤ a ∧ a ≤ 65) → ¬ (119 ≤ a ∧ a ≤ 126) → a ≠ 129 → a ≠ 107 → (bkW w).1 a = w.1 a := fun a h1 h2 h3 h4 => funext (fun b => bkW_o h1 h2 h3 (by omega))
    have o7 : ∀ b, b ≠ 0 → b ≠ 35 → b ≠ 36 → b ≠ 37 → (bkW w).1 107 b = w.1 107 b := fun b _ _ _ _ => bkW_o (by omega) (by omega) (by omega) (by omega)
    have hM : ∀ x : Nat → Nat → Int64, zmbE (zmb (zsI ((zbk w).1, x) 107 0 0)) = ((bkW w).1, x) := by
      intro x
      refine Prod.ext ?_ ?_
      · have e : (zmb (zsI ((zbk w).1, x) 107 0 0)).1 = (zmb (zsI (zbk w) 107 0 0)).1 := zmb_1 _ _ rfl
        unfold bkW
        generalize zmb (zsI ((zbk w).1, x) 107 0 0) = X at e ⊢
        generalize zmb (zsI (zbk w) 107 0 0) = Y at e ⊢
        unfold zmbE
        funext a b
        simp only [zsI_g, e]
      · rw [zmbE_2, zmb_2]
        rfl
    have l2 : ∀ x : Nat → Nat → Int64, (∀ a, zCr a = false → x a = (zbk w).2 a) → zLO w ((bkW w).1, x) := by
      intro x hx
      refine ⟨fun a b q => l.1 a b q, fun a b q => ?_⟩
      show x a b = _
      rw [hx a (zCr_f q), zbk_2]
    generalize (bkW w).1 = I at K3 R3 hcc o o7 hM l2
    obtain ⟨x, e1, K2, R2, C2, hx⟩ := rev_step (w1 := zbk w) (i2 := I) K3 R3 hcc
    refine ⟨nI ns + nI nf, ((zbk w).1, x), (I, x), ?_, ?_, K2, R2, C2, ?_, ?_, ?_⟩
    · unfold f_X_back
      rw [m1, if_neg z10, An_back, zb_s, e1, zb_s]
      unfold f_An_actCount
      have q1 : ((zbk w).1, x).1 59 6 = nI ns := zbk_59.1.trans a1
      have q2 : ((zbk w).1, x).1 59 7 = nI nf := zbk_59.2.trans a2
      rw [q1, q2, zb_s]
    · rw [M_back]
      have q1 : ((zbk w).1, x).1 107 58 = 1 := (zbk_o (by omega)).trans m2
      have q2 : (zmb (zsI ((zbk w).1, x) 107 0 0)).1 107 57 = nI ns + nI nf := by
        rw [zmb_o (by omega) (by omega)]
        exact (bk_pre (by omega) (by omega)).trans b3
      rw [q1, if_neg z10, q2, hM]
    · exact jTap_c (w := (I, x)) T (congrFun (o 1 (by omega) (by omega) (by omega) (by omega)) 1) (o7 5 (by omega) (by omega) (by omega) (by omega)) (o 2 (by omega) (by omega) (by omega) (by omega)) (o 108 (by omega) (by omega) (by omega) (by omega))
    · exact jGai_c (w := (I, x)) G (o 18 (by omega) (by omega) (by omega) (by omega)) (o 131 (by omega) (by omega) (by omega) (by omega))
    · exact jIma_c (w := (I, x)) J0.2.2.2.2.2 (l2 x hx) ⟨⟨congrFun (o 0 (by omega) (by omega) (by omega) (by omega)) 11, o7 58 (by omega) (by omega) (by omega) (by omega)⟩, ⟨congrFun (o 66 (by omega) (by omega) (by omega) (by omega)) 6, congrFun (o 66 (by omega) (by omega) (by omega) (by omega)) 7⟩, ⟨o7 55 (by omega) (by omega) (by omega) (by omega), o7 56 (by omega) (by omega) (by omega) (by omega), o7 57 (by omega) (by omega) (by omega) (by omega)⟩, ⟨o 67 (by omega) (by omega) (by omega) (by omega), o 68 (by omega) (by omega) (by omega) (by omega), o 69 (by omega) (by omega) (by omega) (by omega), o 70 (by omega) (by omega) (by omega) (by omega), o 71 (by omega) (by omega) (by omega) (by omega), o 72 (by omega) (by omega) (by omega) (by omega)⟩, o 132 (by omega) (by omega) (by omega) (by omega), o 133 (by omega) (by omega) (by omega) (by omega), o 134 (by omega) (by omega) (by omega) (by omega)⟩
end
