/-! PURE: the model's image -/
def zmi1 (j : Nat) (u : gW) : gW := zsI (zsI (zsI (zsI u 132 (4 * j) (u.1 119 j)) 132 (4 * j + 1) (u.1 120 j)) 132 (4 * j + 2) (u.1 121 j)) 132 (4 * j + 3) (u.1 122 j)
def zmi2 (j : Nat) (u : gW) : gW := zsI (zsI (zsI u 132 (40 + 2 * j) (u.1 123 j)) 132 (40 + 2 * j + 1) (u.1 124 j)) 133 j ((u.1 125 j) &&& 1)
def zmi3 (j : Nat) (u : gW) : gW := zsI u 132 (80 + j) (u.1 129 j)
def zmi4 (j : Nat) (u : gW) : gW := zsI u 134 j ((u.1 126 j) &&& 1)
def zmiE (w : gW) : gW := zsI (zsI (zsI (zsI w 107 55 (w.1 107 35)) 107 56 (w.1 107 36)) 107 57 (w.1 107 37)) 107 58 1
theorem n_40 (j : Nat) : (40 : Int32) + (2 : Int32) * nI j = nI (40 + 2 * j) := by rw [show (2 : Int32) = nI 2 from rfl, pk_mul, show (40 : Int32) = nI 40 from rfl, nI_add]
theorem n_4 (j : Nat) : (4 : Int32) * nI j = nI (4 * j) := by rw [show (4 : Int32) = nI 4 from rfl, pk_mul]
theorem n_80 (j : Nat) : (80 : Int32) + nI j = nI (80 + j) := by rw [show (80 : Int32) = nI 80 from rfl, nI_add]
theorem n_2 (j : Nat) : nI j + (2 : Int32) = nI (j + 2) := nI_add j 2
theorem n_3 (j : Nat) : nI j + (3 : Int32) = nI (j + 3) := nI_add j 3
theorem M_image4 (w : gW) : f_M_image_b183 (0 : Int32) w = some ((zit zmi4 0 30 w).1 107 37, zmiE (zit zmi4 0 30 w)) := by
  unfold f_M_image_b183
  refine zlp (S := f_M_image_b183_s) 30 (fun u => some (u.1 107 37, zmiE u)) zmi4 (by decide) (fun k w => ?_) (fun k j w hj => ?_) w
  · unfold f_M_image_b183_s
    rw [if_pos (by decide)]
    rfl
  · unfold f_M_image_b183_s
    rw [if_neg (by rw [show (30 : Int32) = nI 30 from rfl, n_le (by decide) (by omega)]; omega), if_pos (z_inbn hj (by decide)), if_pos (z_inbn hj (by decide))]
    simp only [zl_s]
    rw [n_1, z_ix (by omega)]
    rfl
theorem M_image3 (w : gW) : f_M_image_b154 (0 : Int32) w = f_M_image_b183 (0 : Int32) (zit zmi3 0 50 w) := by
  unfold f_M_image_b154
  refine zlp (S := f_M_image_b154_s) 50 (fun u => f_M_image_b183 (0 : Int32) u) zmi3 (by decide) (fun k w => ?_) (fun k j w hj => ?_) w
  · unfold f_M_image_b154_s
    rw [if_pos (by decide)]
  · unfold f_M_image_b154_s
    rw [if_neg (by rw [show (50 : Int32) = nI 50 from rfl, n_le (by decide) (by omega)]; omega), if_pos (z_inbn hj (by decide)), n_80, if_pos (z_inbn (by omega) (by decide))]
    simp only [zl_s]
    rw [n_1, z_ix (by omega), z_ix (by omega)]
    rfl
theorem M_image2 (w : gW) : f_M_image_b92 (0 : Int32) w = f_M_image_b154 (0 : Int32) (zit zmi2 0 20 w) := by
  unfold f_M_image_b92
  refine zlp (S := f_M_image_b92_s) 20 (fun u => f_M_image_b154 (0 : Int32) u) zmi2 (by decide) (fun k w => ?_) (fun k j w hj => ?_) w
  · unfold f_M_image_b92_s
    rw [if_pos (by decide)]
  · unfold f_M_image_b92_s
    rw [if_neg (by rw [show (20 : Int32) = nI 20 from rfl, n_le (by decide) (by omega)]; omega)]
    simp only [n_40, n_1, zl_s]
    simp only [if_pos (show inb (nI j) 20 from z_inbn hj (by decide)), if_pos (show inb (nI (40 + 2 * j)) 130 from z_inbn (by omega) (by decide)), if_pos (show inb (nI (40 + 2 * j + 1)) 130 from z_inbn (by omega) (by decide))]
    rw [z_ix (n := j) (by omega), z_ix (n := 40 + 2 * j) (by omega), z_ix (n := 40 + 2 * j + 1) (by omega)]
    rfl
theorem M_image1 (w : gW) : f_M_image_b16 (0 : Int32) w = f_M_image_b92 (0 : Int32) (zit zmi1 0 10 w) := by
  unfold f_M_image_b16
  refine zlp (S := f_M_image_b16_s) 10 (fun u => f_M_image_b92 (0 : Int32) u) zmi1 (by decide) (fun k w => ?_) (fun k j w hj => ?_) w
  · unfold f_M_image_b16_s
    rw [if_pos (by decide)]
  · unfold f_M_image_b16_s
    rw [if_neg (by rw [show (10 : Int32) = nI 10 from rfl, n_le (by decide) (by omega)]; omega)]
    simp only [n_4, n_1, n_2, n_3, zl_s]
    simp only [if_pos (show inb (nI j) 10 from z_inbn hj (by decide)), if_pos (show inb (nI (4 * j)) 130 from z_inbn (by omega) (by decide)), if_pos (show inb (nI (4 * j + 1)) 130 from z_inbn (by omega) (by decide)), if_pos (show inb (nI (4 * j + 2)) 130 from z_inbn (by omega) (by decide)), if_pos (show inb (nI (4 * j + 3)) 130 from z_inbn (by omega) (by decide))]
    rw [z_ix (n := j) (by omega), z_ix (n := 4 * j) (by omega), z_ix (n := 4 * j + 1) (by omega), z_ix (n := 4 * j + 2) (by omega), z_ix (n := 4 * j + 3) (by omega)]
    rfl
def zmi (w : gW) : gW := zit zmi4 0 30 (zit zmi3 0 50 (zit zmi2 0 20 (zit zmi1 0 10 w)))
theorem M_image (w : gW) : f_M_image w = if w.1 107 21 = 0 then some (-1, zsI w 107 0 0) else some ((zmi (zsI w 107 0 0)).1 107 37, zmiE (zmi (zsI w 107 0 0))) := by
  unfold f_M_image
  simp only [zl_s]
  rw [z107 _ _ _ (by decide), M_image1, M_image2, M_image3, M_image4]
  rfl
theorem zmi1_g : ∀ (n : Nat) (w : gW) (a b : Nat), (zit zmi1 0 n w).1 a b = if a = 132 ∧ b < 4 * n then w.1 (119 + b % 4) (b / 4) else w.1 a b
  | 0, w, a, b => by rw [if_neg (by omega)]; rfl
  | n + 1, w, a, b => by
    rw [zit_s, Nat.zero_add]
    have h0 : ∀ c, c < 4 → (zit zmi1 0 n w).1 (119 + c) n = w.1 (119 + c) n := fun c hc => by rw [zmi1_g n w (119 + c) n, if_neg (by omega)]
    have e0 := h0 0 (by decide)
    have e1 := h0 1 (by decide)
    have e2 := h0 2 (by decide)
    have e3 := h0 3 (by decide)
    show (zsI (zsI (zsI (zsI (zit zmi1 0 n w) 132 (4 * n) ((zit zmi1 0 n w).1 (119 + 0) n)) 132 (4 * n + 1) ((zit zmi1 0 n w).1 (119 + 1) n)) 132 (4 * n + 2) ((zit zmi1 0 n w).1 (119 + 2) n)) 132 (4 * n + 3) ((zit zmi1 0 n w).1 (119 + 3) n)).1 a b = _
    rw [e0, e1, e2, e3]
    simp only [zsI_g]
    by_cases h3 : a = 132 ∧ b = 4 * n + 3
    · rw [if_pos h3, if_pos ⟨h3.1, by omega⟩, show b % 4 = 3 by omega, show b / 4 = n by omega]
    rw [if_neg h3]
    by_cases h2 : a = 132 ∧ b = 4 * n + 2
    · rw [if_pos h2, if_pos ⟨h2.1, by omega⟩, show b % 4 = 2 by omega, show b / 4 = n by omega]
    rw [if_neg h2]
    by_cases h1 : a = 132 ∧ b = 4 * n + 1
    · rw [if_pos h1, if_pos ⟨h1.1, by omega⟩, show b % 4 = 1 by omega, show b / 4 = n by omega]
    rw [if_neg h1]
    by_cases h4 : a = 132 ∧ b = 4 * n
    · rw [if_pos h4, if_pos ⟨h4.1, by omega⟩, show b % 4 = 0 by omega, show b / 4 = n by omega]
    rw [if_neg h4, zmi1_g n w a b]
    by_cases h5 : a = 132 ∧ b < 4 * n
    · rw [if_pos h5, if_pos ⟨h5.1, by omega⟩]
    · rw [if_neg h5, if_neg (by omega)]
theorem zmi2_g : ∀ (n : Nat) (w : gW) (a b : Nat), (zit zmi2 0 n w).1 a b = if a = 132 ∧ 40 ≤ b ∧ b < 40 + 2 * n then w.1 (123 + b % 2) ((b - 40) / 2) else if a = 133 ∧ b < n then (w.1 125 b) &&& 1 else w.1 a b
  | 0, w, a, b => by rw [if_neg (by omega), if_neg (by omega)]; rfl
  | n + 1, w, a, b => by
    rw [zit_s, Nat.zero_add]
    have h0 : ∀ c, c < 3 → (zit zmi2 0 n w).1 (123 + c) n = w.1 (123 + c) n := fun c hc => by rw [zmi2_g n w (123 + c) n, if_neg (by omega), if_neg (by omega)]
    have e0 := h0 0 (by decide)
    have e1 := h0 1 (by decide)
    have e2 := h0 2 (by decide)
    show (zsI (zsI (zsI (zit zmi2 0 n w) 132 (40 + 2 * n) ((zit zmi2 0 n w).1 (123 + 0) n)) 132 (40 + 2 * n + 1) ((zit zmi2 0 n w).1 (123 + 1) n)) 133 n (((zit zmi2 0 n w).1 (123 + 2) n) &&& 1)).1 a b = _
    rw [e0, e1, e2]
    simp only [zsI_g]
    by_cases h3 : a = 133 ∧ b = n
    · obtain ⟨rfl, rfl⟩ := h3
      rw [if_pos ⟨rfl, rfl⟩, if_neg (by omega), if_pos ⟨rfl, by omega⟩]
    rw [if_neg h3]
    by_cases h1 : a = 132 ∧ b = 40 + 2 * n + 1
    · rw [if_pos h1, if_pos ⟨h1.1, by omega, by omega⟩, show b % 2 = 1 by omega, show (b - 40) / 2 = n by omega]
    rw [if_neg h1]
    by_cases h4 : a = 132 ∧ b = 40 + 2 * n
    · rw [if_pos h4, if_pos ⟨h4.1, by omega, by omega⟩, show b % 2 = 0 by omega, show (b - 40) / 2 = n by omega]
    rw [if_neg h4, zmi2_g n w a b]
    by_cases h5 : a = 132 ∧ 40 ≤ b ∧ b < 40 + 2 * n
    · rw [if_pos h5, if_pos ⟨h5.1, by omega, by omega⟩]
    · rw [if_neg h5, if_neg (show ¬ (a = 132 ∧ 40 ≤ b ∧ b < 40 + 2 * (n + 1)) by omega)]
      by_cases h6 : a = 133 ∧ b < n
      · rw [if_pos h6, if_pos ⟨h6.1, by omega⟩]
      · rw [if_neg h6, if_neg (by omega)]
theorem zmi3_g : ∀ (n : Nat) (w : gW) (a b : Nat), (zit zmi3 0 n w).1 a b = if a = 132 ∧ 80 ≤ b ∧ b < 80 + n then w.1 129 (b - 80) else w.1 a b
  | 0, w, a, b => by rw [if_neg (by omega)]; rfl
  | n + 1, w, a, b => by
    rw [zit_s, Nat.zero_add]
    show (zsI (zit zmi3 0 n w) 132 (80 + n) ((zit zmi3 0 n w).1 129 n)).1 a b = _
    rw [zsI_g, zmi3_g n w a b, zmi3_g n w 129 n, if_neg (by omega : ¬ (129 = 132 ∧ 80 ≤ n ∧ n < 80 + n))]
    by_cases h : a = 132 ∧ b = 80 + n
    · rw [if_pos h, if_pos ⟨h.1, by omega, by omega⟩, show b - 80 = n by omega]
    · rw [if_neg h]
      by_cases h2 : a = 132 ∧ 80 ≤ b ∧ b < 80 + n
      · rw [if_pos h2, if_pos ⟨h2.1, by omega, by omega⟩]
      · rw [if_neg h2, if_neg (by omega)]
theorem zmi4_g : ∀ (n : Nat) (w : gW) (a b : Nat), (zit zmi4 0 n w).1 a b = if a = 134 ∧ b < n then (w.1 126 b) &&& 1 else w.1 a b
  | 0, w, a, b => by rw [if_neg (by omega)]; rfl
  | n + 1, w, a, b => by
    rw [zit_s, Nat.zero_add]
    show (zsI (zit zmi4 0 n w) 134 n (((zit zmi4 0 n w).1 126 n) &&& 1)).1 a b = _
    rw [zsI_g, zmi4_g n w a b, zmi4_g n w 126 n, if_neg (by omega : ¬ (126 = 134 ∧ n < n))]
    by_cases h : a = 134 ∧ b = n
    · obtain ⟨rfl, rfl⟩ := h
      rw [if_pos ⟨rfl, rfl⟩, if_pos ⟨rfl, by omega⟩]
    · rw [if_neg h]
      by_cases h2 : a = 134 ∧ b < n
      · rw [if_pos h2, if_pos ⟨h2.1, by omega⟩]
      · rw [if_neg h2, if_neg (by omega)]
