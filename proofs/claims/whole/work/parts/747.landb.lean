/-! PURE: what a land's numbers are, told by the model's cells alone (wip/whole/mkb.py writes most of this out of 575, 585, 610, 725) -/
section
variable {u : gW}
def zB (u : gW) : Prop := (yD u ≤ 5 ∧ yY u ≤ 6) ∧ 0 < yD u ∧ ∀ d, d < yD u → u.1 112 d = nI (yr u d) ∧ u.1 113 d = nI (yf u d) ∧ u.1 114 d = nI (yl u d) ∧ yr u d < 6 ∧ yf u d ≤ yl u d ∧ yl u d < yY u
theorem zB.D5 (K : zB u) : yD u ≤ 5 := K.1.1
theorem zB.Y6 (K : zB u) : yY u ≤ 6 := K.1.2
theorem zB.dd (K : zB u) {d : Nat} (h : d < yD u) : yf u d ≤ yl u d ∧ yl u d < 6 ∧ yr u d < 6 := by
  have a := K.2.2 d h
  have b := K.Y6
  exact ⟨a.2.2.2.2.1, by omega, a.2.2.2.1⟩
theorem zB.o27 (K : zB u) {d : Nat} (h : d < yD u) : 2 ≤ yo u d ∧ yo u d ≤ 7 := by
  have a := K.dd h
  unfold yo
  omega
theorem zB.Zb (K : zB u) : ∀ (n d : Nat), d + n ≤ yD u → 1 ≤ yZ u n d ∧ yZ u n d ≤ 7 ^ n
  | 0, _, _ => ⟨Nat.le_refl _, Nat.le_refl _⟩
  | n + 1, d, h => by
    have a := zB.Zb K n (d + 1) (by omega)
    have b := K.o27 (d := d) (by omega)
    show 1 ≤ yo u d * yZ u n (d + 1) ∧ yo u d * yZ u n (d + 1) ≤ 7 ^ (n + 1)
    rw [Nat.pow_succ, Nat.mul_comm (7 ^ n) 7]
    exact ⟨Nat.mul_pos (by omega) a.1, Nat.mul_le_mul b.2 a.2⟩
theorem zB.T7 (K : zB u) : yT u ≤ 16807 := by
  unfold yT
  split
  · omega
  · have a := (K.Zb (yD u) 0 (by omega)).2
    have b : 7 ^ yD u ≤ 7 ^ 5 := Nat.pow_le_pow_right (by decide) K.D5
    have c : (7 : Nat) ^ 5 = 16807 := by decide
    omega
theorem zB.T1 (K : zB u) (h : 0 < yD u) : 1 ≤ yT u := by
  unfold yT
  rw [if_neg (by omega)]
  exact (K.Zb (yD u) 0 (by omega)).1
theorem zB.st (K : zB u) {d : Nat} (h : d < yD u) : 1 ≤ yst u d ∧ yst u d ≤ 2401 := by
  have a := K.Zb (yD u - 1 - d) (d + 1) (by omega)
  have b : 7 ^ (yD u - 1 - d) ≤ 7 ^ 4 := Nat.pow_le_pow_right (by decide) (by have := K.D5; omega)
  have c : (7 : Nat) ^ 4 = 2401 := by decide
  exact ⟨a.1, by unfold yst; omega⟩
theorem zB.op (K : zB u) {d : Nat} (h : d < yD u) (k : Nat) : yop u k d < yo u d := Nat.mod_lt _ (by have := K.o27 h; omega)
theorem zB.g9 (K : zB u) {d : Nat} (h : d < yD u) {o : Nat} (ho : o < yo u d) : yg u d o ≤ 9 ∧ (yg u d o < yY u ∨ yg u d o = 9) := by
  have a := K.2.2 d h
  have b := K.Y6
  unfold yg
  unfold yo at ho ⊢
  split <;> omega
theorem zB.d9 (K : zB u) {d : Nat} (h : d < yD u) (k : Nat) : yd u k d ≤ 9 ∧ (yd u k d < yY u ∨ yd u k d = 9) := K.g9 h (K.op h k)
theorem yZ_sB (K : zB u) {d : Nat} (hd : d < yD u) : yZ u (yD u - d) d = yo u d * yst u d := by
  unfold yst
  rw [show yD u - d = (yD u - 1 - d) + 1 by omega]
  rfl
theorem yZd_sB (K : zB u) {d : Nat} (hd : d < yD u) : yZd u d = yo u d * yZd u (d + 1) ∧ yst u d = yZd u (d + 1) := ⟨by unfold yZd; rw [yZ_sB K hd, yst_Z], yst_Z⟩
theorem yop_bB (K : zB u) {d p o k : Nat} (hd : d < yD u) (ho : o < yo u d) (hp : p % yZd u d = 0) (h1 : p + o * yZd u (d + 1) ≤ k) (h2 : k < p + (o + 1) * yZd u (d + 1)) : yop u k d = o := by
  have e := yZd_sB K hd
  have z1 : 1 ≤ yZd u (d + 1) := by rw [← e.2]; exact (K.st hd).1
  unfold yop
  rw [e.2]
  obtain ⟨q, hq⟩ : ∃ q, p = yZd u d * q := ⟨p / yZd u d, by have := Nat.div_add_mod p (yZd u d); omega⟩
  rw [e.1] at hq
  generalize yZd u (d + 1) = Z at *
  have hq2 : p = Z * (yo u d * q) := by rw [hq, Nat.mul_comm (yo u d) Z, Nat.mul_assoc]
  have hdiv : k / Z = yo u d * q + o := by
    have e1 : k = Z * (yo u d * q + o) + (k - Z * (yo u d * q + o)) := by
      rw [Nat.mul_add, ← hq2, Nat.mul_comm Z o]
      omega
    have e2 : k - Z * (yo u d * q + o) < Z := by
      rw [Nat.mul_add, ← hq2, Nat.mul_comm Z o]
      rw [Nat.succ_mul] at h2
      omega
    rw [e1, Nat.mul_add_div z1, Nat.div_eq_of_lt e2, Nat.add_zero]
  rw [hdiv, Nat.mul_add_mod, Nat.mod_eq_of_lt ho]
theorem yn_ltB (K : zB u) (k : Nat) : ∀ d, d ≤ yD u → yn u k d < 10 ^ d
  | 0, _ => by show 0 < 1; decide
  | d + 1, hd => by
    have a := yn_ltB K k d (by omega)
    have b := (K.d9 (d := d) (by omega) k).1
    show yn u k d * 10 + yd u k d < 10 ^ (d + 1)
    rw [Nat.pow_succ]
    omega
theorem yN_ltB (K : zB u) (k : Nat) : yN u k < 100000 := by
  have a := yn_ltB K k (yD u) (Nat.le_refl _)
  have b : 10 ^ yD u ≤ 10 ^ 5 := Nat.pow_le_pow_right (by decide) K.D5
  unfold yN
  have c : (10 : Nat) ^ 5 = 100000 := by decide
  omega
theorem yZd_T (K : zB u) : yZd u 0 = yT u := yZ_T K.2.1
theorem yZd_dvd (K : zB u) : ∀ d, d ≤ yD u → yZd u d ∣ yT u
  | 0, _ => by rw [yZd_T K]; exact Nat.dvd_refl _
  | d + 1, hd => by
    have a := yZd_dvd K d (by omega)
    have b := (yZd_sB K (d := d) (by omega)).1
    refine Nat.dvd_trans ⟨yo u d, ?_⟩ a
    rw [b, Nat.mul_comm]
theorem yZd_pos (K : zB u) {d : Nat} (hd : d ≤ yD u) : 1 ≤ yZd u d := (zB.Zb K (yD u - d) d (by omega)).1
end
