/-! PURE: a fraction made plain; sums over blocks of lives -/
def euM (a b m : Nat) : Prop := (b ≤ a ∧ a * b < 2 ^ m) ∨ (a < b ∧ (a * b + 1) * 2 ≤ 2 ^ m)
theorem euM_s {a b m : Nat} (h : euM a b m) (hb : 0 < b) : ∃ m', m = m' + 1 ∧ euM b (a % b) m' := by
  rcases h with ⟨h1, h2⟩ | ⟨h1, h2⟩
  · cases m with
    | zero =>
      have : 1 ≤ a * b := Nat.mul_pos (by omega) hb
      rw [Nat.pow_zero] at h2
      omega
    | succ m =>
      refine ⟨m, rfl, Or.inl ⟨Nat.le_of_lt (Nat.mod_lt _ hb), ?_⟩⟩
      have h3 : 2 * (a % b) ≤ a := by
        have e := Nat.div_add_mod a b
        have l := Nat.mod_lt a hb
        have d : 1 ≤ a / b := Nat.div_pos h1 hb
        have : b * 1 ≤ b * (a / b) := Nat.mul_le_mul_left b d
        omega
      rw [Nat.pow_succ] at h2
      have h4 : b * (2 * (a % b)) ≤ b * a := Nat.mul_le_mul_left b h3
      have h5 : b * (2 * (a % b)) = 2 * (b * (a % b)) := by rw [Nat.mul_left_comm]
      rw [Nat.mul_comm a b] at h2
      omega
  · cases m with
    | zero => rw [Nat.pow_zero] at h2; omega
    | succ m =>
      rw [Nat.pow_succ] at h2
      refine ⟨m, rfl, Or.inl ⟨by rw [Nat.mod_eq_of_lt h1]; omega, ?_⟩⟩
      rw [Nat.mod_eq_of_lt h1, Nat.mul_comm b a]
      omega
theorem eu_gcd (a b : Nat) : Nat.gcd b (a % b) = Nat.gcd a b := by
  rw [Nat.gcd_comm a b, Nat.gcd_rec b a, Nat.gcd_comm]
theorem two_80 : (2 : Nat) ^ 80 = 1208925819614629174706176 := by decide
theorem eu_0 {a b : Nat} (ha : a < 1000000000000) (hb : b < 1000000000000) : euM a b 85 := by
  have e : (2 : Nat) ^ 85 = 38685626227668133590597632 := by decide
  have h : a * b ≤ 1000000000000 * 1000000000000 := Nat.mul_le_mul (by omega) (by omega)
  unfold euM
  rw [e]
  have e2 : (1000000000000 : Nat) * 1000000000000 = 1000000000000000000000000 := by decide
  rw [e2] at h
  by_cases q : b ≤ a
  · left; exact ⟨q, by omega⟩
  · right; exact ⟨by omega, by omega⟩
/-- a fraction: a part of it made plain -/
def frc (a b t : Nat) : Int64 := if b = 0 then -1 else lN ((if t = 0 then a else b) / Nat.gcd a b)
theorem lc_0 {a : Nat} (h : a < 2 ^ 63) : (lg_cmp (lN a) (0 : Int64) = 0) ↔ a = 0 := by
  rw [lc_eq]
  exact pk_lEQ (b := 0) h (by decide)
theorem lc_p {a : Nat} (h : a < 2 ^ 63) : (0 < lg_cmp (lN a) (0 : Int64)) ↔ 0 < a := by
  rw [lc_gt, pk_lT h, show (0 : Int64).toInt = 0 from rfl]
  omega
theorem lg_le0 (x : Int32) : (x ≤ 0) ↔ ¬ 0 < x := by
  rw [i_le, i_lt, i_0]
  omega
theorem M_partOf' {a b t : Nat} (ha : a < 1000000000000) (hb : b < 1000000000000) (ht : t < 2) (w : gW) : f_M_partOf (lN a) (lN b) (nI t) w = some (frc a b t, w) := by
  unfold f_M_partOf frc
  by_cases b0 : b = 0
  · rw [if_pos ((lc_0 (by omega)).mpr b0), if_pos b0]
  · rw [if_neg (fun z => b0 ((lc_0 (by omega)).mp z)), if_neg b0]
    have key := zfx_ind (fun _ _ _ _ _ _ => none) f_M_partOf_b16_s (fun m kk => ∀ x y, euM x y m → x < 1000000000000 → y < 1000000000000 → (0 < x ∨ 0 < y) → Nat.gcd x y = Nat.gcd a b → kk (lN a) (lN b) (nI t) (lN x) (lN y) w = some (lN ((if t = 0 then a else b) / Nat.gcd a b), w)) (fun m kk ih x y hm hx hy h0 hg => by
      unfold f_M_partOf_b16_s
      by_cases y0 : y = 0
      · subst y0
        have hx0 : 0 < x := by omega
        have xn : ¬ lN x = 0 := fun z => by
          have := (pk_lEQ (b := 0) (by omega) (by decide)).mp z
          omega
        rw [if_pos ((lc_0 (by decide)).mpr rfl)]
        rw [Nat.gcd_zero_right] at hg
        by_cases t0 : t = 0
        · rw [if_pos (show nI t = 0 by rw [t0]; rfl), if_pos xn, if_pos t0, pk_lDiv (by omega) hx0 (by omega), hg]
        · rw [if_neg (show ¬ nI t = 0 from nI_ne0 (by omega) (by omega)), if_pos xn, if_neg t0, pk_lDiv (by omega) hx0 (by omega), hg]
      · have yn : ¬ lN y = 0 := fun z => y0 ((pk_lEQ (b := 0) (by omega) (by decide)).mp z)
        obtain ⟨m', em, hm'⟩ := euM_s hm (by omega)
        have lt := Nat.mod_lt x (show 0 < y by omega)
        rw [if_neg (fun z => y0 ((lc_0 (by omega)).mp z)), if_pos yn, zl_s, pk_lRem (by omega) (by omega) (by omega)]
        exact ih m' (by omega) y (x % y) hm' hy (by omega) (Or.inl (by omega)) (by rw [eu_gcd]; exact hg)) zFU 85 (zfu (by omega))
    exact key a b (eu_0 ha hb) ha hb (Or.inr (by omega)) rfl
theorem Ch_plain' {a b t : Nat} (ha : a < 1000000000000) (hb : b < 1000000000000) (ht : t < 2) (w : gW) : f_Ch_plain (lN a) (lN b) (nI t) w = some (frc a b t, w) := by
  unfold f_Ch_plain frc
  by_cases b0 : b = 0
  · rw [if_neg (fun z => by have := (lc_p (by omega)).mp z; omega), if_pos b0]
  · rw [if_pos ((lc_p (by omega)).mpr (by omega)), if_neg b0]
    have key := zfx_ind (fun _ _ _ _ _ _ _ => none) f_Ch_plain_b19_s (fun m kk => ∀ x y j, euM x y m → j + m ≤ 90 → x < 1000000000000 → y < 1000000000000 → (0 < x ∨ 0 < y) → Nat.gcd x y = Nat.gcd a b → kk (lN a) (lN b) (nI t) (lN x) (lN y) (nI j) w = some (lN ((if t = 0 then a else b) / Nat.gcd a b), w)) (fun m kk ih x y j hm hj hx hy h0 hg => by
      unfold f_Ch_plain_b19_s
      have q200 : ¬ (200 : Int32) ≤ nI j := by rw [show (200 : Int32) = nI 200 from rfl, n_le (by omega) (by omega)]; omega
      rw [if_neg q200]
      by_cases y0 : y = 0
      · subst y0
        have hx0 : 0 < x := by omega
        have xn : ¬ lN x = 0 := fun z => by
          have := (pk_lEQ (b := 0) (by omega) (by decide)).mp z
          omega
        rw [if_pos ((lg_le0 _).mpr (fun z => by have := (lc_p (a := 0) (by decide)).mp z; omega))]
        unfold f_Ch_plain_b55 f_Ch_plain_b78
        rw [if_pos ((lc_p (by omega)).mpr hx0)]
        rw [Nat.gcd_zero_right] at hg
        by_cases t0 : t = 0
        · rw [if_pos (show nI t = 0 by rw [t0]; rfl), if_pos xn, if_pos t0, pk_lDiv (by omega) hx0 (by omega), hg]
        · rw [if_neg (show ¬ nI t = 0 from nI_ne0 (by omega) (by omega)), if_pos xn, if_neg t0, pk_lDiv (by omega) hx0 (by omega), hg]
      · have yn : ¬ lN y = 0 := fun z => y0 ((pk_lEQ (b := 0) (by omega) (by decide)).mp z)
        obtain ⟨m', em, hm'⟩ := euM_s hm (by omega)
        have lt := Nat.mod_lt x (show 0 < y by omega)
        rw [if_neg (fun z => (lg_le0 _).mp z ((lc_p (by omega)).mpr (by omega))), if_pos yn, zl_s, zl_s, n_1, pk_lRem (by omega) (by omega) (by omega)]
        exact ih m' (by omega) y (x % y) (j + 1) hm' (by omega) hy (by omega) (Or.inl (by omega)) (by rw [eu_gcd]; exact hg)) zFU 85 (zfu (by omega))
    exact key b a 0 (eu_0 hb ha) (by omega) hb ha (Or.inl (by omega)) (Nat.gcd_comm b a)
/-- sums over places from a on -/
def sw (f : Nat → Nat) (a : Nat) : Nat → Nat
  | 0 => 0
  | n + 1 => sw f a n + f (a + n)
theorem sw_split (f : Nat → Nat) (a m : Nat) : ∀ n, sw f a (m + n) = sw f a m + sw f (a + m) n
  | 0 => rfl
  | n + 1 => by
    show sw f a (m + n) + f (a + (m + n)) = sw f a m + (sw f (a + m) n + f (a + m + n))
    rw [sw_split f a m n, Nat.add_assoc, Nat.add_assoc]
theorem sw_0 {f : Nat → Nat} {a : Nat} : ∀ {n : Nat}, (∀ i, a ≤ i → i < a + n → f i = 0) → sw f a n = 0
  | 0, _ => rfl
  | n + 1, h => by
    show sw f a n + f (a + n) = 0
    rw [sw_0 (fun i h1 h2 => h i h1 (by omega)), h (a + n) (by omega) (by omega)]
theorem sw_cg {f g : Nat → Nat} {a : Nat} : ∀ {n : Nat}, (∀ i, a ≤ i → i < a + n → f i = g i) → sw f a n = sw g a n
  | 0, _ => rfl
  | n + 1, h => by
    show sw f a n + f (a + n) = sw g a n + g (a + n)
    rw [sw_cg (fun i h1 h2 => h i h1 (by omega)), h (a + n) (by omega) (by omega)]
theorem sw_le {f : Nat → Nat} {a B : Nat} (h : ∀ i, f i ≤ B) : ∀ n, sw f a n ≤ n * B
  | 0 => Nat.zero_le _
  | n + 1 => by
    have ih := sw_le (a := a) h n
    have := h (a + n)
    show sw f a n + f (a + n) ≤ (n + 1) * B
    rw [Nat.succ_mul]
    omega
section
variable {u : gW}
/-- weights; products of them up to a deed -/
def ywt (u : gW) (d y : Nat) : Nat := ix (u.1 129 (10 * d + y))
def ypr (u : gW) (k : Nat) : Nat → Nat
  | 0 => 1
  | d + 1 => ypr u k d * ywt u d (yd u k d)
def ypw (u : gW) (k : Nat) : Nat := ypr u k (yD u)
theorem ywt_9 (R : jRec u) (hD : 0 < yD u) {d y : Nat} (hd : d < 5) (hy : y < 10) : ywt u d y ≤ 9 := (R.2.2.2 hD (10 * d + y) (by omega)).2.2
theorem ypr_le (K : zK u) (R : jRec u) (hD : 0 < yD u) (k : Nat) : ∀ d, d ≤ yD u → ypr u k d ≤ 9 ^ d
  | 0, _ => Nat.le_refl _
  | d + 1, hd => by
    have h5 := K.D5
    have a := ypr_le K R hD k d (by omega)
    have b := ywt_9 R hD (d := d) (y := yd u k d) (by omega) (by have := (K.d9 (d := d) (by omega) k).1; omega)
    show ypr u k d * ywt u d (yd u k d) ≤ 9 ^ (d + 1)
    rw [Nat.pow_succ]
    exact Nat.mul_le_mul a b
theorem ypw_le (K : zK u) (R : jRec u) (hD : 0 < yD u) (k : Nat) : ypw u k ≤ 59049 := by
  have a := ypr_le K R hD k (yD u) (Nat.le_refl _)
  have b : 9 ^ yD u ≤ 9 ^ 5 := Nat.pow_le_pow_right (by decide) K.D5
  have c : (9 : Nat) ^ 5 = 59049 := by decide
  unfold ypw
  omega
theorem Ch_weightOf' (K : zK u) (R : jRec u) {w : gW} (h : zEk u w) {d o : Nat} (hd : d < yD u) (ho : o < yo u d) : f_Ch_weightOf (nI d) (nI o) w = some (nI (ywt u d (yg u d o)), w) := by
  have h5 := K.D5
  have o7 := (K.o27 hd).2
  have g9 := (K.g9 hd ho).1
  have R4 := R.2.2.2 (by omega) (10 * d + yg u d o) (by omega)
  have e : nI d * (10 : Int32) + nI (yg u d o) = nI (10 * d + yg u d o) := by rw [show (10 : Int32) = nI 10 from rfl, pk_mul, nI_add, Nat.mul_comm]
  unfold f_Ch_weightOf f_An_weight
  rw [La_dayOf' K h hd (by omega), zb_s, e, zl_s, if_neg (nI_pos (by omega)), if_neg (by rw [n_le (by omega) (by omega)]; omega), if_pos (z_inbn (by omega) (by decide)), z_ix (by omega), h.i rfl, R4.1, R4.2.1, zb_s]
  rfl
theorem M_weight' (K : zK u) (R : jRec u) {w : gW} (h : zEk u w) {k : Nat} (hl : lvL u k w) (hD : 0 < yD u) : f_M_weight w = some (lN (ypw u k), w) := by
  have h5 := K.D5
  have key := zfx_ind (fun _ _ _ => none) f_M_weight_b4_s (fun m kk => ∀ d, d + m = yD u → kk (lN (ypr u k d)) (nI d) w = some (lN (ypw u k), w)) (fun m kk ih d hd => by
    unfold f_M_weight_b4_s
    rw [h.i rfl, K.C.2.1.2]
    cases m with
    | zero =>
      rw [if_pos (by rw [n_le (by omega) (by omega)]; omega)]
      unfold ypw
      rw [show yD u = d by omega]
    | succ m =>
      have g9 := (K.d9 (d := d) (by omega) k).1
      have R4 := R.2.2.2 hD (10 * d + yd u k d) (by omega)
      have e : (10 : Int32) * nI d + nI (yd u k d) = nI (10 * d + yd u k d) := by rw [show (10 : Int32) = nI 10 from rfl, pk_mul, nI_add]
      rw [if_neg (by rw [n_le (by omega) (by omega)]; omega), if_pos (z_inbn (by omega) (by decide)), z_ix (by omega), hl d (by omega), e, if_pos (z_inbn (by omega) (by decide)), z_ix (by omega), h.i rfl, R4.2.1, nI_l (by omega), lN_mul, zl_s, zl_s, n_1]
      exact ih m (by omega) (d + 1) (by omega)) zFU (yD u) (zfu (by omega))
  exact key 0 (by omega)
/-- the block of lives behind a deed's option -/
def yZd (u : gW) (d : Nat) : Nat := yZ u (yD u - d) d
theorem yZd_s (K : zK u) {d : Nat} (hd : d < yD u) : yZd u d = yo u d * yZd u (d + 1) ∧ yst u d = yZd u (d + 1) := ⟨by unfold yZd; rw [yZ_s K hd, yst_Z], yst_Z⟩
theorem yZd_e (u : gW) : yZd u (yD u) = 1 := by unfold yZd; rw [Nat.sub_self]; rfl
/-- in a block the option is the block's -/
theorem yop_b (K : zK u) {d p o k : Nat} (hd : d < yD u) (ho : o < yo u d) (hp : p % yZd u d = 0) (h1 : p + o * yZd u (d + 1) ≤ k) (h2 : k < p + (o + 1) * yZd u (d + 1)) : yop u k d = o := by
  have e := yZd_s K hd
  have z1 : 1 ≤ yZd u (d + 1) := by rw [← e.2]; exact (K.st hd).1
  unfold yop
  rw [e.2]
  obtain ⟨q, hq⟩ : ∃ q, p = yZd u d * q := ⟨p / yZd u d, by have := Nat.div_add_mod p (yZd u d); omega⟩
  rw [e.1] at hq
  generalize yZd u (d + 1) = Z at *
  have hq2 : p = Z * (yo u d * q) := by rw [hq, Nat.mul_comm (yo u d) Z, Nat.mul_assoc]
  have hdiv : k / Z = yo u d * q + o := by
    have e1 : k = Z * (yo u d * q + o) + (k - Z * (yo u d * q + o)) := by
      rw [Nat.mul_add, ← hq2, Nat.mul_comm Z o]
      omega
    have e2 : k - Z * (yo u d * q + o) < Z := by
      rw [Nat.mul_add, ← hq2, Nat.mul_comm Z o]
      rw [Nat.succ_mul] at h2
      omega
    rw [e1, Nat.mul_add_div z1, Nat.div_eq_of_lt e2, Nat.add_zero]
  rw [hdiv, Nat.mul_add_mod, Nat.mod_eq_of_lt ho]
end
