/-! PURE: the lowest bit, the i-th bit, bitCount of small ints -/
theorem low_n {N k : Nat} (h1 : N.testBit k = true) (h0 : ∀ i, i < k → N.testBit i = false) : N = 2 ^ (k + 1) * (N / 2 ^ (k + 1)) + 2 ^ k := by
  have e : N % 2 ^ (k + 1) = 2 ^ k := by
    apply Nat.eq_of_testBit_eq
    intro i
    rw [Nat.testBit_mod_two_pow, Nat.testBit_two_pow]
    by_cases q : i < k
    · rw [h0 i q, Bool.and_false, decide_eq_false (by omega)]
    · by_cases q2 : k = i
      · subst q2
        rw [h1, decide_eq_true (by omega : k < k + 1), decide_eq_true rfl]; rfl
      · rw [decide_eq_false (by omega), decide_eq_false q2]; rfl
  have := Nat.div_add_mod N (2 ^ (k + 1))
  rw [e] at this
  exact this.symm
theorem low_b {N k : Nat} (h1 : N.testBit k = true) (h0 : ∀ i, i < k → N.testBit i = false) (i : Nat) : (N - 1).testBit i = if i < k then true else if i = k then false else N.testBit i := by
  have e := low_n h1 h0
  have hp : 0 < 2 ^ k := Nat.two_pow_pos k
  have hs : 2 ^ (k + 1) = 2 * 2 ^ k := by rw [Nat.pow_succ, Nat.mul_comm]
  have e2 : N - 1 = 2 ^ (k + 1) * (N / 2 ^ (k + 1)) + (2 ^ k - 1) := by omega
  rw [e2, Nat.testBit_two_pow_mul_add _ (by omega : 2 ^ k - 1 < 2 ^ (k + 1)), Nat.testBit_two_pow_sub_one]
  by_cases q : i < k
  · rw [if_pos (by omega), if_pos q, decide_eq_true q]
  · rw [if_neg q]
    by_cases q2 : i = k
    · rw [if_pos (by omega), if_pos q2, decide_eq_false q]
    · rw [if_neg (by omega), if_neg q2]
      conv => rhs; rw [e]
      rw [Nat.testBit_two_pow_mul_add _ (by omega : 2 ^ k < 2 ^ (k + 1)), if_neg (by omega)]
def ntG74 (x n : Int32) : Int32 := n + zusI x (1 : Int32)
def ntG62 (x n : Int32) : Int32 := if x ≤ (4 : Int32) then ntG74 x n else ntG74 (zusI x (2 : Int32)) (n + (2 : Int32))
def ntG49 (x n : Int32) : Int32 := if x ≤ (16 : Int32) then ntG62 x n else ntG62 (zusI x (4 : Int32)) (n + (4 : Int32))
def ntG34 (x n : Int32) : Int32 := if x ≤ (256 : Int32) then ntG49 x n else ntG49 (zusI x (8 : Int32)) (n + (8 : Int32))
def ntG (v : Int32) : Int32 := if 0 < v then (if v ≤ (65536 : Int32) then ntG34 v (1 : Int32) else ntG34 (zusI v (16 : Int32)) ((1 : Int32) + (16 : Int32))) else v &&& (32 : Int32)
theorem nt62 (x n : Int32) (w : gW) : f_Int_numberOfTrailingZeros_b62 x n w = some (ntG62 x n, w) := by
  unfold f_Int_numberOfTrailingZeros_b62 ntG62 f_Int_numberOfTrailingZeros_b74
  simp only [zl_s]
  split <;> rfl
theorem nt49 (x n : Int32) (w : gW) : f_Int_numberOfTrailingZeros_b49 x n w = some (ntG49 x n, w) := by
  unfold f_Int_numberOfTrailingZeros_b49 ntG49
  simp only [zl_s, nt62]
  split <;> rfl
theorem nt34 (x n : Int32) (w : gW) : f_Int_numberOfTrailingZeros_b34 x n w = some (ntG34 x n, w) := by
  unfold f_Int_numberOfTrailingZeros_b34 ntG34
  simp only [zl_s, nt49]
  split <;> rfl
theorem nt_e (a : Int32) (w : gW) : f_Int_numberOfTrailingZeros a w = some (ntG ((a ^^^ (-1 : Int32)) &&& (a - (1 : Int32))), w) := by
  unfold f_Int_numberOfTrailingZeros ntG
  simp only [zl_s, nt34]
  split
  · split <;> rfl
  · rfl
theorem nt_tab : ∀ k, k < 32 → ntG (nI (2 ^ k - 1)) = nI k := by decide +kernel
/-- an int by its bits -/
def bt (x : Int32) (i : Nat) : Bool := x.toBitVec.getLsbD i
theorem b_ext {x y : Int32} (h : ∀ i, i < 32 → bt x i = bt y i) : x = y := Int32.toBitVec_inj.mp (BitVec.eq_of_getLsbD_eq (fun i hi => h i hi))
theorem b_and (x y : Int32) (i : Nat) : bt (x &&& y) i = (bt x i && bt y i) := by unfold bt; rw [Int32.toBitVec_and, BitVec.getLsbD_and]
theorem b_xor (x y : Int32) (i : Nat) : bt (x ^^^ y) i = (bt x i ^^ bt y i) := by unfold bt; rw [Int32.toBitVec_xor, BitVec.getLsbD_xor]
theorem b_m1 : ∀ i, i < 32 → bt (-1) i = true := by decide +kernel
theorem b_nI (n : Nat) {i : Nat} (h : i < 32) : bt (nI n) i = n.testBit i := by
  show (BitVec.ofNat 32 n).getLsbD i = _
  rw [BitVec.getLsbD_ofNat, decide_eq_true h, Bool.true_and]
theorem Int_ntz (x : Int32) (w : gW) {k : Nat} (hk : k < 32) (h1 : bt x k = true) (h0 : ∀ i, i < k → bt x i = false) : f_Int_numberOfTrailingZeros x w = some (nI k, w) := by
  rw [nt_e]
  have e : (x ^^^ (-1 : Int32)) &&& (x - (1 : Int32)) = nI (2 ^ k - 1) := by
    apply b_ext
    intro i hi
    have hx : x.toBitVec.toNat < 2 ^ 32 := x.toBitVec.isLt
    have hx0 : 0 < x.toBitVec.toNat := by
      apply Nat.pos_of_ne_zero
      intro q
      have h1' : x.toBitVec.toNat.testBit k = true := h1
      rw [q, Nat.zero_testBit] at h1'
      cases h1'
    have hs : bt (x - 1) i = (x.toBitVec.toNat - 1).testBit i := by
      show (x.toBitVec - 1#32).toNat.testBit i = _
      rw [BitVec.toNat_sub]
      congr 1
      rw [show (1#32).toNat = 1 from rfl]
      omega
    rw [b_and, b_xor, b_m1 i hi, hs, low_b (N := x.toBitVec.toNat) (k := k) h1 h0 i, b_nI _ hi, Nat.testBit_two_pow_sub_one]
    by_cases q : i < k
    · rw [if_pos q, h0 i q, decide_eq_true q]; rfl
    · rw [if_neg q, decide_eq_false q]
      by_cases q2 : i = k
      · rw [if_pos q2, Bool.and_false]
      · rw [if_neg q2]
        show ((x.toBitVec.toNat.testBit i ^^ true) && x.toBitVec.toNat.testBit i) = false
        cases x.toBitVec.toNat.testBit i <;> rfl
  rw [e, nt_tab k hk]
theorem bt_lo (x : Int64) {i : Nat} (h : i < 32) : bt x.toInt32 i = bL x i := by
  unfold bt bL
  rw [Int64.toBitVec_toInt32, BitVec.signExtend_eq_setWidth_of_le _ (by decide), BitVec.getLsbD_setWidth, decide_eq_true h, Bool.true_and]
theorem Lng_ntz (x : Int64) (w : gW) {k : Nat} (hk : k < 64) (h1 : bL x k = true) (h0 : ∀ i, i < k → bL x i = false) : f_Lng_numberOfTrailingZeros x w = some (nI k, w) := by
  unfold f_Lng_numberOfTrailingZeros
  simp only [zl_s]
  by_cases q : k < 32
  · have hn : ¬ x.toInt32 = 0 := by
      intro e
      have := bt_lo x q
      rw [e, h1] at this
      have e0 : bt 0 k = false := BitVec.getLsbD_zero
      rw [e0] at this
      cases this
    rw [if_neg hn, Int_ntz _ w q (by rw [bt_lo x q]; exact h1) (fun i hi => by rw [bt_lo x (by omega)]; exact h0 i hi)]
    rfl
  · have hz : x.toInt32 = 0 := by
      apply b_ext
      intro i hi
      rw [bt_lo x hi, h0 i (by omega)]
      exact BitVec.getLsbD_zero.symm
    have hh : ∀ i, i < 32 → bt (zusL x (32 : Int32)).toInt32 i = bL x (32 + i) := fun i hi => by
      rw [bt_lo _ hi, show (32 : Int32) = nI 32 from rfl, bL_ushr x (by decide)]
    rw [if_pos hz, Int_ntz _ w (k := k - 32) (by omega) (by rw [hh _ (by omega), show 32 + (k - 32) = k by omega]; exact h1) (fun i hi => by rw [hh _ (by omega)]; exact h0 _ (by omega))]
    show some ((32 : Int32) + nI (k - 32), w) = _
    rw [show (32 : Int32) = nI 32 from rfl, nI_add, show 32 + (k - 32) = k by omega]
theorem L_pred (x : Int64) {k : Nat} (h1 : bL x k = true) (h0 : ∀ i, i < k → bL x i = false) (i : Nat) : bL (x &&& (x - 1)) i = (bL x i && decide (k < i)) := by
  have hx0 : 0 < uN x := by
    apply Nat.pos_of_ne_zero
    intro q
    rw [bL_uN, q, Nat.zero_testBit] at h1
    cases h1
  have hx := uN_lt x
  rw [bL_and]
  have hs : bL (x - 1) i = (uN x - 1).testBit i := by
    rw [bL_uN, uN_sub, show uN 1 = 1 from rfl]
    congr 1
    omega
  rw [hs, low_b (N := uN x) (k := k) h1 h0 i, bL_uN]
  by_cases q : i < k
  · rw [if_pos q, decide_eq_false (by omega), ← bL_uN, h0 i q]; rfl
  · rw [if_neg q]
    by_cases q2 : i = k
    · rw [if_pos q2, decide_eq_false (by omega)]
    · rw [if_neg q2, decide_eq_true (by omega), Bool.and_self, Bool.and_true]
/-- there is a first one -/
theorem ct_first {p : Nat → Bool} : ∀ {n : Nat}, 0 < fb_ct p n → ∃ k, k < n ∧ p k = true ∧ ∀ i, i < k → p i = false
  | 0, h => absurd h (Nat.lt_irrefl 0)
  | n + 1, h => by
    by_cases q : 0 < fb_ct p n
    · obtain ⟨k, hk, h1, h2⟩ := ct_first q
      exact ⟨k, by omega, h1, h2⟩
    · have hz := fb_ct_zero.mp (Nat.eq_zero_of_not_pos q)
      rw [fb_ct_succ] at h
      refine ⟨n, by omega, ?_, hz⟩
      cases e : p n with
      | true => rfl
      | false => rw [e] at h; simp at h; omega
theorem ct_low {p : Nat → Bool} {k : Nat} (h : ∀ i, i < k → p i = false) : fb_ct p k = 0 := fb_ct_zero.mpr h
/-- x without its m lowest bits -/
def dropL (x y : Int64) (m : Nat) : Prop := ∀ j, j < 64 → bL y j = (bL x j && decide (m ≤ fb_ct (bL x) j))
theorem dropL_0 (x : Int64) : dropL x x 0 := fun j _ => by rw [decide_eq_true (Nat.zero_le _), Bool.and_true]
theorem dropL_low {x y : Int64} {m : Nat} (h : dropL x y m) (hm : m < fb_ct (bL x) 64) : ∃ k, k < 64 ∧ bL x k = true ∧ fb_ct (bL x) k = m ∧ bL y k = true ∧ ∀ i, i < k → bL y i = false := by
  have key : ∀ n, m < fb_ct (bL x) n → ∃ k, k < n ∧ bL x k = true ∧ fb_ct (bL x) k = m := by
    intro n
    induction n with
    | zero => intro h; exact absurd h (Nat.not_lt_zero _)
    | succ n ih =>
      intro h
      by_cases q : m < fb_ct (bL x) n
      · obtain ⟨k, hk, h1, h2⟩ := ih q
        exact ⟨k, by omega, h1, h2⟩
      · rw [fb_ct_succ] at h
        refine ⟨n, by omega, ?_, ?_⟩
        · cases e : bL x n with
          | true => rfl
          | false => rw [e] at h; simp at h; omega
        · split at h <;> omega
  obtain ⟨k, hk, h1, h2⟩ := key 64 hm
  refine ⟨k, hk, h1, h2, by rw [h k hk, h1, decide_eq_true (by omega)]; rfl, fun i hi => ?_⟩
  rw [h i (by omega)]
  cases e : bL x i with
  | false => rfl
  | true =>
    have := fb_ct_lt hi e
    rw [decide_eq_false (by omega)]; rfl
theorem dropL_s {x y : Int64} {m : Nat} (h : dropL x y m) (hm : m < fb_ct (bL x) 64) : dropL x (y &&& (y - 1)) (m + 1) := by
  obtain ⟨k, hk, h1, h2, h3, h4⟩ := dropL_low h hm
  intro j hj
  rw [L_pred y h3 h4, h j hj]
  cases e : bL x j with
  | false => rfl
  | true =>
    rw [Bool.true_and, Bool.true_and]
    by_cases q : k < j
    · have := fb_ct_lt q h1
      rw [decide_eq_true q, decide_eq_true (by omega), decide_eq_true (by omega)]; rfl
    · rw [decide_eq_false q, Bool.and_false]
      by_cases q2 : k = j
      · subst q2
        rw [decide_eq_false (by omega)]
      · have := fb_ct_lt (show j < k by omega) e
        rw [decide_eq_false (by omega)]
theorem Ro_bitAt (x : Int64) (w : gW) {i : Nat} (hi : i < fb_ct (bL x) 64) : ∃ k, k < 64 ∧ bL x k = true ∧ fb_ct (bL x) k = i ∧ f_Ro_bitAt x (nI i) w = some (nI k, w) := by
  have h64 := fb_ct_le (bL x) 64
  have key := zfx_ind (fun _ _ _ _ => none) f_Ro_bitAt_b5_s (fun n k5 => ∀ (m : Nat) (y : Int64), m + n = i → dropL x y m → ∃ k, k < 64 ∧ bL x k = true ∧ fb_ct (bL x) k = i ∧ k5 (nI i) y (nI m) w = some (nI k, w)) (fun n k5 ih m y hm hd => by
    unfold f_Ro_bitAt_b5_s f_Ro_bitAt_b30
    cases n with
    | zero =>
      have e : m = i := by omega
      subst e
      rw [if_pos (by rw [n_le (by omega) (by omega)]; omega)]
      obtain ⟨k, hk, h1, h2, h3, h4⟩ := dropL_low hd hi
      refine ⟨k, hk, h1, h2, ?_⟩
      rw [Lng_ntz y w hk h3 h4]
      rfl
    | succ n =>
      rw [if_neg (by rw [n_le (by omega) (by omega)]; omega), if_neg (by rw [show (64 : Int32) = nI 64 from rfl, n_le (by omega) (by omega)]; omega)]
      simp only [zl_s]
      rw [n_1]
      exact ih n (by omega) (m + 1) _ (by omega) (dropL_s hd (by omega))) zFU i (zfu (by omega)) 0 x (by omega) (dropL_0 x)
  exact key
theorem Int_pc : ∀ n, n < 1024 → (let a0 := nI n; let v1 := a0 - ((zusI a0 (1 : Int32)) &&& (1431655765 : Int32)); let v3 := (v1 &&& (858993459 : Int32)) + ((zusI v1 (2 : Int32)) &&& (858993459 : Int32)); let v5 := (v3 + (zusI v3 (4 : Int32))) &&& (252645135 : Int32); let v7 := v5 + (zusI v5 (8 : Int32)); let v9 := v7 + (zusI v7 (16 : Int32)); v9 &&& (63 : Int32)) = nI (fb_ct n.testBit 10) := by decide +kernel
theorem Int_bitCount {n : Nat} (h : n < 1024) (w : gW) : f_Int_bitCount (nI n) w = some (nI (fb_ct n.testBit 10), w) := by
  unfold f_Int_bitCount
  simp only [zl_s]
  rw [← Int_pc n h]
