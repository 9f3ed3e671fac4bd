/-! PURE: bits of longs, how many, the lowest (wb_, fb_ct: out of kit/laws, starting text) -/
theorem wb_c : ∀ k, k < 64 → ((nI k).toInt64 &&& 63) = lN k := by decide +kernel
theorem wb_cu : ∀ k, k < 64 → ((nI k).toInt64.toUInt64 &&& Int64.toUInt64 63) = UInt64.ofNat k := by decide +kernel
theorem wb_sm : ∀ k, k < 64 → (BitVec.ofNat 64 k).smod 64 = BitVec.ofNat 64 k := by decide +kernel
def fb_ct (p : Nat → Bool) : Nat → Nat
  | 0 => 0
  | n + 1 => fb_ct p n + (if p n then 1 else 0)
theorem fb_ct_succ (p : Nat → Bool) (n : Nat) : fb_ct p (n + 1) = fb_ct p n + (if p n then 1 else 0) := rfl
theorem fb_ct_le (p : Nat → Bool) : ∀ n, fb_ct p n ≤ n
  | 0 => Nat.le_refl _
  | n + 1 => by
    have h := fb_ct_le p n
    rw [fb_ct_succ]
    split <;> omega
theorem fb_ct_cong {p q : Nat → Bool} : ∀ {n : Nat}, (∀ k, k < n → p k = q k) → fb_ct p n = fb_ct q n
  | 0, _ => rfl
  | n + 1, h => by rw [fb_ct_succ, fb_ct_succ, fb_ct_cong (fun k hk => h k (by omega)), h n (by omega)]
theorem fb_ct_split (p : Nat → Bool) (m : Nat) : ∀ n, fb_ct p (m + n) = fb_ct p m + fb_ct (fun k => p (m + k)) n
  | 0 => rfl
  | n + 1 => by
    have ih := fb_ct_split p m n
    show fb_ct p (m + n) + (if p (m + n) then 1 else 0) = fb_ct p m + (fb_ct (fun k => p (m + k)) n + (if p (m + n) then 1 else 0))
    omega
theorem fb_ct_zero {p : Nat → Bool} : ∀ {n : Nat}, fb_ct p n = 0 ↔ ∀ k, k < n → p k = false
  | 0 => ⟨fun _ k hk => absurd hk (Nat.not_lt_zero k), fun _ => rfl⟩
  | n + 1 => by
    rw [fb_ct_succ, Nat.add_eq_zero_iff, fb_ct_zero]
    constructor
    · intro h k hk
      by_cases q : k = n
      · subst q
        cases e : p k with
        | false => rfl
        | true => rw [e] at h; exact absurd h.2 (by decide)
      · exact h.1 k (by omega)
    · intro h
      exact ⟨fun k hk => h k (by omega), by rw [h n (by omega)]; rfl⟩
theorem fb_ct_mono (p : Nat → Bool) {m n : Nat} (h : m ≤ n) : fb_ct p m ≤ fb_ct p n := by
  obtain ⟨k, rfl⟩ : ∃ k, n = m + k := ⟨n - m, by omega⟩
  rw [fb_ct_split]
  omega
theorem fb_ct_lt {p : Nat → Bool} {k n : Nat} (h : k < n) (hp : p k = true) : fb_ct p k < fb_ct p n := by
  have := fb_ct_mono p (show k + 1 ≤ n by omega)
  rw [fb_ct_succ, hp] at this
  simp at this
  omega
def bL (x : Int64) (i : Nat) : Bool := x.toBitVec.getLsbD i
theorem bL_ext {x y : Int64} (h : ∀ i, i < 64 → bL x i = bL y i) : x = y := Int64.toBitVec_inj.mp (BitVec.eq_of_getLsbD_eq (fun i hi => h i hi))
theorem bL_and (x y : Int64) (i : Nat) : bL (x &&& y) i = (bL x i && bL y i) := by unfold bL; rw [Int64.toBitVec_and, BitVec.getLsbD_and]
theorem bL_or (x y : Int64) (i : Nat) : bL (x ||| y) i = (bL x i || bL y i) := by unfold bL; rw [Int64.toBitVec_or, BitVec.getLsbD_or]
theorem bL_xor (x y : Int64) (i : Nat) : bL (x ^^^ y) i = (bL x i ^^ bL y i) := by unfold bL; rw [Int64.toBitVec_xor, BitVec.getLsbD_xor]
theorem bL_0 (i : Nat) : bL 0 i = false := BitVec.getLsbD_zero
theorem bL_m1 : ∀ i, i < 64 → bL (-1) i = true := by decide +kernel
theorem bL_1 : ∀ i, i < 64 → bL 1 i = decide (i = 0) := by decide +kernel
theorem bL_not (x : Int64) {i : Nat} (h : i < 64) : bL (x ^^^ (-1)) i = !bL x i := by rw [bL_xor, bL_m1 i h]; cases bL x i <;> rfl
theorem bL_big {x : Int64} {i : Nat} (h : 64 ≤ i) : bL x i = false := BitVec.getLsbD_of_ge _ _ h
theorem bL_z {x : Int64} : (x = 0) ↔ ∀ i, i < 64 → bL x i = false := by
  constructor
  · intro h i _
    rw [h]
    exact bL_0 i
  · intro h
    exact bL_ext (fun i hi => by rw [h i hi, bL_0])
theorem bL_nz {x : Int64} : (¬ x = 0) ↔ ∃ i, i < 64 ∧ bL x i = true := by
  rw [bL_z]
  constructor
  · intro h
    exact Classical.byContradiction (fun q => h (fun i hi => by
      cases e : bL x i with
      | false => rfl
      | true => exact absurd ⟨i, hi, e⟩ q))
  · intro ⟨i, hi, e⟩ h
    rw [h i hi] at e
    cases e
theorem bL_ushr (x : Int64) {k : Nat} (hk : k < 64) (i : Nat) : bL (zusL x (nI k)) i = bL x (k + i) := by
  have e : (zusL x (nI k)).toBitVec = x.toBitVec >>> k := by
    unfold zusL
    rw [wb_cu k hk]
    apply BitVec.eq_of_toNat_eq
    show (x.toUInt64 >>> UInt64.ofNat k).toNat = _
    rw [UInt64.toNat_shiftRight, show (UInt64.ofNat k).toNat = k from Nat.mod_eq_of_lt (by omega), Nat.mod_eq_of_lt hk, BitVec.toNat_ushiftRight]
    rfl
  unfold bL
  rw [e, BitVec.getLsbD_ushiftRight]
theorem bL_shl (x : Int64) {k : Nat} (hk : k < 64) {i : Nat} (hi : i < 64) : bL (zslL x (nI k)) i = (decide (k ≤ i) && bL x (i - k)) := by
  have e : (zslL x (nI k)).toBitVec = x.toBitVec <<< k := by
    unfold zslL
    rw [wb_c k hk, Int64.toBitVec_shiftLeft]
    show x.toBitVec <<< ((BitVec.ofNat 64 k).smod 64) = _
    rw [wb_sm k hk, BitVec.shiftLeft_eq', BitVec.toNat_ofNat, Nat.mod_eq_of_lt (by omega)]
  unfold bL
  rw [e, BitVec.getLsbD_shiftLeft]
  by_cases h : k ≤ i
  · simp [h, hi, Nat.not_lt.mpr h]
  · simp [h, Nat.lt_of_not_le h]
theorem L_bit (x : Int64) {k : Nat} (hk : k < 64) : (zusL x (nI k)) &&& (1 : Int64) = if bL x k = true then 1 else 0 := by
  apply bL_ext
  intro i hi
  rw [bL_and, bL_ushr x hk, bL_1 i hi]
  by_cases q : i = 0
  · subst q
    rw [decide_eq_true rfl, Bool.and_true, Nat.add_zero]
    cases h : bL x k with
    | true => rfl
    | false => rfl
  · rw [decide_eq_false q, Bool.and_false]
    split
    · rw [bL_1 i hi, decide_eq_false q]
    · rw [bL_0]
theorem L_bitI (x : Int64) {k : Nat} (hk : k < 64) : ((zusL x (nI k)) &&& (1 : Int64)).toInt32 = bI (bL x k) := by
  rw [L_bit x hk]
  cases bL x k <;> rfl
def uN (x : Int64) : Nat := x.toUInt64.toNat
theorem uN_lt (x : Int64) : uN x < 18446744073709551616 := x.toUInt64.toNat_lt
theorem uN_inj {x y : Int64} (h : uN x = uN y) : x = y := congrArg UInt64.toInt64 (UInt64.toNat_inj.mp h)
theorem uN_add (x y : Int64) : uN (x + y) = (uN x + uN y) % 18446744073709551616 := by
  show (x.toUInt64 + y.toUInt64).toNat = _
  exact UInt64.toNat_add _ _
theorem uN_sub (x y : Int64) : uN (x - y) = (18446744073709551616 - uN y + uN x) % 18446744073709551616 := by
  show (x.toUInt64 - y.toUInt64).toNat = _
  exact UInt64.toNat_sub _ _
theorem uN_and (x y : Int64) : uN (x &&& y) = uN x &&& uN y := by
  show (x.toUInt64 &&& y.toUInt64).toNat = _
  exact UInt64.toNat_and _ _
theorem uN_sk (x : Int64) {k : Nat} (hk : k < 64) : uN (zusL x (nI k)) = uN x / 2 ^ k := by
  unfold zusL
  rw [wb_cu k hk]
  show (x.toUInt64 >>> UInt64.ofNat k).toNat = _
  rw [UInt64.toNat_shiftRight, show (UInt64.ofNat k).toNat = k from Nat.mod_eq_of_lt (by omega), Nat.mod_eq_of_lt hk, Nat.shiftRight_eq_div_pow]
  rfl
theorem bL_uN (x : Int64) (i : Nat) : bL x i = (uN x).testBit i := rfl
/-- the steps of bitCount, byte by byte -/
theorem pc_and1 : ∀ r, r < 128 → ∀ b, b < 2 → (r + 128 * b) &&& 85 = r &&& 85 := by decide +kernel
theorem pc_and2 : ∀ r, r < 64 → ∀ b, b < 4 → (r + 64 * b) &&& 51 = r &&& 51 := by decide +kernel
theorem pc_spl (n m M : Nat) (hm : m < 256) : n &&& (m + 256 * M) = (n % 256 &&& m) + 256 * (n / 256 &&& M) := by
  have h1 := Nat.div_add_mod (n &&& (m + 256 * M)) (2 ^ 8)
  rw [Nat.and_div_two_pow, Nat.and_mod_two_pow] at h1
  rw [show (m + 256 * M) / 2 ^ 8 = M by omega, show (m + 256 * M) % 2 ^ 8 = m by omega] at h1
  rw [show (2 : Nat) ^ 8 = 256 from rfl] at h1
  omega
def pcA (n M : Nat) : Nat := n - (n / 2 &&& M)
def pcB (n M : Nat) : Nat := (n &&& M) + (n / 4 &&& M)
def pcC (n M : Nat) : Nat := (n + n / 16) &&& M
theorem pcA_le (n M : Nat) : (n / 2 &&& M) ≤ n := Nat.le_trans Nat.and_le_left (Nat.div_le_self n 2)
theorem pcA_s (n M : Nat) : pcA n (85 + 256 * M) = pcA (n % 256) 85 + 256 * pcA (n / 256) M := by
  unfold pcA
  rw [pc_spl _ _ _ (by decide)]
  have e1 : n / 2 % 256 = n % 256 / 2 + 128 * (n / 256 % 2) := by omega
  have e2 : n / 2 / 256 = n / 256 / 2 := by omega
  rw [e1, e2, pc_and1 _ (by omega) _ (by omega)]
  have l1 := pcA_le (n % 256) 85
  have l2 := pcA_le (n / 256) M
  omega
theorem pcB_s (n M : Nat) : pcB n (51 + 256 * M) = pcB (n % 256) 51 + 256 * pcB (n / 256) M := by
  unfold pcB
  rw [pc_spl _ _ _ (by decide), pc_spl _ _ _ (by decide)]
  have e1 : n / 4 % 256 = n % 256 / 4 + 64 * (n / 256 % 4) := by omega
  have e2 : n / 4 / 256 = n / 256 / 4 := by omega
  rw [e1, e2, pc_and2 _ (by omega) _ (by omega)]
  omega
theorem pc_nib : ∀ b, b < 256 → pcB (pcA b 85) 51 % 16 ≤ 4 ∧ pcB (pcA b 85) 51 / 16 ≤ 4 ∧ pcB (pcA b 85) 51 < 256 ∧ pcA b 85 < 256 ∧ pcC (pcB (pcA b 85) 51) 15 = fb_ct b.testBit 8 := by decide +kernel
theorem pcC_s (lo hi M : Nat) (h1 : lo % 16 ≤ 4) (h2 : lo / 16 ≤ 4) (h3 : hi % 16 ≤ 4) : pcC (lo + 256 * hi) (15 + 256 * M) = pcC lo 15 + 256 * pcC hi M := by
  unfold pcC
  rw [pc_spl _ _ _ (by decide)]
  have e0 : lo + 256 * hi + (lo + 256 * hi) / 16 = (lo + lo / 16 + 16 * (hi % 16)) + 256 * (hi + hi / 16) := by omega
  rw [e0]
  have e1 : ((lo + lo / 16 + 16 * (hi % 16)) + 256 * (hi + hi / 16)) % 256 = lo + lo / 16 + 16 * (hi % 16) := by omega
  have e2 : ((lo + lo / 16 + 16 * (hi % 16)) + 256 * (hi + hi / 16)) / 256 = hi + hi / 16 := by omega
  rw [e1, e2, show (15 : Nat) = 2 ^ 4 - 1 from rfl, Nat.and_two_pow_sub_one_eq_mod, Nat.and_two_pow_sub_one_eq_mod]
  omega
def pcM (m : Nat) : Nat → Nat
  | 0 => 0
  | j + 1 => m + 256 * pcM m j
def pcF (n : Nat) (j : Nat) : Nat := pcC (pcB (pcA n (pcM 85 j)) (pcM 51 j)) (pcM 15 j)
theorem pcA_lt (n M : Nat) : pcA n M ≤ n := by unfold pcA; omega
theorem pcAB (n j : Nat) : pcB (pcA n (pcM 85 (j + 1))) (pcM 51 (j + 1)) = pcB (pcA (n % 256) 85) 51 + 256 * pcB (pcA (n / 256) (pcM 85 j)) (pcM 51 j) := by
  show pcB (pcA n (85 + 256 * pcM 85 j)) (51 + 256 * pcM 51 j) = _
  rw [pcA_s, pcB_s]
  have h := pc_nib (n % 256) (by omega)
  rw [show (pcA (n % 256) 85 + 256 * pcA (n / 256) (pcM 85 j)) % 256 = pcA (n % 256) 85 by omega, show (pcA (n % 256) 85 + 256 * pcA (n / 256) (pcM 85 j)) / 256 = pcA (n / 256) (pcM 85 j) by omega]
theorem pcAB_nib : ∀ (j n : Nat), pcB (pcA n (pcM 85 j)) (pcM 51 j) % 16 ≤ 4
  | 0, n => by
    show pcB (pcA n 0) 0 % 16 ≤ 4
    unfold pcB
    rw [Nat.and_zero, Nat.and_zero]
    decide
  | j + 1, n => by
    rw [pcAB]
    have h := (pc_nib (n % 256) (by omega)).1
    omega
theorem pcF_s (n j : Nat) : pcF n (j + 1) = fb_ct (n % 256).testBit 8 + 256 * pcF (n / 256) j := by
  unfold pcF
  rw [pcAB]
  show pcC _ (15 + 256 * pcM 15 j) = _
  have h := pc_nib (n % 256) (by omega)
  rw [pcC_s _ _ _ h.1 h.2.1 (pcAB_nib j _), h.2.2.2.2]
theorem pc_ct (n j : Nat) : fb_ct (n % 256).testBit 8 + fb_ct (n / 256).testBit j = fb_ct n.testBit (8 + j) := by
  rw [fb_ct_split]
  congr 1
  · apply fb_ct_cong
    intro k hk
    rw [show (256 : Nat) = 2 ^ 8 from rfl, Nat.testBit_mod_two_pow, decide_eq_true hk, Bool.true_and]
  · apply fb_ct_cong
    intro k hk
    rw [show (256 : Nat) = 2 ^ 8 from rfl, Nat.testBit_div_two_pow, Nat.add_comm]
theorem ct8 (b : Nat) : fb_ct (b % 256).testBit 8 ≤ 8 := fb_ct_le _ 8
theorem pc_all (n : Nat) (hn : n < 18446744073709551616) : ∃ c0 c1 c2 c3 c4 c5 c6 c7 : Nat, (c0 ≤ 8 ∧ c1 ≤ 8 ∧ c2 ≤ 8 ∧ c3 ≤ 8 ∧ c4 ≤ 8 ∧ c5 ≤ 8 ∧ c6 ≤ 8 ∧ c7 ≤ 8) ∧ pcF n 8 = c0 + 256 * (c1 + 256 * (c2 + 256 * (c3 + 256 * (c4 + 256 * (c5 + 256 * (c6 + 256 * c7)))))) ∧ c0 + (c1 + (c2 + (c3 + (c4 + (c5 + (c6 + c7)))))) = fb_ct n.testBit 64 := by
  refine ⟨fb_ct (n % 256).testBit 8, fb_ct (n / 256 % 256).testBit 8, fb_ct (n / 256 / 256 % 256).testBit 8, fb_ct (n / 256 / 256 / 256 % 256).testBit 8, fb_ct (n / 256 / 256 / 256 / 256 % 256).testBit 8, fb_ct (n / 256 / 256 / 256 / 256 / 256 % 256).testBit 8, fb_ct (n / 256 / 256 / 256 / 256 / 256 / 256 % 256).testBit 8, fb_ct (n / 256 / 256 / 256 / 256 / 256 / 256 / 256 % 256).testBit 8, ⟨ct8 _, ct8 _, ct8 _, ct8 _, ct8 _, ct8 _, ct8 _, ct8 _⟩, ?_, ?_⟩
  · rw [pcF_s, pcF_s, pcF_s, pcF_s, pcF_s, pcF_s, pcF_s, pcF_s]
    have e : ∀ m, pcF m 0 = 0 := fun m => by
      show pcC _ 0 = 0
      unfold pcC
      exact Nat.and_zero _
    rw [e, Nat.mul_zero, Nat.add_zero]
  · rw [show n / 256 / 256 / 256 / 256 / 256 / 256 / 256 % 256 = n / 256 / 256 / 256 / 256 / 256 / 256 / 256 by omega]
    rw [pc_ct, pc_ct, pc_ct, pc_ct, pc_ct, pc_ct, pc_ct]
theorem dv1 (a r : Nat) (h : a < 256) : (a + 256 * r) / 256 = r := by omega
theorem dv2 (a b r : Nat) (h : a + 256 * b < 65536) : (a + 256 * (b + 256 * r)) / 65536 = r := by omega
theorem dv4 (a b c d r : Nat) (h : a + 256 * b + 65536 * c + 16777216 * d < 4294967296) : (a + 256 * (b + 256 * (c + 256 * (d + 256 * r)))) / 4294967296 = r := by omega
theorem dvm (g r : Nat) (h : g < 128) : (g + 256 * r) % 128 = g := by omega
theorem pc_s2 (d0 d1 d2 d3 d4 d5 d6 d7 : Nat) (h : d0 ≤ 16 ∧ d1 ≤ 16 ∧ d2 ≤ 16 ∧ d3 ≤ 16 ∧ d4 ≤ 16 ∧ d5 ≤ 16 ∧ d6 ≤ 16 ∧ d7 ≤ 16) (p : Nat) (hp : p = d0 + 256 * (d1 + 256 * (d2 + 256 * (d3 + 256 * (d4 + 256 * (d5 + 256 * (d6 + 256 * d7))))))) : p + p / 65536 = (d0 + d2) + 256 * ((d1 + d3) + 256 * ((d2 + d4) + 256 * ((d3 + d5) + 256 * ((d4 + d6) + 256 * ((d5 + d7) + 256 * (d6 + 256 * d7)))))) := by
  have e : p / 65536 = d2 + 256 * (d3 + 256 * (d4 + 256 * (d5 + 256 * (d6 + 256 * d7)))) := by
    rw [hp]
    exact dv2 d0 d1 _ (by omega)
  rw [e, hp]
  clear e hp
  omega
theorem pc_s3 (e0 e1 e2 e3 e4 e5 e6 e7 : Nat) (h : e0 ≤ 32 ∧ e1 ≤ 32 ∧ e2 ≤ 32 ∧ e3 ≤ 32 ∧ e4 ≤ 32 ∧ e5 ≤ 32 ∧ e6 ≤ 32 ∧ e7 ≤ 32) (q : Nat) (hq : q = e0 + 256 * (e1 + 256 * (e2 + 256 * (e3 + 256 * (e4 + 256 * (e5 + 256 * (e6 + 256 * e7))))))) : q + q / 4294967296 = (e0 + e4) + 256 * ((e1 + e5) + 256 * ((e2 + e6) + 256 * ((e3 + e7) + 256 * (e4 + 256 * (e5 + 256 * (e6 + 256 * e7)))))) := by
  have e : q / 4294967296 = e4 + 256 * (e5 + 256 * (e6 + 256 * e7)) := by
    rw [hq]
    exact dv4 e0 e1 e2 e3 _ (by omega)
  rw [e, hq]
  clear e hq
  omega
theorem pc_s1 (c0 c1 c2 c3 c4 c5 c6 c7 : Nat) (h : c0 ≤ 8 ∧ c1 ≤ 8 ∧ c2 ≤ 8 ∧ c3 ≤ 8 ∧ c4 ≤ 8 ∧ c5 ≤ 8 ∧ c6 ≤ 8 ∧ c7 ≤ 8) (v : Nat) (hv : v = c0 + 256 * (c1 + 256 * (c2 + 256 * (c3 + 256 * (c4 + 256 * (c5 + 256 * (c6 + 256 * c7))))))) : v + v / 256 = (c0 + c1) + 256 * ((c1 + c2) + 256 * ((c2 + c3) + 256 * ((c3 + c4) + 256 * ((c4 + c5) + 256 * ((c5 + c6) + 256 * ((c6 + c7) + 256 * c7)))))) := by
  have e : v / 256 = c1 + 256 * (c2 + 256 * (c3 + 256 * (c4 + 256 * (c5 + 256 * (c6 + 256 * c7))))) := by
    rw [hv]
    exact dv1 c0 _ (by omega)
  rw [e, hv]
  clear e hv
  omega
theorem pc_b1 (c0 c1 c2 c3 c4 c5 c6 c7 : Nat) (h : c0 ≤ 8 ∧ c1 ≤ 8 ∧ c2 ≤ 8 ∧ c3 ≤ 8 ∧ c4 ≤ 8 ∧ c5 ≤ 8 ∧ c6 ≤ 8 ∧ c7 ≤ 8) : (c0 + c1 ≤ 16 ∧ c1 + c2 ≤ 16 ∧ c2 + c3 ≤ 16 ∧ c3 + c4 ≤ 16 ∧ c4 + c5 ≤ 16 ∧ c5 + c6 ≤ 16 ∧ c6 + c7 ≤ 16 ∧ c7 ≤ 16) := by omega
theorem pc_b2 (c0 c1 c2 c3 c4 c5 c6 c7 : Nat) (h : c0 ≤ 16 ∧ c1 ≤ 16 ∧ c2 ≤ 16 ∧ c3 ≤ 16 ∧ c4 ≤ 16 ∧ c5 ≤ 16 ∧ c6 ≤ 16 ∧ c7 ≤ 16) : (c0 + c2 ≤ 32 ∧ c1 + c3 ≤ 32 ∧ c2 + c4 ≤ 32 ∧ c3 + c5 ≤ 32 ∧ c4 + c6 ≤ 32 ∧ c5 + c7 ≤ 32 ∧ c6 ≤ 32 ∧ c7 ≤ 32) := by omega
theorem pc_bd (c0 c1 c2 c3 c4 c5 c6 c7 : Nat) (h : c0 ≤ 64 ∧ c1 ≤ 64 ∧ c2 ≤ 64 ∧ c3 ≤ 64 ∧ c4 ≤ 64 ∧ c5 ≤ 64 ∧ c6 ≤ 64 ∧ c7 ≤ 64) : c0 + 256 * (c1 + 256 * (c2 + 256 * (c3 + 256 * (c4 + 256 * (c5 + 256 * (c6 + 256 * c7)))))) < 18446744073709551616 := by omega
theorem pc_sum (v c0 c1 c2 c3 c4 c5 c6 c7 : Nat) (h : c0 ≤ 8 ∧ c1 ≤ 8 ∧ c2 ≤ 8 ∧ c3 ≤ 8 ∧ c4 ≤ 8 ∧ c5 ≤ 8 ∧ c6 ≤ 8 ∧ c7 ≤ 8) (hv : v = c0 + 256 * (c1 + 256 * (c2 + 256 * (c3 + 256 * (c4 + 256 * (c5 + 256 * (c6 + 256 * c7))))))) :
    ∃ p q r : Nat, v + v / 256 = p ∧ p + p / 65536 = q ∧ q + q / 4294967296 = r ∧ (p < 18446744073709551616 ∧ q < 18446744073709551616 ∧ r < 18446744073709551616) ∧ r % 128 = c0 + (c1 + (c2 + (c3 + (c4 + (c5 + (c6 + c7)))))) := by
  have e1 := pc_s1 c0 c1 c2 c3 c4 c5 c6 c7 h v hv
  have h1 := pc_b1 c0 c1 c2 c3 c4 c5 c6 c7 h
  have e2 := pc_s2 _ _ _ _ _ _ _ _ h1 _ e1
  have h2 := pc_b2 _ _ _ _ _ _ _ _ h1
  have e3 := pc_s3 _ _ _ _ _ _ _ _ h2 _ e2
  refine ⟨_, _, _, rfl, rfl, rfl, ⟨?_, ?_, ?_⟩, ?_⟩
  · rw [e1]
    clear e1 e2 e3 hv
    exact pc_bd _ _ _ _ _ _ _ _ (by omega)
  · rw [e2]
    clear e1 e2 e3 hv
    exact pc_bd _ _ _ _ _ _ _ _ (by omega)
  · rw [e3]
    clear e1 e2 e3 hv
    exact pc_bd _ _ _ _ _ _ _ _ (by omega)
  · rw [e3]
    clear e1 e2 e3 hv
    rw [dvm _ _ (by omega)]
    omega
theorem pc_mm (z : Nat) : z % 4294967296 % 2 ^ 7 = z % 128 := by omega
theorem pcA_u (x : Int64) : uN (x - ((zusL x (1 : Int32)) &&& (6148914691236517205 : Int64))) = pcA (uN x) (pcM 85 8) := by
  have m1 : uN (6148914691236517205 : Int64) = pcM 85 8 := by decide +kernel
  have l := pcA_le (uN x) (pcM 85 8)
  have hx := uN_lt x
  rw [uN_sub, uN_and, m1, show (1 : Int32) = nI 1 from rfl, uN_sk x (by decide)]
  unfold pcA
  rw [show (2 : Nat) ^ 1 = 2 from rfl]
  generalize uN x / 2 &&& pcM 85 8 = y at l ⊢
  generalize uN x = z at *
  omega
theorem pcB_lt (n : Nat) : pcB n (pcM 51 8) < 8000000000000000000 := by
  unfold pcB
  have a1 := Nat.and_le_right (n := n) (m := pcM 51 8)
  have a2 := Nat.and_le_right (n := n / 4) (m := pcM 51 8)
  have a3 : pcM 51 8 = 3689348814741910323 := by decide +kernel
  generalize n &&& pcM 51 8 = y at a1 ⊢
  generalize n / 4 &&& pcM 51 8 = z at a2 ⊢
  rw [a3] at a1 a2
  omega
theorem Lng_bitCount (x : Int64) (w : gW) : f_Lng_bitCount x w = some (nI (fb_ct (bL x) 64), w) := by
  unfold f_Lng_bitCount
  simp only [zl_s]
  congr 2
  have m2 : uN (3689348814741910323 : Int64) = pcM 51 8 := by decide +kernel
  have m3 : uN (1085102592571150095 : Int64) = pcM 15 8 := by decide +kernel
  have hA := pcA_u x
  have lB := pcB_lt (pcA (uN x) (pcM 85 8))
  generalize x - ((zusL x (1 : Int32)) &&& (6148914691236517205 : Int64)) = y1 at hA ⊢
  have hB : uN ((y1 &&& (3689348814741910323 : Int64)) + ((zusL y1 (2 : Int32)) &&& (3689348814741910323 : Int64))) = pcB (pcA (uN x) (pcM 85 8)) (pcM 51 8) := by
    rw [uN_add, uN_and, uN_and, m2, show (2 : Int32) = nI 2 from rfl, uN_sk y1 (by decide), hA, show (2 : Nat) ^ 2 = 4 from rfl]
    exact Nat.mod_eq_of_lt (Nat.lt_trans lB (by decide))
  generalize (y1 &&& (3689348814741910323 : Int64)) + ((zusL y1 (2 : Int32)) &&& (3689348814741910323 : Int64)) = y2 at hB ⊢
  have hC : uN ((y2 + (zusL y2 (4 : Int32))) &&& (1085102592571150095 : Int64)) = pcF (uN x) 8 := by
    rw [uN_and, m3, uN_add, show (4 : Int32) = nI 4 from rfl, uN_sk y2 (by decide), hB, show (2 : Nat) ^ 4 = 16 from rfl]
    have lB2 : pcB (pcA (uN x) (pcM 85 8)) (pcM 51 8) + pcB (pcA (uN x) (pcM 85 8)) (pcM 51 8) / 16 < 18446744073709551616 := by
      generalize pcB (pcA (uN x) (pcM 85 8)) (pcM 51 8) = z at lB ⊢
      clear hA hB
      omega
    rw [Nat.mod_eq_of_lt lB2]
    rfl
  generalize (y2 + (zusL y2 (4 : Int32))) &&& (1085102592571150095 : Int64) = y3 at hC ⊢
  obtain ⟨c0, c1, c2, c3, c4, c5, c6, c7, hc, h1, h2⟩ := pc_all (uN x) (uN_lt x)
  obtain ⟨p, q, r, hp, hq, hr, ⟨bp, bq, br⟩, hs⟩ := pc_sum _ c0 c1 c2 c3 c4 c5 c6 c7 hc h1
  rw [← hC] at hp
  have hD : uN (y3 + (zusL y3 (8 : Int32))) = p := by
    rw [uN_add, show (8 : Int32) = nI 8 from rfl, uN_sk y3 (by decide), show (2 : Nat) ^ 8 = 256 from rfl, hp]
    exact Nat.mod_eq_of_lt bp
  generalize y3 + (zusL y3 (8 : Int32)) = y4 at hD ⊢
  have hE : uN (y4 + (zusL y4 (16 : Int32))) = q := by
    rw [uN_add, show (16 : Int32) = nI 16 from rfl, uN_sk y4 (by decide), show (2 : Nat) ^ 16 = 65536 from rfl, hD, hq]
    exact Nat.mod_eq_of_lt bq
  generalize y4 + (zusL y4 (16 : Int32)) = y5 at hE ⊢
  have hF : uN (y5 + (zusL y5 (32 : Int32))) = r := by
    rw [uN_add, show (32 : Int32) = nI 32 from rfl, uN_sk y5 (by decide), show (2 : Nat) ^ 32 = 4294967296 from rfl, hE, hr]
    exact Nat.mod_eq_of_lt br
  generalize y5 + (zusL y5 (32 : Int32)) = y6 at hF ⊢
  rw [pk_and _ 7 (by decide)]
  have ht : y6.toInt32.toBitVec.toNat = uN y6 % 4294967296 := by
    rw [Int64.toBitVec_toInt32, BitVec.signExtend_eq_setWidth_of_le _ (by decide), BitVec.toNat_setWidth]
    rfl
  rw [ht, hF, pc_mm, hs, h2]
  rfl
