/-! PURE: what a world means; the invariant -/
def yD (u : gW) : Nat := ix (u.1 107 21)
def yY (u : gW) : Nat := ix (u.1 107 22)
def yO (u : gW) : Nat := ix (u.1 107 6)
def yS (u : gW) : Nat := ix (u.1 107 35)
def yF (u : gW) : Nat := ix (u.1 107 36)
def yr (u : gW) (d : Nat) : Nat := ix (u.1 112 d)
def yf (u : gW) (d : Nat) : Nat := ix (u.1 113 d)
def yl (u : gW) (d : Nat) : Nat := ix (u.1 114 d)
/-- options of a deed; products of options; lives; strides -/
def yo (u : gW) (d : Nat) : Nat := yl u d + 2 - yf u d
def yZ (u : gW) : Nat → Nat → Nat
  | 0, _ => 1
  | n + 1, d => yo u d * yZ u n (d + 1)
def yT (u : gW) : Nat := if yD u = 0 then 0 else yZ u (yD u) 0
def yst (u : gW) (d : Nat) : Nat := yZ u (yD u - 1 - d) (d + 1)
def yop (u : gW) (k d : Nat) : Nat := k / yst u d % yo u d
/-- the day of an option; of a deed in the k-th life; its number -/
def yg (u : gW) (d o : Nat) : Nat := if o + 1 < yo u d then yf u d + o else 9
def yd (u : gW) (k d : Nat) : Nat := yg u d (yop u k d)
def yn (u : gW) (k : Nat) : Nat → Nat
  | 0 => 0
  | d + 1 => yn u k d * 10 + yd u k d
def yN (u : gW) (k : Nat) : Nat := yn u k (yD u)
/-- codes of an oath; what it comes to on a day, with some sworn ones there, in a life -/
def ycs (u : gW) (o : Nat) : List Nat := (List.range (ix (u.1 16 o))).map (fun i => ix (u.1 (7 + o) i))
def yE (nd : Nat) (L : Nat → Nat) (s th k a b : Nat) : Bool := match k with
  | 0 => decide (a < nd ∧ L a < s ∧ L a ≤ b)
  | 1 => decide (a < nd ∧ b < nd ∧ L a < s ∧ L b < s ∧ L a < L b)
  | 2 => decide (a < nd ∧ b < nd ∧ L a < s ∧ L b < s ∧ L a = L b)
  | _ => th.testBit a
def yH (u : gW) (o s th k : Nat) : Bool := eVl (yE (yD u) (yd u k) s th) (ycs u o)
/-- a bit of a row -/
def zbt (u : gW) (c k : Nat) : Bool := bL (u.2 c (k / 64)) (k % 64)
def jLnd (u : gW) : Prop := jL (yD u) u ∧ (∀ d, d < yD u → u.1 112 d = nI (yr u d) ∧ u.1 113 d = nI (yf u d) ∧ u.1 114 d = nI (yl u d) ∧ yr u d < 6 ∧ yf u d ≤ yl u d ∧ yl u d < yY u) ∧ (∀ d, d < yD u → u.1 21 d = nI (yo u d) ∧ u.1 22 d = nI (yst u d)) ∧ u.1 19 6 = nI (yT u) ∧ u.1 107 26 = nI (yT u) ∧ (∀ k, k < yT u → u.1 118 k = nI (yN u k)) ∧ ∀ d, d < yD u → ∀ s, s < 7 → ∀ k, k < yT u → zbt u (24 + (7 * d + s)) k = decide (yd u k d < s)
def jNum (u : gW) : Prop := jC (yD u) (yY u) (yO u) (yS u) (yF u) u ∧ (yD u = 0 ∧ yY u = 0 ∧ yS u = 0 ∧ yF u = 0 ∨ 0 < yD u ∧ 2 ≤ yY u ∧ yY u ≤ 6)
def jOat (u : gW) : Prop := ∀ o, o < yO u → ∃ (n : Nat) (f : Nat → Nat), (n ≤ 120 ∧ u.1 110 o = nI n ∧ ∀ j, j < n → 0 < f j ∧ f j < 256 ∧ u.1 109 (120 * o + j) = (nI (f j)).toInt8.toInt32) ∧ (pAll f n).1 = true ∧ ycs u o = (pAll f n).2.2 ∧ u.1 16 o = nI (ycs u o).length ∧ (∀ i, i < (ycs u o).length → u.1 (7 + o) i = nI ((ycs u o).getD i 0)) ∧ u.1 17 o = nI (nmO (ycs u o))
/-- land, numbers and oaths: what no court changes -/
def zK (u : gW) : Prop := jNum u ∧ jLnd u ∧ jOat u
def pSw (S P O Y C : Nat → Int32) (ns no ny : Nat) : Prop := ∀ i, i < ns → (S (4 * i) = P i ∧ S (4 * i + 1) = O i ∧ S (4 * i + 2) = Y i ∧ S (4 * i + 3) = C i) ∧ (P i = nI (ix (P i)) ∧ ix (P i) < 6) ∧ (O i = nI (ix (O i)) ∧ ix (O i) < no) ∧ (Y i = nI (ix (Y i)) ∧ ix (Y i) ≤ ny) ∧ C i = nI (ix (C i)) ∧ ix (C i) ≤ 99
def pFc (A B C A' B' C' : Nat → Int32) (nf nd ny : Nat) : Prop := ∀ i, i < nf → (A i = A' i ∧ B i = B' i ∧ C i = C' i) ∧ (A' i = nI (ix (A' i)) ∧ ix (A' i) < nd) ∧ (B' i = nI (ix (B' i)) ∧ (ix (B' i) < ny ∨ ix (B' i) = 9)) ∧ (C' i = 0 ∨ C' i = 1)
def pAc (A B : Nat → Int32) (ns nf : Nat) : Prop := (∀ a, a < ns + nf → (A a = 1 ∧ B a = 1 ∨ A a = 2 ∧ B a = 0)) ∧ fb_ct (fun a => decide (A a = 1)) (ns + nf) = ns
def pWt (A B : Nat → Int32) (nd : Nat) : Prop := 0 < nd → ∀ j, j < 50 → A j = B j ∧ B j = nI (ix (B j)) ∧ ix (B j) ≤ 9
def jRec (u : gW) : Prop := pSw (u.1 60) (u.1 119) (u.1 120) (u.1 121) (u.1 122) (yS u) (yO u) (yY u) ∧ pFc (u.1 61) (u.1 62) (u.1 63) (u.1 123) (u.1 124) (u.1 125) (yF u) (yD u) (yY u) ∧ pAc (u.1 64) (u.1 126) (yS u) (yF u) ∧ pWt (u.1 65) (u.1 129) (yD u)
def jGai (u : gW) : Prop := ∀ j, j < 8 → u.1 18 j = u.1 131 j ∧ u.1 131 j = nI (ix (u.1 131 j)) ∧ ix (u.1 131 j) ≤ 99
def jIma (u : gW) : Prop := (u.1 0 11 = 0 ∧ u.1 107 58 = 0) ∨ ((u.1 0 11 = 1 ∧ u.1 107 58 = 1) ∧ 0 < yD u ∧ ∃ ns nf : Nat, (ns ≤ 10 ∧ nf ≤ 20) ∧ (u.1 66 6 = nI ns ∧ u.1 66 7 = nI nf) ∧ (u.1 107 55 = nI ns ∧ u.1 107 56 = nI nf ∧ u.1 107 57 = nI ns + nI nf) ∧ pSw (u.1 67) (fun i => u.1 132 (4 * i)) (fun i => u.1 132 (4 * i + 1)) (fun i => u.1 132 (4 * i + 2)) (fun i => u.1 132 (4 * i + 3)) ns (yO u) (yY u) ∧ pFc (u.1 68) (u.1 69) (u.1 70) (fun i => u.1 132 (40 + 2 * i)) (fun i => u.1 132 (40 + 2 * i + 1)) (u.1 133) nf (yD u) (yY u) ∧ pAc (u.1 71) (u.1 134) ns nf ∧ pWt (u.1 72) (fun j => u.1 132 (80 + j)) (yD u))
/-- possible, fits -/
def ypo (u : gW) (k : Nat) : Bool := decide (∀ i, i < yF u → (yd u k (ix (u.1 123 i)) = ix (u.1 124 i) ↔ u.1 125 i = 1))
def yal (u : gW) : Nat := 2 ^ yS u - 1
def yHs (u : gW) (i th k : Nat) : Bool := yH u (ix (u.1 120 i)) (ix (u.1 121 i)) th k
def yfi (u : gW) (k : Nat) : Bool := ypo u k && decide (∀ i, i < yS u → yHs u i (yal u) k = true)
def jCou (u : gW) : Prop := (∀ k, k < 16832 → zbt u 75 k = (decide (k < yT u) && ypo u k)) ∧ (∀ k, k < 16832 → zbt u 76 k = (decide (k < yT u) && yfi u k)) ∧ ∀ i, i < yS u → ∀ k, k < yT u → zbt u (78 + i) k = yHs u i (yal u) k
def jTap (u : gW) : Prop := ∃ (n : Nat) (f : Nat → Nat), jT n f u
def zJ (u : gW) : Prop := zK u ∧ jRec u ∧ jCou u ∧ jTap u ∧ jGai u ∧ jIma u
/-- alike but for scratch and the court's rows -/
def zKL (a : Nat) : Bool := zScrL a || [75, 76, 78, 79, 80, 81, 82, 83, 84, 85, 86, 87].contains a
def zEk (u w : gW) : Prop := zAg zScrI zKL u w
theorem zE.k {u w : gW} (h : zE u w) : zEk u w := ⟨h.1, fun a b q => h.2 a b (by unfold zKL at q; cases e : zScrL a with | false => rfl | true => rw [e] at q; cases q)⟩
/-- only the stack changes -/
def zSk (u w : gW) : Prop := zAg (fun _ _ => false) (fun a => a == 74) u w
theorem zSk.k {u w v : gW} (h : zEk u w) (k : zSk w v) : zEk u v := zAg.tr h (zAg.wk k (fun _ _ q => by cases q) (fun a q => by
  have e : a = 74 := by simpa using q
  subst e
  decide))
theorem zSk.e {u w v : gW} (h : zE u w) (k : zSk w v) : zE u v := by
  have k2 : zAg zScrI zScrL w v := zAg.wk k (fun _ _ q => by cases q) (fun a q => by
    have e : a = 74 := by simpa using q
    subst e
    decide)
  exact zAg.tr (show zAg zScrI zScrL u w from h) k2
theorem zSk.rf (w : gW) : zSk w w := zAg.rf _ _ _
theorem zSk.tr {u w v : gW} (h : zSk u w) (k : zSk w v) : zSk u v := zAg.tr h k
theorem zSk.i {u w : gW} (h : zSk u w) : w.1 = u.1 := by funext a b; exact h.1 a b rfl
theorem zSk.l {u w : gW} (h : zSk u w) {a : Nat} (ha : a ≠ 74) (b : Nat) : w.2 a b = u.2 a b := h.2 a b (by simpa using ha)
section
variable {u : gW}
theorem zK.C (K : zK u) : jC (yD u) (yY u) (yO u) (yS u) (yF u) u := K.1.1
theorem zK.D5 (K : zK u) : yD u ≤ 5 := K.C.1.1
theorem zK.O8 (K : zK u) : yO u ≤ 8 := K.C.1.2.2.1
theorem zK.S10 (K : zK u) : yS u ≤ 10 := K.C.1.2.2.2.1
theorem zK.F20 (K : zK u) : yF u ≤ 20 := K.C.1.2.2.2.2
theorem zK.Y6 (K : zK u) : yY u ≤ 6 := by rcases K.1.2 with h | h <;> omega
theorem zK.L (K : zK u) : jLnd u := K.2.1
theorem zK.dd (K : zK u) {d : Nat} (h : d < yD u) : yf u d ≤ yl u d ∧ yl u d < 6 ∧ yr u d < 6 := by
  have a := K.L.2.1 d h
  have b := K.Y6
  exact ⟨a.2.2.2.2.1, by omega, a.2.2.2.1⟩
theorem zK.o27 (K : zK u) {d : Nat} (h : d < yD u) : 2 ≤ yo u d ∧ yo u d ≤ 7 := by
  have a := K.dd h
  unfold yo
  omega
theorem zK.Zb (K : zK u) : ∀ (n d : Nat), d + n ≤ yD u → 1 ≤ yZ u n d ∧ yZ u n d ≤ 7 ^ n
  | 0, _, _ => ⟨Nat.le_refl _, Nat.le_refl _⟩
  | n + 1, d, h => by
    have a := zK.Zb K n (d + 1) (by omega)
    have b := K.o27 (d := d) (by omega)
    show 1 ≤ yo u d * yZ u n (d + 1) ∧ yo u d * yZ u n (d + 1) ≤ 7 ^ (n + 1)
    rw [Nat.pow_succ, Nat.mul_comm (7 ^ n) 7]
    exact ⟨Nat.mul_pos (by omega) a.1, Nat.mul_le_mul b.2 a.2⟩
theorem zK.T7 (K : zK u) : yT u ≤ 16807 := by
  unfold yT
  split
  · omega
  · have a := (K.Zb (yD u) 0 (by omega)).2
    have b : 7 ^ yD u ≤ 7 ^ 5 := Nat.pow_le_pow_right (by decide) K.D5
    have c : (7 : Nat) ^ 5 = 16807 := by decide
    omega
theorem zK.T1 (K : zK u) (h : 0 < yD u) : 1 ≤ yT u := by
  unfold yT
  rw [if_neg (by omega)]
  exact (K.Zb (yD u) 0 (by omega)).1
theorem zK.T0 (h : 0 < yT u) : 0 < yD u := by
  unfold yT at h
  by_cases q : yD u = 0
  · rw [if_pos q] at h; omega
  · omega
theorem zK.st (K : zK u) {d : Nat} (h : d < yD u) : 1 ≤ yst u d ∧ yst u d ≤ 2401 := by
  have a := K.Zb (yD u - 1 - d) (d + 1) (by omega)
  have b : 7 ^ (yD u - 1 - d) ≤ 7 ^ 4 := Nat.pow_le_pow_right (by decide) (by have := K.D5; omega)
  have c : (7 : Nat) ^ 4 = 2401 := by decide
  exact ⟨a.1, by unfold yst; omega⟩
theorem zK.op (K : zK u) {d : Nat} (h : d < yD u) (k : Nat) : yop u k d < yo u d := Nat.mod_lt _ (by have := K.o27 h; omega)
theorem zK.g9 (K : zK u) {d : Nat} (h : d < yD u) {o : Nat} (ho : o < yo u d) : yg u d o ≤ 9 ∧ (yg u d o < yY u ∨ yg u d o = 9) := by
  have a := K.L.2.1 d h
  have b := K.Y6
  unfold yg
  unfold yo at ho ⊢
  split <;> omega
theorem zK.d9 (K : zK u) {d : Nat} (h : d < yD u) (k : Nat) : yd u k d ≤ 9 ∧ (yd u k d < yY u ∨ yd u k d = 9) := K.g9 h (K.op h k)
theorem zEk.i {w : gW} (h : zEk u w) {a b : Nat} (q : zScrI a b = false) : w.1 a b = u.1 a b := h.1 a b q
theorem zEk.l {w : gW} (h : zEk u w) {a : Nat} (b : Nat) (q : zKL a = false) : w.2 a b = u.2 a b := h.2 a b q
theorem La_hasDeed' (K : zK u) {w : gW} (h : zEk u w) (a : Int32) : f_La_hasDeed a w = some (zbl a (yD u), w) := La_hasDeed a w ((h.i (a := 19) (b := 5) rfl).trans K.C.2.1.1) K.D5
theorem Oa_has' (K : zK u) {w : gW} (h : zEk u w) (a : Int32) : f_Oa_has a w = some (zbl a (yO u), w) := Oa_has a w ((h.i (a := 5) (b := 4) rfl).trans K.C.2.2.2.1.1) K.O8
theorem La_words' (K : zK u) {w : gW} (h : zEk u w) : f_La_words w = some (nI ((yT u + 63) / 64), w) := by
  have t := K.T7
  unfold f_La_words
  rw [h.i (a := 19) (b := 6) rfl, K.L.2.2.2.1, show (63 : Int32) = nI 63 from rfl, nI_add, n_sr6 (by omega)]
theorem gl_see : ∀ c, c < 35 → g_len 2 (23 + 1 + c) = 263 := by decide +kernel
theorem kl_see : ∀ c, c < 35 → zKL (23 + 1 + c) = false := by decide +kernel
/-- a word of what is seen -/
def ySe (u : gW) (d s W : Nat) : Int64 := u.2 (24 + (7 * d + s)) W
theorem ySe_b (K : zK u) {d s W b : Nat} (hd : d < yD u) (hs : s < 7) (hb : b < 64) (hk : 64 * W + b < yT u) : bL (ySe u d s W) b = decide (yd u (64 * W + b) d < s) := by
  have := K.L.2.2.2.2.2.2 d hd s hs (64 * W + b) hk
  unfold zbt at this
  rw [show (64 * W + b) / 64 = W by omega, show (64 * W + b) % 64 = b by omega] at this
  exact this
theorem see_r (K : zK u) {w : gW} (h : zEk u w) {d s W : Nat} (hd : d < yD u) (hs : s < 7) {c : Nat} (hc : c = 7 * d + s) : w.2 (23 + 1 + c) W = ySe u d s W := by
  subst hc
  have := K.D5
  rw [h.l W (kl_see (7 * d + s) (by omega))]
  rfl
theorem La_seenWord' (K : zK u) {w : gW} (h : zEk u w) {d s W : Nat} (hd : d < 100) (hs : s < 7) (hW : W < 263) : f_La_seenWord (nI d) (nI s) (nI W) w = some (if d < yD u then ySe u d s W else 0, w) := by
  have h5 := K.D5
  unfold f_La_seenWord f_La_seenWord_b29
  rw [La_hasDeed' K h]
  simp only [zb_s]
  by_cases q : d < yD u
  · rw [n_zbl q (by omega), if_neg z10, if_neg (nI_pos (by omega)), if_neg (by rw [show (7 : Int32) = nI 7 from rfl, n_le (by omega) (by omega)]; omega), if_neg (nI_pos (by omega)), if_pos (by rw [show (263 : Int32) = nI 263 from rfl, n_lt (by omega) (by omega)]; omega)]
    have e : nI d * (7 : Int32) + nI s = nI (7 * d + s) := by rw [show (7 : Int32) = nI 7 from rfl, pk_mul, nI_add, Nat.mul_comm]
    rw [e, if_pos (z_inbn (by omega) (by decide)), z_ix (by omega), gl_see _ (by omega), if_pos (z_inbn hW (by decide)), z_ix (by omega), see_r K h q hs rfl, if_pos q]
  · rw [n_zbl0 (by omega) (by omega), if_pos z00, if_neg q]
/-- how words of two deeds come about -/
def yBe (u : gW) (a b W : Nat) : Nat → Int64
  | 0 => 0
  | 1 => 0
  | s + 2 => yBe u a b W (s + 1) ||| ((ySe u b (s + 2) W &&& (ySe u b (s + 1) W ^^^ (-1))) &&& ySe u a (s + 1) W)
def yTo (u : gW) (a b W : Nat) : Nat → Int64
  | 0 => 0
  | s + 1 => yTo u a b W s ||| (((ySe u b (s + 1) W &&& (ySe u b s W ^^^ (-1))) &&& ySe u a (s + 1) W) &&& (ySe u a s W ^^^ (-1)))
theorem yBe_b (K : zK u) {x y W b : Nat} (hx : x < yD u) (hy : y < yD u) (hb : b < 64) (hk : 64 * W + b < yT u) : ∀ s, s < 7 → bL (yBe u x y W s) b = decide (yd u (64 * W + b) x < yd u (64 * W + b) y ∧ yd u (64 * W + b) y < s)
  | 0, _ => by rw [yBe, bL_0]; simp
  | 1, _ => by
    rw [yBe, bL_0]
    symm
    rw [decide_eq_false_iff_not]
    omega
  | s + 2, hs => by
    rw [yBe, bL_or, bL_and, bL_and, bL_not _ hb, yBe_b K hx hy hb hk (s + 1) (by omega), ySe_b K hy (by omega) hb hk, ySe_b K hy (by omega) hb hk, ySe_b K hx (by omega) hb hk]
    rw [Bool.eq_iff_iff]
    simp only [Bool.or_eq_true, Bool.and_eq_true, Bool.not_eq_true', decide_eq_true_eq, decide_eq_false_iff_not]
    omega
theorem yTo_b (K : zK u) {x y W b : Nat} (hx : x < yD u) (hy : y < yD u) (hb : b < 64) (hk : 64 * W + b < yT u) : ∀ s, s < 7 → bL (yTo u x y W s) b = decide (yd u (64 * W + b) x = yd u (64 * W + b) y ∧ yd u (64 * W + b) y < s)
  | 0, _ => by rw [yTo, bL_0]; simp
  | s + 1, hs => by
    rw [yTo, bL_or, bL_and, bL_and, bL_and, bL_not _ hb, bL_not _ hb, yTo_b K hx hy hb hk s (by omega), ySe_b K hy (by omega) hb hk, ySe_b K hy (by omega) hb hk, ySe_b K hx (by omega) hb hk, ySe_b K hx (by omega) hb hk]
    rw [Bool.eq_iff_iff]
    simp only [Bool.or_eq_true, Bool.and_eq_true, Bool.not_eq_true', decide_eq_true_eq, decide_eq_false_iff_not]
    omega
theorem e7 (d s : Nat) : nI d * (7 : Int32) + nI s = nI (7 * d + s) := by rw [show (7 : Int32) = nI 7 from rfl, pk_mul, nI_add, Nat.mul_comm]
theorem La_togetherWord' (K : zK u) {w : gW} (h : zEk u w) {x y s W : Nat} (hx : x < 100) (hy : y < 100) (hs : s < 7) (hW : W < 263) : f_La_togetherWord (nI x) (nI y) (nI s) (nI W) w = some (if x < yD u ∧ y < yD u then yTo u x y W s else 0, w) := by
  have h5 := K.D5
  unfold f_La_togetherWord f_La_togetherWord_b29
  rw [La_hasDeed' K h]
  simp only [zb_s]
  by_cases q : x < yD u
  · rw [n_zbl q (by omega), if_neg z10, La_hasDeed' K h]
    simp only [zb_s]
    by_cases q2 : y < yD u
    · rw [n_zbl q2 (by omega), if_neg z10, if_neg (nI_pos (by omega)), if_pos (by rw [show (263 : Int32) = nI 263 from rfl, n_lt (by omega) (by omega)]; omega), if_pos ⟨q, q2⟩]
      have key := zfx_ind (fun _ _ _ _ _ _ _ => none) f_La_togetherWord_b37_s (fun m k => ∀ j, j + m = s → k (nI x) (nI y) (nI s) (nI W) (yTo u x y W j) (nI j) w = some (yTo u x y W s, w)) (fun m k ih j hj => by
        unfold f_La_togetherWord_b37_s f_La_togetherWord_b140
        cases m with
        | zero =>
          rw [if_pos (by rw [n_le (by omega) (by omega)]; omega), show j = s by omega]
        | succ m =>
          rw [if_neg (by rw [n_le (by omega) (by omega)]; omega), if_neg (by rw [show (6 : Int32) = nI 6 from rfl, n_le (by omega) (by omega)]; omega)]
          simp only [e7, n_1]
          have i1 : inb (nI (7 * y + j + 1)) 35 := z_inbn (by omega) (by decide)
          have i2 : inb (nI (7 * y + j)) 35 := z_inbn (by omega) (by decide)
          have i3 : inb (nI (7 * x + j + 1)) 35 := z_inbn (by omega) (by decide)
          have i4 : inb (nI (7 * x + j)) 35 := z_inbn (by omega) (by decide)
          have iW : inb (nI W) 263 := z_inbn hW (by decide)
          rw [z_ix (n := 7 * y + j + 1) (by omega), z_ix (n := 7 * y + j) (by omega), z_ix (n := 7 * x + j + 1) (by omega), z_ix (n := 7 * x + j) (by omega), z_ix (n := W) (by omega), gl_see (7 * y + j + 1) (by omega), gl_see (7 * y + j) (by omega), gl_see (7 * x + j + 1) (by omega), gl_see (7 * x + j) (by omega)]
          simp only [if_pos i1, if_pos i2, if_pos i3, if_pos i4, if_pos iW, zl_s]
          rw [see_r K h (d := y) (s := j + 1) (W := W) q2 (by omega) (by omega), see_r K h (d := y) (s := j) (W := W) q2 (by omega) (by omega), see_r K h (d := x) (s := j + 1) (W := W) q (by omega) (by omega), see_r K h (d := x) (s := j) (W := W) q (by omega) (by omega)]
          exact ih m (by omega) (j + 1) (by omega)) zFU s (zfu (by omega))
      exact key 0 (by omega)
    · rw [n_zbl0 (by omega) (by omega), if_pos z00, if_neg (fun z => q2 z.2)]
  · rw [n_zbl0 (by omega) (by omega), if_pos z00, if_neg (fun z => q z.1)]
theorem La_beforeWord' (K : zK u) {w : gW} (h : zEk u w) {x y s W : Nat} (hx : x < 100) (hy : y < 100) (hs : s < 7) (hW : W < 263) : f_La_beforeWord (nI x) (nI y) (nI s) (nI W) w = some (if x < yD u ∧ y < yD u then yBe u x y W s else 0, w) := by
  have h5 := K.D5
  unfold f_La_beforeWord f_La_beforeWord_b29
  rw [La_hasDeed' K h]
  simp only [zb_s]
  by_cases q : x < yD u
  · rw [n_zbl q (by omega), if_neg z10, La_hasDeed' K h]
    simp only [zb_s]
    by_cases q2 : y < yD u
    · rw [n_zbl q2 (by omega), if_neg z10, if_neg (nI_pos (by omega)), if_pos (by rw [show (263 : Int32) = nI 263 from rfl, n_lt (by omega) (by omega)]; omega), if_pos ⟨q, q2⟩]
      have key := zfx_ind (fun _ _ _ _ _ _ _ => none) f_La_beforeWord_b37_s (fun m k => ∀ j, j + 1 + m = max s 1 → k (nI x) (nI y) (nI s) (nI W) (yBe u x y W (j + 1)) (nI (j + 1)) w = some (yBe u x y W s, w)) (fun m k ih j hj => by
        unfold f_La_beforeWord_b37_s f_La_beforeWord_b118
        cases m with
        | zero =>
          rw [if_pos (by rw [n_le (by omega) (by omega)]; omega)]
          have e : yBe u x y W (j + 1) = yBe u x y W s := by
            by_cases z : s = 0
            · rw [show j = 0 by omega, z]; rfl
            · rw [show j + 1 = s by omega]
          rw [e]
        | succ m =>
          rw [if_neg (by rw [n_le (by omega) (by omega)]; omega), if_neg (by rw [show (6 : Int32) = nI 6 from rfl, n_le (by omega) (by omega)]; omega)]
          simp only [e7, n_1]
          have i1 : inb (nI (7 * y + (j + 1) + 1)) 35 := z_inbn (by omega) (by decide)
          have i2 : inb (nI (7 * y + (j + 1))) 35 := z_inbn (by omega) (by decide)
          have i4 : inb (nI (7 * x + (j + 1))) 35 := z_inbn (by omega) (by decide)
          have iW : inb (nI W) 263 := z_inbn hW (by decide)
          rw [z_ix (n := 7 * y + (j + 1) + 1) (by omega), z_ix (n := 7 * y + (j + 1)) (by omega), z_ix (n := 7 * x + (j + 1)) (by omega), z_ix (n := W) (by omega), gl_see (7 * y + (j + 1) + 1) (by omega), gl_see (7 * y + (j + 1)) (by omega), gl_see (7 * x + (j + 1)) (by omega)]
          simp only [if_pos i1, if_pos i2, if_pos i4, if_pos iW, zl_s]
          rw [see_r K h (d := y) (s := j + 2) (W := W) q2 (by omega) (by omega), see_r K h (d := y) (s := j + 1) (W := W) q2 (by omega) (by omega), see_r K h (d := x) (s := j + 1) (W := W) q (by omega) (by omega)]
          exact ih m (by omega) (j + 1) (by omega)) zFU (max s 1 - 1) (zfu (by omega))
      exact key 0 (by omega)
    · rw [n_zbl0 (by omega) (by omega), if_pos z00, if_neg (fun z => q2 z.2)]
  · rw [n_zbl0 (by omega) (by omega), if_pos z00, if_neg (fun z => q z.1)]
end
