/-! PURE: what a function comes to (wp); loops by induction; numbers -/
def wp {α : Type} (r : Option (α × gW)) (Q : α → gW → Prop) : Prop := ∃ (a : α) (w : gW), r = some (a, w) ∧ Q a w
theorem wp_s {α : Type} {a : α} {w : gW} {Q : α → gW → Prop} (h : Q a w) : wp (some (a, w)) Q := ⟨a, w, rfl, h⟩
theorem wp_b {α β : Type} {r : Option (β × gW)} {K : β → gW → Option (α × gW)} {Q : α → gW → Prop} {R : β → gW → Prop} (h : wp r R) (k : ∀ b w, R b w → wp (K b w) Q) : wp (zb r K) Q := by
  obtain ⟨b, u, rfl, hb⟩ := h
  exact k b u hb
theorem wp_m {α : Type} {r : Option (α × gW)} {Q R : α → gW → Prop} (h : wp r R) (k : ∀ a w, R a w → Q a w) : wp r Q := by
  obtain ⟨b, u, e, hb⟩ := h
  exact ⟨b, u, e, k b u hb⟩
theorem wp_t {α : Type} {c : Prop} {i : Decidable c} {A B : Option (α × gW)} {Q : α → gW → Prop} (h : c) (k : wp A Q) : wp (@ite _ c i A B) Q := by rwa [if_pos h]
theorem wp_f {α : Type} {c : Prop} {i : Decidable c} {A B : Option (α × gW)} {Q : α → gW → Prop} (h : ¬ c) (k : wp B Q) : wp (@ite _ c i A B) Q := by rwa [if_neg h]
theorem wp_i {α : Type} {c : Prop} {i : Decidable c} {A B : Option (α × gW)} {Q : α → gW → Prop} (h : c → wp A Q) (k : ¬ c → wp B Q) : wp (@ite _ c i A B) Q := by
  by_cases q : c
  · exact wp_t q (h q)
  · exact wp_f q (k q)
theorem wp_e {α : Type} {r : Option (α × gW)} {Q : α → gW → Prop} {a : α} {w : gW} (e : r = some (a, w)) (h : Q a w) : wp r Q := ⟨a, w, e, h⟩
theorem wp_be {α β : Type} {r : Option (β × gW)} {K : β → gW → Option (α × gW)} {Q : α → gW → Prop} {b : β} {u : gW} (e : r = some (b, u)) (k : wp (K b u) Q) : wp (zb r K) Q := by
  subst e
  exact k
theorem wp_w {α : Type} {A B : Option (α × gW)} {Q : α → gW → Prop} (e : A = B) (k : wp B Q) : wp A Q := by rwa [e]
/-- a loop or a recursion meets at every measure what its body keeps -/
theorem zfx_ind {T : Type} (bot : T) (F : T → T) (G : Nat → T → Prop) (h : ∀ n k, (∀ m, m < n → G m k) → G n (F k)) : ∀ (f n : Nat), n < f → G n (zfx bot F f)
  | 0, n, hn => absurd hn (Nat.not_lt_zero n)
  | f + 1, n, hn => by
    rw [zfx_s]
    exact h n _ (fun m hm => zfx_ind bot F G h f m (by omega))
theorem zfu {n : Nat} (h : n < 99999) : n < zFU := by show n < 100000; omega
theorem n_lit (n : Nat) : (OfNat.ofNat n : Int32) = nI (OfNat.ofNat n) := rfl
theorem n_inb {a n : Nat} (h : a < 2 ^ 31) : inb (nI a) n ↔ a < n := by
  unfold inb
  rw [i_nI h]
  omega
theorem n_eq {a b : Nat} (ha : a < 2 ^ 31) (hb : b < 2 ^ 31) : (nI a = nI b) ↔ a = b := nI_eq ha hb
theorem n_sub {a b : Nat} (h : b ≤ a) : nI a - nI b = nI (a - b) := pk_sub h
theorem n_m1 {a : Nat} (h : a < 2 ^ 31) : (nI a = (-1 : Int32)) ↔ False := by
  refine ⟨fun q => ?_, fun q => q.elim⟩
  have := congrArg Int32.toInt q
  rw [i_nI h, show (-1 : Int32).toInt = -1 from rfl] at this
  omega
theorem n_m1' {a : Nat} (h : a < 2 ^ 31) : ((-1 : Int32) = nI a) ↔ False := by
  rw [eq_comm]
  exact n_m1 h
theorem n_neg {a : Nat} (h : a < 2 ^ 31) : (nI a < 0) ↔ False := ⟨fun q => nI_pos h q, fun q => q.elim⟩
theorem n_m1lt : ((-1 : Int32) < 0) ↔ True := ⟨fun _ => trivial, fun _ => by decide⟩
theorem n_m1le {a : Nat} (h : a < 2 ^ 31) : (nI a ≤ (-1 : Int32)) ↔ False := by
  rw [i_le, i_nI h, show (-1 : Int32).toInt = -1 from rfl]
  exact ⟨fun q => by omega, fun q => q.elim⟩
theorem n_lem1 {a : Nat} (h : a < 2 ^ 31) : ((-1 : Int32) < nI a) ↔ True := by
  rw [i_lt, i_nI h, show (-1 : Int32).toInt = -1 from rfl]
  exact ⟨fun _ => trivial, fun _ => by omega⟩
theorem n_mem1 {a : Nat} (h : a < 2 ^ 31) : ((-1 : Int32) ≤ nI a) ↔ True := by
  rw [i_le, i_nI h, show (-1 : Int32).toInt = -1 from rfl]
  exact ⟨fun _ => trivial, fun _ => by omega⟩
theorem n_ltm1 {a : Nat} (h : a < 2 ^ 31) : (nI a < (-1 : Int32)) ↔ False := by
  rw [i_lt, i_nI h, show (-1 : Int32).toInt = -1 from rfl]
  exact ⟨fun q => by omega, fun q => q.elim⟩
theorem n_zbl {a n : Nat} (h : a < n) (hn : n < 2 ^ 31) : zbl (nI a) n = 1 := zbl_1 (by rw [i_nI (by omega)]; omega)
theorem n_zbl0 {a n : Nat} (h : n ≤ a) (ha : a < 2 ^ 31) : zbl (nI a) n = 0 := zbl_0 (by rw [i_nI (by omega)]; omega)
/-- a truth as a number -/
def bI (b : Bool) : Int32 := if b = true then 1 else 0
theorem bI_t : bI true = 1 := rfl
theorem bI_f : bI false = 0 := rfl
theorem bI_0 (b : Bool) : (bI b = 0) ↔ b = false := by cases b <;> decide
theorem bI_1 (b : Bool) : (bI b = 1) ↔ b = true := by cases b <;> decide
theorem bI_a (b : Bool) : bI b &&& 1 = bI b := by cases b <;> decide
theorem bI_n (b : Bool) : bI b = nI (if b = true then 1 else 0) := by cases b <;> rfl
theorem zbl_b (a : Int32) (n : Nat) : zbl a n = bI (decide (0 ≤ a.toInt ∧ a.toInt < (n : Int))) := by
  by_cases h : 0 ≤ a.toInt ∧ a.toInt < (n : Int)
  · rw [zbl_1 h, decide_eq_true h]; rfl
  · rw [zbl_0 h, decide_eq_false h]; rfl
/-- shifts and bits of small numbers -/
theorem n_sr6 {a : Nat} (h : a < 2 ^ 31) : nI a >>> ((6 : Int32) &&& 31) = nI (a / 64) := pk_shrN h _ 6 (by decide)
theorem n_sl6 {a : Nat} (h : a * 64 < 2 ^ 32) : nI a <<< ((6 : Int32) &&& 31) = nI (a * 64) := pk_shlN _ 6 (by decide) h
theorem n_sr8 {a : Nat} (h : a < 2 ^ 31) : nI a >>> ((8 : Int32) &&& 31) = nI (a / 256) := pk_shrN h _ 8 (by decide)
theorem n_sr4 {a : Nat} (h : a < 2 ^ 31) : nI a >>> ((4 : Int32) &&& 31) = nI (a / 16) := pk_shrN h _ 4 (by decide)
theorem n_sl8 {a : Nat} (h : a * 256 < 2 ^ 32) : nI a <<< ((8 : Int32) &&& 31) = nI (a * 256) := pk_shlN _ 8 (by decide) h
theorem n_sl4 {a : Nat} (h : a * 16 < 2 ^ 32) : nI a <<< ((4 : Int32) &&& 31) = nI (a * 16) := pk_shlN _ 4 (by decide) h
theorem n_63 {a : Nat} (h : a < 2 ^ 32) : nI a &&& (63 : Int32) = nI (a % 64) := pk_andN h 6 (by decide)
theorem n_15 {a : Nat} (h : a < 2 ^ 32) : nI a &&& (15 : Int32) = nI (a % 16) := pk_andN h 4 (by decide)
theorem n_and (a b : Nat) : nI a &&& nI b = nI (a &&& b) := by
  apply Int32.toBitVec_inj.1
  show BitVec.ofNat 32 a &&& BitVec.ofNat 32 b = BitVec.ofNat 32 (a &&& b)
  apply BitVec.eq_of_getLsbD_eq
  intro i hi
  simp [hi]
theorem n_or (a b : Nat) : nI a ||| nI b = nI (a ||| b) := by
  apply Int32.toBitVec_inj.1
  show BitVec.ofNat 32 a ||| BitVec.ofNat 32 b = BitVec.ofNat 32 (a ||| b)
  apply BitVec.eq_of_getLsbD_eq
  intro i hi
  simp [hi]
theorem n_xor (a b : Nat) : nI a ^^^ nI b = nI (a ^^^ b) := by
  apply Int32.toBitVec_inj.1
  show BitVec.ofNat 32 a ^^^ BitVec.ofNat 32 b = BitVec.ofNat 32 (a ^^^ b)
  apply BitVec.eq_of_getLsbD_eq
  intro i hi
  simp [hi]
theorem n_s31 : ∀ n, n < 32 → ((nI n &&& 31).toBitVec.smod 32).toNat = n := by decide +kernel
theorem n_shr {a i : Nat} (h : a < 2 ^ 31) (hi : i < 32) : nI a >>> (nI i &&& 31) = nI (a / 2 ^ i) := pk_shrN h _ i (n_s31 i hi)
theorem n_1sh {i : Nat} (hi : i < 32) : (1 : Int32) <<< (nI i &&& 31) = nI (2 ^ i) := by
  have h := pk_shlN (n := 1) (nI i &&& 31) i (n_s31 i hi) (by have : 2 ^ i ≤ 2 ^ 31 := Nat.pow_le_pow_right (by decide) (by omega); omega)
  rw [Nat.one_mul] at h
  exact h
theorem n_bit {a i : Nat} (h : a < 2 ^ 31) (hi : i < 32) : (nI a >>> (nI i &&& 31)) &&& (1 : Int32) = bI (a.testBit i) := by
  rw [n_shr h hi]
  show nI (a / 2 ^ i) &&& nI 1 = _
  rw [n_and, Nat.and_one_is_mod, Nat.testBit_eq_decide_div_mod_eq]
  generalize a / 2 ^ i = z
  rcases Nat.mod_two_eq_zero_or_one z with q | q <;> rw [q] <;> rfl
