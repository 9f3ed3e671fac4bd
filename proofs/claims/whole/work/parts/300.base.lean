/-! PURE, first part: numbers, loops, what scratch is -/
theorem zfx_s {α : Type} (bot : α) (F : α → α) (n : Nat) : zfx bot F (n + 1) = F (zfx bot F n) := rfl
theorem zfx_F {α : Type} (bot : α) (F : α → α) : zfx bot F zFU = F (zfx bot F 99999) := rfl
theorem zb_s {α β : Type} (a : β) (w : gW) (K : β → gW → Option (α × gW)) : zb (some (a, w)) K = K a w := rfl
theorem zl_s {α β : Type} (v : β) (K : β → α) : zl v K = K v := rfl
theorem i_lt (a b : Int32) : a < b ↔ a.toInt < b.toInt := Int32.lt_iff_toInt_lt
theorem i_le (a b : Int32) : a ≤ b ↔ a.toInt ≤ b.toInt := Int32.le_iff_toInt_le
theorem i_eq (a b : Int32) : a = b ↔ a.toInt = b.toInt := Int32.toInt_inj.symm
theorem i_0 : (0 : Int32).toInt = 0 := rfl
theorem i_lit (n : Nat) (h : n < 2 ^ 31) : (OfNat.ofNat n : Int32).toInt = n := nI_toInt h
theorem i_bd (a : Int32) : -2147483648 ≤ a.toInt ∧ a.toInt ≤ 2147483647 := by
  have h1 := Int32.le_toInt a
  have h2 := Int32.toInt_lt a
  constructor <;> omega
theorem i_nI {n : Nat} (h : n < 2 ^ 31) : (nI n).toInt = n := nI_toInt h
theorem i_ix (a : Int32) : ((ix a : Nat) : Int) = if 0 ≤ a.toInt then a.toInt else 0 := by
  show ((a.toInt.toNat : Nat) : Int) = _
  split <;> omega
theorem i_nIx {a : Int32} (h : 0 ≤ a.toInt) : a = nI (ix a) := by
  rw [i_eq, i_nI (by have := i_bd a; have := i_ix a; rw [if_pos h] at this; omega), i_ix, if_pos h]
theorem i_l (a : Int32) : a.toInt64.toInt = a.toInt := by simp
theorem lc_lt (x y : Int64) : lg_cmp x y < 0 ↔ x.toInt < y.toInt := by
  unfold lg_cmp
  simp only [gt_iff_lt, Int64.lt_iff_toInt_lt, ← Int64.toInt_inj]
  repeat' split
  all_goals (constructor <;> intro hh <;> first | omega | decide | exact absurd hh (by decide))
theorem lc_gt (x y : Int64) : 0 < lg_cmp x y ↔ y.toInt < x.toInt := by
  unfold lg_cmp
  simp only [gt_iff_lt, Int64.lt_iff_toInt_lt, ← Int64.toInt_inj]
  repeat' split
  all_goals (constructor <;> intro hh <;> first | omega | decide | exact absurd hh (by decide))
theorem M_isIn (a b c : Int64) (w : gW) : f_M_isIn a b c w = some ((if b.toInt ≤ a.toInt ∧ a.toInt ≤ c.toInt then 1 else 0), w) := by
  unfold f_M_isIn
  simp only [lc_lt, lc_gt]
  by_cases h1 : a.toInt < b.toInt
  · rw [if_pos h1, if_neg (by omega)]
  · rw [if_neg h1]
    by_cases h2 : c.toInt < a.toInt
    · rw [if_pos h2, if_neg (by omega)]
    · rw [if_neg h2, if_pos (by omega)]
/-- which int slots, which long rows are scratch -/
def zScrI (a b : Nat) : Bool := match a with
  | 1 => b == 2
  | 3 => b == 1 || b == 2
  | 4 => true
  | 99 => b == 6 || b == 7
  | 102 => b == 6
  | 105 => b == 3
  | 106 => true
  | 107 => [0, 4, 7, 8, 9, 10, 11, 13, 14, 23, 24, 39, 40, 41, 42, 43, 44, 46, 47, 48].contains b
  | 111 => true
  | 115 => true
  | 116 => true
  | 117 => true
  | 127 => true
  | 128 => true
  | 130 => true
  | _ => false
def zScrL (a : Nat) : Bool := [74, 89, 91, 92, 93, 94, 95, 96, 97, 98, 100, 101, 102, 103, 104, 135].contains a
def zPV (w : gW) : gW := (fun a b => if zScrI a b = true then 0 else w.1 a b, fun a b => if zScrL a = true then 0 else w.2 a b)
/-- alike but for scratch -/
def zE (w u : gW) : Prop := (∀ a b, zScrI a b = false → u.1 a b = w.1 a b) ∧ (∀ a b, zScrL a = false → u.2 a b = w.2 a b)
theorem zE.rf (w : gW) : zE w w := ⟨fun _ _ _ => rfl, fun _ _ _ => rfl⟩
theorem zE.tr {w u v : gW} (h : zE w u) (k : zE u v) : zE w v := ⟨fun a b q => (k.1 a b q).trans (h.1 a b q), fun a b q => (k.2 a b q).trans (h.2 a b q)⟩
theorem zE.sI {w u : gW} (h : zE w u) {k j : Nat} (v : Int32) (q : zScrI k j = true) : zE w (zsI u k j v) := by
  refine ⟨fun a b hh => ?_, fun a b hh => h.2 a b hh⟩
  show (if a = k ∧ b = j then v else u.1 a b) = w.1 a b
  rw [if_neg (fun z => by rw [z.1, z.2, q] at hh; cases hh)]
  exact h.1 a b hh
theorem zE.sL {w u : gW} (h : zE w u) {k j : Nat} (v : Int64) (q : zScrL k = true) : zE w (zsL u k j v) := by
  refine ⟨fun a b hh => h.1 a b hh, fun a b hh => ?_⟩
  show (if a = k ∧ b = j then v else u.2 a b) = w.2 a b
  rw [if_neg (fun z => by rw [z.1, q] at hh; cases hh)]
  exact h.2 a b hh
theorem zE.pv {w u : gW} (h : zE w u) : zPV u = zPV w := by
  unfold zPV
  congr 1
  · funext a b
    by_cases q : zScrI a b = true
    · rw [if_pos q, if_pos q]
    · rw [if_neg q, if_neg q, h.1 a b (by simpa using q)]
  · funext a b
    by_cases q : zScrL a = true
    · rw [if_pos q, if_pos q]
    · rw [if_neg q, if_neg q, h.2 a b (by simpa using q)]
theorem zsI_g (w : gW) (k j a b : Nat) (v : Int32) : (zsI w k j v).1 a b = if a = k ∧ b = j then v else w.1 a b := rfl
theorem zsI_l (w : gW) (k j : Nat) (v : Int32) : (zsI w k j v).2 = w.2 := rfl
theorem zsL_g (w : gW) (k j a b : Nat) (v : Int64) : (zsL w k j v).2 a b = if a = k ∧ b = j then v else w.2 a b := rfl
theorem zsL_i (w : gW) (k j : Nat) (v : Int64) : (zsL w k j v).1 = w.1 := rfl
