/-! PURE: the model reads a text as pU, pAll say, and holds what its codes come to -/
theorem mb_look : ∀ c, c < 256 → ((nI c).toInt8.toInt32 = 32 ↔ c = 32) ∧ (nI c).toInt8.toInt32 &&& 255 = nI c ∧ ((nI c).toInt8.toInt32 < 48 ↔ (c < 48 ∨ 128 ≤ c)) ∧ ((57 : Int32) < (nI c).toInt8.toInt32 ↔ (57 < c ∧ c < 128)) := by decide +kernel
/-- the world while the model reads: place, fault, depth -/
def mW (w : gW) (p : Nat) (fa d : Int32) : gW := (fun a b => if a = 107 ∧ b = 9 then nI p else if a = 107 ∧ b = 10 then fa else if a = 107 ∧ b = 11 then d else w.1 a b, w.2)
theorem mW_o {w : gW} {p : Nat} {fa d : Int32} {a b : Nat} (h : ¬ (a = 107 ∧ (b = 9 ∨ b = 10 ∨ b = 11))) : (mW w p fa d).1 a b = w.1 a b := by
  show (if a = 107 ∧ b = 9 then nI p else if a = 107 ∧ b = 10 then fa else if a = 107 ∧ b = 11 then d else w.1 a b) = _
  rw [if_neg (by omega), if_neg (by omega), if_neg (by omega)]
theorem mW_9 (w : gW) (p : Nat) (fa d : Int32) : (mW w p fa d).1 107 9 = nI p := rfl
theorem mW_10 (w : gW) (p : Nat) (fa d : Int32) : (mW w p fa d).1 107 10 = fa := rfl
theorem mW_11 (w : gW) (p : Nat) (fa d : Int32) : (mW w p fa d).1 107 11 = d := rfl
theorem mW_s9 (w : gW) (p q : Nat) (fa d : Int32) : zsI (mW w p fa d) 107 9 (nI q) = mW w q fa d := by
  unfold zsI mW
  congr 1
  funext a b
  dsimp only
  by_cases h : a = 107 ∧ b = 9
  · simp only [if_pos h]
  · simp only [if_neg h]
theorem mW_s10 (w : gW) (p : Nat) (fa fa' d : Int32) : zsI (mW w p fa d) 107 10 fa' = mW w p fa' d := by
  unfold zsI mW
  congr 1
  funext a b
  dsimp only
  by_cases h : a = 107 ∧ b = 10
  · have h2 : ¬ (a = 107 ∧ b = 9) := by omega
    simp only [if_pos h, if_neg h2]
  · simp only [if_neg h]
theorem mW_s11 (w : gW) (p : Nat) (fa d d' : Int32) : zsI (mW w p fa d) 107 11 d' = mW w p fa d' := by
  unfold zsI mW
  congr 1
  funext a b
  dsimp only
  by_cases h : a = 107 ∧ b = 11
  · have h2 : ¬ (a = 107 ∧ b = 9) := by omega
    have h3 : ¬ (a = 107 ∧ b = 10) := by omega
    simp only [if_pos h, if_neg h2, if_neg h3]
  · simp only [if_neg h]
theorem mW_mW (w : gW) (p q : Nat) (fa d fa' d' : Int32) : mW (mW w p fa d) q fa' d' = mW w q fa' d' := by
  unfold mW
  congr 1
  funext a b
  dsimp only
  by_cases h : a = 107 ∧ b = 9
  · simp only [if_pos h]
  · by_cases h2 : a = 107 ∧ b = 10
    · simp only [if_neg h, if_pos h2]
    · by_cases h3 : a = 107 ∧ b = 11
      · simp only [if_neg h, if_neg h2, if_pos h3]
      · simp only [if_neg h, if_neg h2, if_neg h3]
/-- the text that the model reads: cell t, from b on, n bytes f -/
def TX (t b n : Nat) (f : Nat → Nat) (w : gW) : Prop := (t ≠ 107 ∧ n ≤ 120 ∧ b + n ≤ g_len 3 t ∧ g_len 3 t ≤ 1000) ∧ (ix (w.1 107 4) = t ∧ w.1 107 7 = nI b ∧ w.1 107 8 = nI n) ∧ ∀ j, j < n → 0 < f j ∧ f j < 256 ∧ w.1 t (b + j) = (nI (f j)).toInt8.toInt32
theorem TX.mW {t b n : Nat} {f : Nat → Nat} {w : gW} (h : TX t b n f w) (p : Nat) (fa d : Int32) : TX t b n f (mW w p fa d) := by
  refine ⟨h.1, ⟨?_, ?_, ?_⟩, fun j hj => ⟨(h.2.2 j hj).1, (h.2.2 j hj).2.1, ?_⟩⟩
  · rw [mW_o (by omega)]; exact h.2.1.1
  · rw [mW_o (by omega)]; exact h.2.1.2.1
  · rw [mW_o (by omega)]; exact h.2.1.2.2
  · rw [mW_o (by have := h.1.1; omega)]; exact (h.2.2 j hj).2.2
theorem TX.pos {t b n : Nat} {f : Nat → Nat} {w : gW} (h : TX t b n f w) : ∀ j, j < n → 0 < f j := fun j hj => (h.2.2 j hj).1
theorem TX.sgl {t b n : Nat} {f : Nat → Nat} {w : gW} (h : TX t b n f w) (p : Nat) : sg f n p < 256 := by
  unfold sg
  by_cases q : sk f n p < n
  · rw [if_pos q]; exact (h.2.2 _ q).2.1
  · rw [if_neg q]; decide
def lkv (f : Nat → Nat) (n p : Nat) : Int32 := if sk f n p < n then nI (f (sk f n p)) else -1
theorem lkv_c {t b n p c : Nat} {f : Nat → Nat} {w : gW} (h : TX t b n f w) (hc : 0 < c) (hc2 : c < 256) : (lkv f n p = nI c) ↔ sg f n p = c := by
  unfold lkv sg
  by_cases q : sk f n p < n
  · rw [if_pos q, if_pos q, n_eq (by have := (h.2.2 _ q).2.1; omega) (by omega)]
  · rw [if_neg q, if_neg q, n_m1' (by omega)]
    exact ⟨fun z => z.elim, fun z => by omega⟩
theorem M_look {t b n p : Nat} {f : Nat → Nat} {w : gW} (h : TX t b n f w) (hp : p ≤ n) (fa d : Int32) : f_M_look (mW w p fa d) = some (lkv f n p, mW w (sk f n p) fa d) := by
  have h120 := h.1.2.1
  have key := zfx_ind (fun _ => none) f_M_look_b0_s (fun m k => ∀ (p : Nat), n - p ≤ m → p ≤ n → k (mW w p fa d) = some (lkv f n p, mW w (sk f n p) fa d)) (fun m k ih p hm hp => by
    have hT := h.mW p fa d
    have h8 := hT.2.1.2.2
    have h7 := hT.2.1.2.1
    have h4 := hT.2.1.1
    unfold f_M_look_b0_s f_M_look_b43
    simp only [h8, h7, h4, mW_9, nI_add]
    by_cases q : p < n
    · have hb := h.1.2.2
      have hc := mb_look (f p) (h.2.2 p q).2.1
      have hin : inb (nI (b + p)) (g_len 3 t) := z_inbn (by omega) (by omega)
      have q8 : ¬ nI n ≤ nI p := by rw [n_le (by omega) (by omega)]; omega
      have ez : ix (nI (b + p)) = b + p := z_ix (by omega)
      have ec : (mW w p fa d).1 t (ix (nI (b + p))) = (nI (f p)).toInt8.toInt32 := by rw [ez]; exact (hT.2.2 p q).2.2
      simp only [if_neg q8, if_pos hin, ec]
      by_cases q2 : f p = 32
      · rw [if_pos (hc.1.mpr q2)]
        simp only [zl_s]
        rw [n_1, mW_s9, ih (n - (p + 1)) (by omega) (p + 1) (Nat.le_refl _) (by omega), sk_s q q2]
        unfold lkv
        rw [sk_s q q2]
      · have e := sk_e (f := f) (n := n) (p := p) (fun z => q2 z.2)
        rw [if_neg (fun z => q2 (hc.1.mp z)), hc.2.1]
        unfold lkv
        rw [e, if_pos q]
    · have e := sk_e (f := f) (n := n) (p := p) (fun z => q z.1)
      have q8 : nI n ≤ nI p := by rw [n_le (by omega) (by omega)]; omega
      simp only [if_pos q8]
      unfold lkv
      rw [e, if_neg q]) zFU (n - p) (zfu (by omega))
  exact key p (Nat.le_refl _) hp
theorem M_fails1 (w : gW) (p : Nat) (d : Int32) : f_M_fails (mW w p (-1) d) = some (0, mW w p (nI p) d) := by
  unfold f_M_fails
  rw [mW_10, if_pos rfl, mW_9]
  simp only [zl_s]
  rw [mW_s10]
theorem M_fails2 {w : gW} {p q : Nat} {d : Int32} (hq : q < 2 ^ 31) : f_M_fails (mW w p (nI q) d) = some (0, mW w p (nI q) d) := by
  unfold f_M_fails
  rw [mW_10, if_neg (by rw [n_m1 hq]; exact id)]
theorem M_takes {t b n p c : Nat} {f : Nat → Nat} {w : gW} (h : TX t b n f w) (hp : p ≤ n) (d : Int32) (hc : 0 < c) (hc2 : c < 256) : f_M_takes (nI c) (mW w p (-1) d) = if sg f n p = c then some (1, mW w (sk f n p + 1) (-1) d) else some (0, mW w (sk f n p) (nI (sk f n p)) d) := by
  unfold f_M_takes
  rw [mW_10, if_pos rfl, M_look h hp]
  simp only [zb_s]
  by_cases q : sg f n p = c
  · rw [if_pos ((lkv_c h hc hc2).mpr q), if_pos q, mW_9]
    simp only [zl_s]
    rw [n_1, mW_s9]
  · rw [if_neg (fun z => q ((lkv_c h hc hc2).mp z)), if_neg q]
    unfold f_M_takes_b16
    rw [M_fails1]
    simp only [zb_s]
    rw [if_pos (by decide)]
theorem M_isDigit {t b n p : Nat} {f : Nat → Nat} {w : gW} (h : TX t b n f w) (hp : p ≤ n) (fa d : Int32) : f_M_isDigit (mW w (sk f n p) fa d) = some (bI (decide (48 ≤ sg f n p ∧ sg f n p ≤ 57)), mW w (sk f n p) fa d) := by
  have h120 := h.1.2.1
  have hT := h.mW (sk f n p) fa d
  have h8 := hT.2.1.2.2
  have h7 := hT.2.1.2.1
  have h4 := hT.2.1.1
  have g2 := sk_le (f := f) hp
  unfold f_M_isDigit
  simp only [h8, h7, h4, mW_9, nI_add]
  by_cases q : sk f n p < n
  · have hb := h.1.2.2
    have hl := (h.2.2 _ q).2.1
    have hc := mb_look (f (sk f n p)) hl
    have hin : inb (nI (b + sk f n p)) (g_len 3 t) := z_inbn (by omega) (by omega)
    have es : sg f n p = f (sk f n p) := by unfold sg; rw [if_pos q]
    have q8 : ¬ nI n ≤ nI (sk f n p) := by rw [n_le (by omega) (by omega)]; omega
    have ez : ix (nI (b + sk f n p)) = b + sk f n p := z_ix (by omega)
    have ec : (mW w (sk f n p) fa d).1 t (ix (nI (b + sk f n p))) = (nI (f (sk f n p))).toInt8.toInt32 := by rw [ez]; exact (hT.2.2 _ q).2.2
    simp only [if_neg q8, if_pos hin, ec, es]
    by_cases q1 : (nI (f (sk f n p))).toInt8.toInt32 < 48
    · rw [if_pos q1, decide_eq_false (by have := hc.2.2.1.mp q1; omega)]; rfl
    · rw [if_neg q1]
      by_cases q2 : (57 : Int32) < (nI (f (sk f n p))).toInt8.toInt32
      · rw [if_pos q2, decide_eq_false (by have := hc.2.2.2.mp q2; omega)]; rfl
      · have a1 : ¬ (f (sk f n p) < 48 ∨ 128 ≤ f (sk f n p)) := fun z => q1 (hc.2.2.1.mpr z)
        have a2 : ¬ (57 < f (sk f n p) ∧ f (sk f n p) < 128) := fun z => q2 (hc.2.2.2.mpr z)
        rw [if_neg q2, decide_eq_true (by omega)]; rfl
  · have es : sg f n p = 0 := by unfold sg; rw [if_neg q]
    have q8 : nI n ≤ nI (sk f n p) := by rw [n_le (by omega) (by omega)]; omega
    rw [if_pos q8, es]
    rfl
theorem lkv_lit {f : Nat → Nat} {n p : Nat} (h : sg f n p ≠ 0) : lkv f n p = nI (sg f n p) := by
  have q := sg_lt h
  unfold lkv
  rw [if_pos q.1, q.2]
theorem M_digit {t b n p lo hi : Nat} {f : Nat → Nat} {w : gW} (h : TX t b n f w) (hp : p ≤ n) (d : Int32) (hlo : lo < 10) (hhi : hi < 10) : f_M_digit (nI lo) (nI hi) (mW w p (-1) d) = if (pD f n lo hi p).1 = true then some (nI (pD f n lo hi p).2.2, mW w (pD f n lo hi p).2.1 (-1) d) else some (-1, mW w (sk f n p) (nI (sk f n p)) d) := by
  have hs := h.sgl p
  have e27 : f_M_digit_b27 (mW w (sk f n p) (-1) d) = some (-1, mW w (sk f n p) (nI (sk f n p)) d) := by
    unfold f_M_digit_b27
    rw [M_fails1]
    rfl
  unfold f_M_digit
  rw [M_look h hp]
  simp only [zb_s]
  rw [M_isDigit h hp]
  simp only [zb_s]
  by_cases q : 48 ≤ sg f n p ∧ sg f n p ≤ 57
  · have qb : ¬ bI (decide (48 ≤ sg f n p ∧ sg f n p ≤ 57)) = 0 := by rw [bI_0, decide_eq_true q]; decide
    rw [if_neg qb, lkv_lit (by omega), show (48 : Int32) = nI 48 from rfl, n_sub q.1, M_isIn, i_l, i_l, i_l, i_nI (by omega), i_nI (by omega), i_nI (by omega)]
    simp only [zb_s]
    by_cases q2 : 48 + lo ≤ sg f n p ∧ sg f n p ≤ 48 + hi
    · have ep : pD f n lo hi p = (true, sk f n p + 1, sg f n p - 48) := by unfold pD; rw [if_pos q2]
      have q3 : ((lo : Int) ≤ ((sg f n p - 48 : Nat) : Int) ∧ ((sg f n p - 48 : Nat) : Int) ≤ (hi : Int)) := by omega
      rw [ep, if_pos q3, if_neg z10, mW_9]
      simp only [zl_s]
      rw [n_1, mW_s9, if_pos trivial]
    · have ep : pD f n lo hi p = (false, sk f n p, 0) := by unfold pD; rw [if_neg q2]
      have q3 : ¬ ((lo : Int) ≤ ((sg f n p - 48 : Nat) : Int) ∧ ((sg f n p - 48 : Nat) : Int) ≤ (hi : Int)) := by omega
      rw [ep, if_neg q3, if_pos z00, e27]
      rfl
  · have qb : bI (decide (48 ≤ sg f n p ∧ sg f n p ≤ 57)) = 0 := by rw [bI_0, decide_eq_false q]
    have ep : pD f n lo hi p = (false, sk f n p, 0) := by unfold pD; rw [if_neg (by omega)]
    rw [if_pos qb, e27, ep]
    rfl
theorem M_letter {t b n p : Nat} {f : Nat → Nat} {w : gW} (h : TX t b n f w) (hp : p ≤ n) (d : Int32) : f_M_letter (mW w p (-1) d) = if (pLt f n p).1 = true then some (nI (pLt f n p).2.2, mW w (pLt f n p).2.1 (-1) d) else some (-1, mW w (sk f n p) (nI (sk f n p)) d) := by
  have hs := h.sgl p
  have e17 : f_M_letter_b17 (mW w (sk f n p) (-1) d) = some (-1, mW w (sk f n p) (nI (sk f n p)) d) := by
    unfold f_M_letter_b17
    rw [M_fails1]
    rfl
  unfold f_M_letter
  rw [M_look h hp]
  simp only [zb_s]
  by_cases q0 : sg f n p = 0
  · have hl : lkv f n p = -1 := by
      unfold lkv
      unfold sg at q0
      by_cases q : sk f n p < n
      · rw [if_pos q] at q0
        have := h.pos _ q
        omega
      · rw [if_neg q]
    have ep : pLt f n p = (false, sk f n p, 0) := by unfold pLt; rw [if_neg (by omega)]
    rw [hl, if_pos (show (-1 : Int32) < 97 by decide), e17, ep]
    rfl
  · rw [lkv_lit q0, show (97 : Int32) = nI 97 from rfl, show (101 : Int32) = nI 101 from rfl]
    by_cases q1 : 97 ≤ sg f n p ∧ sg f n p ≤ 101
    · have ep : pLt f n p = (true, sk f n p + 1, sg f n p - 97) := by unfold pLt; rw [if_pos q1]
      have b1 : ¬ nI (sg f n p) < nI 97 := by rw [n_lt (by omega) (by omega)]; omega
      have b2 : nI (sg f n p) ≤ nI 101 := by rw [n_le (by omega) (by omega)]; omega
      rw [ep, if_neg b1, if_pos b2, mW_9]
      simp only [zl_s]
      rw [n_1, mW_s9, n_sub q1.1, if_pos trivial]
    · have ep : pLt f n p = (false, sk f n p, 0) := by unfold pLt; rw [if_neg q1]
      rw [ep, e17]
      by_cases q2 : nI (sg f n p) < nI 97
      · rw [if_pos q2]; rfl
      · have b2 : ¬ nI (sg f n p) ≤ nI 101 := by rw [n_le (by omega) (by omega)]; rw [n_lt (by omega) (by omega)] at q2; omega
        rw [if_neg q2, if_neg b2]; rfl
/-- what the model sees -/
def snM (w : gW) (x : Nat) : Bool := !decide (w.1 107 21 ≤ nI x) && !decide (w.1 107 13 ≤ w.1 111 x)
def mE (w : gW) (k a b : Nat) : Bool := match k with
  | 0 => snM w a && !decide (nI b < w.1 111 a)
  | 1 => snM w a && (snM w b && !decide (w.1 111 b ≤ w.1 111 a))
  | 2 => snM w a && (snM w b && decide (w.1 111 a = w.1 111 b))
  | _ => decide (((w.1 107 14) >>> (nI a &&& 31)) &&& (1 : Int32) = 1)
def mOK (w : gW) : Prop := ∀ a, a < 5 → snM w a = true → ¬ (nI 5 < w.1 111 a)
theorem M_seen {w : gW} {x p : Nat} {fa d : Int32} (hx : x < 5) : f_M_isSeen (nI x) (mW w p fa d) = some (bI (snM w x), mW w p fa d) := by
  unfold f_M_isSeen snM
  rw [mW_o (by omega), mW_o (by omega), z_ix (by omega), mW_o (by omega)]
  by_cases q : w.1 107 21 ≤ nI x
  · rw [if_pos q, decide_eq_true q]; rfl
  · rw [if_neg q, if_pos (z_inbn hx (by decide)), decide_eq_false q]
    by_cases q2 : w.1 107 13 ≤ w.1 111 x
    · rw [if_pos q2, decide_eq_true q2]; rfl
    · rw [if_neg q2, decide_eq_false q2]; rfl
/-- what a reader of the model does at each place: as u says -/
def MR (w : gW) (n : Nat) (f : Nat → Nat) (d : Int32) (k : gW → Option (Int32 × gW)) (u : Nat → pR) : Prop := ∀ (p : Nat), p ≤ n → ((u p).1 = true → ∃ v : Bool, k (mW w p (-1) d) = some (bI v, mW w (u p).2.1 (-1) d) ∧ (mOK w → v = eVl (mE w) (u p).2.2)) ∧ ((u p).1 = false → ∃ (v : Bool) (d' : Int32), k (mW w p (-1) d) = some (bI v, mW w (u p).2.1 (nI (u p).2.1) d'))
theorem MR_loop {w : gW} {n sep op t b0 : Nat} {f : Nat → Nat} {d : Int32} {r : gW → Option (Int32 × gW)} {u : Nat → pR} {S : (Int32 → gW → Option (Int32 × gW)) → Int32 → gW → Option (Int32 × gW)} {bot : Int32 → gW → Option (Int32 × gW)} (g : Bool → Bool → Bool)
    (hS : ∀ (k : Int32 → gW → Option (Int32 × gW)) (x : Bool) w, S k (bI x) w = if (w.1 107 10) = (-1 : Int32) then (zb (f_M_look w) (fun v2 w3 => if v2 = nI sep then zl (zsI w3 107 9 ((w3.1 107 9) + (1 : Int32))) (fun w5 => zb (r w5) (fun v7 w8 => k (bI (g x (decide (¬ v7 = 0)))) w8)) else some (bI x, w3))) else some (bI x, w))
    (h : TX t b0 n f w) (hs : 0 < sep ∧ sep < 256) (m m' : Nat) (hm : m + 1 ≤ m') (hop : op = 1280 ∧ (∀ x y, g x y = (x && y)) ∨ op = 1536 ∧ (∀ x y, g x y = (x || y))) (hu : ∀ p, p ≤ n → pG f n m p (u p)) (hr : MR w n f d r u) :
    ∀ (fu j : Nat), j < fu → (∀ (v : Bool) p q d', q < 2 ^ 31 → zfx bot S fu (bI v) (mW w p (nI q) d') = some (bI v, mW w p (nI q) d')) ∧ ∀ (p : Nat) (em : List Nat) (v : Bool), n ≤ p + j → p ≤ n → cVal m' em →
      ((pLp f n sep op u j p em).1 = true → ∃ v' : Bool, zfx bot S fu (bI v) (mW w p (-1) d) = some (bI v', mW w (pLp f n sep op u j p em).2.1 (-1) d) ∧ ((mOK w → v = eVl (mE w) em) → mOK w → v' = eVl (mE w) (pLp f n sep op u j p em).2.2)) ∧ ((pLp f n sep op u j p em).1 = false → ∃ (v' : Bool) (d' : Int32), zfx bot S fu (bI v) (mW w p (-1) d) = some (bI v', mW w (pLp f n sep op u j p em).2.1 (nI (pLp f n sep op u j p em).2.1) d'))
  | 0, j, hj => absurd hj (Nat.not_lt_zero j)
  | fu + 1, j, hj => by
    have h120 := h.1.2.1
    refine ⟨fun v p q d' hq => by rw [zfx_s, hS, mW_10, if_neg (by rw [n_m1 hq]; exact id)], fun p em v hx hp hv => ?_⟩
    rw [zfx_s, hS, mW_10, if_pos rfl, M_look h hp]
    simp only [zb_s]
    cases j with
    | zero =>
      have e := sk_e (f := f) (n := n) (p := p) (by omega)
      rw [if_neg (fun z => by have := (lkv_c h hs.1 hs.2).mp z; have q := sg_lt (f := f) (n := n) (p := p) (by omega); omega), e]
      exact ⟨fun _ => ⟨v, rfl, fun a b => a b⟩, fun h => (by cases h)⟩
    | succ j =>
      unfold pLp
      by_cases c : sg f n p = sep
      · have hlt := sg_lt (f := f) (n := n) (p := p) (by omega)
        have g1 := sk_ge f n p
        rw [if_pos c, if_pos ((lkv_c h hs.1 hs.2).mpr c), mW_9]
        simp only [zl_s]
        rw [n_1, mW_s9]
        have ih := MR_loop (bot := bot) g hS h hs m m' hm hop hu hr fu j (by omega)
        have hG := hu (sk f n p + 1) hlt.1
        have hR := hr (sk f n p + 1) hlt.1
        by_cases c2 : (u (sk f n p + 1)).1 = true
        · rw [if_pos c2]
          obtain ⟨a1, a2, a3, a4, a5⟩ := hG.1 c2
          obtain ⟨v7, e7, k7⟩ := hR.1 c2
          rw [e7]
          simp only [zb_s]
          have e0 : decide (¬ bI v7 = 0) = v7 := by cases v7 <;> decide
          rw [e0]
          have hop2 : op = 1280 ∨ op = 1536 := by rcases hop with z | z <;> simp [z.1]
          have ih2 := ih.2 (u (sk f n p + 1)).2.1 (em ++ (u (sk f n p + 1)).2.2 ++ [op]) (g v v7) (by omega) a2 (cVal_two hop2 hv a4 hm)
          refine ⟨fun hh => ?_, ih2.2⟩
          obtain ⟨v', e', k'⟩ := ih2.1 hh
          refine ⟨v', e', fun hA hB => k' (fun _ => ?_) hB⟩
          rw [eV_two hop2 hv a4, ← k7 hB, ← hA hB]
          rcases hop with ⟨z1, z2⟩ | ⟨z1, z2⟩
          · rw [if_pos z1, z2]
          · rw [if_neg (by rw [z1]; decide), z2]
        · rw [if_neg c2]
          obtain ⟨v7, d7, e7⟩ := hR.2 (by simpa using c2)
          have a2 := (hG.2 (by simpa using c2)).2.1
          rw [e7]
          simp only [zb_s]
          exact ⟨fun h => (by cases h), fun _ => ⟨_, _, ih.1 _ _ _ _ (by omega)⟩⟩
      · rw [if_neg c, if_neg (fun z => c ((lkv_c h hs.1 hs.2).mp z))]
        exact ⟨fun _ => ⟨v, rfl, fun a b => a b⟩, fun h => (by cases h)⟩
theorem MR_choice {w : gW} {n b t b0 : Nat} {f : Nat → Nat} {rK : gW → Option (Int32 × gW)} {d : Int32} {u : Nat → pR} (h : TX t b0 n f w) (hu : ∀ p, p ≤ n → pG f n b p (u p)) (hr : MR w n f d rK u) : MR w n f d (f_M_choice_rec rK) (pCh f n u) := by
  intro p hp
  have h120 := h.1.2.1
  have hR := hr p hp
  have hG := hu p hp
  unfold f_M_choice_rec pCh
  have hloop := MR_loop (S := f_M_choice_b5_s rK) (bot := fun _ _ => none) (d := d) (r := rK) (sep := 38) (op := 1280) (u := u) (fun x y => x && y) (fun k x w => by
    unfold f_M_choice_b5_s f_M_choice_b54 f_M_choice_b49 f_M_choice_b50
    have e0 : ∀ w : gW, (if bI x &&& 1 = bI x then some (bI x, w) else none) = some (bI x, w) := fun w => if_pos (bI_a x)
    simp only [e0]
    congr 1
    congr 1
    funext v2 w3
    rw [show (38 : Int32) = nI 38 from rfl]
    congr 1
    simp only [zl_s]
    congr 1
    funext v7 w8
    cases x with
    | false => rw [if_pos (show bI false = 0 from rfl)]; rfl
    | true =>
      rw [if_neg (show ¬ bI true = 0 by decide)]
      by_cases q : v7 = 0
      · rw [if_pos q, decide_eq_false (fun z => z q)]; rfl
      · rw [if_neg q, decide_eq_true q]; rfl) h ⟨by decide, by decide⟩ b (b + 1) (Nat.le_refl _) (Or.inl ⟨rfl, fun _ _ => rfl⟩) hu hr zFU 120 (zfu (by decide))
  by_cases c : (u p).1 = true
  · rw [if_pos c]
    obtain ⟨v, e1, k1⟩ := hR.1 c
    rw [e1]
    simp only [zb_s]
    obtain ⟨a1, a2, a3, a4, a5⟩ := hG.1 c
    have := hloop.2 (u p).2.1 (u p).2.2 v (by omega) a2 (cVal_wk a4 (by omega))
    refine ⟨fun hh => ?_, this.2⟩
    obtain ⟨v', e', k'⟩ := this.1 hh
    exact ⟨v', e', fun hB => k' k1 hB⟩
  · rw [if_neg c]
    obtain ⟨v7, d7, e7⟩ := hR.2 (by simpa using c)
    have a2 := (hG.2 (by simpa using c)).2.1
    rw [e7]
    simp only [zb_s]
    exact ⟨fun h => (by cases h), fun _ => ⟨_, _, hloop.1 _ _ _ _ (by omega)⟩⟩
theorem MR_oath {w : gW} {n b t b0 : Nat} {f : Nat → Nat} {rK : gW → Option (Int32 × gW)} {d : Int32} {u : Nat → pR} (h : TX t b0 n f w) (hu : ∀ p, p ≤ n → pG f n b p (u p)) (hr : MR w n f d rK u) : MR w n f d (f_M_oath_rec rK) (pOa f n u) := by
  have hr2 := MR_choice h hu hr
  have hu2 := pCh_G hu
  intro p hp
  have h120 := h.1.2.1
  have hR := hr2 p hp
  have hG := hu2 p hp
  unfold f_M_oath_rec pOa
  have hloop := MR_loop (S := f_M_oath_b5_s rK) (bot := fun _ _ => none) (d := d) (r := f_M_choice_rec rK) (sep := 124) (op := 1536) (u := pCh f n u) (fun x y => x || y) (fun k x w => by
    unfold f_M_oath_b5_s f_M_oath_b54 f_M_oath_b45 f_M_oath_b50
    have e0 : ∀ w : gW, (if bI x &&& 1 = bI x then some (bI x, w) else none) = some (bI x, w) := fun w => if_pos (bI_a x)
    simp only [e0]
    congr 1
    congr 1
    funext v2 w3
    rw [show (124 : Int32) = nI 124 from rfl]
    congr 1
    simp only [zl_s]
    congr 1
    funext v7 w8
    cases x with
    | true => rw [if_neg (show ¬ bI true = 0 by decide)]; rfl
    | false =>
      rw [if_pos (show bI false = 0 from rfl)]
      by_cases q : v7 = 0
      · rw [if_pos q, decide_eq_false (fun z => z q)]; rfl
      · rw [if_neg q, decide_eq_true q]; rfl) h ⟨by decide, by decide⟩ (b + 1) (b + 2) (Nat.le_refl _) (Or.inr ⟨rfl, fun _ _ => rfl⟩) hu2 hr2 zFU 120 (zfu (by decide))
  by_cases c : (pCh f n u p).1 = true
  · rw [if_pos c]
    obtain ⟨v, e1, k1⟩ := hR.1 c
    rw [e1]
    simp only [zb_s]
    obtain ⟨a1, a2, a3, a4, a5⟩ := hG.1 c
    have := hloop.2 (pCh f n u p).2.1 (pCh f n u p).2.2 v (by omega) a2 (cVal_wk a4 (by omega))
    refine ⟨fun hh => ?_, this.2⟩
    obtain ⟨v', e', k'⟩ := this.1 hh
    exact ⟨v', e', fun hB => k' k1 hB⟩
  · rw [if_neg c]
    obtain ⟨v7, d7, e7⟩ := hR.2 (by simpa using c)
    have a2 := (hG.2 (by simpa using c)).2.1
    rw [e7]
    simp only [zb_s]
    exact ⟨fun h => (by cases h), fun _ => ⟨_, _, hloop.1 _ _ _ _ (by omega)⟩⟩
theorem M_goesIn {w : gW} {p d : Nat} (hd : d ≤ 6) : f_M_goesIn (mW w p (-1) (nI d)) = if d < 6 then some (1, mW w (p + 1) (-1) (nI (d + 1))) else some (0, mW w p (nI p) (nI d)) := by
  unfold f_M_goesIn
  rw [mW_11]
  by_cases q : d < 6
  · rw [if_neg (by rw [show (6 : Int32) = nI 6 from rfl, n_eq (by omega) (by omega)]; omega), if_pos q]
    simp only [zl_s]
    rw [n_1, mW_s11, mW_9, n_1, mW_s9]
  · rw [if_pos (by rw [show d = 6 by omega]; rfl), if_neg q, M_fails1]
    simp only [zb_s]
    rw [if_pos (by decide)]
