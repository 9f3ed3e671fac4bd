/-! PURE: the class's tape, as it is read -/
theorem zsI_same {w : gW} {k j : Nat} {v : Int32} (h : w.1 k j = v) : zsI w k j v = w := by
  unfold zsI
  congr 1
  funext a b
  by_cases q : a = k ∧ b = j
  · rw [if_pos q, q.1, q.2, h]
  · rw [if_neg q]
theorem zsI_zsI (w : gW) (k j : Nat) (v v' : Int32) : zsI (zsI w k j v) k j v' = zsI w k j v' := by
  unfold zsI
  congr 1
  funext a b
  by_cases q : a = k ∧ b = j
  · rw [if_pos q, if_pos q]
  · rw [if_neg q, if_neg q]
    exact if_neg q
/-- the tape holds n bytes f -/
def tpe (n : Nat) (f : Nat → Nat) (w : gW) : Prop := n ≤ 120 ∧ w.1 1 1 = nI n ∧ ∀ j, j < n → 0 < f j ∧ f j < 256 ∧ w.1 2 j = nI (f j)
theorem tpe.pl {n : Nat} {f : Nat → Nat} {w : gW} (h : tpe n f w) (v : Int32) : tpe n f (zsI w 1 2 v) := ⟨h.1, h.2.1, h.2.2⟩
theorem tpe.pos {n : Nat} {f : Nat → Nat} {w : gW} (h : tpe n f w) : ∀ j, j < n → 0 < f j := fun j hj => (h.2.2 j hj).1
theorem tpe.sgl {n : Nat} {f : Nat → Nat} {w : gW} (h : tpe n f w) (p : Nat) : sg f n p < 256 := by
  unfold sg
  by_cases q : sk f n p < n
  · rw [if_pos q]; exact (h.2.2 _ q).2.1
  · rw [if_neg q]; decide
theorem pl_g (w : gW) (v : Int32) : (zsI w 1 2 v).1 1 2 = v := rfl
theorem Tp_sign {n p : Nat} {f : Nat → Nat} {w : gW} (ht : tpe n f w) (hp : w.1 1 2 = nI p) (hpn : p ≤ n) : f_Tp_sign w = some (nI (sg f n p), zsI w 1 2 (nI (sk f n p))) := by
  have key := zfx_ind (fun _ => none) f_Tp_sign_b0_s (fun m k => ∀ (p : Nat) (w : gW), n - p ≤ m → tpe n f w → w.1 1 2 = nI p → p ≤ n → k w = some (nI (sg f n p), zsI w 1 2 (nI (sk f n p)))) (fun m k ih p w hm ht hp hpn => by
    have h120 := ht.1
    have e54 : f_Tp_sign_b54 w = if p < n then some (nI (f p), w) else some (0, w) := by
      unfold f_Tp_sign_b54
      rw [hp, ht.2.1, if_neg (nI_pos (by omega))]
      by_cases q : p < n
      · rw [if_neg (by rw [n_le (by omega) (by omega)]; omega), if_neg (by rw [show (120 : Int32) = nI 120 from rfl, n_le (by omega) (by omega)]; omega), if_pos (z_inbn (by omega) (by decide)), z_ix (by omega), (ht.2.2 p q).2.2, if_pos q]
      · rw [if_pos (by rw [n_le (by omega) (by omega)]; omega), if_neg q]
    unfold f_Tp_sign_b0_s
    rw [e54]
    rw [hp, ht.2.1, if_neg (nI_pos (by omega))]
    by_cases q : p < n
    · rw [if_neg (by rw [n_le (by omega) (by omega)]; omega), if_neg (by rw [show (120 : Int32) = nI 120 from rfl, n_le (by omega) (by omega)]; omega), if_pos (z_inbn (by omega) (by decide)), z_ix (by omega), (ht.2.2 p q).2.2]
      by_cases q2 : f p = 32
      · rw [if_pos (by rw [q2]; rfl)]
        simp only [zl_s]
        rw [n_1, ih (n - (p + 1)) (by omega) (p + 1) _ (Nat.le_refl _) (ht.pl _) (pl_g _ _) (by omega), zsI_zsI, sk_s q q2]
        unfold sg
        rw [sk_s q q2]
      · have e := sk_e (f := f) (n := n) (p := p) (fun z => q2 z.2)
        rw [if_neg (by rw [show (32 : Int32) = nI 32 from rfl, n_eq (by have := (ht.2.2 p q).2.1; omega) (by omega)]; exact q2), if_pos q]
        unfold sg
        rw [e, if_pos q, zsI_same hp]
    · have e := sk_e (f := f) (n := n) (p := p) (fun z => q z.1)
      rw [if_pos (by rw [n_le (by omega) (by omega)]; omega), if_neg q]
      unfold sg
      rw [e, if_neg q, zsI_same hp]
      rfl) zFU (n - p) (zfu (by have := ht.1; omega))
  exact key p w (Nat.le_refl _) ht hp hpn
theorem Tp_step {n p : Nat} {f : Nat → Nat} {w : gW} (ht : tpe n f w) (hp : w.1 1 2 = nI p) (hpn : p < n) : f_Tp_step w = some ((), zsI w 1 2 (nI (p + 1))) := by
  have h120 := ht.1
  unfold f_Tp_step
  rw [hp, ht.2.1, if_neg (by rw [n_le (by omega) (by omega)]; omega)]
  simp only [zl_s]
  rw [n_1]
theorem Tp_passes {n p c : Nat} {f : Nat → Nat} {w : gW} (ht : tpe n f w) (hp : w.1 1 2 = nI p) (hpn : p ≤ n) (hc : 0 < c) (hc2 : c < 256) : f_Tp_passes (nI c) w = if sg f n p = c then some (1, zsI w 1 2 (nI (sk f n p + 1))) else some (0, zsI w 1 2 (nI (sk f n p))) := by
  have hs := ht.sgl p
  unfold f_Tp_passes
  rw [Tp_sign ht hp hpn]
  simp only [zb_s]
  by_cases q : sg f n p = c
  · rw [if_pos (by rw [q]), if_pos q, Tp_step (ht.pl _) (pl_g _ _) (sg_lt (f := f) (n := n) (p := p) (by omega)).1, zsI_zsI]
    rfl
  · rw [if_neg (by rw [n_eq (by omega) (by omega)]; exact q), if_neg q]
theorem Tp_digit {n p lo hi : Nat} {f : Nat → Nat} {w : gW} (ht : tpe n f w) (hp : w.1 1 2 = nI p) (hpn : p ≤ n) (hlo : lo < 100) (hhi : hi < 100) : f_Tp_digit (nI lo) (nI hi) w = some (if (pD f n lo hi p).1 = true then nI (pD f n lo hi p).2.2 else -1, zsI w 1 2 (nI (pD f n lo hi p).2.1)) := by
  have hs := ht.sgl p
  unfold f_Tp_digit
  rw [Tp_sign ht hp hpn]
  simp only [zb_s, zl_s]
  have e : (nI (sg f n p) - (48 : Int32)).toInt = (sg f n p : Int) - 48 := by
    rw [show (48 : Int32) = nI 48 from rfl, pk_sub_toInt (by omega) (by omega)]
    rfl
  by_cases q : 48 + lo ≤ sg f n p ∧ sg f n p ≤ 48 + hi
  · have ep : pD f n lo hi p = (true, sk f n p + 1, sg f n p - 48) := by unfold pD; rw [if_pos q]
    rw [ep, if_neg (by rw [i_lt, e, i_nI (by omega)]; omega), if_pos (by rw [i_le, e, i_nI (by omega)]; omega), Tp_step (ht.pl _) (pl_g _ _) (sg_lt (f := f) (n := n) (p := p) (by omega)).1, zsI_zsI]
    simp only [zb_s]
    rw [if_pos trivial, show (48 : Int32) = nI 48 from rfl, n_sub (by omega)]
  · have ep : pD f n lo hi p = (false, sk f n p, 0) := by unfold pD; rw [if_neg q]
    rw [ep]
    by_cases q1 : 48 + lo ≤ sg f n p
    · rw [if_neg (by rw [i_lt, e, i_nI (by omega)]; omega), if_neg (by rw [i_le, e, i_nI (by omega)]; omega)]
      rfl
    · rw [if_pos (by rw [i_lt, e, i_nI (by omega)]; omega)]
      rfl
theorem Tp_letter {n p : Nat} {f : Nat → Nat} {w : gW} (ht : tpe n f w) (hp : w.1 1 2 = nI p) (hpn : p ≤ n) : f_Tp_letter w = some (if (pLt f n p).1 = true then nI (pLt f n p).2.2 else -1, zsI w 1 2 (nI (pLt f n p).2.1)) := by
  have hs := ht.sgl p
  unfold f_Tp_letter
  rw [Tp_sign ht hp hpn]
  simp only [zb_s, zl_s]
  have e : (nI (sg f n p) - (97 : Int32)).toInt = (sg f n p : Int) - 97 := by
    rw [show (97 : Int32) = nI 97 from rfl, pk_sub_toInt (by omega) (by omega)]
    rfl
  by_cases q : 97 ≤ sg f n p ∧ sg f n p ≤ 101
  · have ep : pLt f n p = (true, sk f n p + 1, sg f n p - 97) := by unfold pLt; rw [if_pos q]
    rw [ep, if_neg (by rw [i_lt, e, i_0]; omega), if_pos (by rw [i_lt, e, show (5 : Int32).toInt = 5 from rfl]; omega), Tp_step (ht.pl _) (pl_g _ _) (sg_lt (f := f) (n := n) (p := p) (by omega)).1, zsI_zsI]
    simp only [zb_s]
    rw [if_pos trivial, show (97 : Int32) = nI 97 from rfl, n_sub (by omega)]
  · have ep : pLt f n p = (false, sk f n p, 0) := by unfold pLt; rw [if_neg q]
    rw [ep]
    by_cases q1 : 97 ≤ sg f n p
    · rw [if_neg (by rw [i_lt, e, i_0]; omega), if_neg (by rw [i_lt, e, show (5 : Int32).toInt = 5 from rfl]; omega)]
      rfl
    · rw [if_pos (by rw [i_lt, e, i_0]; omega)]
      rfl
theorem Tp_spot {n p : Nat} {f : Nat → Nat} {w : gW} (ht : tpe n f w) (hp : w.1 1 2 = nI p) (hpn : p ≤ n) : f_Tp_spot w = some (nI (sk f n p), zsI w 1 2 (nI (sk f n p))) := by
  have h120 := ht.1
  have hs := ht.sgl p
  unfold f_Tp_spot
  rw [Tp_sign ht hp hpn]
  simp only [zb_s]
  by_cases q : sg f n p = 0
  · rw [if_pos (by rw [q]; rfl), (ht.pl (nI (sk f n p))).2.1, (sg_z ht.pos hpn).mp q]
  · rw [if_neg (nI_ne0 (by omega) (by omega))]
    rfl
theorem Tp_atEnd {n p : Nat} {f : Nat → Nat} {w : gW} (ht : tpe n f w) (hp : w.1 1 2 = nI p) (hpn : p ≤ n) : f_Tp_isAtEnd w = some (bI (decide (sg f n p = 0)), zsI w 1 2 (nI (sk f n p))) := by
  have hs := ht.sgl p
  unfold f_Tp_isAtEnd
  rw [Tp_sign ht hp hpn]
  simp only [zb_s]
  by_cases q : sg f n p = 0
  · rw [if_pos (by rw [q]; rfl), decide_eq_true q]; rfl
  · rw [if_neg (nI_ne0 (by omega) (by omega)), decide_eq_false q]; rfl
/-! PURE: the class reads an oath -/
def nmO (em : List Nat) : Nat := em.foldl (fun s c => if c / 256 = 3 then s ||| 2 ^ (c / 16 % 16) else s) 0
theorem nmO_app (em : List Nat) (c : Nat) : nmO (em ++ [c]) = if c / 256 = 3 then nmO em ||| 2 ^ (c / 16 % 16) else nmO em := by
  unfold nmO
  rw [List.foldl_append]
  rfl
/-- the world while the class reads an oath into row o: place p, codes em -/
def cW (w : gW) (o p : Nat) (em : List Nat) : gW := (fun a b => if a = 1 ∧ b = 2 then nI p else if a = 16 ∧ b = o then nI em.length else if a = 17 ∧ b = o then nI (nmO em) else if a = 7 + o ∧ b < em.length then nI (em.getD b 0) else w.1 a b, w.2)
theorem cW_pl (w : gW) (o p q : Nat) (em : List Nat) : zsI (cW w o p em) 1 2 (nI q) = cW w o q em := by
  unfold zsI cW
  congr 1
  funext a b
  by_cases h : a = 1 ∧ b = 2
  · rw [if_pos h, if_pos h]
  · rw [if_neg h, if_neg h]
    exact if_neg h
theorem cW_tp {n o p : Nat} {f : Nat → Nat} {w : gW} {em : List Nat} (h : tpe n f w) (ho : o ≤ 8) : tpe n f (cW w o p em) := by
  refine ⟨h.1, ?_, fun j hj => ⟨(h.2.2 j hj).1, (h.2.2 j hj).2.1, ?_⟩⟩
  · show (if 1 = 1 ∧ 1 = 2 then nI p else if 1 = 16 ∧ 1 = o then nI em.length else if 1 = 17 ∧ 1 = o then nI (nmO em) else if 1 = 7 + o ∧ 1 < em.length then nI (em.getD 1 0) else w.1 1 1) = _
    rw [if_neg (by omega), if_neg (by omega), if_neg (by omega), if_neg (by omega)]
    exact h.2.1
  show (if 2 = 1 ∧ j = 2 then nI p else if 2 = 16 ∧ j = o then nI em.length else if 2 = 17 ∧ j = o then nI (nmO em) else if 2 = 7 + o ∧ j < em.length then nI (em.getD j 0) else w.1 2 j) = _
  rw [if_neg (by omega), if_neg (by omega), if_neg (by omega), if_neg (by omega)]
  exact (h.2.2 j hj).2.2
theorem cW_p (w : gW) (o p : Nat) (em : List Nat) : (cW w o p em).1 1 2 = nI p := rfl
theorem cW_c {w : gW} {o p : Nat} {em : List Nat} (ho : o ≤ 8) : (cW w o p em).1 5 4 = w.1 5 4 := by
  show (if 5 = 1 ∧ 4 = 2 then nI p else if 5 = 16 ∧ 4 = o then nI em.length else if 5 = 17 ∧ 4 = o then nI (nmO em) else if 5 = 7 + o ∧ 4 < em.length then nI (em.getD 4 0) else w.1 5 4) = _
  rw [if_neg (by omega), if_neg (by omega), if_neg (by omega), if_neg (by omega)]
theorem cW_l {w : gW} {o p : Nat} {em : List Nat} : (cW w o p em).1 16 o = nI em.length := by
  show (if 16 = 1 ∧ o = 2 then nI p else if 16 = 16 ∧ o = o then nI em.length else if 16 = 17 ∧ o = o then nI (nmO em) else if 16 = 7 + o ∧ o < em.length then nI (em.getD o 0) else w.1 16 o) = _
  rw [if_neg (by omega), if_pos (by omega)]
theorem cW_n {w : gW} {o p : Nat} {em : List Nat} : (cW w o p em).1 17 o = nI (nmO em) := by
  show (if 17 = 1 ∧ o = 2 then nI p else if 17 = 16 ∧ o = o then nI em.length else if 17 = 17 ∧ o = o then nI (nmO em) else if 17 = 7 + o ∧ o < em.length then nI (em.getD o 0) else w.1 17 o) = _
  rw [if_neg (by omega), if_neg (by omega), if_pos (by omega)]
theorem getD_snoc (em : List Nat) (c b : Nat) : (em ++ [c]).getD b 0 = if b < em.length then em.getD b 0 else if b = em.length then c else 0 := by
  rw [List.getD_eq_getElem?_getD, List.getD_eq_getElem?_getD, List.getElem?_append]
  by_cases h : b < em.length
  · rw [if_pos h, if_pos h]
  · rw [if_neg h, if_neg h]
    by_cases h2 : b = em.length
    · rw [if_pos h2, h2, Nat.sub_self]; rfl
    · rw [if_neg h2, List.getElem?_eq_none (by simp only [List.length_singleton]; omega)]; rfl
theorem cW_put {w : gW} {o p : Nat} {em : List Nat} {c : Nat} (ho : o ≤ 8) (hc : c / 256 ≠ 3) : zsI (zsI (cW w o p em) (7 + o) em.length (nI c)) 16 o (nI (em.length + 1)) = cW w o p (em ++ [c]) := by
  unfold zsI cW
  congr 1
  funext a b
  have hl : (em ++ [c]).length = em.length + 1 := by simp
  rw [nmO_app, if_neg hc, getD_snoc, hl]
  by_cases h1 : a = 1 ∧ b = 2
  · simp only [h1, and_self, if_true]
    rw [if_neg (by omega), if_neg (by omega)]
  by_cases h2 : a = 16 ∧ b = o
  · rw [if_pos h2, if_neg h1, if_pos h2]
  by_cases h3 : a = 17 ∧ b = o
  · simp only [if_neg h2, if_neg h1, if_pos h3]
    rw [if_neg (by omega)]
  simp only [if_neg h2, if_neg h1, if_neg h3]
  by_cases h4 : a = 7 + o ∧ b = em.length
  · rw [if_pos h4, if_pos ⟨h4.1, by omega⟩, if_neg (by omega), if_pos h4.2]
  · rw [if_neg h4]
    by_cases h5 : a = 7 + o ∧ b < em.length
    · rw [if_pos h5, if_pos ⟨h5.1, by omega⟩, if_pos h5.2]
    · rw [if_neg h5, if_neg (by omega)]
theorem cW_put3 {w : gW} {o p : Nat} {em : List Nat} {c : Nat} (ho : o ≤ 8) (hc : c / 256 = 3) : zsI (zsI (zsI (cW w o p em) 17 o (nI (nmO em ||| 2 ^ (c / 16 % 16)))) (7 + o) em.length (nI c)) 16 o (nI (em.length + 1)) = cW w o p (em ++ [c]) := by
  unfold zsI cW
  congr 1
  funext a b
  have hl : (em ++ [c]).length = em.length + 1 := by simp
  rw [nmO_app, if_pos hc, getD_snoc, hl]
  by_cases h1 : a = 1 ∧ b = 2
  · simp only [h1, and_self, if_true]
    rw [if_neg (by omega), if_neg (by omega), if_neg (by omega)]
  by_cases h2 : a = 16 ∧ b = o
  · rw [if_pos h2, if_neg h1, if_pos h2]
  by_cases h3 : a = 17 ∧ b = o
  · simp only [if_neg h2, if_neg h1, if_pos h3]
    rw [if_neg (by omega)]
  simp only [if_neg h2, if_neg h1, if_neg h3]
  by_cases h4 : a = 7 + o ∧ b = em.length
  · rw [if_pos h4, if_pos ⟨h4.1, by omega⟩, if_neg (by omega), if_pos h4.2]
  · rw [if_neg h4]
    by_cases h5 : a = 7 + o ∧ b < em.length
    · rw [if_pos h5, if_pos ⟨h5.1, by omega⟩, if_pos h5.2]
    · rw [if_neg h5, if_neg (by omega)]
theorem Oa_draft {w : gW} {o : Nat} (h : w.1 5 4 = nI o) (ho : o ≤ 8) : f_Oa_draft w = some (nI o, w) := by
  unfold f_Oa_draft
  rw [h, if_neg (nI_pos (by omega)), if_neg (by rw [n_le (by omega) (by omega)]; omega)]
theorem gl_cod : ∀ o, o < 9 → g_len 1 (6 + 1 + o) = 120 := by decide +kernel
theorem cod3 (k a b : Nat) (hk : k < 8) (ha : a < 16) (hb : b < 16) : (((nI k) <<< ((8 : Int32) &&& 31)) ||| ((nI a) <<< ((4 : Int32) &&& 31))) ||| (nI b) = nI (k * 256 + a * 16 + b) := by
  rw [n_sl8 (by omega), n_sl4 (by omega), n_or, n_or]
  congr 1
  have e1 : k * 256 ||| a * 16 = k * 256 + a * 16 := by
    have := Nat.shiftLeft_add_eq_or_of_lt (i := 8) (b := a * 16) (by omega) k
    rw [Nat.shiftLeft_eq] at this
    exact this.symm
  have e2 : (k * 256 + a * 16) ||| b = k * 256 + a * 16 + b := by
    have := Nat.shiftLeft_add_eq_or_of_lt (i := 4) (b := b) (by omega) (k * 16 + a)
    rw [Nat.shiftLeft_eq, show (k * 16 + a) * 2 ^ 4 = k * 256 + a * 16 by omega] at this
    exact this.symm
  rw [e1, e2]
theorem Oa_put {v : gW} {o L k a b : Nat} (h : v.1 5 4 = nI o) (ho : o ≤ 8) (hL : v.1 16 o = nI L) (hL2 : L < 120) (hk : k < 8) (ha : a < 16) (hb : b < 16) : f_Oa_put (nI k) (nI a) (nI b) v = some (1, zsI (zsI v (7 + o) L (nI (k * 256 + a * 16 + b))) 16 o (nI (L + 1))) := by
  unfold f_Oa_put
  rw [Oa_draft h ho]
  simp only [zb_s, zl_s]
  have hin : inb (nI o) 9 := z_inbn (by omega) (by decide)
  rw [if_pos hin, if_pos hin, z_ix (by omega), hL, if_neg (nI_pos (by omega)), if_pos (by rw [show (120 : Int32) = nI 120 from rfl, n_lt (by omega) (by omega)]; omega), gl_cod o (by omega), if_pos (z_inbn (by omega) (by decide)), if_pos hin, z_ix (by omega), cod3 k a b hk ha hb, n_1, show 6 + 1 + o = 7 + o by omega]
theorem cW_Put {w : gW} {o p k a b : Nat} {em : List Nat} (h : w.1 5 4 = nI o) (ho : o ≤ 8) (hL : em.length < 120) (hk : k < 8) (hk3 : k ≠ 3) (ha : a < 16) (hb : b < 16) : f_Oa_put (nI k) (nI a) (nI b) (cW w o p em) = some (1, cW w o p (em ++ [k * 256 + a * 16 + b])) := by
  rw [Oa_put (v := cW w o p em) (L := em.length) ((cW_c ho).trans h) ho cW_l hL hk ha hb, cW_put ho (by omega)]
theorem cW_There {w : gW} {o p a : Nat} {em : List Nat} (h : w.1 5 4 = nI o) (ho : o ≤ 8) (hL : em.length < 120) (ha : a < 10) : f_Oa_putThere (nI a) (cW w o p em) = some (1, cW w o p (em ++ [768 + a * 16])) := by
  unfold f_Oa_putThere
  rw [Oa_draft ((cW_c ho).trans h) ho]
  simp only [zb_s, zl_s]
  have hin : inb (nI o) 9 := z_inbn (by omega) (by decide)
  rw [if_pos hin, if_pos hin, z_ix (by omega), cW_n, n_1sh (by omega), n_or]
  have hp := Oa_put (v := zsI (cW w o p em) 17 o (nI (nmO em ||| 2 ^ a))) (o := o) (L := em.length) (k := 3) (a := a) (b := 0) (by rw [z_o _ _ _ _ _ _ (by decide), cW_c ho]; exact h) ho (by rw [z_o _ _ _ _ _ _ (by decide)]; exact cW_l) hL (by decide) (by omega) (by decide)
  rw [show (3 : Int32) = nI 3 from rfl, show (0 : Int32) = nI 0 from rfl, hp]
  simp only [zb_s]
  rw [if_pos (by decide)]
  have e := cW_put3 (w := w) (o := o) (p := p) (em := em) (c := 3 * 256 + a * 16 + 0) ho (by omega)
  rw [show (3 * 256 + a * 16 + 0) / 16 % 16 = a by omega] at e
  rw [e, show 3 * 256 + a * 16 + 0 = 768 + a * 16 by omega]
