/-! PURE: the tape -/
/-- the byte of v at a shift of 24, 16, 8, 0 -/
def zby (v : Int32) (s : Nat) : Nat := v.toBitVec.toNat / 2 ^ s % 256
def zbs (v : Int32) : List Nat := ([24, 16, 8, 0].map (zby v)).filter (fun c => c != 0)
theorem zby_u (v : Int32) (s : Int32) (k : Nat) (hs : ((s.toUInt32 &&& Int32.toUInt32 31).toBitVec % 32).toNat = k) : (zusI v s) &&& (255 : Int32) = nI (zby v k) := by
  unfold zusI zby
  rw [pk_and _ 8 (by decide), pk_ushr v s k hs]
theorem zby_s (v : Int32) (s : Int32) (k : Nat) (hs : ((s &&& 31).toBitVec.smod 32).toNat = k) (hk : k = 0 ∨ k = 8 ∨ k = 16 ∨ k = 24) : (v >>> (s &&& 31)) &&& (255 : Int32) = nI (zby v k) := by
  rw [pk_and _ 8 (by decide)]
  congr 1
  have h1 := pk_shr v (s &&& 31) k hs
  have h2 : (v >>> (s &&& 31)).toInt = (v.toInt / 2 ^ k : Int) := by rw [h1, Int.shiftRight_eq_div_pow]; norm_cast
  unfold zby
  have e1 : (v >>> (s &&& 31)).toInt = ((v >>> (s &&& 31)).toBitVec.toNat : Int) ∨ (v >>> (s &&& 31)).toInt = ((v >>> (s &&& 31)).toBitVec.toNat : Int) - 4294967296 := by
    show (v >>> (s &&& 31)).toBitVec.toInt = _ ∨ (v >>> (s &&& 31)).toBitVec.toInt = _
    rw [BitVec.toInt_eq_toNat_cond]
    split
    · left; rfl
    · right; omega
  have e2 : v.toInt = (v.toBitVec.toNat : Int) ∨ v.toInt = (v.toBitVec.toNat : Int) - 4294967296 := by
    show v.toBitVec.toInt = _ ∨ v.toBitVec.toInt = _
    rw [BitVec.toInt_eq_toNat_cond]
    split
    · left; rfl
    · right; omega
  generalize (v >>> (s &&& 31)).toBitVec.toNat = A at *
  generalize (v >>> (s &&& 31)).toInt = B at *
  generalize v.toBitVec.toNat = C at *
  generalize v.toInt = E at *
  rcases hk with q | q | q | q <;> subst q <;> omega
/-- the class's tape with some bytes more, the model's -/
def zpX (w : gW) (n : Nat) : List Nat → gW
  | [] => w
  | c :: l => zpX (zsI (zsI w 2 n (nI c)) 1 1 (nI (n + 1))) (n + 1) l
def zpM (w : gW) (n : Nat) : List Nat → gW
  | [] => w
  | c :: l => zpM (zsI (zsI w 108 n (nI c).toInt8.toInt32) 107 5 (nI (n + 1))) (n + 1) l
theorem zpX_app (l k : List Nat) : ∀ (w : gW) (n : Nat), zpX w n (l ++ k) = zpX (zpX w n l) (n + l.length) k := by
  induction l with
  | nil => intro w n; rfl
  | cons c l ih =>
    intro w n
    show zpX _ (n + 1) (l ++ k) = _
    rw [ih, List.length_cons, show n + (l.length + 1) = n + 1 + l.length by omega]; rfl
theorem zpM_app (l k : List Nat) : ∀ (w : gW) (n : Nat), zpM w n (l ++ k) = zpM (zpM w n l) (n + l.length) k := by
  induction l with
  | nil => intro w n; rfl
  | cons c l ih =>
    intro w n
    show zpM _ (n + 1) (l ++ k) = _
    rw [ih, List.length_cons, show n + (l.length + 1) = n + 1 + l.length by omega]; rfl
theorem zpX_len (l : List Nat) : ∀ (w : gW) (n : Nat), w.1 1 1 = nI n → (zpX w n l).1 1 1 = nI (n + l.length) := by
  induction l with
  | nil => intro w n h; exact h
  | cons c l ih =>
    intro w n h
    show (zpX _ (n + 1) l).1 1 1 = _
    rw [ih _ _ (by rw [zsI_g]; simp), List.length_cons]
    congr 1; omega
theorem zpM_len (l : List Nat) : ∀ (w : gW) (n : Nat), w.1 107 5 = nI n → (zpM w n l).1 107 5 = nI (n + l.length) := by
  induction l with
  | nil => intro w n h; exact h
  | cons c l ih =>
    intro w n h
    show (zpM _ (n + 1) l).1 107 5 = _
    rw [ih _ _ (by rw [zsI_g]; simp), List.length_cons]
    congr 1; omega
theorem zby_lt (v : Int32) (s : Nat) : zby v s < 256 := Nat.mod_lt _ (by decide)
-- out of kit/laws/NUMBERS (starting text)
theorem fa_byte_low (x : Int32) : (x &&& 255).toInt8 = x.toInt8 := by
  apply Int8.toBitVec_inj.1
  apply BitVec.eq_of_getLsbD_eq
  intro i hi
  have h2 : (255 : Int32).toBitVec.getLsbD i = true := by
    have : ∀ j : Fin 8, (255 : Int32).toBitVec.getLsbD j.val = true := by decide +kernel
    exact this ⟨i, hi⟩
  have h4 : (x &&& 255).toBitVec.getLsbD i = x.toBitVec.getLsbD i := by
    show (x.toBitVec &&& (255 : Int32).toBitVec).getLsbD i = _
    rw [BitVec.getLsbD_and, h2, Bool.and_true]
  have h3 : i < 32 := by omega
  first
    | (show (((x &&& 255).toBitVec).signExtend 8).getLsbD i = (x.toBitVec.signExtend 8).getLsbD i; rw [BitVec.getLsbD_signExtend, BitVec.getLsbD_signExtend, if_pos h3, if_pos h3, h4])
    | (show (((x &&& 255).toBitVec).setWidth 8).getLsbD i = (x.toBitVec.setWidth 8).getLsbD i; rw [BitVec.getLsbD_setWidth, BitVec.getLsbD_setWidth, h4])
    | (simp [hi, h3, h4]; done)
/-- one byte put into the class's tape -/
theorem Tp_put_step (v x2 : Int32) (s : Nat) (k3 : Int32 → Int32 → gW → Option (Unit × gW)) (w : gW) (n : Nat) (h0 : ¬ x2 < 0) (hs : ((x2.toUInt32 &&& Int32.toUInt32 31).toBitVec % 32).toNat = s) (hn : w.1 1 1 = nI n) (hl : n + (if zby v s = 0 then 0 else 1) ≤ 120) :
    f_Tp_put_b3_s k3 v x2 w = k3 v (x2 + (-8 : Int32)) (zpX w n ([zby v s].filter (fun c => c != 0))) := by
  unfold f_Tp_put_b3_s f_Tp_put_b55
  rw [if_neg h0]
  simp only [zl_s]
  rw [zby_u v x2 s hs]
  have hb := zby_lt v s
  by_cases hz : zby v s = 0
  · rw [if_pos (by rw [hz]; rfl)]
    simp [hz, zpX]
  · rw [if_neg (nI_ne0 (by omega) (by omega)), if_neg (by rw [hn]; exact nI_pos (by omega))]
    rw [if_neg hz] at hl
    rw [if_neg (by rw [hn, i_le, i_nI (by omega), i_lit 120 (by omega)]; omega), if_pos (by rw [hn]; unfold inb; rw [i_nI (by omega)]; omega)]
    simp only [zsI_g]
    simp [hz, zpX, hn, ix, nI_clamp (show n < 2 ^ 31 by omega), nI_1]
/-- the same into the model's -/
theorem M_put_step (v x2 : Int32) (s : Nat) (k3 : Int32 → Int32 → gW → Option (Unit × gW)) (w : gW) (n : Nat) (h0 : ¬ x2 < 0) (hs : ((x2 &&& 31).toBitVec.smod 32).toNat = s) (hk : s = 0 ∨ s = 8 ∨ s = 16 ∨ s = 24) (hn : w.1 107 5 = nI n) (hl : n + (if zby v s = 0 then 0 else 1) ≤ 120) :
    f_M_put_b3_s k3 v x2 w = k3 v (x2 + (-8 : Int32)) (zpM w n ([zby v s].filter (fun c => c != 0))) := by
  unfold f_M_put_b3_s f_M_put_b43
  rw [if_neg h0]
  simp only [zl_s]
  have e := zby_s v x2 s hs hk
  rw [e]
  have hb := zby_lt v s
  have e8 : (v >>> (x2 &&& 31)).toInt8 = (nI (zby v s)).toInt8 := by
    rw [← e]
    exact (fa_byte_low _).symm
  by_cases hz : zby v s = 0
  · rw [if_pos (by rw [hz]; rfl)]
    simp [hz, zpM]
  · rw [if_neg (nI_ne0 (by omega) (by omega))]
    rw [if_neg hz] at hl
    rw [if_pos (by rw [hn]; unfold inb; rw [i_nI (by omega)]; omega)]
    simp only [zsI_g, e8]
    simp [hz, zpM, hn, ix, nI_clamp (show n < 2 ^ 31 by omega), nI_1]
theorem zbs_eq (v : Int32) : zbs v = [zby v 24].filter (fun c => c != 0) ++ ([zby v 16].filter (fun c => c != 0) ++ ([zby v 8].filter (fun c => c != 0) ++ [zby v 0].filter (fun c => c != 0))) := by
  show ([zby v 24] ++ ([zby v 16] ++ ([zby v 8] ++ [zby v 0]))).filter _ = _
  simp only [List.filter_append]
theorem zf_len (a : Nat) : ([a].filter (fun c => c != 0)).length = if a = 0 then 0 else 1 := by
  by_cases h : a = 0
  · simp [h]
  · simp [h]
theorem Tp_put (v : Int32) (w : gW) (n : Nat) (hn : w.1 1 1 = nI n) (hl : n + (zbs v).length ≤ 120) : f_Tp_put v w = some ((), zpX w n (zbs v)) := by
  rw [zbs_eq] at hl ⊢
  simp only [List.length_append, zf_len] at hl
  have q1 := zpX_len ([zby v 24].filter (fun c => c != 0)) w n hn
  have q2 := zpX_len ([zby v 16].filter (fun c => c != 0)) _ _ q1
  have q3 := zpX_len ([zby v 8].filter (fun c => c != 0)) _ _ q2
  simp only [zf_len] at q1 q2 q3
  unfold f_Tp_put f_Tp_put_b3
  rw [zfx_F, show (99999 : Nat) = 99995 + 1 + 1 + 1 + 1 from rfl]
  rw [Tp_put_step v 24 24 _ w n (by decide) (by decide) hn (by omega)]
  rw [zfx_s, Tp_put_step v _ 16 _ _ _ (by decide) (by decide) q1 (by omega)]
  rw [zfx_s, Tp_put_step v _ 8 _ _ _ (by decide) (by decide) q2 (by omega)]
  rw [zfx_s, Tp_put_step v _ 0 _ _ _ (by decide) (by decide) q3 (by omega)]
  rw [zfx_s]
  unfold f_Tp_put_b3_s
  rw [if_pos (by decide)]
  simp only [zpX_app, zf_len, Nat.add_assoc]
theorem M_put (v : Int32) (w : gW) (n : Nat) (hn : w.1 107 5 = nI n) (hl : n + (zbs v).length ≤ 120) : f_M_put v w = some ((), zpM w n (zbs v)) := by
  rw [zbs_eq] at hl ⊢
  simp only [List.length_append, zf_len] at hl
  have q1 := zpM_len ([zby v 24].filter (fun c => c != 0)) w n hn
  have q2 := zpM_len ([zby v 16].filter (fun c => c != 0)) _ _ q1
  have q3 := zpM_len ([zby v 8].filter (fun c => c != 0)) _ _ q2
  simp only [zf_len] at q1 q2 q3
  unfold f_M_put f_M_put_b3
  rw [zfx_F, show (99999 : Nat) = 99995 + 1 + 1 + 1 + 1 from rfl]
  rw [M_put_step v 24 24 _ w n (by decide) (by decide) (by omega) hn (by omega)]
  rw [zfx_s, M_put_step v _ 16 _ _ _ (by decide) (by decide) (by omega) q1 (by omega)]
  rw [zfx_s, M_put_step v _ 8 _ _ _ (by decide) (by decide) (by omega) q2 (by omega)]
  rw [zfx_s, M_put_step v _ 0 _ _ _ (by decide) (by decide) (by omega) q3 (by omega)]
  rw [zfx_s]
  unfold f_M_put_b3_s
  rw [if_pos (by decide)]
  simp only [zpM_app, zf_len, Nat.add_assoc]
theorem Tp_signs_step (v x1 x2 : Int32) (s : Nat) (k5 : Int32 → Int32 → Int32 → gW → Option (Int32 × gW)) (w : gW) (h0 : ¬ x2 < 0) (hs : ((x2.toUInt32 &&& Int32.toUInt32 31).toBitVec % 32).toNat = s) : f_Tp_signsIn_b5_s k5 v x1 x2 w = k5 v (x1 + nI (if zby v s = 0 then 0 else 1)) (x2 + (-8 : Int32)) w := by
  unfold f_Tp_signsIn_b5_s f_Tp_signsIn_b25
  rw [if_neg h0, zby_u v x2 s hs]
  have hb := zby_lt v s
  simp only [zl_s]
  by_cases hz : zby v s = 0
  · rw [if_pos (by rw [hz]; rfl), if_pos hz]; rfl
  · rw [if_neg (nI_ne0 (by omega) (by omega)), if_neg hz]; rfl
theorem M_bytes_step (v x1 x2 : Int32) (s : Nat) (k5 : Int32 → Int32 → Int32 → gW → Option (Int32 × gW)) (w : gW) (h0 : ¬ x2 < 0) (hs : ((x2 &&& 31).toBitVec.smod 32).toNat = s) (hk : s = 0 ∨ s = 8 ∨ s = 16 ∨ s = 24) : f_M_bytesIn_b5_s k5 v x1 x2 w = k5 v (x1 + nI (if zby v s = 0 then 0 else 1)) (x2 + (-8 : Int32)) w := by
  unfold f_M_bytesIn_b5_s f_M_bytesIn_b25
  rw [if_neg h0, zby_s v x2 s hs hk]
  have hb := zby_lt v s
  simp only [zl_s]
  by_cases hz : zby v s = 0
  · rw [if_pos (by rw [hz]; rfl), if_pos hz]; rfl
  · rw [if_neg (nI_ne0 (by omega) (by omega)), if_neg hz]; rfl
theorem zbs_len (v : Int32) : (zbs v).length = (if zby v 24 = 0 then 0 else 1) + (if zby v 16 = 0 then 0 else 1) + (if zby v 8 = 0 then 0 else 1) + (if zby v 0 = 0 then 0 else 1) := by
  rw [zbs_eq]
  simp only [List.length_append, zf_len]
  omega
theorem zbs_le (v : Int32) : (zbs v).length ≤ 4 := by
  rw [zbs_len]
  repeat' split
  all_goals omega
theorem Tp_signs (v : Int32) (w : gW) : f_Tp_signsIn v w = some (nI (zbs v).length, w) := by
  unfold f_Tp_signsIn f_Tp_signsIn_b5
  rw [zfx_F, show (99999 : Nat) = 99995 + 1 + 1 + 1 + 1 from rfl]
  rw [Tp_signs_step v _ 24 24 _ w (by decide) (by decide), zfx_s, Tp_signs_step v _ _ 16 _ w (by decide) (by decide), zfx_s, Tp_signs_step v _ _ 8 _ w (by decide) (by decide), zfx_s, Tp_signs_step v _ _ 0 _ w (by decide) (by decide), zfx_s]
  unfold f_Tp_signsIn_b5_s
  rw [if_pos (by decide), show (0 : Int32) = nI 0 from rfl, nI_add, nI_add, nI_add, nI_add, zbs_len]
  congr 3; omega
theorem M_bytes (v : Int32) (w : gW) : f_M_bytesIn v w = some (nI (zbs v).length, w) := by
  unfold f_M_bytesIn f_M_bytesIn_b5
  rw [zfx_F, show (99999 : Nat) = 99995 + 1 + 1 + 1 + 1 from rfl]
  rw [M_bytes_step v _ 24 24 _ w (by decide) (by decide) (by omega), zfx_s, M_bytes_step v _ _ 16 _ w (by decide) (by decide) (by omega), zfx_s, M_bytes_step v _ _ 8 _ w (by decide) (by decide) (by omega), zfx_s, M_bytes_step v _ _ 0 _ w (by decide) (by decide) (by omega), zfx_s]
  unfold f_M_bytesIn_b5_s
  rw [if_pos (by decide), show (0 : Int32) = nI 0 from rfl, nI_add, nI_add, nI_add, nI_add, zbs_len]
  congr 3; omega
