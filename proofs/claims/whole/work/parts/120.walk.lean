def f_M_fall_b92 (k30 : Int32 → Int32 → gW → Option (Int32 × gW)) (k40 : Int32 → Int32 → Int32 → gW → Option (Int32 × gW)) (x1 : Int32) (x2 : Int32) (x3 : Int32) (w : gW) : Option (Int32 × gW) :=
zl (x3 + (1 : Int32)) (fun v1 =>
k40 x1 x2 v1 w)
def f_M_fall_b40_s (k30 : Int32 → Int32 → gW → Option (Int32 × gW)) (k40 : Int32 → Int32 → Int32 → gW → Option (Int32 × gW)) (x1 : Int32) (x2 : Int32) (x3 : Int32) (w : gW) : Option (Int32 × gW) :=
zb (f_M_all w) (fun v1 w2 =>
if v1 < x3 then
(zl (x2 + (1 : Int32)) (fun v4 =>
k30 x1 v4 w2))
else
(zb (f_Int_bitCount x3 w2) (fun v6 w7 =>
if v6 = x2 then
(zb (f_M_all w7) (fun v9 w10 =>
zb (f_M_all w10) (fun v11 w12 =>
zb (f_M_canHold (v9 &&& (x3 ^^^ (-1 : Int32))) (v11 &&& (x3 ^^^ (-1 : Int32))) w12) (fun v13 w14 =>
if v13 = 0 then
(f_M_fall_b92 k30 k40 x1 x2 x3 w14)
else
(if x1 = 0 then
(some (x2, w14))
else
(some (x3, w14)))))))
else
(f_M_fall_b92 k30 k40 x1 x2 x3 w7))))
def f_M_fall_b40 (k30 : Int32 → Int32 → gW → Option (Int32 × gW)) : Int32 → Int32 → Int32 → gW → Option (Int32 × gW) := zfx (fun _ _ _ _ => none) (f_M_fall_b40_s k30) zFU
def f_M_fall_b30_s (k30 : Int32 → Int32 → gW → Option (Int32 × gW)) (x1 : Int32) (x2 : Int32) (w : gW) : Option (Int32 × gW) :=
if (w.1 107 35) < x2 then
(some ((-1 : Int32), w))
else
(f_M_fall_b40 k30 x1 x2 (0 : Int32) w)
def f_M_fall_b30 : Int32 → Int32 → gW → Option (Int32 × gW) := zfx (fun _ _ _ => none) (f_M_fall_b30_s) zFU
def f_M_fall (a1 : Int32) (w : gW) : Option (Int32 × gW) :=
zl (zsI w 107 0 (0 : Int32)) (fun w1 =>
if (w1.1 107 21) = 0 then
(some ((-1 : Int32), w1))
else
(zb (f_M_isIn (a1.toInt64) (0 : Int64) (1 : Int64) w1) (fun v4 w5 =>
if v4 = 0 then
(some ((-1 : Int32), w5))
else
(zb (f_M_layPlain w5) (fun _ w7 =>
f_M_fall_b30 a1 (0 : Int32) w7)))))
theorem g_M_fall_b92 {l : Launch} {Q : Option Value → gW → Prop} (k30 : Int32 → Int32 → gW → Option (Int32 × gW)) (hk30 : ∀ (x1 : Int32) (x2 : Int32) (w : gW), zok eI (k30 x1 x2 w) Q → Gz l m_M_fall 57 30 [(0, .ref 107), (1, .int x1), (2, .int x2)] [] w Q) (k40 : Int32 → Int32 → Int32 → gW → Option (Int32 × gW)) (hk40 : ∀ (x1 : Int32) (x2 : Int32) (x3 : Int32) (w : gW), zok eI (k40 x1 x2 x3 w) Q → Gz l m_M_fall 57 40 [(0, .ref 107), (1, .int x1), (2, .int x2), (3, .int x3)] [] w Q) (x1 : Int32) (x2 : Int32) (x3 : Int32) (w : gW) (h : zok eI (f_M_fall_b92 k30 k40 x1 x2 x3 w) Q) : Gz l m_M_fall 57 92 [(0, .ref 107), (1, .int x1), (2, .int x2), (3, .int x3)] [] w Q := by
  unfold f_M_fall_b92 at h
  obtain ⟨v1, e2⟩ : ∃ y : Int32, y = x3 + (1 : Int32) := ⟨_, rfl⟩
  have h := zok_l e2 h
  refine Gz.iinc (i := 3) (n := 1) (pc' := 95) (L' := [(3, .int v1), (0, .ref 107), (1, .int x1), (2, .int x2)]) v1 (by decide +kernel) rfl 3 rfl (by rw [e2]; rfl) (Nat.le_of_ble_eq_true rfl) rfl ?_
  refine Gz.goto (off := -55) (tgt := 40) (by decide +kernel) (by decide) ?_
  refine Gz.sub (L' := [(0, .ref 107), (1, .int x1), (2, .int x2), (3, .int v1)]) [1, 2, 3, 0] rfl ?_
  exact hk40 x1 x2 v1 w h
theorem g_M_fall_b40_s {l : Launch} {Q : Option Value → gW → Prop} (k30 : Int32 → Int32 → gW → Option (Int32 × gW)) (hk30 : ∀ (x1 : Int32) (x2 : Int32) (w : gW), zok eI (k30 x1 x2 w) Q → Gz l m_M_fall 57 30 [(0, .ref 107), (1, .int x1), (2, .int x2)] [] w Q) (k40 : Int32 → Int32 → Int32 → gW → Option (Int32 × gW)) (hk40 : ∀ (x1 : Int32) (x2 : Int32) (x3 : Int32) (w : gW), zok eI (k40 x1 x2 x3 w) Q → Gz l m_M_fall 57 40 [(0, .ref 107), (1, .int x1), (2, .int x2), (3, .int x3)] [] w Q) (x1 : Int32) (x2 : Int32) (x3 : Int32) (w : gW) (h : zok eI (f_M_fall_b40_s k30 k40 x1 x2 x3 w) Q) : Gz l m_M_fall 57 40 [(0, .ref 107), (1, .int x1), (2, .int x2), (3, .int x3)] [] w Q := by
  unfold f_M_fall_b40_s at h
  refine Gz.iload_n (q := 3) (pc' := 41) (by decide +kernel) rfl 3 rfl ?_
  refine Gz.aload_n (q := 0) (pc' := 42) (by decide +kernel) rfl 0 rfl ?_
  refine Gz.callVI (st := [.int x3]) (b := 107) (pc' := 45) [] (g_M_all w) h ok_m_M_all lk_M_261 sh_107 rfl rfl rfl (Nat.le_of_ble_eq_true rfl) (Nat.le_of_ble_eq_true rfl) (Nat.le_of_ble_eq_true rfl) (by decide +kernel) rfl (fun v1 w2 h => ?_)
  refine Gz.icmp_gt (off := 53) (tgt := 98) (pc' := 48) (by decide +kernel) (by decide) rfl (fun c3 => ?_) (fun c3 => ?_)
  · have h := zok_t c3 h
    obtain ⟨v4, e5⟩ : ∃ y : Int32, y = x2 + (1 : Int32) := ⟨_, rfl⟩
    have h := zok_l e5 h
    refine Gz.iinc (i := 2) (n := 1) (pc' := 101) (L' := [(2, .int v4), (0, .ref 107), (1, .int x1), (3, .int x3)]) v4 (by decide +kernel) rfl 2 rfl (by rw [e5]; rfl) (Nat.le_of_ble_eq_true rfl) rfl ?_
    refine Gz.goto (off := -71) (tgt := 30) (by decide +kernel) (by decide) ?_
    refine Gz.sub (L' := [(0, .ref 107), (1, .int x1), (2, .int v4)]) [1, 2, 0] rfl ?_
    exact hk30 x1 v4 w2 h
  · have h := zok_f c3 h
    refine Gz.iload_n (q := 3) (pc' := 49) (by decide +kernel) rfl 3 rfl ?_
    refine Gz.callSI (st := []) (pc' := 52) [.int x3] (g_Int_bitCount x3 w2) h ok_m_Int_bitCount lk_M_297 rfl (Nat.le_of_ble_eq_true rfl) (Nat.le_of_ble_eq_true rfl) (Nat.le_of_ble_eq_true rfl) (by decide +kernel) rfl (fun v6 w7 h => ?_)
    refine Gz.iload_n (q := 2) (pc' := 53) (by decide +kernel) rfl 2 rfl ?_
    refine Gz.icmp_ne (off := 39) (tgt := 92) (pc' := 56) (by decide +kernel) (by decide) rfl (fun c8 => ?_) (fun c8 => ?_)
    · have h := zok_f c8 h
      exact g_M_fall_b92 k30 hk30 k40 hk40 x1 x2 x3 w7 h
    · have h := zok_t c8 h
      refine Gz.aload_n (q := 0) (pc' := 57) (by decide +kernel) rfl 0 rfl ?_
      refine Gz.aload_n (q := 0) (pc' := 58) (by decide +kernel) rfl 0 rfl ?_
      refine Gz.callVI (st := [.ref 107]) (b := 107) (pc' := 61) [] (g_M_all w7) h ok_m_M_all lk_M_261 sh_107 rfl rfl rfl (Nat.le_of_ble_eq_true rfl) (Nat.le_of_ble_eq_true rfl) (Nat.le_of_ble_eq_true rfl) (by decide +kernel) rfl (fun v9 w10 h => ?_)
      refine Gz.iload_n (q := 3) (pc' := 62) (by decide +kernel) rfl 3 rfl ?_
      refine Gz.iconst (n := -1) (v := (-1 : Int32)) (pc' := 63) (by decide +kernel) rfl rfl ?_
      refine Gz.ixor (pc' := 64) (by decide +kernel) rfl ?_
      refine Gz.iand (pc' := 65) (by decide +kernel) rfl ?_
      refine Gz.aload_n (q := 0) (pc' := 66) (by decide +kernel) rfl 0 rfl ?_
      refine Gz.callVI (st := [.int (v9 &&& (x3 ^^^ (-1 : Int32))), .ref 107]) (b := 107) (pc' := 69) [] (g_M_all w10) h ok_m_M_all lk_M_261 sh_107 rfl rfl rfl (Nat.le_of_ble_eq_true rfl) (Nat.le_of_ble_eq_true rfl) (Nat.le_of_ble_eq_true rfl) (by decide +kernel) rfl (fun v11 w12 h => ?_)
      refine Gz.iload_n (q := 3) (pc' := 70) (by decide +kernel) rfl 3 rfl ?_
      refine Gz.iconst (n := -1) (v := (-1 : Int32)) (pc' := 71) (by decide +kernel) rfl rfl ?_
      refine Gz.ixor (pc' := 72) (by decide +kernel) rfl ?_
      refine Gz.iand (pc' := 73) (by decide +kernel) rfl ?_
      refine Gz.callVI (st := []) (b := 107) (pc' := 76) [.int (v9 &&& (x3 ^^^ (-1 : Int32))), .int (v11 &&& (x3 ^^^ (-1 : Int32)))] (g_M_canHold (v9 &&& (x3 ^^^ (-1 : Int32))) (v11 &&& (x3 ^^^ (-1 : Int32))) w12) h ok_m_M_canHold lk_M_279 sh_107 rfl rfl rfl (Nat.le_of_ble_eq_true rfl) (Nat.le_of_ble_eq_true rfl) (Nat.le_of_ble_eq_true rfl) (by decide +kernel) rfl (fun v13 w14 h => ?_)
      refine Gz.if_ne (off := 6) (tgt := 82) (pc' := 79) (by decide +kernel) (by decide) rfl (fun c15 => ?_) (fun c15 => ?_)
      · have h := zok_f c15 h
        refine Gz.iload_n (q := 1) (pc' := 83) (by decide +kernel) rfl 1 rfl ?_
        refine Gz.if_ne (off := 7) (tgt := 90) (pc' := 86) (by decide +kernel) (by decide) rfl (fun c16 => ?_) (fun c16 => ?_)
        · have h := zok_f c16 h
          refine Gz.iload_n (q := 3) (pc' := 91) (by decide +kernel) rfl 3 rfl ?_
          exact Gz.ireturn (by decide +kernel) rfl (zok_sI h)
        · have h := zok_t c16 h
          refine Gz.iload_n (q := 2) (pc' := 87) (by decide +kernel) rfl 2 rfl ?_
          refine Gz.goto (off := 4) (tgt := 91) (by decide +kernel) (by decide) ?_
          exact Gz.ireturn (by decide +kernel) rfl (zok_sI h)
      · have h := zok_t c15 h
        refine Gz.goto (off := 13) (tgt := 92) (by decide +kernel) (by decide) ?_
        exact g_M_fall_b92 k30 hk30 k40 hk40 x1 x2 x3 w14 h
theorem g_M_fall_b40 {l : Launch} {Q : Option Value → gW → Prop} (k30 : Int32 → Int32 → gW → Option (Int32 × gW)) (hk30 : ∀ (x1 : Int32) (x2 : Int32) (w : gW), zok eI (k30 x1 x2 w) Q → Gz l m_M_fall 57 30 [(0, .ref 107), (1, .int x1), (2, .int x2)] [] w Q) (x1 : Int32) (x2 : Int32) (x3 : Int32) (w : gW) (h : zok eI (f_M_fall_b40 k30 x1 x2 x3 w) Q) : Gz l m_M_fall 57 40 [(0, .ref 107), (1, .int x1), (2, .int x2), (3, .int x3)] [] w Q := by
  have key : ∀ (n : Nat) (x1 : Int32) (x2 : Int32) (x3 : Int32) (w : gW), zok eI (zfx (fun _ _ _ _ => none) (f_M_fall_b40_s k30) n x1 x2 x3 w) Q → Gz l m_M_fall 57 40 [(0, .ref 107), (1, .int x1), (2, .int x2), (3, .int x3)] [] w Q := by
    intro n
    induction n with
    | zero => intro x1 x2 x3 w h; exact zok_n h
    | succ n ih => intro x1 x2 x3 w h; exact g_M_fall_b40_s k30 hk30 _ ih x1 x2 x3 w h
  exact key zFU x1 x2 x3 w h
theorem g_M_fall_b30_s {l : Launch} {Q : Option Value → gW → Prop} (k30 : Int32 → Int32 → gW → Option (Int32 × gW)) (hk30 : ∀ (x1 : Int32) (x2 : Int32) (w : gW), zok eI (k30 x1 x2 w) Q → Gz l m_M_fall 57 30 [(0, .ref 107), (1, .int x1), (2, .int x2)] [] w Q) (x1 : Int32) (x2 : Int32) (w : gW) (h : zok eI (f_M_fall_b30_s k30 x1 x2 w) Q) : Gz l m_M_fall 57 30 [(0, .ref 107), (1, .int x1), (2, .int x2)] [] w Q := by
  unfold f_M_fall_b30_s at h
  refine Gz.iload_n (q := 2) (pc' := 31) (by decide +kernel) rfl 2 rfl ?_
  refine Gz.aload_n (q := 0) (pc' := 32) (by decide +kernel) rfl 0 rfl ?_
  refine Gz.getI (pc' := 35) (j := 35) fd_M_211 sh_107 rfl (by decide +kernel) rfl ?_
  refine Gz.icmp_gt (off := 69) (tgt := 104) (pc' := 38) (by decide +kernel) (by decide) rfl (fun c1 => ?_) (fun c1 => ?_)
  · have h := zok_t c1 h
    refine Gz.iconst (n := -1) (v := (-1 : Int32)) (pc' := 105) (by decide +kernel) rfl rfl ?_
    exact Gz.ireturn (by decide +kernel) rfl (zok_sI h)
  · have h := zok_f c1 h
    refine Gz.iconst (n := 0) (v := (0 : Int32)) (pc' := 39) (by decide +kernel) rfl rfl ?_
    refine Gz.istore_n (q := 3) (pc' := 40) (L' := [(3, .int (0 : Int32)), (0, .ref 107), (1, .int x1), (2, .int x2)]) (by decide +kernel) rfl (Nat.le_of_ble_eq_true rfl) rfl ?_
    refine Gz.sub (L' := [(0, .ref 107), (1, .int x1), (2, .int x2), (3, .int (0 : Int32))]) [1, 2, 3, 0] rfl ?_
    exact g_M_fall_b40 k30 hk30 x1 x2 (0 : Int32) w h
theorem g_M_fall_b30 {l : Launch} {Q : Option Value → gW → Prop} (x1 : Int32) (x2 : Int32) (w : gW) (h : zok eI (f_M_fall_b30 x1 x2 w) Q) : Gz l m_M_fall 57 30 [(0, .ref 107), (1, .int x1), (2, .int x2)] [] w Q := by
  have key : ∀ (n : Nat) (x1 : Int32) (x2 : Int32) (w : gW), zok eI (zfx (fun _ _ _ => none) (f_M_fall_b30_s) n x1 x2 w) Q → Gz l m_M_fall 57 30 [(0, .ref 107), (1, .int x1), (2, .int x2)] [] w Q := by
    intro n
    induction n with
    | zero => intro x1 x2 w h; exact zok_n h
    | succ n ih => intro x1 x2 w h; exact g_M_fall_b30_s _ ih x1 x2 w h
  exact key zFU x1 x2 w h
theorem g_M_fall {l : Launch} (a1 : Int32) (w : gW) : gCt l m_M_fall 57 [.ref 107, .int a1] w eI (f_M_fall a1 w) := by
  intro Q h
  unfold f_M_fall at h
  show Gz l m_M_fall 57 0 [(0, .ref 107), (1, .int a1)] [] w Q
  refine Gz.aload_n (q := 0) (pc' := 1) (by decide +kernel) rfl 0 rfl ?_
  refine Gz.iconst (n := 0) (v := (0 : Int32)) (pc' := 2) (by decide +kernel) rfl rfl ?_
  refine Gz.putI (pc' := 5) (j := 0) fd_M_96 sh_107 rfl (by decide +kernel) rfl ?_
  refine Gz.nmW (fun w1 e2 => ?_)
  have h := zok_l e2 h
  refine Gz.aload_n (q := 0) (pc' := 6) (by decide +kernel) rfl 0 rfl ?_
  refine Gz.getI (pc' := 9) (j := 21) fd_M_141 sh_107 rfl (by decide +kernel) rfl ?_
  refine Gz.if_eq (off := 13) (tgt := 22) (pc' := 12) (by decide +kernel) (by decide) rfl (fun c3 => ?_) (fun c3 => ?_)
  · have h := zok_t c3 h
    refine Gz.iconst (n := -1) (v := (-1 : Int32)) (pc' := 23) (by decide +kernel) rfl rfl ?_
    exact Gz.ireturn (by decide +kernel) rfl (zok_sI h)
  · have h := zok_f c3 h
    refine Gz.iload_n (q := 1) (pc' := 13) (by decide +kernel) rfl 1 rfl ?_
    refine Gz.i2l (pc' := 14) (by decide +kernel) rfl ?_
    refine Gz.lconst (n := 0) (v := (0 : Int64)) (pc' := 15) (by decide +kernel) rfl rfl ?_
    refine Gz.lconst (n := 1) (v := (1 : Int64)) (pc' := 16) (by decide +kernel) rfl rfl ?_
    refine Gz.callSI (st := []) (pc' := 19) [.long (a1.toInt64), .long (0 : Int64), .long (1 : Int64)] (g_M_isIn (a1.toInt64) (0 : Int64) (1 : Int64) w1) h ok_m_M_isIn lk_M_137 rfl (Nat.le_of_ble_eq_true rfl) (Nat.le_of_ble_eq_true rfl) (Nat.le_of_ble_eq_true rfl) (by decide +kernel) rfl (fun v4 w5 h => ?_)
    refine Gz.if_ne (off := 5) (tgt := 24) (pc' := 22) (by decide +kernel) (by decide) rfl (fun c6 => ?_) (fun c6 => ?_)
    · have h := zok_f c6 h
      refine Gz.aload_n (q := 0) (pc' := 25) (by decide +kernel) rfl 0 rfl ?_
      refine Gz.callVV (st := []) (b := 107) (pc' := 28) [] (g_M_layPlain w5) h ok_m_M_layPlain lk_M_276 sh_107 rfl rfl rfl (Nat.le_of_ble_eq_true rfl) (Nat.le_of_ble_eq_true rfl) (Nat.le_of_ble_eq_true rfl) (by decide +kernel) rfl (fun _ w7 h => ?_)
      refine Gz.iconst (n := 0) (v := (0 : Int32)) (pc' := 29) (by decide +kernel) rfl rfl ?_
      refine Gz.istore_n (q := 2) (pc' := 30) (L' := [(2, .int (0 : Int32)), (0, .ref 107), (1, .int a1)]) (by decide +kernel) rfl (Nat.le_of_ble_eq_true rfl) rfl ?_
      refine Gz.sub (L' := [(0, .ref 107), (1, .int a1), (2, .int (0 : Int32))]) [1, 2, 0] rfl ?_
      exact g_M_fall_b30 a1 (0 : Int32) w7 h
    · have h := zok_t c6 h
      refine Gz.iconst (n := -1) (v := (-1 : Int32)) (pc' := 23) (by decide +kernel) rfl rfl ?_
      exact Gz.ireturn (by decide +kernel) rfl (zok_sI h)
def f_M_stake (a1 : Int32) (a2 : Int32) (w : gW) : Option (Int32 × gW) :=
zl (zsI w 107 0 (0 : Int32)) (fun w1 =>
zb (f_M_isOath a1 w1) (fun v3 w4 =>
if v3 = 0 then
(some ((0 : Int32), w4))
else
(zb (f_M_isIn (a2.toInt64) (0 : Int64) (99 : Int64) w4) (fun v6 w7 =>
if v6 = 0 then
(some ((0 : Int32), w7))
else
(if inb a1 8 then
zl (zsI w7 131 (ix a1) a2) (fun w10 =>
some ((1 : Int32), w10))
else none)))))
theorem g_M_stake {l : Launch} (a1 : Int32) (a2 : Int32) (w : gW) : gCt l m_M_stake 2 [.ref 107, .int a1, .int a2] w eI (f_M_stake a1 a2 w) := by
  intro Q h
  unfold f_M_stake at h
  show Gz l m_M_stake 2 0 [(0, .ref 107), (1, .int a1), (2, .int a2)] [] w Q
  refine Gz.aload_n (q := 0) (pc' := 1) (by decide +kernel) rfl 0 rfl ?_
  refine Gz.iconst (n := 0) (v := (0 : Int32)) (pc' := 2) (by decide +kernel) rfl rfl ?_
  refine Gz.putI (pc' := 5) (j := 0) fd_M_96 sh_107 rfl (by decide +kernel) rfl ?_
  refine Gz.nmW (fun w1 e2 => ?_)
  have h := zok_l e2 h
  refine Gz.aload_n (q := 0) (pc' := 6) (by decide +kernel) rfl 0 rfl ?_
  refine Gz.iload_n (q := 1) (pc' := 7) (by decide +kernel) rfl 1 rfl ?_
  refine Gz.callVI (st := []) (b := 107) (pc' := 10) [.int a1] (g_M_isOath a1 w1) h ok_m_M_isOath lk_M_241 sh_107 rfl rfl rfl (Nat.le_of_ble_eq_true rfl) (Nat.le_of_ble_eq_true rfl) (Nat.le_of_ble_eq_true rfl) (by decide +kernel) rfl (fun v3 w4 h => ?_)
  refine Gz.if_eq (off := 15) (tgt := 25) (pc' := 13) (by decide +kernel) (by decide) rfl (fun c5 => ?_) (fun c5 => ?_)
  · have h := zok_t c5 h
    refine Gz.iconst (n := 0) (v := (0 : Int32)) (pc' := 26) (by decide +kernel) rfl rfl ?_
    exact Gz.zreturn (by decide +kernel) rfl (by decide) (zok_sI h)
  · have h := zok_f c5 h
    refine Gz.iload_n (q := 2) (pc' := 14) (by decide +kernel) rfl 2 rfl ?_
    refine Gz.i2l (pc' := 15) (by decide +kernel) rfl ?_
    refine Gz.lconst (n := 0) (v := (0 : Int64)) (pc' := 16) (by decide +kernel) rfl rfl ?_
    refine Gz.ldc2 (idx := 247) (v := (99 : Int64)) (pc' := 19) (by decide +kernel) rfl kc_M_247 ?_
    refine Gz.callSI (st := []) (pc' := 22) [.long (a2.toInt64), .long (0 : Int64), .long (99 : Int64)] (g_M_isIn (a2.toInt64) (0 : Int64) (99 : Int64) w4) h ok_m_M_isIn lk_M_137 rfl (Nat.le_of_ble_eq_true rfl) (Nat.le_of_ble_eq_true rfl) (Nat.le_of_ble_eq_true rfl) (by decide +kernel) rfl (fun v6 w7 h => ?_)
    refine Gz.if_ne (off := 5) (tgt := 27) (pc' := 25) (by decide +kernel) (by decide) rfl (fun c8 => ?_) (fun c8 => ?_)
    · have h := zok_f c8 h
      refine Gz.aload_n (q := 0) (pc' := 28) (by decide +kernel) rfl 0 rfl ?_
      refine Gz.getR (pc' := 31) (j := 51) 131 fd_M_84 sh_107 rfl (by decide +kernel) rfl ?_
      refine Gz.iload_n (q := 1) (pc' := 32) (by decide +kernel) rfl 1 rfl ?_
      refine Gz.iload_n (q := 2) (pc' := 33) (by decide +kernel) rfl 2 rfl ?_
      obtain ⟨c9, h⟩ := zok_c h
      refine Gz.iast (pc' := 34) (n := 8) (by decide +kernel) rfl rfl c9 ?_
      refine Gz.nmW (fun w10 e11 => ?_)
      have h := zok_l e11 h
      refine Gz.iconst (n := 1) (v := (1 : Int32)) (pc' := 35) (by decide +kernel) rfl rfl ?_
      exact Gz.zreturn (by decide +kernel) rfl (by decide) (zok_sI h)
    · have h := zok_t c8 h
      refine Gz.iconst (n := 0) (v := (0 : Int32)) (pc' := 26) (by decide +kernel) rfl rfl ?_
      exact Gz.zreturn (by decide +kernel) rfl (by decide) (zok_sI h)
def f_M_isDuel (a1 : Int32) (a2 : Int32) (w : gW) : Option (Int32 × gW) :=
zb (f_M_isSeenDay a1 w) (fun v1 w2 =>
if v1 = 0 then
(some ((0 : Int32), w2))
else
(zb (f_M_isIn (a2.toInt64) (0 : Int64) (99 : Int64) w2) (fun v4 w5 =>
if v4 = 0 then
(some ((0 : Int32), w5))
else
(some ((1 : Int32), w5)))))
theorem g_M_isDuel {l : Launch} (a1 : Int32) (a2 : Int32) (w : gW) : gCt l m_M_isDuel 3 [.ref 107, .int a1, .int a2] w eI (f_M_isDuel a1 a2 w) := by
  intro Q h
  unfold f_M_isDuel at h
  show Gz l m_M_isDuel 3 0 [(0, .ref 107), (1, .int a1), (2, .int a2)] [] w Q
  refine Gz.aload_n (q := 0) (pc' := 1) (by decide +kernel) rfl 0 rfl ?_
  refine Gz.iload_n (q := 1) (pc' := 2) (by decide +kernel) rfl 1 rfl ?_
  refine Gz.callVI (st := []) (b := 107) (pc' := 5) [.int a1] (g_M_isSeenDay a1 w) h ok_m_M_isSeenDay lk_M_244 sh_107 rfl rfl rfl (Nat.le_of_ble_eq_true rfl) (Nat.le_of_ble_eq_true rfl) (Nat.le_of_ble_eq_true rfl) (by decide +kernel) rfl (fun v1 w2 h => ?_)
  refine Gz.if_eq (off := 19) (tgt := 24) (pc' := 8) (by decide +kernel) (by decide) rfl (fun c3 => ?_) (fun c3 => ?_)
  · have h := zok_t c3 h
    refine Gz.iconst (n := 0) (v := (0 : Int32)) (pc' := 25) (by decide +kernel) rfl rfl ?_
    exact Gz.zreturn (by decide +kernel) rfl (by decide) (zok_sI h)
  · have h := zok_f c3 h
    refine Gz.iload_n (q := 2) (pc' := 9) (by decide +kernel) rfl 2 rfl ?_
    refine Gz.i2l (pc' := 10) (by decide +kernel) rfl ?_
    refine Gz.lconst (n := 0) (v := (0 : Int64)) (pc' := 11) (by decide +kernel) rfl rfl ?_
    refine Gz.ldc2 (idx := 247) (v := (99 : Int64)) (pc' := 14) (by decide +kernel) rfl kc_M_247 ?_
    refine Gz.callSI (st := []) (pc' := 17) [.long (a2.toInt64), .long (0 : Int64), .long (99 : Int64)] (g_M_isIn (a2.toInt64) (0 : Int64) (99 : Int64) w2) h ok_m_M_isIn lk_M_137 rfl (Nat.le_of_ble_eq_true rfl) (Nat.le_of_ble_eq_true rfl) (Nat.le_of_ble_eq_true rfl) (by decide +kernel) rfl (fun v4 w5 h => ?_)
    refine Gz.if_eq (off := 7) (tgt := 24) (pc' := 20) (by decide +kernel) (by decide) rfl (fun c6 => ?_) (fun c6 => ?_)
    · have h := zok_t c6 h
      refine Gz.iconst (n := 0) (v := (0 : Int32)) (pc' := 25) (by decide +kernel) rfl rfl ?_
      exact Gz.zreturn (by decide +kernel) rfl (by decide) (zok_sI h)
    · have h := zok_f c6 h
      refine Gz.iconst (n := 1) (v := (1 : Int32)) (pc' := 21) (by decide +kernel) rfl rfl ?_
      refine Gz.goto (off := 4) (tgt := 25) (by decide +kernel) (by decide) ?_
      exact Gz.zreturn (by decide +kernel) rfl (by decide) (zok_sI h)
def f_M_isChoice_b14 (w : gW) : Option (Int32 × gW) :=
some ((1 : Int32), w)
def f_M_isChoice (a1 : Int32) (w : gW) : Option (Int32 × gW) :=
zb (f_M_isOath a1 w) (fun v1 w2 =>
if v1 = 0 then
(if a1 = (9 : Int32) then
(f_M_isChoice_b14 w2)
else
(some ((0 : Int32), w2)))
else
(f_M_isChoice_b14 w2))
theorem g_M_isChoice_b14 {l : Launch} {Q : Option Value → gW → Prop} (w : gW) (h : zok eI (f_M_isChoice_b14 w) Q) : Gz l m_M_isChoice 2 14 [] [] w Q := by
  unfold f_M_isChoice_b14 at h
  refine Gz.iconst (n := 1) (v := (1 : Int32)) (pc' := 15) (by decide +kernel) rfl rfl ?_
  refine Gz.goto (off := 4) (tgt := 19) (by decide +kernel) (by decide) ?_
  exact Gz.zreturn (by decide +kernel) rfl (by decide) (zok_sI h)
theorem g_M_isChoice {l : Launch} (a1 : Int32) (w : gW) : gCt l m_M_isChoice 2 [.ref 107, .int a1] w eI (f_M_isChoice a1 w) := by
  intro Q h
  unfold f_M_isChoice at h
  show Gz l m_M_isChoice 2 0 [(0, .ref 107), (1, .int a1)] [] w Q
  refine Gz.aload_n (q := 0) (pc' := 1) (by decide +kernel) rfl 0 rfl ?_
  refine Gz.iload_n (q := 1) (pc' := 2) (by decide +kernel) rfl 1 rfl ?_
  refine Gz.callVI (st := []) (b := 107) (pc' := 5) [.int a1] (g_M_isOath a1 w) h ok_m_M_isOath lk_M_241 sh_107 rfl rfl rfl (Nat.le_of_ble_eq_true rfl) (Nat.le_of_ble_eq_true rfl) (Nat.le_of_ble_eq_true rfl) (by decide +kernel) rfl (fun v1 w2 h => ?_)
  refine Gz.if_ne (off := 9) (tgt := 14) (pc' := 8) (by decide +kernel) (by decide) rfl (fun c3 => ?_) (fun c3 => ?_)
  · have h := zok_f c3 h
    refine Gz.sub (L' := []) [] rfl ?_
    exact g_M_isChoice_b14 w2 h
  · have h := zok_t c3 h
    refine Gz.iload_n (q := 1) (pc' := 9) (by decide +kernel) rfl 1 rfl ?_
    refine Gz.bipush (n := 9) (v := (9 : Int32)) (pc' := 11) (by decide +kernel) rfl rfl ?_
    refine Gz.icmp_ne (off := 7) (tgt := 18) (pc' := 14) (by decide +kernel) (by decide) rfl (fun c4 => ?_) (fun c4 => ?_)
    · have h := zok_f c4 h
      refine Gz.iconst (n := 0) (v := (0 : Int32)) (pc' := 19) (by decide +kernel) rfl rfl ?_
      exact Gz.zreturn (by decide +kernel) rfl (by decide) (zok_sI h)
    · have h := zok_t c4 h
      refine Gz.sub (L' := []) [] rfl ?_
      exact g_M_isChoice_b14 w2 h
def f_M_hasBy_b30_s (k30 : Int32 → Int32 → Int32 → Int32 → gW → Option (Int32 × gW)) (x1 : Int32) (x3 : Int32) (x4 : Int32) (x5 : Int32) (w : gW) : Option (Int32 × gW) :=
if (w.1 107 44) ≤ x5 then
(some (-x3, w))
else
(if inb x5 16807 then
if (x4 &&& ((w.1 128 (ix x5)) ^^^ (-1 : Int32))) = 0 then
(if inb x1 8 then
some (w.1 131 (ix x1), w)
else none)
else
(zl (x5 + (1 : Int32)) (fun v4 =>
k30 x1 x3 x4 v4 w))
else none)
def f_M_hasBy_b30 : Int32 → Int32 → Int32 → Int32 → gW → Option (Int32 × gW) := zfx (fun _ _ _ _ _ => none) (f_M_hasBy_b30_s) zFU
def f_M_hasBy_b24 (x1 : Int32) (x3 : Int32) (s0 : Int32) (s1 : Int32) (w : gW) : Option (Int32 × gW) :=
zl (s0 ||| s1) (fun v1 =>
f_M_hasBy_b30 x1 x3 v1 (0 : Int32) w)
def f_M_hasBy (a1 : Int32) (a2 : Int32) (a3 : Int32) (w : gW) : Option (Int32 × gW) :=
if a1 = (9 : Int32) then
(some ((0 : Int32), w))
else
(if a2 = (9 : Int32) then
(f_M_hasBy_b24 a1 a3 ((1 : Int32) <<< (a1 &&& 31)) (0 : Int32) w)
else
(f_M_hasBy_b24 a1 a3 ((1 : Int32) <<< (a1 &&& 31)) ((1 : Int32) <<< (a2 &&& 31)) w))
theorem g_M_hasBy_b30_s {l : Launch} {Q : Option Value → gW → Prop} (k30 : Int32 → Int32 → Int32 → Int32 → gW → Option (Int32 × gW)) (hk30 : ∀ (x1 : Int32) (x3 : Int32) (x4 : Int32) (x5 : Int32) (w : gW), zok eI (k30 x1 x3 x4 x5 w) Q → Gz l m_M_hasBy 1 30 [(0, .ref 107), (1, .int x1), (3, .int x3), (4, .int x4), (5, .int x5)] [] w Q) (x1 : Int32) (x3 : Int32) (x4 : Int32) (x5 : Int32) (w : gW) (h : zok eI (f_M_hasBy_b30_s k30 x1 x3 x4 x5 w) Q) : Gz l m_M_hasBy 1 30 [(0, .ref 107), (1, .int x1), (3, .int x3), (4, .int x4), (5, .int x5)] [] w Q := by
  unfold f_M_hasBy_b30_s at h
  refine Gz.iload (i := 5) (pc' := 32) (by decide +kernel) rfl 4 rfl ?_
  refine Gz.aload_n (q := 0) (pc' := 33) (by decide +kernel) rfl 0 rfl ?_
  refine Gz.getI (pc' := 36) (j := 44) fd_M_288 sh_107 rfl (by decide +kernel) rfl ?_
  refine Gz.icmp_ge (off := 31) (tgt := 67) (pc' := 39) (by decide +kernel) (by decide) rfl (fun c1 => ?_) (fun c1 => ?_)
  · have h := zok_t c1 h
    refine Gz.iload_n (q := 3) (pc' := 68) (by decide +kernel) rfl 2 rfl ?_
    refine Gz.ineg (pc' := 69) (by decide +kernel) rfl ?_
    exact Gz.ireturn (by decide +kernel) rfl (zok_sI h)
  · have h := zok_f c1 h
    refine Gz.iload (i := 4) (pc' := 41) (by decide +kernel) rfl 3 rfl ?_
    refine Gz.aload_n (q := 0) (pc' := 42) (by decide +kernel) rfl 0 rfl ?_
    refine Gz.getR (pc' := 45) (j := 45) 128 fd_M_75 sh_107 rfl (by decide +kernel) rfl ?_
    refine Gz.iload (i := 5) (pc' := 47) (by decide +kernel) rfl 4 rfl ?_
    obtain ⟨c2, h⟩ := zok_c h
    refine Gz.iald (pc' := 48) (n := 16807) (by decide +kernel) rfl rfl c2 ?_
    refine Gz.iconst (n := -1) (v := (-1 : Int32)) (pc' := 49) (by decide +kernel) rfl rfl ?_
    refine Gz.ixor (pc' := 50) (by decide +kernel) rfl ?_
    refine Gz.iand (pc' := 51) (by decide +kernel) rfl ?_
    refine Gz.if_ne (off := 10) (tgt := 61) (pc' := 54) (by decide +kernel) (by decide) rfl (fun c3 => ?_) (fun c3 => ?_)
    · have h := zok_f c3 h
      obtain ⟨v4, e5⟩ : ∃ y : Int32, y = x5 + (1 : Int32) := ⟨_, rfl⟩
      have h := zok_l e5 h
      refine Gz.iinc (i := 5) (n := 1) (pc' := 64) (L' := [(5, .int v4), (0, .ref 107), (1, .int x1), (3, .int x3), (4, .int x4)]) v4 (by decide +kernel) rfl 4 rfl (by rw [e5]; rfl) (Nat.le_of_ble_eq_true rfl) rfl ?_
      refine Gz.goto (off := -34) (tgt := 30) (by decide +kernel) (by decide) ?_
      refine Gz.sub (L' := [(0, .ref 107), (1, .int x1), (3, .int x3), (4, .int x4), (5, .int v4)]) [1, 2, 3, 4, 0] rfl ?_
      exact hk30 x1 x3 x4 v4 w h
    · have h := zok_t c3 h
      refine Gz.aload_n (q := 0) (pc' := 55) (by decide +kernel) rfl 0 rfl ?_
      refine Gz.getR (pc' := 58) (j := 51) 131 fd_M_84 sh_107 rfl (by decide +kernel) rfl ?_
      refine Gz.iload_n (q := 1) (pc' := 59) (by decide +kernel) rfl 1 rfl ?_
      obtain ⟨c6, h⟩ := zok_c h
      refine Gz.iald (pc' := 60) (n := 8) (by decide +kernel) rfl rfl c6 ?_
      exact Gz.ireturn (by decide +kernel) rfl (zok_sI h)
theorem g_M_hasBy_b30 {l : Launch} {Q : Option Value → gW → Prop} (x1 : Int32) (x3 : Int32) (x4 : Int32) (x5 : Int32) (w : gW) (h : zok eI (f_M_hasBy_b30 x1 x3 x4 x5 w) Q) : Gz l m_M_hasBy 1 30 [(0, .ref 107), (1, .int x1), (3, .int x3), (4, .int x4), (5, .int x5)] [] w Q := by
  have key : ∀ (n : Nat) (x1 : Int32) (x3 : Int32) (x4 : Int32) (x5 : Int32) (w : gW), zok eI (zfx (fun _ _ _ _ _ => none) (f_M_hasBy_b30_s) n x1 x3 x4 x5 w) Q → Gz l m_M_hasBy 1 30 [(0, .ref 107), (1, .int x1), (3, .int x3), (4, .int x4), (5, .int x5)] [] w Q := by
    intro n
    induction n with
    | zero => intro x1 x3 x4 x5 w h; exact zok_n h
    | succ n ih => intro x1 x3 x4 x5 w h; exact g_M_hasBy_b30_s _ ih x1 x3 x4 x5 w h
  exact key zFU x1 x3 x4 x5 w h
theorem g_M_hasBy_b24 {l : Launch} {Q : Option Value → gW → Prop} (x1 : Int32) (x3 : Int32) (s0 : Int32) (s1 : Int32) (w : gW) (h : zok eI (f_M_hasBy_b24 x1 x3 s0 s1 w) Q) : Gz l m_M_hasBy 1 24 [(0, .ref 107), (1, .int x1), (3, .int x3)] [.int s1, .int s0] w Q := by
  unfold f_M_hasBy_b24 at h
  refine Gz.ior (pc' := 25) (by decide +kernel) rfl ?_
  refine Gz.nmI (fun v1 e2 => ?_)
  have h := zok_l e2 h
  refine Gz.istore (i := 4) (pc' := 27) (L' := [(4, .int v1), (0, .ref 107), (1, .int x1), (3, .int x3)]) (by decide +kernel) rfl (Nat.le_of_ble_eq_true rfl) rfl ?_
  refine Gz.iconst (n := 0) (v := (0 : Int32)) (pc' := 28) (by decide +kernel) rfl rfl ?_
  refine Gz.istore (i := 5) (pc' := 30) (L' := [(5, .int (0 : Int32)), (4, .int v1), (0, .ref 107), (1, .int x1), (3, .int x3)]) (by decide +kernel) rfl (Nat.le_of_ble_eq_true rfl) rfl ?_
  refine Gz.sub (L' := [(0, .ref 107), (1, .int x1), (3, .int x3), (4, .int v1), (5, .int (0 : Int32))]) [2, 3, 4, 1, 0] rfl ?_
  exact g_M_hasBy_b30 x1 x3 v1 (0 : Int32) w h
theorem g_M_hasBy {l : Launch} (a1 : Int32) (a2 : Int32) (a3 : Int32) (w : gW) : gCt l m_M_hasBy 1 [.ref 107, .int a1, .int a2, .int a3] w eI (f_M_hasBy a1 a2 a3 w) := by
  intro Q h
  unfold f_M_hasBy at h
  show Gz l m_M_hasBy 1 0 [(0, .ref 107), (1, .int a1), (2, .int a2), (3, .int a3)] [] w Q
  refine Gz.iload_n (q := 1) (pc' := 1) (by decide +kernel) rfl 1 rfl ?_
  refine Gz.bipush (n := 9) (v := (9 : Int32)) (pc' := 3) (by decide +kernel) rfl rfl ?_
  refine Gz.icmp_ne (off := 5) (tgt := 8) (pc' := 6) (by decide +kernel) (by decide) rfl (fun c1 => ?_) (fun c1 => ?_)
  · have h := zok_f c1 h
    refine Gz.iconst (n := 1) (v := (1 : Int32)) (pc' := 9) (by decide +kernel) rfl rfl ?_
    refine Gz.iload_n (q := 1) (pc' := 10) (by decide +kernel) rfl 1 rfl ?_
    refine Gz.ishl (pc' := 11) (by decide +kernel) rfl ?_
    refine Gz.iload_n (q := 2) (pc' := 12) (by decide +kernel) rfl 2 rfl ?_
    refine Gz.bipush (n := 9) (v := (9 : Int32)) (pc' := 14) (by decide +kernel) rfl rfl ?_
    refine Gz.icmp_ne (off := 7) (tgt := 21) (pc' := 17) (by decide +kernel) (by decide) rfl (fun c2 => ?_) (fun c2 => ?_)
    · have h := zok_f c2 h
      refine Gz.iconst (n := 1) (v := (1 : Int32)) (pc' := 22) (by decide +kernel) rfl rfl ?_
      refine Gz.iload_n (q := 2) (pc' := 23) (by decide +kernel) rfl 2 rfl ?_
      refine Gz.ishl (pc' := 24) (by decide +kernel) rfl ?_
      refine Gz.sub (L' := [(0, .ref 107), (1, .int a1), (3, .int a3)]) [0, 1, 3] rfl ?_
      exact g_M_hasBy_b24 a1 a3 ((1 : Int32) <<< (a1 &&& 31)) ((1 : Int32) <<< (a2 &&& 31)) w h
    · have h := zok_t c2 h
      refine Gz.iconst (n := 0) (v := (0 : Int32)) (pc' := 18) (by decide +kernel) rfl rfl ?_
      refine Gz.goto (off := 6) (tgt := 24) (by decide +kernel) (by decide) ?_
      refine Gz.sub (L' := [(0, .ref 107), (1, .int a1), (3, .int a3)]) [0, 1, 3] rfl ?_
      exact g_M_hasBy_b24 a1 a3 ((1 : Int32) <<< (a1 &&& 31)) (0 : Int32) w h
  · have h := zok_t c1 h
    refine Gz.iconst (n := 0) (v := (0 : Int32)) (pc' := 7) (by decide +kernel) rfl rfl ?_
    exact Gz.ireturn (by decide +kernel) rfl (zok_sI h)
def f_M_isRest_b57 (k3 : Int32 → Int32 → Int32 → Int32 → gW → Option (Int32 × gW)) (x1 : Int32) (x2 : Int32) (x3 : Int32) (x4 : Int32) (w : gW) : Option (Int32 × gW) :=
zl (x4 + (1 : Int32)) (fun v1 =>
k3 x1 x2 x3 v1 w)
def f_M_isRest_b3_s (k3 : Int32 → Int32 → Int32 → Int32 → gW → Option (Int32 × gW)) (x1 : Int32) (x2 : Int32) (x3 : Int32) (x4 : Int32) (w : gW) : Option (Int32 × gW) :=
if (9 : Int32) < x4 then
(some ((1 : Int32), w))
else
(zb (f_M_isChoice x4 w) (fun v2 w3 =>
if v2 = 0 then
(f_M_isRest_b57 k3 x1 x2 x3 x4 w3)
else
(zb (f_M_hasBy x4 x2 x3 w3) (fun v5 w6 =>
zb (f_M_hasBy x1 x2 x3 w6) (fun v7 w8 =>
if v7 < v5 then
(some ((0 : Int32), w8))
else
(zb (f_M_hasBy x4 x1 x3 w8) (fun v10 w11 =>
zb (f_M_hasBy x2 x1 x3 w11) (fun v12 w13 =>
if v10 ≤ v12 then
(f_M_isRest_b57 k3 x1 x2 x3 x4 w13)
else
(some ((0 : Int32), w13))))))))))
def f_M_isRest_b3 : Int32 → Int32 → Int32 → Int32 → gW → Option (Int32 × gW) := zfx (fun _ _ _ _ _ => none) (f_M_isRest_b3_s) zFU
def f_M_isRest (a1 : Int32) (a2 : Int32) (a3 : Int32) (w : gW) : Option (Int32 × gW) :=
f_M_isRest_b3 a1 a2 a3 (0 : Int32) w
theorem g_M_isRest_b57 {l : Launch} {Q : Option Value → gW → Prop} (k3 : Int32 → Int32 → Int32 → Int32 → gW → Option (Int32 × gW)) (hk3 : ∀ (x1 : Int32) (x2 : Int32) (x3 : Int32) (x4 : Int32) (w : gW), zok eI (k3 x1 x2 x3 x4 w) Q → Gz l m_M_isRest 3 3 [(0, .ref 107), (1, .int x1), (2, .int x2), (3, .int x3), (4, .int x4)] [] w Q) (x1 : Int32) (x2 : Int32) (x3 : Int32) (x4 : Int32) (w : gW) (h : zok eI (f_M_isRest_b57 k3 x1 x2 x3 x4 w) Q) : Gz l m_M_isRest 3 57 [(0, .ref 107), (1, .int x1), (2, .int x2), (3, .int x3), (4, .int x4)] [] w Q := by
  unfold f_M_isRest_b57 at h
  obtain ⟨v1, e2⟩ : ∃ y : Int32, y = x4 + (1 : Int32) := ⟨_, rfl⟩
  have h := zok_l e2 h
  refine Gz.iinc (i := 4) (n := 1) (pc' := 60) (L' := [(4, .int v1), (0, .ref 107), (1, .int x1), (2, .int x2), (3, .int x3)]) v1 (by decide +kernel) rfl 4 rfl (by rw [e2]; rfl) (Nat.le_of_ble_eq_true rfl) rfl ?_
  refine Gz.goto (off := -57) (tgt := 3) (by decide +kernel) (by decide) ?_
  refine Gz.sub (L' := [(0, .ref 107), (1, .int x1), (2, .int x2), (3, .int x3), (4, .int v1)]) [1, 2, 3, 4, 0] rfl ?_
  exact hk3 x1 x2 x3 v1 w h
theorem g_M_isRest_b3_s {l : Launch} {Q : Option Value → gW → Prop} (k3 : Int32 → Int32 → Int32 → Int32 → gW → Option (Int32 × gW)) (hk3 : ∀ (x1 : Int32) (x2 : Int32) (x3 : Int32) (x4 : Int32) (w : gW), zok eI (k3 x1 x2 x3 x4 w) Q → Gz l m_M_isRest 3 3 [(0, .ref 107), (1, .int x1), (2, .int x2), (3, .int x3), (4, .int x4)] [] w Q) (x1 : Int32) (x2 : Int32) (x3 : Int32) (x4 : Int32) (w : gW) (h : zok eI (f_M_isRest_b3_s k3 x1 x2 x3 x4 w) Q) : Gz l m_M_isRest 3 3 [(0, .ref 107), (1, .int x1), (2, .int x2), (3, .int x3), (4, .int x4)] [] w Q := by
  unfold f_M_isRest_b3_s at h
  refine Gz.iload (i := 4) (pc' := 5) (by decide +kernel) rfl 4 rfl ?_
  refine Gz.bipush (n := 9) (v := (9 : Int32)) (pc' := 7) (by decide +kernel) rfl rfl ?_
  refine Gz.icmp_gt (off := 56) (tgt := 63) (pc' := 10) (by decide +kernel) (by decide) rfl (fun c1 => ?_) (fun c1 => ?_)
  · have h := zok_t c1 h
    refine Gz.iconst (n := 1) (v := (1 : Int32)) (pc' := 64) (by decide +kernel) rfl rfl ?_
    exact Gz.zreturn (by decide +kernel) rfl (by decide) (zok_sI h)
  · have h := zok_f c1 h
    refine Gz.aload_n (q := 0) (pc' := 11) (by decide +kernel) rfl 0 rfl ?_
    refine Gz.iload (i := 4) (pc' := 13) (by decide +kernel) rfl 4 rfl ?_
    refine Gz.callVI (st := []) (b := 107) (pc' := 16) [.int x4] (g_M_isChoice x4 w) h ok_m_M_isChoice lk_M_347 sh_107 rfl rfl rfl (Nat.le_of_ble_eq_true rfl) (Nat.le_of_ble_eq_true rfl) (Nat.le_of_ble_eq_true rfl) (by decide +kernel) rfl (fun v2 w3 h => ?_)
    refine Gz.if_eq (off := 41) (tgt := 57) (pc' := 19) (by decide +kernel) (by decide) rfl (fun c4 => ?_) (fun c4 => ?_)
    · have h := zok_t c4 h
      exact g_M_isRest_b57 k3 hk3 x1 x2 x3 x4 w3 h
    · have h := zok_f c4 h
      refine Gz.aload_n (q := 0) (pc' := 20) (by decide +kernel) rfl 0 rfl ?_
      refine Gz.iload (i := 4) (pc' := 22) (by decide +kernel) rfl 4 rfl ?_
      refine Gz.iload_n (q := 2) (pc' := 23) (by decide +kernel) rfl 2 rfl ?_
      refine Gz.iload_n (q := 3) (pc' := 24) (by decide +kernel) rfl 3 rfl ?_
      refine Gz.callVI (st := []) (b := 107) (pc' := 27) [.int x4, .int x2, .int x3] (g_M_hasBy x4 x2 x3 w3) h ok_m_M_hasBy lk_M_350 sh_107 rfl rfl rfl (Nat.le_of_ble_eq_true rfl) (Nat.le_of_ble_eq_true rfl) (Nat.le_of_ble_eq_true rfl) (by decide +kernel) rfl (fun v5 w6 h => ?_)
      refine Gz.aload_n (q := 0) (pc' := 28) (by decide +kernel) rfl 0 rfl ?_
      refine Gz.iload_n (q := 1) (pc' := 29) (by decide +kernel) rfl 1 rfl ?_
      refine Gz.iload_n (q := 2) (pc' := 30) (by decide +kernel) rfl 2 rfl ?_
      refine Gz.iload_n (q := 3) (pc' := 31) (by decide +kernel) rfl 3 rfl ?_
      refine Gz.callVI (st := [.int v5]) (b := 107) (pc' := 34) [.int x1, .int x2, .int x3] (g_M_hasBy x1 x2 x3 w6) h ok_m_M_hasBy lk_M_350 sh_107 rfl rfl rfl (Nat.le_of_ble_eq_true rfl) (Nat.le_of_ble_eq_true rfl) (Nat.le_of_ble_eq_true rfl) (by decide +kernel) rfl (fun v7 w8 h => ?_)
      refine Gz.icmp_gt (off := 21) (tgt := 55) (pc' := 37) (by decide +kernel) (by decide) rfl (fun c9 => ?_) (fun c9 => ?_)
      · have h := zok_t c9 h
        refine Gz.iconst (n := 0) (v := (0 : Int32)) (pc' := 56) (by decide +kernel) rfl rfl ?_
        exact Gz.zreturn (by decide +kernel) rfl (by decide) (zok_sI h)
      · have h := zok_f c9 h
        refine Gz.aload_n (q := 0) (pc' := 38) (by decide +kernel) rfl 0 rfl ?_
        refine Gz.iload (i := 4) (pc' := 40) (by decide +kernel) rfl 4 rfl ?_
        refine Gz.iload_n (q := 1) (pc' := 41) (by decide +kernel) rfl 1 rfl ?_
        refine Gz.iload_n (q := 3) (pc' := 42) (by decide +kernel) rfl 3 rfl ?_
        refine Gz.callVI (st := []) (b := 107) (pc' := 45) [.int x4, .int x1, .int x3] (g_M_hasBy x4 x1 x3 w8) h ok_m_M_hasBy lk_M_350 sh_107 rfl rfl rfl (Nat.le_of_ble_eq_true rfl) (Nat.le_of_ble_eq_true rfl) (Nat.le_of_ble_eq_true rfl) (by decide +kernel) rfl (fun v10 w11 h => ?_)
        refine Gz.aload_n (q := 0) (pc' := 46) (by decide +kernel) rfl 0 rfl ?_
        refine Gz.iload_n (q := 2) (pc' := 47) (by decide +kernel) rfl 2 rfl ?_
        refine Gz.iload_n (q := 1) (pc' := 48) (by decide +kernel) rfl 1 rfl ?_
        refine Gz.iload_n (q := 3) (pc' := 49) (by decide +kernel) rfl 3 rfl ?_
        refine Gz.callVI (st := [.int v10]) (b := 107) (pc' := 52) [.int x2, .int x1, .int x3] (g_M_hasBy x2 x1 x3 w11) h ok_m_M_hasBy lk_M_350 sh_107 rfl rfl rfl (Nat.le_of_ble_eq_true rfl) (Nat.le_of_ble_eq_true rfl) (Nat.le_of_ble_eq_true rfl) (by decide +kernel) rfl (fun v12 w13 h => ?_)
        refine Gz.icmp_le (off := 5) (tgt := 57) (pc' := 55) (by decide +kernel) (by decide) rfl (fun c14 => ?_) (fun c14 => ?_)
        · have h := zok_t c14 h
          exact g_M_isRest_b57 k3 hk3 x1 x2 x3 x4 w13 h
        · have h := zok_f c14 h
          refine Gz.iconst (n := 0) (v := (0 : Int32)) (pc' := 56) (by decide +kernel) rfl rfl ?_
          exact Gz.zreturn (by decide +kernel) rfl (by decide) (zok_sI h)
theorem g_M_isRest_b3 {l : Launch} {Q : Option Value → gW → Prop} (x1 : Int32) (x2 : Int32) (x3 : Int32) (x4 : Int32) (w : gW) (h : zok eI (f_M_isRest_b3 x1 x2 x3 x4 w) Q) : Gz l m_M_isRest 3 3 [(0, .ref 107), (1, .int x1), (2, .int x2), (3, .int x3), (4, .int x4)] [] w Q := by
  have key : ∀ (n : Nat) (x1 : Int32) (x2 : Int32) (x3 : Int32) (x4 : Int32) (w : gW), zok eI (zfx (fun _ _ _ _ _ => none) (f_M_isRest_b3_s) n x1 x2 x3 x4 w) Q → Gz l m_M_isRest 3 3 [(0, .ref 107), (1, .int x1), (2, .int x2), (3, .int x3), (4, .int x4)] [] w Q := by
    intro n
    induction n with
    | zero => intro x1 x2 x3 x4 w h; exact zok_n h
    | succ n ih => intro x1 x2 x3 x4 w h; exact g_M_isRest_b3_s _ ih x1 x2 x3 x4 w h
  exact key zFU x1 x2 x3 x4 w h
theorem g_M_isRest {l : Launch} (a1 : Int32) (a2 : Int32) (a3 : Int32) (w : gW) : gCt l m_M_isRest 3 [.ref 107, .int a1, .int a2, .int a3] w eI (f_M_isRest a1 a2 a3 w) := by
  intro Q h
  unfold f_M_isRest at h
  show Gz l m_M_isRest 3 0 [(0, .ref 107), (1, .int a1), (2, .int a2), (3, .int a3)] [] w Q
  refine Gz.iconst (n := 0) (v := (0 : Int32)) (pc' := 1) (by decide +kernel) rfl rfl ?_
  refine Gz.istore (i := 4) (pc' := 3) (L' := [(4, .int (0 : Int32)), (0, .ref 107), (1, .int a1), (2, .int a2), (3, .int a3)]) (by decide +kernel) rfl (Nat.le_of_ble_eq_true rfl) rfl ?_
  refine Gz.sub (L' := [(0, .ref 107), (1, .int a1), (2, .int a2), (3, .int a3), (4, .int (0 : Int32))]) [1, 2, 3, 4, 0] rfl ?_
  exact g_M_isRest_b3 a1 a2 a3 (0 : Int32) w h
def f_M_duel_b100 (k32 : Int32 → Int32 → Int32 → Int32 → gW → Option (Int32 × gW)) (k42 : Int32 → Int32 → Int32 → Int32 → Int32 → gW → Option (Int32 × gW)) (x2 : Int32) (x3 : Int32) (x4 : Int32) (x5 : Int32) (x6 : Int32) (w : gW) : Option (Int32 × gW) :=
zl (x6 + (1 : Int32)) (fun v1 =>
k42 x2 x3 x4 x5 v1 w)
def f_M_duel_b42_s (k32 : Int32 → Int32 → Int32 → Int32 → gW → Option (Int32 × gW)) (k42 : Int32 → Int32 → Int32 → Int32 → Int32 → gW → Option (Int32 × gW)) (x2 : Int32) (x3 : Int32) (x4 : Int32) (x5 : Int32) (x6 : Int32) (w : gW) : Option (Int32 × gW) :=
if (9 : Int32) < x6 then
(zl (x5 + (1 : Int32)) (fun v2 =>
k32 x2 x3 x4 v2 w))
else
(zb (f_M_isChoice x5 w) (fun v4 w5 =>
if v4 = 0 then
(f_M_duel_b100 k32 k42 x2 x3 x4 x5 x6 w5)
else
(zb (f_M_isChoice x6 w5) (fun v7 w8 =>
if v7 = 0 then
(f_M_duel_b100 k32 k42 x2 x3 x4 x5 x6 w8)
else
(zb (f_M_isRest x5 x6 x2 w8) (fun v10 w11 =>
if v10 = 0 then
(f_M_duel_b100 k32 k42 x2 x3 x4 x5 x6 w11)
else
(if x4 = x3 then
(some (((10 : Int32) * x5) + x6, w11))
else
(zl (x4 + (1 : Int32)) (fun v14 =>
f_M_duel_b100 k32 k42 x2 x3 v14 x5 x6 w11)))))))))
def f_M_duel_b42 (k32 : Int32 → Int32 → Int32 → Int32 → gW → Option (Int32 × gW)) : Int32 → Int32 → Int32 → Int32 → Int32 → gW → Option (Int32 × gW) := zfx (fun _ _ _ _ _ _ => none) (f_M_duel_b42_s k32) zFU
def f_M_duel_b32_s (k32 : Int32 → Int32 → Int32 → Int32 → gW → Option (Int32 × gW)) (x2 : Int32) (x3 : Int32) (x4 : Int32) (x5 : Int32) (w : gW) : Option (Int32 × gW) :=
if (9 : Int32) < x5 then
(if x3 = (-1 : Int32) then
(some (x4, w))
else
(some ((-1 : Int32), w)))
else
(f_M_duel_b42 k32 x2 x3 x4 x5 (0 : Int32) w)
def f_M_duel_b32 : Int32 → Int32 → Int32 → Int32 → gW → Option (Int32 × gW) := zfx (fun _ _ _ _ _ => none) (f_M_duel_b32_s) zFU
def f_M_duel (a1 : Int32) (a2 : Int32) (a3 : Int32) (w : gW) : Option (Int32 × gW) :=
zl (zsI w 107 0 (0 : Int32)) (fun w1 =>
zb (f_M_isDuel a1 a2 w1) (fun v3 w4 =>
if v3 = 0 then
(some ((-1 : Int32), w4))
else
(if (-1 : Int32) ≤ a3 then
(zb (f_M_layDay a1 w4) (fun _ w7 =>
f_M_duel_b32 a2 a3 (0 : Int32) (0 : Int32) w7))
else
(some ((-1 : Int32), w4)))))
theorem g_M_duel_b100 {l : Launch} {Q : Option Value → gW → Prop} (k32 : Int32 → Int32 → Int32 → Int32 → gW → Option (Int32 × gW)) (hk32 : ∀ (x2 : Int32) (x3 : Int32) (x4 : Int32) (x5 : Int32) (w : gW), zok eI (k32 x2 x3 x4 x5 w) Q → Gz l m_M_duel 58 32 [(0, .ref 107), (2, .int x2), (3, .int x3), (4, .int x4), (5, .int x5)] [] w Q) (k42 : Int32 → Int32 → Int32 → Int32 → Int32 → gW → Option (Int32 × gW)) (hk42 : ∀ (x2 : Int32) (x3 : Int32) (x4 : Int32) (x5 : Int32) (x6 : Int32) (w : gW), zok eI (k42 x2 x3 x4 x5 x6 w) Q → Gz l m_M_duel 58 42 [(0, .ref 107), (2, .int x2), (3, .int x3), (4, .int x4), (5, .int x5), (6, .int x6)] [] w Q) (x2 : Int32) (x3 : Int32) (x4 : Int32) (x5 : Int32) (x6 : Int32) (w : gW) (h : zok eI (f_M_duel_b100 k32 k42 x2 x3 x4 x5 x6 w) Q) : Gz l m_M_duel 58 100 [(0, .ref 107), (2, .int x2), (3, .int x3), (4, .int x4), (5, .int x5), (6, .int x6)] [] w Q := by
  unfold f_M_duel_b100 at h
  obtain ⟨v1, e2⟩ : ∃ y : Int32, y = x6 + (1 : Int32) := ⟨_, rfl⟩
  have h := zok_l e2 h
  refine Gz.iinc (i := 6) (n := 1) (pc' := 103) (L' := [(6, .int v1), (0, .ref 107), (2, .int x2), (3, .int x3), (4, .int x4), (5, .int x5)]) v1 (by decide +kernel) rfl 5 rfl (by rw [e2]; rfl) (Nat.le_of_ble_eq_true rfl) rfl ?_
  refine Gz.goto (off := -61) (tgt := 42) (by decide +kernel) (by decide) ?_
  refine Gz.sub (L' := [(0, .ref 107), (2, .int x2), (3, .int x3), (4, .int x4), (5, .int x5), (6, .int v1)]) [1, 2, 3, 4, 5, 0] rfl ?_
  exact hk42 x2 x3 x4 x5 v1 w h
theorem g_M_duel_b42_s {l : Launch} {Q : Option Value → gW → Prop} (k32 : Int32 → Int32 → Int32 → Int32 → gW → Option (Int32 × gW)) (hk32 : ∀ (x2 : Int32) (x3 : Int32) (x4 : Int32) (x5 : Int32) (w : gW), zok eI (k32 x2 x3 x4 x5 w) Q → Gz l m_M_duel 58 32 [(0, .ref 107), (2, .int x2), (3, .int x3), (4, .int x4), (5, .int x5)] [] w Q) (k42 : Int32 → Int32 → Int32 → Int32 → Int32 → gW → Option (Int32 × gW)) (hk42 : ∀ (x2 : Int32) (x3 : Int32) (x4 : Int32) (x5 : Int32) (x6 : Int32) (w : gW), zok eI (k42 x2 x3 x4 x5 x6 w) Q → Gz l m_M_duel 58 42 [(0, .ref 107), (2, .int x2), (3, .int x3), (4, .int x4), (5, .int x5), (6, .int x6)] [] w Q) (x2 : Int32) (x3 : Int32) (x4 : Int32) (x5 : Int32) (x6 : Int32) (w : gW) (h : zok eI (f_M_duel_b42_s k32 k42 x2 x3 x4 x5 x6 w) Q) : Gz l m_M_duel 58 42 [(0, .ref 107), (2, .int x2), (3, .int x3), (4, .int x4), (5, .int x5), (6, .int x6)] [] w Q := by
  unfold f_M_duel_b42_s at h
  refine Gz.iload (i := 6) (pc' := 44) (by decide +kernel) rfl 5 rfl ?_
  refine Gz.bipush (n := 9) (v := (9 : Int32)) (pc' := 46) (by decide +kernel) rfl rfl ?_
  refine Gz.icmp_gt (off := 60) (tgt := 106) (pc' := 49) (by decide +kernel) (by decide) rfl (fun c1 => ?_) (fun c1 => ?_)
  · have h := zok_t c1 h
    obtain ⟨v2, e3⟩ : ∃ y : Int32, y = x5 + (1 : Int32) := ⟨_, rfl⟩
    have h := zok_l e3 h
    refine Gz.iinc (i := 5) (n := 1) (pc' := 109) (L' := [(5, .int v2), (0, .ref 107), (2, .int x2), (3, .int x3), (4, .int x4), (6, .int x6)]) v2 (by decide +kernel) rfl 4 rfl (by rw [e3]; rfl) (Nat.le_of_ble_eq_true rfl) rfl ?_
    refine Gz.goto (off := -77) (tgt := 32) (by decide +kernel) (by decide) ?_
    refine Gz.sub (L' := [(0, .ref 107), (2, .int x2), (3, .int x3), (4, .int x4), (5, .int v2)]) [1, 2, 3, 4, 0] rfl ?_
    exact hk32 x2 x3 x4 v2 w h
  · have h := zok_f c1 h
    refine Gz.aload_n (q := 0) (pc' := 50) (by decide +kernel) rfl 0 rfl ?_
    refine Gz.iload (i := 5) (pc' := 52) (by decide +kernel) rfl 4 rfl ?_
    refine Gz.callVI (st := []) (b := 107) (pc' := 55) [.int x5] (g_M_isChoice x5 w) h ok_m_M_isChoice lk_M_347 sh_107 rfl rfl rfl (Nat.le_of_ble_eq_true rfl) (Nat.le_of_ble_eq_true rfl) (Nat.le_of_ble_eq_true rfl) (by decide +kernel) rfl (fun v4 w5 h => ?_)
    refine Gz.if_eq (off := 45) (tgt := 100) (pc' := 58) (by decide +kernel) (by decide) rfl (fun c6 => ?_) (fun c6 => ?_)
    · have h := zok_t c6 h
      exact g_M_duel_b100 k32 hk32 k42 hk42 x2 x3 x4 x5 x6 w5 h
    · have h := zok_f c6 h
      refine Gz.aload_n (q := 0) (pc' := 59) (by decide +kernel) rfl 0 rfl ?_
      refine Gz.iload (i := 6) (pc' := 61) (by decide +kernel) rfl 5 rfl ?_
      refine Gz.callVI (st := []) (b := 107) (pc' := 64) [.int x6] (g_M_isChoice x6 w5) h ok_m_M_isChoice lk_M_347 sh_107 rfl rfl rfl (Nat.le_of_ble_eq_true rfl) (Nat.le_of_ble_eq_true rfl) (Nat.le_of_ble_eq_true rfl) (by decide +kernel) rfl (fun v7 w8 h => ?_)
      refine Gz.if_eq (off := 36) (tgt := 100) (pc' := 67) (by decide +kernel) (by decide) rfl (fun c9 => ?_) (fun c9 => ?_)
      · have h := zok_t c9 h
        exact g_M_duel_b100 k32 hk32 k42 hk42 x2 x3 x4 x5 x6 w8 h
      · have h := zok_f c9 h
        refine Gz.aload_n (q := 0) (pc' := 68) (by decide +kernel) rfl 0 rfl ?_
        refine Gz.iload (i := 5) (pc' := 70) (by decide +kernel) rfl 4 rfl ?_
        refine Gz.iload (i := 6) (pc' := 72) (by decide +kernel) rfl 5 rfl ?_
        refine Gz.iload_n (q := 2) (pc' := 73) (by decide +kernel) rfl 1 rfl ?_
        refine Gz.callVI (st := []) (b := 107) (pc' := 76) [.int x5, .int x6, .int x2] (g_M_isRest x5 x6 x2 w8) h ok_m_M_isRest lk_M_357 sh_107 rfl rfl rfl (Nat.le_of_ble_eq_true rfl) (Nat.le_of_ble_eq_true rfl) (Nat.le_of_ble_eq_true rfl) (by decide +kernel) rfl (fun v10 w11 h => ?_)
        refine Gz.if_ne (off := 6) (tgt := 82) (pc' := 79) (by decide +kernel) (by decide) rfl (fun c12 => ?_) (fun c12 => ?_)
        · have h := zok_f c12 h
          refine Gz.iload (i := 4) (pc' := 84) (by decide +kernel) rfl 3 rfl ?_
          refine Gz.iload_n (q := 3) (pc' := 85) (by decide +kernel) rfl 2 rfl ?_
          refine Gz.icmp_ne (off := 12) (tgt := 97) (pc' := 88) (by decide +kernel) (by decide) rfl (fun c13 => ?_) (fun c13 => ?_)
          · have h := zok_f c13 h
            obtain ⟨v14, e15⟩ : ∃ y : Int32, y = x4 + (1 : Int32) := ⟨_, rfl⟩
            have h := zok_l e15 h
            refine Gz.iinc (i := 4) (n := 1) (pc' := 100) (L' := [(4, .int v14), (0, .ref 107), (2, .int x2), (3, .int x3), (5, .int x5), (6, .int x6)]) v14 (by decide +kernel) rfl 3 rfl (by rw [e15]; rfl) (Nat.le_of_ble_eq_true rfl) rfl ?_
            refine Gz.sub (L' := [(0, .ref 107), (2, .int x2), (3, .int x3), (4, .int v14), (5, .int x5), (6, .int x6)]) [1, 2, 3, 0, 4, 5] rfl ?_
            exact g_M_duel_b100 k32 hk32 k42 hk42 x2 x3 v14 x5 x6 w11 h
          · have h := zok_t c13 h
            refine Gz.bipush (n := 10) (v := (10 : Int32)) (pc' := 90) (by decide +kernel) rfl rfl ?_
            refine Gz.iload (i := 5) (pc' := 92) (by decide +kernel) rfl 4 rfl ?_
            refine Gz.imul (pc' := 93) (by decide +kernel) rfl ?_
            refine Gz.iload (i := 6) (pc' := 95) (by decide +kernel) rfl 5 rfl ?_
            refine Gz.iadd (pc' := 96) (by decide +kernel) rfl ?_
            exact Gz.ireturn (by decide +kernel) rfl (zok_sI h)
        · have h := zok_t c12 h
          refine Gz.goto (off := 21) (tgt := 100) (by decide +kernel) (by decide) ?_
          exact g_M_duel_b100 k32 hk32 k42 hk42 x2 x3 x4 x5 x6 w11 h
theorem g_M_duel_b42 {l : Launch} {Q : Option Value → gW → Prop} (k32 : Int32 → Int32 → Int32 → Int32 → gW → Option (Int32 × gW)) (hk32 : ∀ (x2 : Int32) (x3 : Int32) (x4 : Int32) (x5 : Int32) (w : gW), zok eI (k32 x2 x3 x4 x5 w) Q → Gz l m_M_duel 58 32 [(0, .ref 107), (2, .int x2), (3, .int x3), (4, .int x4), (5, .int x5)] [] w Q) (x2 : Int32) (x3 : Int32) (x4 : Int32) (x5 : Int32) (x6 : Int32) (w : gW) (h : zok eI (f_M_duel_b42 k32 x2 x3 x4 x5 x6 w) Q) : Gz l m_M_duel 58 42 [(0, .ref 107), (2, .int x2), (3, .int x3), (4, .int x4), (5, .int x5), (6, .int x6)] [] w Q := by
  have key : ∀ (n : Nat) (x2 : Int32) (x3 : Int32) (x4 : Int32) (x5 : Int32) (x6 : Int32) (w : gW), zok eI (zfx (fun _ _ _ _ _ _ => none) (f_M_duel_b42_s k32) n x2 x3 x4 x5 x6 w) Q → Gz l m_M_duel 58 42 [(0, .ref 107), (2, .int x2), (3, .int x3), (4, .int x4), (5, .int x5), (6, .int x6)] [] w Q := by
    intro n
    induction n with
    | zero => intro x2 x3 x4 x5 x6 w h; exact zok_n h
    | succ n ih => intro x2 x3 x4 x5 x6 w h; exact g_M_duel_b42_s k32 hk32 _ ih x2 x3 x4 x5 x6 w h
  exact key zFU x2 x3 x4 x5 x6 w h
theorem g_M_duel_b32_s {l : Launch} {Q : Option Value → gW → Prop} (k32 : Int32 → Int32 → Int32 → Int32 → gW → Option (Int32 × gW)) (hk32 : ∀ (x2 : Int32) (x3 : Int32) (x4 : Int32) (x5 : Int32) (w : gW), zok eI (k32 x2 x3 x4 x5 w) Q → Gz l m_M_duel 58 32 [(0, .ref 107), (2, .int x2), (3, .int x3), (4, .int x4), (5, .int x5)] [] w Q) (x2 : Int32) (x3 : Int32) (x4 : Int32) (x5 : Int32) (w : gW) (h : zok eI (f_M_duel_b32_s k32 x2 x3 x4 x5 w) Q) : Gz l m_M_duel 58 32 [(0, .ref 107), (2, .int x2), (3, .int x3), (4, .int x4), (5, .int x5)] [] w Q := by
  unfold f_M_duel_b32_s at h
  refine Gz.iload (i := 5) (pc' := 34) (by decide +kernel) rfl 4 rfl ?_
  refine Gz.bipush (n := 9) (v := (9 : Int32)) (pc' := 36) (by decide +kernel) rfl rfl ?_
  refine Gz.icmp_gt (off := 76) (tgt := 112) (pc' := 39) (by decide +kernel) (by decide) rfl (fun c1 => ?_) (fun c1 => ?_)
  · have h := zok_t c1 h
    refine Gz.iload_n (q := 3) (pc' := 113) (by decide +kernel) rfl 2 rfl ?_
    refine Gz.iconst (n := -1) (v := (-1 : Int32)) (pc' := 114) (by decide +kernel) rfl rfl ?_
    refine Gz.icmp_ne (off := 8) (tgt := 122) (pc' := 117) (by decide +kernel) (by decide) rfl (fun c2 => ?_) (fun c2 => ?_)
    · have h := zok_f c2 h
      refine Gz.iconst (n := -1) (v := (-1 : Int32)) (pc' := 123) (by decide +kernel) rfl rfl ?_
      exact Gz.ireturn (by decide +kernel) rfl (zok_sI h)
    · have h := zok_t c2 h
      refine Gz.iload (i := 4) (pc' := 119) (by decide +kernel) rfl 3 rfl ?_
      refine Gz.goto (off := 4) (tgt := 123) (by decide +kernel) (by decide) ?_
      exact Gz.ireturn (by decide +kernel) rfl (zok_sI h)
  · have h := zok_f c1 h
    refine Gz.iconst (n := 0) (v := (0 : Int32)) (pc' := 40) (by decide +kernel) rfl rfl ?_
    refine Gz.istore (i := 6) (pc' := 42) (L' := [(6, .int (0 : Int32)), (0, .ref 107), (2, .int x2), (3, .int x3), (4, .int x4), (5, .int x5)]) (by decide +kernel) rfl (Nat.le_of_ble_eq_true rfl) rfl ?_
    refine Gz.sub (L' := [(0, .ref 107), (2, .int x2), (3, .int x3), (4, .int x4), (5, .int x5), (6, .int (0 : Int32))]) [1, 2, 3, 4, 5, 0] rfl ?_
    exact g_M_duel_b42 k32 hk32 x2 x3 x4 x5 (0 : Int32) w h
theorem g_M_duel_b32 {l : Launch} {Q : Option Value → gW → Prop} (x2 : Int32) (x3 : Int32) (x4 : Int32) (x5 : Int32) (w : gW) (h : zok eI (f_M_duel_b32 x2 x3 x4 x5 w) Q) : Gz l m_M_duel 58 32 [(0, .ref 107), (2, .int x2), (3, .int x3), (4, .int x4), (5, .int x5)] [] w Q := by
  have key : ∀ (n : Nat) (x2 : Int32) (x3 : Int32) (x4 : Int32) (x5 : Int32) (w : gW), zok eI (zfx (fun _ _ _ _ _ => none) (f_M_duel_b32_s) n x2 x3 x4 x5 w) Q → Gz l m_M_duel 58 32 [(0, .ref 107), (2, .int x2), (3, .int x3), (4, .int x4), (5, .int x5)] [] w Q := by
    intro n
    induction n with
    | zero => intro x2 x3 x4 x5 w h; exact zok_n h
    | succ n ih => intro x2 x3 x4 x5 w h; exact g_M_duel_b32_s _ ih x2 x3 x4 x5 w h
  exact key zFU x2 x3 x4 x5 w h
theorem g_M_duel {l : Launch} (a1 : Int32) (a2 : Int32) (a3 : Int32) (w : gW) : gCt l m_M_duel 58 [.ref 107, .int a1, .int a2, .int a3] w eI (f_M_duel a1 a2 a3 w) := by
  intro Q h
  unfold f_M_duel at h
  show Gz l m_M_duel 58 0 [(0, .ref 107), (1, .int a1), (2, .int a2), (3, .int a3)] [] w Q
  refine Gz.aload_n (q := 0) (pc' := 1) (by decide +kernel) rfl 0 rfl ?_
  refine Gz.iconst (n := 0) (v := (0 : Int32)) (pc' := 2) (by decide +kernel) rfl rfl ?_
  refine Gz.putI (pc' := 5) (j := 0) fd_M_96 sh_107 rfl (by decide +kernel) rfl ?_
  refine Gz.nmW (fun w1 e2 => ?_)
  have h := zok_l e2 h
  refine Gz.aload_n (q := 0) (pc' := 6) (by decide +kernel) rfl 0 rfl ?_
  refine Gz.iload_n (q := 1) (pc' := 7) (by decide +kernel) rfl 1 rfl ?_
  refine Gz.iload_n (q := 2) (pc' := 8) (by decide +kernel) rfl 2 rfl ?_
  refine Gz.callVI (st := []) (b := 107) (pc' := 11) [.int a1, .int a2] (g_M_isDuel a1 a2 w1) h ok_m_M_isDuel lk_M_354 sh_107 rfl rfl rfl (Nat.le_of_ble_eq_true rfl) (Nat.le_of_ble_eq_true rfl) (Nat.le_of_ble_eq_true rfl) (by decide +kernel) rfl (fun v3 w4 h => ?_)
  refine Gz.if_eq (off := 8) (tgt := 19) (pc' := 14) (by decide +kernel) (by decide) rfl (fun c5 => ?_) (fun c5 => ?_)
  · have h := zok_t c5 h
    refine Gz.iconst (n := -1) (v := (-1 : Int32)) (pc' := 20) (by decide +kernel) rfl rfl ?_
    exact Gz.ireturn (by decide +kernel) rfl (zok_sI h)
  · have h := zok_f c5 h
    refine Gz.iload_n (q := 3) (pc' := 15) (by decide +kernel) rfl 3 rfl ?_
    refine Gz.iconst (n := -1) (v := (-1 : Int32)) (pc' := 16) (by decide +kernel) rfl rfl ?_
    refine Gz.icmp_ge (off := 5) (tgt := 21) (pc' := 19) (by decide +kernel) (by decide) rfl (fun c6 => ?_) (fun c6 => ?_)
    · have h := zok_t c6 h
      refine Gz.aload_n (q := 0) (pc' := 22) (by decide +kernel) rfl 0 rfl ?_
      refine Gz.iload_n (q := 1) (pc' := 23) (by decide +kernel) rfl 1 rfl ?_
      refine Gz.callVV (st := []) (b := 107) (pc' := 26) [.int a1] (g_M_layDay a1 w4) h ok_m_M_layDay lk_M_305 sh_107 rfl rfl rfl (Nat.le_of_ble_eq_true rfl) (Nat.le_of_ble_eq_true rfl) (Nat.le_of_ble_eq_true rfl) (by decide +kernel) rfl (fun _ w7 h => ?_)
      refine Gz.iconst (n := 0) (v := (0 : Int32)) (pc' := 27) (by decide +kernel) rfl rfl ?_
      refine Gz.istore (i := 4) (pc' := 29) (L' := [(4, .int (0 : Int32)), (0, .ref 107), (1, .int a1), (2, .int a2), (3, .int a3)]) (by decide +kernel) rfl (Nat.le_of_ble_eq_true rfl) rfl ?_
      refine Gz.iconst (n := 0) (v := (0 : Int32)) (pc' := 30) (by decide +kernel) rfl rfl ?_
      refine Gz.istore (i := 5) (pc' := 32) (L' := [(5, .int (0 : Int32)), (4, .int (0 : Int32)), (0, .ref 107), (1, .int a1), (2, .int a2), (3, .int a3)]) (by decide +kernel) rfl (Nat.le_of_ble_eq_true rfl) rfl ?_
      refine Gz.sub (L' := [(0, .ref 107), (2, .int a2), (3, .int a3), (4, .int (0 : Int32)), (5, .int (0 : Int32))]) [2, 4, 5, 1, 0] rfl ?_
      exact g_M_duel_b32 a2 a3 (0 : Int32) (0 : Int32) w7 h
    · have h := zok_f c6 h
      refine Gz.iconst (n := -1) (v := (-1 : Int32)) (pc' := 20) (by decide +kernel) rfl rfl ?_
      exact Gz.ireturn (by decide +kernel) rfl (zok_sI h)
def f_M_answerTo_b47 (k5 : Int32 → Int32 → Int32 → Int32 → gW → Option (Int32 × gW)) (x1 : Int32) (x2 : Int32) (x3 : Int32) (x4 : Int32) (w : gW) : Option (Int32 × gW) :=
zl (x4 + (1 : Int32)) (fun v1 =>
k5 x1 x2 x3 v1 w)
def f_M_answerTo_b44 (k5 : Int32 → Int32 → Int32 → Int32 → gW → Option (Int32 × gW)) (x1 : Int32) (x2 : Int32) (x4 : Int32) (w : gW) : Option (Int32 × gW) :=
f_M_answerTo_b47 k5 x1 x2 x4 x4 w
def f_M_answerTo_b5_s (k5 : Int32 → Int32 → Int32 → Int32 → gW → Option (Int32 × gW)) (x1 : Int32) (x2 : Int32) (x3 : Int32) (x4 : Int32) (w : gW) : Option (Int32 × gW) :=
if (9 : Int32) < x4 then
(some (x3, w))
else
(zb (f_M_isChoice x4 w) (fun v2 w3 =>
if v2 = 0 then
(f_M_answerTo_b47 k5 x1 x2 x3 x4 w3)
else
(if x3 = (-1 : Int32) then
(f_M_answerTo_b44 k5 x1 x2 x4 w3)
else
(zb (f_M_hasBy x4 x1 x2 w3) (fun v6 w7 =>
zb (f_M_hasBy x3 x1 x2 w7) (fun v8 w9 =>
if v6 ≤ v8 then
(f_M_answerTo_b47 k5 x1 x2 x3 x4 w9)
else
(f_M_answerTo_b44 k5 x1 x2 x4 w9)))))))
def f_M_answerTo_b5 : Int32 → Int32 → Int32 → Int32 → gW → Option (Int32 × gW) := zfx (fun _ _ _ _ _ => none) (f_M_answerTo_b5_s) zFU
def f_M_answerTo (a1 : Int32) (a2 : Int32) (w : gW) : Option (Int32 × gW) :=
f_M_answerTo_b5 a1 a2 (-1 : Int32) (0 : Int32) w
theorem g_M_answerTo_b47 {l : Launch} {Q : Option Value → gW → Prop} (k5 : Int32 → Int32 → Int32 → Int32 → gW → Option (Int32 × gW)) (hk5 : ∀ (x1 : Int32) (x2 : Int32) (x3 : Int32) (x4 : Int32) (w : gW), zok eI (k5 x1 x2 x3 x4 w) Q → Gz l m_M_answerTo 3 5 [(0, .ref 107), (1, .int x1), (2, .int x2), (3, .int x3), (4, .int x4)] [] w Q) (x1 : Int32) (x2 : Int32) (x3 : Int32) (x4 : Int32) (w : gW) (h : zok eI (f_M_answerTo_b47 k5 x1 x2 x3 x4 w) Q) : Gz l m_M_answerTo 3 47 [(0, .ref 107), (1, .int x1), (2, .int x2), (3, .int x3), (4, .int x4)] [] w Q := by
  unfold f_M_answerTo_b47 at h
  obtain ⟨v1, e2⟩ : ∃ y : Int32, y = x4 + (1 : Int32) := ⟨_, rfl⟩
  have h := zok_l e2 h
  refine Gz.iinc (i := 4) (n := 1) (pc' := 50) (L' := [(4, .int v1), (0, .ref 107), (1, .int x1), (2, .int x2), (3, .int x3)]) v1 (by decide +kernel) rfl 4 rfl (by rw [e2]; rfl) (Nat.le_of_ble_eq_true rfl) rfl ?_
  refine Gz.goto (off := -45) (tgt := 5) (by decide +kernel) (by decide) ?_
  refine Gz.sub (L' := [(0, .ref 107), (1, .int x1), (2, .int x2), (3, .int x3), (4, .int v1)]) [1, 2, 3, 4, 0] rfl ?_
  exact hk5 x1 x2 x3 v1 w h
theorem g_M_answerTo_b44 {l : Launch} {Q : Option Value → gW → Prop} (k5 : Int32 → Int32 → Int32 → Int32 → gW → Option (Int32 × gW)) (hk5 : ∀ (x1 : Int32) (x2 : Int32) (x3 : Int32) (x4 : Int32) (w : gW), zok eI (k5 x1 x2 x3 x4 w) Q → Gz l m_M_answerTo 3 5 [(0, .ref 107), (1, .int x1), (2, .int x2), (3, .int x3), (4, .int x4)] [] w Q) (x1 : Int32) (x2 : Int32) (x4 : Int32) (w : gW) (h : zok eI (f_M_answerTo_b44 k5 x1 x2 x4 w) Q) : Gz l m_M_answerTo 3 44 [(0, .ref 107), (1, .int x1), (2, .int x2), (4, .int x4)] [] w Q := by
  unfold f_M_answerTo_b44 at h
  refine Gz.iload (i := 4) (pc' := 46) (by decide +kernel) rfl 3 rfl ?_
  refine Gz.istore_n (q := 3) (pc' := 47) (L' := [(3, .int x4), (0, .ref 107), (1, .int x1), (2, .int x2), (4, .int x4)]) (by decide +kernel) rfl (Nat.le_of_ble_eq_true rfl) rfl ?_
  refine Gz.sub (L' := [(0, .ref 107), (1, .int x1), (2, .int x2), (3, .int x4), (4, .int x4)]) [1, 2, 3, 0, 4] rfl ?_
  exact g_M_answerTo_b47 k5 hk5 x1 x2 x4 x4 w h
theorem g_M_answerTo_b5_s {l : Launch} {Q : Option Value → gW → Prop} (k5 : Int32 → Int32 → Int32 → Int32 → gW → Option (Int32 × gW)) (hk5 : ∀ (x1 : Int32) (x2 : Int32) (x3 : Int32) (x4 : Int32) (w : gW), zok eI (k5 x1 x2 x3 x4 w) Q → Gz l m_M_answerTo 3 5 [(0, .ref 107), (1, .int x1), (2, .int x2), (3, .int x3), (4, .int x4)] [] w Q) (x1 : Int32) (x2 : Int32) (x3 : Int32) (x4 : Int32) (w : gW) (h : zok eI (f_M_answerTo_b5_s k5 x1 x2 x3 x4 w) Q) : Gz l m_M_answerTo 3 5 [(0, .ref 107), (1, .int x1), (2, .int x2), (3, .int x3), (4, .int x4)] [] w Q := by
  unfold f_M_answerTo_b5_s at h
  refine Gz.iload (i := 4) (pc' := 7) (by decide +kernel) rfl 4 rfl ?_
  refine Gz.bipush (n := 9) (v := (9 : Int32)) (pc' := 9) (by decide +kernel) rfl rfl ?_
  refine Gz.icmp_gt (off := 44) (tgt := 53) (pc' := 12) (by decide +kernel) (by decide) rfl (fun c1 => ?_) (fun c1 => ?_)
  · have h := zok_t c1 h
    refine Gz.iload_n (q := 3) (pc' := 54) (by decide +kernel) rfl 3 rfl ?_
    exact Gz.ireturn (by decide +kernel) rfl (zok_sI h)
  · have h := zok_f c1 h
    refine Gz.aload_n (q := 0) (pc' := 13) (by decide +kernel) rfl 0 rfl ?_
    refine Gz.iload (i := 4) (pc' := 15) (by decide +kernel) rfl 4 rfl ?_
    refine Gz.callVI (st := []) (b := 107) (pc' := 18) [.int x4] (g_M_isChoice x4 w) h ok_m_M_isChoice lk_M_347 sh_107 rfl rfl rfl (Nat.le_of_ble_eq_true rfl) (Nat.le_of_ble_eq_true rfl) (Nat.le_of_ble_eq_true rfl) (by decide +kernel) rfl (fun v2 w3 h => ?_)
    refine Gz.if_eq (off := 29) (tgt := 47) (pc' := 21) (by decide +kernel) (by decide) rfl (fun c4 => ?_) (fun c4 => ?_)
    · have h := zok_t c4 h
      exact g_M_answerTo_b47 k5 hk5 x1 x2 x3 x4 w3 h
    · have h := zok_f c4 h
      refine Gz.iload_n (q := 3) (pc' := 22) (by decide +kernel) rfl 3 rfl ?_
      refine Gz.iconst (n := -1) (v := (-1 : Int32)) (pc' := 23) (by decide +kernel) rfl rfl ?_
      refine Gz.icmp_eq (off := 21) (tgt := 44) (pc' := 26) (by decide +kernel) (by decide) rfl (fun c5 => ?_) (fun c5 => ?_)
      · have h := zok_t c5 h
        refine Gz.sub (L' := [(0, .ref 107), (1, .int x1), (2, .int x2), (4, .int x4)]) [0, 1, 2, 4] rfl ?_
        exact g_M_answerTo_b44 k5 hk5 x1 x2 x4 w3 h
      · have h := zok_f c5 h
        refine Gz.aload_n (q := 0) (pc' := 27) (by decide +kernel) rfl 0 rfl ?_
        refine Gz.iload (i := 4) (pc' := 29) (by decide +kernel) rfl 4 rfl ?_
        refine Gz.iload_n (q := 1) (pc' := 30) (by decide +kernel) rfl 1 rfl ?_
        refine Gz.iload_n (q := 2) (pc' := 31) (by decide +kernel) rfl 2 rfl ?_
        refine Gz.callVI (st := []) (b := 107) (pc' := 34) [.int x4, .int x1, .int x2] (g_M_hasBy x4 x1 x2 w3) h ok_m_M_hasBy lk_M_350 sh_107 rfl rfl rfl (Nat.le_of_ble_eq_true rfl) (Nat.le_of_ble_eq_true rfl) (Nat.le_of_ble_eq_true rfl) (by decide +kernel) rfl (fun v6 w7 h => ?_)
        refine Gz.aload_n (q := 0) (pc' := 35) (by decide +kernel) rfl 0 rfl ?_
        refine Gz.iload_n (q := 3) (pc' := 36) (by decide +kernel) rfl 3 rfl ?_
        refine Gz.iload_n (q := 1) (pc' := 37) (by decide +kernel) rfl 1 rfl ?_
        refine Gz.iload_n (q := 2) (pc' := 38) (by decide +kernel) rfl 2 rfl ?_
        refine Gz.callVI (st := [.int v6]) (b := 107) (pc' := 41) [.int x3, .int x1, .int x2] (g_M_hasBy x3 x1 x2 w7) h ok_m_M_hasBy lk_M_350 sh_107 rfl rfl rfl (Nat.le_of_ble_eq_true rfl) (Nat.le_of_ble_eq_true rfl) (Nat.le_of_ble_eq_true rfl) (by decide +kernel) rfl (fun v8 w9 h => ?_)
        refine Gz.icmp_le (off := 6) (tgt := 47) (pc' := 44) (by decide +kernel) (by decide) rfl (fun c10 => ?_) (fun c10 => ?_)
        · have h := zok_t c10 h
          exact g_M_answerTo_b47 k5 hk5 x1 x2 x3 x4 w9 h
        · have h := zok_f c10 h
          refine Gz.sub (L' := [(0, .ref 107), (1, .int x1), (2, .int x2), (4, .int x4)]) [0, 1, 2, 4] rfl ?_
          exact g_M_answerTo_b44 k5 hk5 x1 x2 x4 w9 h
theorem g_M_answerTo_b5 {l : Launch} {Q : Option Value → gW → Prop} (x1 : Int32) (x2 : Int32) (x3 : Int32) (x4 : Int32) (w : gW) (h : zok eI (f_M_answerTo_b5 x1 x2 x3 x4 w) Q) : Gz l m_M_answerTo 3 5 [(0, .ref 107), (1, .int x1), (2, .int x2), (3, .int x3), (4, .int x4)] [] w Q := by
  have key : ∀ (n : Nat) (x1 : Int32) (x2 : Int32) (x3 : Int32) (x4 : Int32) (w : gW), zok eI (zfx (fun _ _ _ _ _ => none) (f_M_answerTo_b5_s) n x1 x2 x3 x4 w) Q → Gz l m_M_answerTo 3 5 [(0, .ref 107), (1, .int x1), (2, .int x2), (3, .int x3), (4, .int x4)] [] w Q := by
    intro n
    induction n with
    | zero => intro x1 x2 x3 x4 w h; exact zok_n h
    | succ n ih => intro x1 x2 x3 x4 w h; exact g_M_answerTo_b5_s _ ih x1 x2 x3 x4 w h
  exact key zFU x1 x2 x3 x4 w h
theorem g_M_answerTo {l : Launch} (a1 : Int32) (a2 : Int32) (w : gW) : gCt l m_M_answerTo 3 [.ref 107, .int a1, .int a2] w eI (f_M_answerTo a1 a2 w) := by
  intro Q h
  unfold f_M_answerTo at h
  show Gz l m_M_answerTo 3 0 [(0, .ref 107), (1, .int a1), (2, .int a2)] [] w Q
  refine Gz.iconst (n := -1) (v := (-1 : Int32)) (pc' := 1) (by decide +kernel) rfl rfl ?_
  refine Gz.istore_n (q := 3) (pc' := 2) (L' := [(3, .int (-1 : Int32)), (0, .ref 107), (1, .int a1), (2, .int a2)]) (by decide +kernel) rfl (Nat.le_of_ble_eq_true rfl) rfl ?_
  refine Gz.iconst (n := 0) (v := (0 : Int32)) (pc' := 3) (by decide +kernel) rfl rfl ?_
  refine Gz.istore (i := 4) (pc' := 5) (L' := [(4, .int (0 : Int32)), (3, .int (-1 : Int32)), (0, .ref 107), (1, .int a1), (2, .int a2)]) (by decide +kernel) rfl (Nat.le_of_ble_eq_true rfl) rfl ?_
  refine Gz.sub (L' := [(0, .ref 107), (1, .int a1), (2, .int a2), (3, .int (-1 : Int32)), (4, .int (0 : Int32))]) [2, 3, 4, 1, 0] rfl ?_
  exact g_M_answerTo_b5 a1 a2 (-1 : Int32) (0 : Int32) w h
def f_M_bait_b79 (k26 : Int32 → Int32 → Int32 → gW → Option (Int32 × gW)) (x2 : Int32) (x3 : Int32) (x4 : Int32) (w : gW) : Option (Int32 × gW) :=
zl (x4 + (1 : Int32)) (fun v1 =>
k26 x2 x3 v1 w)
def f_M_bait_b76 (k26 : Int32 → Int32 → Int32 → gW → Option (Int32 × gW)) (x2 : Int32) (x4 : Int32) (w : gW) : Option (Int32 × gW) :=
f_M_bait_b79 k26 x2 x4 x4 w
def f_M_bait_b26_s (k26 : Int32 → Int32 → Int32 → gW → Option (Int32 × gW)) (x2 : Int32) (x3 : Int32) (x4 : Int32) (w : gW) : Option (Int32 × gW) :=
if (9 : Int32) < x4 then
(zb (f_M_answerTo x3 x2 w) (fun v2 w3 =>
some (((10 : Int32) * x3) + v2, w3)))
else
(zb (f_M_isChoice x4 w) (fun v4 w5 =>
if v4 = 0 then
(f_M_bait_b79 k26 x2 x3 x4 w5)
else
(if x3 = (-1 : Int32) then
(f_M_bait_b76 k26 x2 x4 w5)
else
(zb (f_M_answerTo x4 x2 w5) (fun v8 w9 =>
zb (f_M_hasBy x4 v8 x2 w9) (fun v10 w11 =>
zb (f_M_answerTo x3 x2 w11) (fun v12 w13 =>
zb (f_M_hasBy x3 v12 x2 w13) (fun v14 w15 =>
if v10 ≤ v14 then
(f_M_bait_b79 k26 x2 x3 x4 w15)
else
(f_M_bait_b76 k26 x2 x4 w15)))))))))
def f_M_bait_b26 : Int32 → Int32 → Int32 → gW → Option (Int32 × gW) := zfx (fun _ _ _ _ => none) (f_M_bait_b26_s) zFU
def f_M_bait (a1 : Int32) (a2 : Int32) (w : gW) : Option (Int32 × gW) :=
zl (zsI w 107 0 (0 : Int32)) (fun w1 =>
zb (f_M_isDuel a1 a2 w1) (fun v3 w4 =>
if v3 = 0 then
(some ((-1 : Int32), w4))
else
(zb (f_M_layDay a1 w4) (fun _ w6 =>
f_M_bait_b26 a2 (-1 : Int32) (0 : Int32) w6))))
theorem g_M_bait_b79 {l : Launch} {Q : Option Value → gW → Prop} (k26 : Int32 → Int32 → Int32 → gW → Option (Int32 × gW)) (hk26 : ∀ (x2 : Int32) (x3 : Int32) (x4 : Int32) (w : gW), zok eI (k26 x2 x3 x4 w) Q → Gz l m_M_bait 58 26 [(0, .ref 107), (2, .int x2), (3, .int x3), (4, .int x4)] [] w Q) (x2 : Int32) (x3 : Int32) (x4 : Int32) (w : gW) (h : zok eI (f_M_bait_b79 k26 x2 x3 x4 w) Q) : Gz l m_M_bait 58 79 [(0, .ref 107), (2, .int x2), (3, .int x3), (4, .int x4)] [] w Q := by
  unfold f_M_bait_b79 at h
  obtain ⟨v1, e2⟩ : ∃ y : Int32, y = x4 + (1 : Int32) := ⟨_, rfl⟩
  have h := zok_l e2 h
  refine Gz.iinc (i := 4) (n := 1) (pc' := 82) (L' := [(4, .int v1), (0, .ref 107), (2, .int x2), (3, .int x3)]) v1 (by decide +kernel) rfl 3 rfl (by rw [e2]; rfl) (Nat.le_of_ble_eq_true rfl) rfl ?_
  refine Gz.goto (off := -56) (tgt := 26) (by decide +kernel) (by decide) ?_
  refine Gz.sub (L' := [(0, .ref 107), (2, .int x2), (3, .int x3), (4, .int v1)]) [1, 2, 3, 0] rfl ?_
  exact hk26 x2 x3 v1 w h
theorem g_M_bait_b76 {l : Launch} {Q : Option Value → gW → Prop} (k26 : Int32 → Int32 → Int32 → gW → Option (Int32 × gW)) (hk26 : ∀ (x2 : Int32) (x3 : Int32) (x4 : Int32) (w : gW), zok eI (k26 x2 x3 x4 w) Q → Gz l m_M_bait 58 26 [(0, .ref 107), (2, .int x2), (3, .int x3), (4, .int x4)] [] w Q) (x2 : Int32) (x4 : Int32) (w : gW) (h : zok eI (f_M_bait_b76 k26 x2 x4 w) Q) : Gz l m_M_bait 58 76 [(0, .ref 107), (2, .int x2), (4, .int x4)] [] w Q := by
  unfold f_M_bait_b76 at h
  refine Gz.iload (i := 4) (pc' := 78) (by decide +kernel) rfl 2 rfl ?_
  refine Gz.istore_n (q := 3) (pc' := 79) (L' := [(3, .int x4), (0, .ref 107), (2, .int x2), (4, .int x4)]) (by decide +kernel) rfl (Nat.le_of_ble_eq_true rfl) rfl ?_
  refine Gz.sub (L' := [(0, .ref 107), (2, .int x2), (3, .int x4), (4, .int x4)]) [1, 2, 0, 3] rfl ?_
  exact g_M_bait_b79 k26 hk26 x2 x4 x4 w h
theorem g_M_bait_b26_s {l : Launch} {Q : Option Value → gW → Prop} (k26 : Int32 → Int32 → Int32 → gW → Option (Int32 × gW)) (hk26 : ∀ (x2 : Int32) (x3 : Int32) (x4 : Int32) (w : gW), zok eI (k26 x2 x3 x4 w) Q → Gz l m_M_bait 58 26 [(0, .ref 107), (2, .int x2), (3, .int x3), (4, .int x4)] [] w Q) (x2 : Int32) (x3 : Int32) (x4 : Int32) (w : gW) (h : zok eI (f_M_bait_b26_s k26 x2 x3 x4 w) Q) : Gz l m_M_bait 58 26 [(0, .ref 107), (2, .int x2), (3, .int x3), (4, .int x4)] [] w Q := by
  unfold f_M_bait_b26_s at h
  refine Gz.iload (i := 4) (pc' := 28) (by decide +kernel) rfl 3 rfl ?_
  refine Gz.bipush (n := 9) (v := (9 : Int32)) (pc' := 30) (by decide +kernel) rfl rfl ?_
  refine Gz.icmp_gt (off := 55) (tgt := 85) (pc' := 33) (by decide +kernel) (by decide) rfl (fun c1 => ?_) (fun c1 => ?_)
  · have h := zok_t c1 h
    refine Gz.bipush (n := 10) (v := (10 : Int32)) (pc' := 87) (by decide +kernel) rfl rfl ?_
    refine Gz.iload_n (q := 3) (pc' := 88) (by decide +kernel) rfl 2 rfl ?_
    refine Gz.imul (pc' := 89) (by decide +kernel) rfl ?_
    refine Gz.aload_n (q := 0) (pc' := 90) (by decide +kernel) rfl 0 rfl ?_
    refine Gz.iload_n (q := 3) (pc' := 91) (by decide +kernel) rfl 2 rfl ?_
    refine Gz.iload_n (q := 2) (pc' := 92) (by decide +kernel) rfl 1 rfl ?_
    refine Gz.callVI (st := [.int ((10 : Int32) * x3)]) (b := 107) (pc' := 95) [.int x3, .int x2] (g_M_answerTo x3 x2 w) h ok_m_M_answerTo lk_M_360 sh_107 rfl rfl rfl (Nat.le_of_ble_eq_true rfl) (Nat.le_of_ble_eq_true rfl) (Nat.le_of_ble_eq_true rfl) (by decide +kernel) rfl (fun v2 w3 h => ?_)
    refine Gz.iadd (pc' := 96) (by decide +kernel) rfl ?_
    exact Gz.ireturn (by decide +kernel) rfl (zok_sI h)
  · have h := zok_f c1 h
    refine Gz.aload_n (q := 0) (pc' := 34) (by decide +kernel) rfl 0 rfl ?_
    refine Gz.iload (i := 4) (pc' := 36) (by decide +kernel) rfl 3 rfl ?_
    refine Gz.callVI (st := []) (b := 107) (pc' := 39) [.int x4] (g_M_isChoice x4 w) h ok_m_M_isChoice lk_M_347 sh_107 rfl rfl rfl (Nat.le_of_ble_eq_true rfl) (Nat.le_of_ble_eq_true rfl) (Nat.le_of_ble_eq_true rfl) (by decide +kernel) rfl (fun v4 w5 h => ?_)
    refine Gz.if_eq (off := 40) (tgt := 79) (pc' := 42) (by decide +kernel) (by decide) rfl (fun c6 => ?_) (fun c6 => ?_)
    · have h := zok_t c6 h
      exact g_M_bait_b79 k26 hk26 x2 x3 x4 w5 h
    · have h := zok_f c6 h
      refine Gz.iload_n (q := 3) (pc' := 43) (by decide +kernel) rfl 2 rfl ?_
      refine Gz.iconst (n := -1) (v := (-1 : Int32)) (pc' := 44) (by decide +kernel) rfl rfl ?_
      refine Gz.icmp_eq (off := 32) (tgt := 76) (pc' := 47) (by decide +kernel) (by decide) rfl (fun c7 => ?_) (fun c7 => ?_)
      · have h := zok_t c7 h
        refine Gz.sub (L' := [(0, .ref 107), (2, .int x2), (4, .int x4)]) [0, 1, 3] rfl ?_
        exact g_M_bait_b76 k26 hk26 x2 x4 w5 h
      · have h := zok_f c7 h
        refine Gz.aload_n (q := 0) (pc' := 48) (by decide +kernel) rfl 0 rfl ?_
        refine Gz.iload (i := 4) (pc' := 50) (by decide +kernel) rfl 3 rfl ?_
        refine Gz.aload_n (q := 0) (pc' := 51) (by decide +kernel) rfl 0 rfl ?_
        refine Gz.iload (i := 4) (pc' := 53) (by decide +kernel) rfl 3 rfl ?_
        refine Gz.iload_n (q := 2) (pc' := 54) (by decide +kernel) rfl 1 rfl ?_
        refine Gz.callVI (st := [.int x4, .ref 107]) (b := 107) (pc' := 57) [.int x4, .int x2] (g_M_answerTo x4 x2 w5) h ok_m_M_answerTo lk_M_360 sh_107 rfl rfl rfl (Nat.le_of_ble_eq_true rfl) (Nat.le_of_ble_eq_true rfl) (Nat.le_of_ble_eq_true rfl) (by decide +kernel) rfl (fun v8 w9 h => ?_)
        refine Gz.iload_n (q := 2) (pc' := 58) (by decide +kernel) rfl 1 rfl ?_
        refine Gz.callVI (st := []) (b := 107) (pc' := 61) [.int x4, .int v8, .int x2] (g_M_hasBy x4 v8 x2 w9) h ok_m_M_hasBy lk_M_350 sh_107 rfl rfl rfl (Nat.le_of_ble_eq_true rfl) (Nat.le_of_ble_eq_true rfl) (Nat.le_of_ble_eq_true rfl) (by decide +kernel) rfl (fun v10 w11 h => ?_)
        refine Gz.aload_n (q := 0) (pc' := 62) (by decide +kernel) rfl 0 rfl ?_
        refine Gz.iload_n (q := 3) (pc' := 63) (by decide +kernel) rfl 2 rfl ?_
        refine Gz.aload_n (q := 0) (pc' := 64) (by decide +kernel) rfl 0 rfl ?_
        refine Gz.iload_n (q := 3) (pc' := 65) (by decide +kernel) rfl 2 rfl ?_
        refine Gz.iload_n (q := 2) (pc' := 66) (by decide +kernel) rfl 1 rfl ?_
        refine Gz.callVI (st := [.int x3, .ref 107, .int v10]) (b := 107) (pc' := 69) [.int x3, .int x2] (g_M_answerTo x3 x2 w11) h ok_m_M_answerTo lk_M_360 sh_107 rfl rfl rfl (Nat.le_of_ble_eq_true rfl) (Nat.le_of_ble_eq_true rfl) (Nat.le_of_ble_eq_true rfl) (by decide +kernel) rfl (fun v12 w13 h => ?_)
        refine Gz.iload_n (q := 2) (pc' := 70) (by decide +kernel) rfl 1 rfl ?_
        refine Gz.callVI (st := [.int v10]) (b := 107) (pc' := 73) [.int x3, .int v12, .int x2] (g_M_hasBy x3 v12 x2 w13) h ok_m_M_hasBy lk_M_350 sh_107 rfl rfl rfl (Nat.le_of_ble_eq_true rfl) (Nat.le_of_ble_eq_true rfl) (Nat.le_of_ble_eq_true rfl) (by decide +kernel) rfl (fun v14 w15 h => ?_)
        refine Gz.icmp_le (off := 6) (tgt := 79) (pc' := 76) (by decide +kernel) (by decide) rfl (fun c16 => ?_) (fun c16 => ?_)
        · have h := zok_t c16 h
          exact g_M_bait_b79 k26 hk26 x2 x3 x4 w15 h
        · have h := zok_f c16 h
          refine Gz.sub (L' := [(0, .ref 107), (2, .int x2), (4, .int x4)]) [0, 1, 3] rfl ?_
          exact g_M_bait_b76 k26 hk26 x2 x4 w15 h
theorem g_M_bait_b26 {l : Launch} {Q : Option Value → gW → Prop} (x2 : Int32) (x3 : Int32) (x4 : Int32) (w : gW) (h : zok eI (f_M_bait_b26 x2 x3 x4 w) Q) : Gz l m_M_bait 58 26 [(0, .ref 107), (2, .int x2), (3, .int x3), (4, .int x4)] [] w Q := by
  have key : ∀ (n : Nat) (x2 : Int32) (x3 : Int32) (x4 : Int32) (w : gW), zok eI (zfx (fun _ _ _ _ => none) (f_M_bait_b26_s) n x2 x3 x4 w) Q → Gz l m_M_bait 58 26 [(0, .ref 107), (2, .int x2), (3, .int x3), (4, .int x4)] [] w Q := by
    intro n
    induction n with
    | zero => intro x2 x3 x4 w h; exact zok_n h
    | succ n ih => intro x2 x3 x4 w h; exact g_M_bait_b26_s _ ih x2 x3 x4 w h
  exact key zFU x2 x3 x4 w h
theorem g_M_bait {l : Launch} (a1 : Int32) (a2 : Int32) (w : gW) : gCt l m_M_bait 58 [.ref 107, .int a1, .int a2] w eI (f_M_bait a1 a2 w) := by
  intro Q h
  unfold f_M_bait at h
  show Gz l m_M_bait 58 0 [(0, .ref 107), (1, .int a1), (2, .int a2)] [] w Q
  refine Gz.aload_n (q := 0) (pc' := 1) (by decide +kernel) rfl 0 rfl ?_
  refine Gz.iconst (n := 0) (v := (0 : Int32)) (pc' := 2) (by decide +kernel) rfl rfl ?_
  refine Gz.putI (pc' := 5) (j := 0) fd_M_96 sh_107 rfl (by decide +kernel) rfl ?_
  refine Gz.nmW (fun w1 e2 => ?_)
  have h := zok_l e2 h
  refine Gz.aload_n (q := 0) (pc' := 6) (by decide +kernel) rfl 0 rfl ?_
  refine Gz.iload_n (q := 1) (pc' := 7) (by decide +kernel) rfl 1 rfl ?_
  refine Gz.iload_n (q := 2) (pc' := 8) (by decide +kernel) rfl 2 rfl ?_
  refine Gz.callVI (st := []) (b := 107) (pc' := 11) [.int a1, .int a2] (g_M_isDuel a1 a2 w1) h ok_m_M_isDuel lk_M_354 sh_107 rfl rfl rfl (Nat.le_of_ble_eq_true rfl) (Nat.le_of_ble_eq_true rfl) (Nat.le_of_ble_eq_true rfl) (by decide +kernel) rfl (fun v3 w4 h => ?_)
  refine Gz.if_ne (off := 5) (tgt := 16) (pc' := 14) (by decide +kernel) (by decide) rfl (fun c5 => ?_) (fun c5 => ?_)
  · have h := zok_f c5 h
    refine Gz.aload_n (q := 0) (pc' := 17) (by decide +kernel) rfl 0 rfl ?_
    refine Gz.iload_n (q := 1) (pc' := 18) (by decide +kernel) rfl 1 rfl ?_
    refine Gz.callVV (st := []) (b := 107) (pc' := 21) [.int a1] (g_M_layDay a1 w4) h ok_m_M_layDay lk_M_305 sh_107 rfl rfl rfl (Nat.le_of_ble_eq_true rfl) (Nat.le_of_ble_eq_true rfl) (Nat.le_of_ble_eq_true rfl) (by decide +kernel) rfl (fun _ w6 h => ?_)
    refine Gz.iconst (n := -1) (v := (-1 : Int32)) (pc' := 22) (by decide +kernel) rfl rfl ?_
    refine Gz.istore_n (q := 3) (pc' := 23) (L' := [(3, .int (-1 : Int32)), (0, .ref 107), (1, .int a1), (2, .int a2)]) (by decide +kernel) rfl (Nat.le_of_ble_eq_true rfl) rfl ?_
    refine Gz.iconst (n := 0) (v := (0 : Int32)) (pc' := 24) (by decide +kernel) rfl rfl ?_
    refine Gz.istore (i := 4) (pc' := 26) (L' := [(4, .int (0 : Int32)), (3, .int (-1 : Int32)), (0, .ref 107), (1, .int a1), (2, .int a2)]) (by decide +kernel) rfl (Nat.le_of_ble_eq_true rfl) rfl ?_
    refine Gz.sub (L' := [(0, .ref 107), (2, .int a2), (3, .int (-1 : Int32)), (4, .int (0 : Int32))]) [2, 4, 1, 0] rfl ?_
    exact g_M_bait_b26 a2 (-1 : Int32) (0 : Int32) w6 h
  · have h := zok_t c5 h
    refine Gz.iconst (n := -1) (v := (-1 : Int32)) (pc' := 15) (by decide +kernel) rfl rfl ?_
    exact Gz.ireturn (by decide +kernel) rfl (zok_sI h)
def f_M_isPlan_b49 (k5 : Int32 → Int32 → Int32 → Int32 → gW → Option (Int32 × gW)) (x1 : Int32) (x2 : Int32) (x3 : Int32) (x4 : Int32) (w : gW) : Option (Int32 × gW) :=
zl (x4 + (1 : Int32)) (fun v1 =>
k5 x1 x2 x3 v1 w)
def f_M_isPlan_b5_s (k5 : Int32 → Int32 → Int32 → Int32 → gW → Option (Int32 × gW)) (x1 : Int32) (x2 : Int32) (x3 : Int32) (x4 : Int32) (w : gW) : Option (Int32 × gW) :=
if (w.1 107 44) ≤ x4 then
(if x3 &&& 1 = x3 then some (x3, w) else none)
else
(if inb x4 16807 then
if (x1 &&& ((w.1 128 (ix x4)) ^^^ (-1 : Int32))) = 0 then
(if inb x4 16807 then
zb (f_M_has (w.1 128 (ix x4)) x2 w) (fun v6 w7 =>
if v6 = 0 then
(some ((0 : Int32), w7))
else
(f_M_isPlan_b49 k5 x1 x2 (1 : Int32) x4 w7))
else none)
else
(f_M_isPlan_b49 k5 x1 x2 x3 x4 w)
else none)
def f_M_isPlan_b5 : Int32 → Int32 → Int32 → Int32 → gW → Option (Int32 × gW) := zfx (fun _ _ _ _ _ => none) (f_M_isPlan_b5_s) zFU
def f_M_isPlan (a1 : Int32) (a2 : Int32) (w : gW) : Option (Int32 × gW) :=
f_M_isPlan_b5 a1 a2 (0 : Int32) (0 : Int32) w
theorem g_M_isPlan_b49 {l : Launch} {Q : Option Value → gW → Prop} (k5 : Int32 → Int32 → Int32 → Int32 → gW → Option (Int32 × gW)) (hk5 : ∀ (x1 : Int32) (x2 : Int32) (x3 : Int32) (x4 : Int32) (w : gW), zok eI (k5 x1 x2 x3 x4 w) Q → Gz l m_M_isPlan 2 5 [(0, .ref 107), (1, .int x1), (2, .int x2), (3, .int x3), (4, .int x4)] [] w Q) (x1 : Int32) (x2 : Int32) (x3 : Int32) (x4 : Int32) (w : gW) (h : zok eI (f_M_isPlan_b49 k5 x1 x2 x3 x4 w) Q) : Gz l m_M_isPlan 2 49 [(0, .ref 107), (1, .int x1), (2, .int x2), (3, .int x3), (4, .int x4)] [] w Q := by
  unfold f_M_isPlan_b49 at h
  obtain ⟨v1, e2⟩ : ∃ y : Int32, y = x4 + (1 : Int32) := ⟨_, rfl⟩
  have h := zok_l e2 h
  refine Gz.iinc (i := 4) (n := 1) (pc' := 52) (L' := [(4, .int v1), (0, .ref 107), (1, .int x1), (2, .int x2), (3, .int x3)]) v1 (by decide +kernel) rfl 4 rfl (by rw [e2]; rfl) (Nat.le_of_ble_eq_true rfl) rfl ?_
  refine Gz.goto (off := -47) (tgt := 5) (by decide +kernel) (by decide) ?_
  refine Gz.sub (L' := [(0, .ref 107), (1, .int x1), (2, .int x2), (3, .int x3), (4, .int v1)]) [1, 2, 3, 4, 0] rfl ?_
  exact hk5 x1 x2 x3 v1 w h
theorem g_M_isPlan_b5_s {l : Launch} {Q : Option Value → gW → Prop} (k5 : Int32 → Int32 → Int32 → Int32 → gW → Option (Int32 × gW)) (hk5 : ∀ (x1 : Int32) (x2 : Int32) (x3 : Int32) (x4 : Int32) (w : gW), zok eI (k5 x1 x2 x3 x4 w) Q → Gz l m_M_isPlan 2 5 [(0, .ref 107), (1, .int x1), (2, .int x2), (3, .int x3), (4, .int x4)] [] w Q) (x1 : Int32) (x2 : Int32) (x3 : Int32) (x4 : Int32) (w : gW) (h : zok eI (f_M_isPlan_b5_s k5 x1 x2 x3 x4 w) Q) : Gz l m_M_isPlan 2 5 [(0, .ref 107), (1, .int x1), (2, .int x2), (3, .int x3), (4, .int x4)] [] w Q := by
  unfold f_M_isPlan_b5_s at h
  refine Gz.iload (i := 4) (pc' := 7) (by decide +kernel) rfl 4 rfl ?_
  refine Gz.aload_n (q := 0) (pc' := 8) (by decide +kernel) rfl 0 rfl ?_
  refine Gz.getI (pc' := 11) (j := 44) fd_M_288 sh_107 rfl (by decide +kernel) rfl ?_
  refine Gz.icmp_ge (off := 44) (tgt := 55) (pc' := 14) (by decide +kernel) (by decide) rfl (fun c1 => ?_) (fun c1 => ?_)
  · have h := zok_t c1 h
    refine Gz.iload_n (q := 3) (pc' := 56) (by decide +kernel) rfl 3 rfl ?_
    obtain ⟨c2, h⟩ := zok_c h
    exact Gz.zreturn (by decide +kernel) rfl c2 (zok_sI h)
  · have h := zok_f c1 h
    refine Gz.iload_n (q := 1) (pc' := 15) (by decide +kernel) rfl 1 rfl ?_
    refine Gz.aload_n (q := 0) (pc' := 16) (by decide +kernel) rfl 0 rfl ?_
    refine Gz.getR (pc' := 19) (j := 45) 128 fd_M_75 sh_107 rfl (by decide +kernel) rfl ?_
    refine Gz.iload (i := 4) (pc' := 21) (by decide +kernel) rfl 4 rfl ?_
    obtain ⟨c3, h⟩ := zok_c h
    refine Gz.iald (pc' := 22) (n := 16807) (by decide +kernel) rfl rfl c3 ?_
    refine Gz.iconst (n := -1) (v := (-1 : Int32)) (pc' := 23) (by decide +kernel) rfl rfl ?_
    refine Gz.ixor (pc' := 24) (by decide +kernel) rfl ?_
    refine Gz.iand (pc' := 25) (by decide +kernel) rfl ?_
    refine Gz.if_eq (off := 6) (tgt := 31) (pc' := 28) (by decide +kernel) (by decide) rfl (fun c4 => ?_) (fun c4 => ?_)
    · have h := zok_t c4 h
      refine Gz.aload_n (q := 0) (pc' := 32) (by decide +kernel) rfl 0 rfl ?_
      refine Gz.getR (pc' := 35) (j := 45) 128 fd_M_75 sh_107 rfl (by decide +kernel) rfl ?_
      refine Gz.iload (i := 4) (pc' := 37) (by decide +kernel) rfl 4 rfl ?_
      obtain ⟨c5, h⟩ := zok_c h
      refine Gz.iald (pc' := 38) (n := 16807) (by decide +kernel) rfl rfl c5 ?_
      refine Gz.iload_n (q := 2) (pc' := 39) (by decide +kernel) rfl 2 rfl ?_
      refine Gz.callSI (st := []) (pc' := 42) [.int (w.1 128 (ix x4)), .int x2] (g_M_has (w.1 128 (ix x4)) x2 w) h ok_m_M_has lk_M_170 rfl (Nat.le_of_ble_eq_true rfl) (Nat.le_of_ble_eq_true rfl) (Nat.le_of_ble_eq_true rfl) (by decide +kernel) rfl (fun v6 w7 h => ?_)
      refine Gz.if_ne (off := 5) (tgt := 47) (pc' := 45) (by decide +kernel) (by decide) rfl (fun c8 => ?_) (fun c8 => ?_)
      · have h := zok_f c8 h
        refine Gz.iconst (n := 1) (v := (1 : Int32)) (pc' := 48) (by decide +kernel) rfl rfl ?_
        refine Gz.istore_n (q := 3) (pc' := 49) (L' := [(3, .int (1 : Int32)), (0, .ref 107), (1, .int x1), (2, .int x2), (4, .int x4)]) (by decide +kernel) rfl (Nat.le_of_ble_eq_true rfl) rfl ?_
        refine Gz.sub (L' := [(0, .ref 107), (1, .int x1), (2, .int x2), (3, .int (1 : Int32)), (4, .int x4)]) [1, 2, 3, 0, 4] rfl ?_
        exact g_M_isPlan_b49 k5 hk5 x1 x2 (1 : Int32) x4 w7 h
      · have h := zok_t c8 h
        refine Gz.iconst (n := 0) (v := (0 : Int32)) (pc' := 46) (by decide +kernel) rfl rfl ?_
        exact Gz.zreturn (by decide +kernel) rfl (by decide) (zok_sI h)
    · have h := zok_f c4 h
      refine Gz.goto (off := 21) (tgt := 49) (by decide +kernel) (by decide) ?_
      exact g_M_isPlan_b49 k5 hk5 x1 x2 x3 x4 w h
theorem g_M_isPlan_b5 {l : Launch} {Q : Option Value → gW → Prop} (x1 : Int32) (x2 : Int32) (x3 : Int32) (x4 : Int32) (w : gW) (h : zok eI (f_M_isPlan_b5 x1 x2 x3 x4 w) Q) : Gz l m_M_isPlan 2 5 [(0, .ref 107), (1, .int x1), (2, .int x2), (3, .int x3), (4, .int x4)] [] w Q := by
  have key : ∀ (n : Nat) (x1 : Int32) (x2 : Int32) (x3 : Int32) (x4 : Int32) (w : gW), zok eI (zfx (fun _ _ _ _ _ => none) (f_M_isPlan_b5_s) n x1 x2 x3 x4 w) Q → Gz l m_M_isPlan 2 5 [(0, .ref 107), (1, .int x1), (2, .int x2), (3, .int x3), (4, .int x4)] [] w Q := by
    intro n
    induction n with
    | zero => intro x1 x2 x3 x4 w h; exact zok_n h
    | succ n ih => intro x1 x2 x3 x4 w h; exact g_M_isPlan_b5_s _ ih x1 x2 x3 x4 w h
  exact key zFU x1 x2 x3 x4 w h
theorem g_M_isPlan {l : Launch} (a1 : Int32) (a2 : Int32) (w : gW) : gCt l m_M_isPlan 2 [.ref 107, .int a1, .int a2] w eI (f_M_isPlan a1 a2 w) := by
  intro Q h
  unfold f_M_isPlan at h
  show Gz l m_M_isPlan 2 0 [(0, .ref 107), (1, .int a1), (2, .int a2)] [] w Q
  refine Gz.iconst (n := 0) (v := (0 : Int32)) (pc' := 1) (by decide +kernel) rfl rfl ?_
  refine Gz.istore_n (q := 3) (pc' := 2) (L' := [(3, .int (0 : Int32)), (0, .ref 107), (1, .int a1), (2, .int a2)]) (by decide +kernel) rfl (Nat.le_of_ble_eq_true rfl) rfl ?_
  refine Gz.iconst (n := 0) (v := (0 : Int32)) (pc' := 3) (by decide +kernel) rfl rfl ?_
  refine Gz.istore (i := 4) (pc' := 5) (L' := [(4, .int (0 : Int32)), (3, .int (0 : Int32)), (0, .ref 107), (1, .int a1), (2, .int a2)]) (by decide +kernel) rfl (Nat.le_of_ble_eq_true rfl) rfl ?_
  refine Gz.sub (L' := [(0, .ref 107), (1, .int a1), (2, .int a2), (3, .int (0 : Int32)), (4, .int (0 : Int32))]) [2, 3, 4, 1, 0] rfl ?_
  exact g_M_isPlan_b5 a1 a2 (0 : Int32) (0 : Int32) w h
def f_M_plan_b100 (k44 : Int32 → Int32 → Int32 → Int32 → gW → Option (Int32 × gW)) (x1 : Int32) (x3 : Int32) (x4 : Int32) (x5 : Int32) (w : gW) : Option (Int32 × gW) :=
zl (x5 + (1 : Int32)) (fun v1 =>
k44 x1 x3 x4 v1 w)
def f_M_plan_b83 (k44 : Int32 → Int32 → Int32 → Int32 → gW → Option (Int32 × gW)) (x1 : Int32) (x3 : Int32) (x4 : Int32) (x5 : Int32) (w : gW) : Option (Int32 × gW) :=
zb (f_M_isPlan x5 x1 w) (fun v1 w2 =>
if v1 = 0 then
(f_M_plan_b100 k44 x1 x3 x4 x5 w2)
else
(f_M_plan_b100 k44 x1 x3 x5 x5 w2))
def f_M_plan_b44_s (k44 : Int32 → Int32 → Int32 → Int32 → gW → Option (Int32 × gW)) (x1 : Int32) (x3 : Int32) (x4 : Int32) (x5 : Int32) (w : gW) : Option (Int32 × gW) :=
if ((1 : Int32) <<< ((w.1 107 6) &&& 31)) ≤ x5 then
(if x4 = (-1 : Int32) then
(some ((-1 : Int32), w))
else
(if x3 = 0 then
(zb (f_Int_bitCount x4 w) (fun v4 w5 =>
some (v4, w5)))
else
(some (x4, w))))
else
(zb (f_M_has x5 x1 w) (fun v6 w7 =>
if v6 = 0 then
(if x4 = (-1 : Int32) then
(f_M_plan_b83 k44 x1 x3 x4 x5 w7)
else
(zb (f_Int_bitCount x5 w7) (fun v10 w11 =>
zb (f_Int_bitCount x4 w11) (fun v12 w13 =>
if v12 ≤ v10 then
(f_M_plan_b100 k44 x1 x3 x4 x5 w13)
else
(f_M_plan_b83 k44 x1 x3 x4 x5 w13)))))
else
(f_M_plan_b100 k44 x1 x3 x4 x5 w7)))
def f_M_plan_b44 : Int32 → Int32 → Int32 → Int32 → gW → Option (Int32 × gW) := zfx (fun _ _ _ _ _ => none) (f_M_plan_b44_s) zFU
def f_M_plan (a1 : Int32) (a2 : Int32) (a3 : Int32) (w : gW) : Option (Int32 × gW) :=
zl (zsI w 107 0 (0 : Int32)) (fun w1 =>
zb (f_M_isOath a1 w1) (fun v3 w4 =>
if v3 = 0 then
(some ((-1 : Int32), w4))
else
(zb (f_M_isSeenDay a2 w4) (fun v6 w7 =>
if v6 = 0 then
(some ((-1 : Int32), w7))
else
(zb (f_M_isIn (a3.toInt64) (0 : Int64) (1 : Int64) w7) (fun v9 w10 =>
if v9 = 0 then
(some ((-1 : Int32), w10))
else
(zb (f_M_layDay a2 w10) (fun _ w12 =>
f_M_plan_b44 a1 a3 (-1 : Int32) (0 : Int32) w12))))))))
theorem g_M_plan_b100 {l : Launch} {Q : Option Value → gW → Prop} (k44 : Int32 → Int32 → Int32 → Int32 → gW → Option (Int32 × gW)) (hk44 : ∀ (x1 : Int32) (x3 : Int32) (x4 : Int32) (x5 : Int32) (w : gW), zok eI (k44 x1 x3 x4 x5 w) Q → Gz l m_M_plan 58 44 [(0, .ref 107), (1, .int x1), (3, .int x3), (4, .int x4), (5, .int x5)] [] w Q) (x1 : Int32) (x3 : Int32) (x4 : Int32) (x5 : Int32) (w : gW) (h : zok eI (f_M_plan_b100 k44 x1 x3 x4 x5 w) Q) : Gz l m_M_plan 58 100 [(0, .ref 107), (1, .int x1), (3, .int x3), (4, .int x4), (5, .int x5)] [] w Q := by
  unfold f_M_plan_b100 at h
  obtain ⟨v1, e2⟩ : ∃ y : Int32, y = x5 + (1 : Int32) := ⟨_, rfl⟩
  have h := zok_l e2 h
  refine Gz.iinc (i := 5) (n := 1) (pc' := 103) (L' := [(5, .int v1), (0, .ref 107), (1, .int x1), (3, .int x3), (4, .int x4)]) v1 (by decide +kernel) rfl 4 rfl (by rw [e2]; rfl) (Nat.le_of_ble_eq_true rfl) rfl ?_
  refine Gz.goto (off := -59) (tgt := 44) (by decide +kernel) (by decide) ?_
  refine Gz.sub (L' := [(0, .ref 107), (1, .int x1), (3, .int x3), (4, .int x4), (5, .int v1)]) [1, 2, 3, 4, 0] rfl ?_
  exact hk44 x1 x3 x4 v1 w h
theorem g_M_plan_b83 {l : Launch} {Q : Option Value → gW → Prop} (k44 : Int32 → Int32 → Int32 → Int32 → gW → Option (Int32 × gW)) (hk44 : ∀ (x1 : Int32) (x3 : Int32) (x4 : Int32) (x5 : Int32) (w : gW), zok eI (k44 x1 x3 x4 x5 w) Q → Gz l m_M_plan 58 44 [(0, .ref 107), (1, .int x1), (3, .int x3), (4, .int x4), (5, .int x5)] [] w Q) (x1 : Int32) (x3 : Int32) (x4 : Int32) (x5 : Int32) (w : gW) (h : zok eI (f_M_plan_b83 k44 x1 x3 x4 x5 w) Q) : Gz l m_M_plan 58 83 [(0, .ref 107), (1, .int x1), (3, .int x3), (4, .int x4), (5, .int x5)] [] w Q := by
  unfold f_M_plan_b83 at h
  refine Gz.aload_n (q := 0) (pc' := 84) (by decide +kernel) rfl 0 rfl ?_
  refine Gz.iload (i := 5) (pc' := 86) (by decide +kernel) rfl 4 rfl ?_
  refine Gz.iload_n (q := 1) (pc' := 87) (by decide +kernel) rfl 1 rfl ?_
  refine Gz.callVI (st := []) (b := 107) (pc' := 90) [.int x5, .int x1] (g_M_isPlan x5 x1 w) h ok_m_M_isPlan lk_M_363 sh_107 rfl rfl rfl (Nat.le_of_ble_eq_true rfl) (Nat.le_of_ble_eq_true rfl) (Nat.le_of_ble_eq_true rfl) (by decide +kernel) rfl (fun v1 w2 h => ?_)
  refine Gz.if_ne (off := 6) (tgt := 96) (pc' := 93) (by decide +kernel) (by decide) rfl (fun c3 => ?_) (fun c3 => ?_)
  · have h := zok_f c3 h
    refine Gz.iload (i := 5) (pc' := 98) (by decide +kernel) rfl 4 rfl ?_
    refine Gz.istore (i := 4) (pc' := 100) (L' := [(4, .int x5), (0, .ref 107), (1, .int x1), (3, .int x3), (5, .int x5)]) (by decide +kernel) rfl (Nat.le_of_ble_eq_true rfl) rfl ?_
    refine Gz.sub (L' := [(0, .ref 107), (1, .int x1), (3, .int x3), (4, .int x5), (5, .int x5)]) [1, 2, 3, 0, 4] rfl ?_
    exact g_M_plan_b100 k44 hk44 x1 x3 x5 x5 w2 h
  · have h := zok_t c3 h
    refine Gz.goto (off := 7) (tgt := 100) (by decide +kernel) (by decide) ?_
    exact g_M_plan_b100 k44 hk44 x1 x3 x4 x5 w2 h
theorem g_M_plan_b44_s {l : Launch} {Q : Option Value → gW → Prop} (k44 : Int32 → Int32 → Int32 → Int32 → gW → Option (Int32 × gW)) (hk44 : ∀ (x1 : Int32) (x3 : Int32) (x4 : Int32) (x5 : Int32) (w : gW), zok eI (k44 x1 x3 x4 x5 w) Q → Gz l m_M_plan 58 44 [(0, .ref 107), (1, .int x1), (3, .int x3), (4, .int x4), (5, .int x5)] [] w Q) (x1 : Int32) (x3 : Int32) (x4 : Int32) (x5 : Int32) (w : gW) (h : zok eI (f_M_plan_b44_s k44 x1 x3 x4 x5 w) Q) : Gz l m_M_plan 58 44 [(0, .ref 107), (1, .int x1), (3, .int x3), (4, .int x4), (5, .int x5)] [] w Q := by
  unfold f_M_plan_b44_s at h
  refine Gz.iload (i := 5) (pc' := 46) (by decide +kernel) rfl 4 rfl ?_
  refine Gz.iconst (n := 1) (v := (1 : Int32)) (pc' := 47) (by decide +kernel) rfl rfl ?_
  refine Gz.aload_n (q := 0) (pc' := 48) (by decide +kernel) rfl 0 rfl ?_
  refine Gz.getI (pc' := 51) (j := 6) fd_M_203 sh_107 rfl (by decide +kernel) rfl ?_
  refine Gz.ishl (pc' := 52) (by decide +kernel) rfl ?_
  refine Gz.icmp_ge (off := 54) (tgt := 106) (pc' := 55) (by decide +kernel) (by decide) rfl (fun c1 => ?_) (fun c1 => ?_)
  · have h := zok_t c1 h
    refine Gz.iload (i := 4) (pc' := 108) (by decide +kernel) rfl 3 rfl ?_
    refine Gz.iconst (n := -1) (v := (-1 : Int32)) (pc' := 109) (by decide +kernel) rfl rfl ?_
    refine Gz.icmp_ne (off := 7) (tgt := 116) (pc' := 112) (by decide +kernel) (by decide) rfl (fun c2 => ?_) (fun c2 => ?_)
    · have h := zok_f c2 h
      refine Gz.iload_n (q := 3) (pc' := 117) (by decide +kernel) rfl 2 rfl ?_
      refine Gz.if_ne (off := 11) (tgt := 128) (pc' := 120) (by decide +kernel) (by decide) rfl (fun c3 => ?_) (fun c3 => ?_)
      · have h := zok_f c3 h
        refine Gz.iload (i := 4) (pc' := 130) (by decide +kernel) rfl 3 rfl ?_
        exact Gz.ireturn (by decide +kernel) rfl (zok_sI h)
      · have h := zok_t c3 h
        refine Gz.iload (i := 4) (pc' := 122) (by decide +kernel) rfl 3 rfl ?_
        refine Gz.callSI (st := []) (pc' := 125) [.int x4] (g_Int_bitCount x4 w) h ok_m_Int_bitCount lk_M_297 rfl (Nat.le_of_ble_eq_true rfl) (Nat.le_of_ble_eq_true rfl) (Nat.le_of_ble_eq_true rfl) (by decide +kernel) rfl (fun v4 w5 h => ?_)
        refine Gz.goto (off := 5) (tgt := 130) (by decide +kernel) (by decide) ?_
        exact Gz.ireturn (by decide +kernel) rfl (zok_sI h)
    · have h := zok_t c2 h
      refine Gz.iconst (n := -1) (v := (-1 : Int32)) (pc' := 113) (by decide +kernel) rfl rfl ?_
      refine Gz.goto (off := 17) (tgt := 130) (by decide +kernel) (by decide) ?_
      exact Gz.ireturn (by decide +kernel) rfl (zok_sI h)
  · have h := zok_f c1 h
    refine Gz.iload (i := 5) (pc' := 57) (by decide +kernel) rfl 4 rfl ?_
    refine Gz.iload_n (q := 1) (pc' := 58) (by decide +kernel) rfl 1 rfl ?_
    refine Gz.callSI (st := []) (pc' := 61) [.int x5, .int x1] (g_M_has x5 x1 w) h ok_m_M_has lk_M_170 rfl (Nat.le_of_ble_eq_true rfl) (Nat.le_of_ble_eq_true rfl) (Nat.le_of_ble_eq_true rfl) (by decide +kernel) rfl (fun v6 w7 h => ?_)
    refine Gz.if_ne (off := 39) (tgt := 100) (pc' := 64) (by decide +kernel) (by decide) rfl (fun c8 => ?_) (fun c8 => ?_)
    · have h := zok_f c8 h
      exact g_M_plan_b100 k44 hk44 x1 x3 x4 x5 w7 h
    · have h := zok_t c8 h
      refine Gz.iload (i := 4) (pc' := 66) (by decide +kernel) rfl 3 rfl ?_
      refine Gz.iconst (n := -1) (v := (-1 : Int32)) (pc' := 67) (by decide +kernel) rfl rfl ?_
      refine Gz.icmp_eq (off := 16) (tgt := 83) (pc' := 70) (by decide +kernel) (by decide) rfl (fun c9 => ?_) (fun c9 => ?_)
      · have h := zok_t c9 h
        exact g_M_plan_b83 k44 hk44 x1 x3 x4 x5 w7 h
      · have h := zok_f c9 h
        refine Gz.iload (i := 5) (pc' := 72) (by decide +kernel) rfl 4 rfl ?_
        refine Gz.callSI (st := []) (pc' := 75) [.int x5] (g_Int_bitCount x5 w7) h ok_m_Int_bitCount lk_M_297 rfl (Nat.le_of_ble_eq_true rfl) (Nat.le_of_ble_eq_true rfl) (Nat.le_of_ble_eq_true rfl) (by decide +kernel) rfl (fun v10 w11 h => ?_)
        refine Gz.iload (i := 4) (pc' := 77) (by decide +kernel) rfl 3 rfl ?_
        refine Gz.callSI (st := [.int v10]) (pc' := 80) [.int x4] (g_Int_bitCount x4 w11) h ok_m_Int_bitCount lk_M_297 rfl (Nat.le_of_ble_eq_true rfl) (Nat.le_of_ble_eq_true rfl) (Nat.le_of_ble_eq_true rfl) (by decide +kernel) rfl (fun v12 w13 h => ?_)
        refine Gz.icmp_ge (off := 20) (tgt := 100) (pc' := 83) (by decide +kernel) (by decide) rfl (fun c14 => ?_) (fun c14 => ?_)
        · have h := zok_t c14 h
          exact g_M_plan_b100 k44 hk44 x1 x3 x4 x5 w13 h
        · have h := zok_f c14 h
          exact g_M_plan_b83 k44 hk44 x1 x3 x4 x5 w13 h
theorem g_M_plan_b44 {l : Launch} {Q : Option Value → gW → Prop} (x1 : Int32) (x3 : Int32) (x4 : Int32) (x5 : Int32) (w : gW) (h : zok eI (f_M_plan_b44 x1 x3 x4 x5 w) Q) : Gz l m_M_plan 58 44 [(0, .ref 107), (1, .int x1), (3, .int x3), (4, .int x4), (5, .int x5)] [] w Q := by
  have key : ∀ (n : Nat) (x1 : Int32) (x3 : Int32) (x4 : Int32) (x5 : Int32) (w : gW), zok eI (zfx (fun _ _ _ _ _ => none) (f_M_plan_b44_s) n x1 x3 x4 x5 w) Q → Gz l m_M_plan 58 44 [(0, .ref 107), (1, .int x1), (3, .int x3), (4, .int x4), (5, .int x5)] [] w Q := by
    intro n
    induction n with
    | zero => intro x1 x3 x4 x5 w h; exact zok_n h
    | succ n ih => intro x1 x3 x4 x5 w h; exact g_M_plan_b44_s _ ih x1 x3 x4 x5 w h
  exact key zFU x1 x3 x4 x5 w h
theorem g_M_plan {l : Launch} (a1 : Int32) (a2 : Int32) (a3 : Int32) (w : gW) : gCt l m_M_plan 58 [.ref 107, .int a1, .int a2, .int a3] w eI (f_M_plan a1 a2 a3 w) := by
  intro Q h
  unfold f_M_plan at h
  show Gz l m_M_plan 58 0 [(0, .ref 107), (1, .int a1), (2, .int a2), (3, .int a3)] [] w Q
  refine Gz.aload_n (q := 0) (pc' := 1) (by decide +kernel) rfl 0 rfl ?_
  refine Gz.iconst (n := 0) (v := (0 : Int32)) (pc' := 2) (by decide +kernel) rfl rfl ?_
  refine Gz.putI (pc' := 5) (j := 0) fd_M_96 sh_107 rfl (by decide +kernel) rfl ?_
  refine Gz.nmW (fun w1 e2 => ?_)
  have h := zok_l e2 h
  refine Gz.aload_n (q := 0) (pc' := 6) (by decide +kernel) rfl 0 rfl ?_
  refine Gz.iload_n (q := 1) (pc' := 7) (by decide +kernel) rfl 1 rfl ?_
  refine Gz.callVI (st := []) (b := 107) (pc' := 10) [.int a1] (g_M_isOath a1 w1) h ok_m_M_isOath lk_M_241 sh_107 rfl rfl rfl (Nat.le_of_ble_eq_true rfl) (Nat.le_of_ble_eq_true rfl) (Nat.le_of_ble_eq_true rfl) (by decide +kernel) rfl (fun v3 w4 h => ?_)
  refine Gz.if_eq (off := 21) (tgt := 31) (pc' := 13) (by decide +kernel) (by decide) rfl (fun c5 => ?_) (fun c5 => ?_)
  · have h := zok_t c5 h
    refine Gz.iconst (n := -1) (v := (-1 : Int32)) (pc' := 32) (by decide +kernel) rfl rfl ?_
    exact Gz.ireturn (by decide +kernel) rfl (zok_sI h)
  · have h := zok_f c5 h
    refine Gz.aload_n (q := 0) (pc' := 14) (by decide +kernel) rfl 0 rfl ?_
    refine Gz.iload_n (q := 2) (pc' := 15) (by decide +kernel) rfl 2 rfl ?_
    refine Gz.callVI (st := []) (b := 107) (pc' := 18) [.int a2] (g_M_isSeenDay a2 w4) h ok_m_M_isSeenDay lk_M_244 sh_107 rfl rfl rfl (Nat.le_of_ble_eq_true rfl) (Nat.le_of_ble_eq_true rfl) (Nat.le_of_ble_eq_true rfl) (by decide +kernel) rfl (fun v6 w7 h => ?_)
    refine Gz.if_eq (off := 13) (tgt := 31) (pc' := 21) (by decide +kernel) (by decide) rfl (fun c8 => ?_) (fun c8 => ?_)
    · have h := zok_t c8 h
      refine Gz.iconst (n := -1) (v := (-1 : Int32)) (pc' := 32) (by decide +kernel) rfl rfl ?_
      exact Gz.ireturn (by decide +kernel) rfl (zok_sI h)
    · have h := zok_f c8 h
      refine Gz.iload_n (q := 3) (pc' := 22) (by decide +kernel) rfl 3 rfl ?_
      refine Gz.i2l (pc' := 23) (by decide +kernel) rfl ?_
      refine Gz.lconst (n := 0) (v := (0 : Int64)) (pc' := 24) (by decide +kernel) rfl rfl ?_
      refine Gz.lconst (n := 1) (v := (1 : Int64)) (pc' := 25) (by decide +kernel) rfl rfl ?_
      refine Gz.callSI (st := []) (pc' := 28) [.long (a3.toInt64), .long (0 : Int64), .long (1 : Int64)] (g_M_isIn (a3.toInt64) (0 : Int64) (1 : Int64) w7) h ok_m_M_isIn lk_M_137 rfl (Nat.le_of_ble_eq_true rfl) (Nat.le_of_ble_eq_true rfl) (Nat.le_of_ble_eq_true rfl) (by decide +kernel) rfl (fun v9 w10 h => ?_)
      refine Gz.if_ne (off := 5) (tgt := 33) (pc' := 31) (by decide +kernel) (by decide) rfl (fun c11 => ?_) (fun c11 => ?_)
      · have h := zok_f c11 h
        refine Gz.aload_n (q := 0) (pc' := 34) (by decide +kernel) rfl 0 rfl ?_
        refine Gz.iload_n (q := 2) (pc' := 35) (by decide +kernel) rfl 2 rfl ?_
        refine Gz.callVV (st := []) (b := 107) (pc' := 38) [.int a2] (g_M_layDay a2 w10) h ok_m_M_layDay lk_M_305 sh_107 rfl rfl rfl (Nat.le_of_ble_eq_true rfl) (Nat.le_of_ble_eq_true rfl) (Nat.le_of_ble_eq_true rfl) (by decide +kernel) rfl (fun _ w12 h => ?_)
        refine Gz.iconst (n := -1) (v := (-1 : Int32)) (pc' := 39) (by decide +kernel) rfl rfl ?_
        refine Gz.istore (i := 4) (pc' := 41) (L' := [(4, .int (-1 : Int32)), (0, .ref 107), (1, .int a1), (2, .int a2), (3, .int a3)]) (by decide +kernel) rfl (Nat.le_of_ble_eq_true rfl) rfl ?_
        refine Gz.iconst (n := 0) (v := (0 : Int32)) (pc' := 42) (by decide +kernel) rfl rfl ?_
        refine Gz.istore (i := 5) (pc' := 44) (L' := [(5, .int (0 : Int32)), (4, .int (-1 : Int32)), (0, .ref 107), (1, .int a1), (2, .int a2), (3, .int a3)]) (by decide +kernel) rfl (Nat.le_of_ble_eq_true rfl) rfl ?_
        refine Gz.sub (L' := [(0, .ref 107), (1, .int a1), (3, .int a3), (4, .int (-1 : Int32)), (5, .int (0 : Int32))]) [2, 3, 5, 1, 0] rfl ?_
        exact g_M_plan_b44 a1 a3 (-1 : Int32) (0 : Int32) w12 h
      · have h := zok_t c11 h
        refine Gz.iconst (n := -1) (v := (-1 : Int32)) (pc' := 32) (by decide +kernel) rfl rfl ?_
        exact Gz.ireturn (by decide +kernel) rfl (zok_sI h)
