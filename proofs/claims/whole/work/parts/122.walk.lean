def f_M_mean_b22 (w : gW) : Option (Int64 × gW) :=
some ((-1 : Int64), w)
def f_M_mean_b86 (k34 : Int32 → Int64 → Int64 → Int32 → gW → Option (Int64 × gW)) (x1 : Int32) (x2 : Int64) (x4 : Int64) (x6 : Int32) (w : gW) : Option (Int64 × gW) :=
zl (x6 + (1 : Int32)) (fun v1 =>
k34 x1 x2 x4 v1 w)
def f_M_mean_b34_s (k34 : Int32 → Int64 → Int64 → Int32 → gW → Option (Int64 × gW)) (x1 : Int32) (x2 : Int64) (x4 : Int64) (x6 : Int32) (w : gW) : Option (Int64 × gW) :=
if (w.1 107 26) ≤ x6 then
(zb (f_M_partOf x2 x4 x1 w) (fun v2 w3 =>
some (v2, w3)))
else
(if inb x6 16807 then
zb (f_M_live (w.1 118 (ix x6)) w) (fun _ w5 =>
zb (f_M_fits w5) (fun v6 w7 =>
if v6 = 0 then
(f_M_mean_b86 k34 x1 x2 x4 x6 w7)
else
(zb (f_M_weight w7) (fun v9 w10 =>
zl (x4 + v9) (fun v11 =>
zb (f_M_weight w10) (fun v13 w14 =>
zb (f_M_doneMany w14) (fun v15 w16 =>
zl (x2 + (v13 * (v15.toInt64))) (fun v17 =>
f_M_mean_b86 k34 x1 v17 v11 x6 w16))))))))
else none)
def f_M_mean_b34 : Int32 → Int64 → Int64 → Int32 → gW → Option (Int64 × gW) := zfx (fun _ _ _ _ _ => none) (f_M_mean_b34_s) zFU
def f_M_mean (a1 : Int32) (w : gW) : Option (Int64 × gW) :=
zl (zsI w 107 0 (0 : Int32)) (fun w1 =>
if (w1.1 107 21) = 0 then
(f_M_mean_b22 w1)
else
(zb (f_M_isIn (a1.toInt64) (0 : Int64) (1 : Int64) w1) (fun v4 w5 =>
if v4 = 0 then
(f_M_mean_b22 w5)
else
(f_M_mean_b34 a1 (0 : Int64) (0 : Int64) (0 : Int32) w5))))
theorem g_M_mean_b22 {l : Launch} {Q : Option Value → gW → Prop} (w : gW) (h : zok eJ (f_M_mean_b22 w) Q) : Gz l m_M_mean 57 22 [] [] w Q := by
  unfold f_M_mean_b22 at h
  refine Gz.ldc2 (idx := 331) (v := (-1 : Int64)) (pc' := 25) (by decide +kernel) rfl kc_M_331 ?_
  exact Gz.lreturn (by decide +kernel) rfl (zok_sJ h)
theorem g_M_mean_b86 {l : Launch} {Q : Option Value → gW → Prop} (k34 : Int32 → Int64 → Int64 → Int32 → gW → Option (Int64 × gW)) (hk34 : ∀ (x1 : Int32) (x2 : Int64) (x4 : Int64) (x6 : Int32) (w : gW), zok eJ (k34 x1 x2 x4 x6 w) Q → Gz l m_M_mean 57 34 [(0, .ref 107), (1, .int x1), (2, .long x2), (4, .long x4), (6, .int x6)] [] w Q) (x1 : Int32) (x2 : Int64) (x4 : Int64) (x6 : Int32) (w : gW) (h : zok eJ (f_M_mean_b86 k34 x1 x2 x4 x6 w) Q) : Gz l m_M_mean 57 86 [(0, .ref 107), (1, .int x1), (2, .long x2), (4, .long x4), (6, .int x6)] [] w Q := by
  unfold f_M_mean_b86 at h
  obtain ⟨v1, e2⟩ : ∃ y : Int32, y = x6 + (1 : Int32) := ⟨_, rfl⟩
  have h := zok_l e2 h
  refine Gz.iinc (i := 6) (n := 1) (pc' := 89) (L' := [(6, .int v1), (0, .ref 107), (1, .int x1), (2, .long x2), (4, .long x4)]) v1 (by decide +kernel) rfl 4 rfl (by rw [e2]; rfl) (Nat.le_of_ble_eq_true rfl) rfl ?_
  refine Gz.goto (off := -55) (tgt := 34) (by decide +kernel) (by decide) ?_
  refine Gz.sub (L' := [(0, .ref 107), (1, .int x1), (2, .long x2), (4, .long x4), (6, .int v1)]) [1, 2, 3, 4, 0] rfl ?_
  exact hk34 x1 x2 x4 v1 w h
theorem g_M_mean_b34_s {l : Launch} {Q : Option Value → gW → Prop} (k34 : Int32 → Int64 → Int64 → Int32 → gW → Option (Int64 × gW)) (hk34 : ∀ (x1 : Int32) (x2 : Int64) (x4 : Int64) (x6 : Int32) (w : gW), zok eJ (k34 x1 x2 x4 x6 w) Q → Gz l m_M_mean 57 34 [(0, .ref 107), (1, .int x1), (2, .long x2), (4, .long x4), (6, .int x6)] [] w Q) (x1 : Int32) (x2 : Int64) (x4 : Int64) (x6 : Int32) (w : gW) (h : zok eJ (f_M_mean_b34_s k34 x1 x2 x4 x6 w) Q) : Gz l m_M_mean 57 34 [(0, .ref 107), (1, .int x1), (2, .long x2), (4, .long x4), (6, .int x6)] [] w Q := by
  unfold f_M_mean_b34_s at h
  refine Gz.iload (i := 6) (pc' := 36) (by decide +kernel) rfl 4 rfl ?_
  refine Gz.aload_n (q := 0) (pc' := 37) (by decide +kernel) rfl 0 rfl ?_
  refine Gz.getI (pc' := 40) (j := 26) fd_M_224 sh_107 rfl (by decide +kernel) rfl ?_
  refine Gz.icmp_ge (off := 52) (tgt := 92) (pc' := 43) (by decide +kernel) (by decide) rfl (fun c1 => ?_) (fun c1 => ?_)
  · have h := zok_t c1 h
    refine Gz.lload_n (q := 2) (pc' := 93) (by decide +kernel) rfl 2 rfl ?_
    refine Gz.lload (i := 4) (pc' := 95) (by decide +kernel) rfl 3 rfl ?_
    refine Gz.iload_n (q := 1) (pc' := 96) (by decide +kernel) rfl 1 rfl ?_
    refine Gz.callSJ (st := []) (pc' := 99) [.long x2, .long x4, .int x1] (g_M_partOf x2 x4 x1 w) h ok_m_M_partOf lk_M_337 rfl (Nat.le_of_ble_eq_true rfl) (Nat.le_of_ble_eq_true rfl) (Nat.le_of_ble_eq_true rfl) (by decide +kernel) rfl (fun v2 w3 h => ?_)
    exact Gz.lreturn (by decide +kernel) rfl (zok_sJ h)
  · have h := zok_f c1 h
    refine Gz.aload_n (q := 0) (pc' := 44) (by decide +kernel) rfl 0 rfl ?_
    refine Gz.aload_n (q := 0) (pc' := 45) (by decide +kernel) rfl 0 rfl ?_
    refine Gz.getR (pc' := 48) (j := 25) 118 fd_M_44 sh_107 rfl (by decide +kernel) rfl ?_
    refine Gz.iload (i := 6) (pc' := 50) (by decide +kernel) rfl 4 rfl ?_
    obtain ⟨c4, h⟩ := zok_c h
    refine Gz.iald (pc' := 51) (n := 16807) (by decide +kernel) rfl rfl c4 ?_
    refine Gz.callVV (st := []) (b := 107) (pc' := 54) [.int (w.1 118 (ix x6))] (g_M_live (w.1 118 (ix x6)) w) h ok_m_M_live lk_M_231 sh_107 rfl rfl rfl (Nat.le_of_ble_eq_true rfl) (Nat.le_of_ble_eq_true rfl) (Nat.le_of_ble_eq_true rfl) (by decide +kernel) rfl (fun _ w5 h => ?_)
    refine Gz.aload_n (q := 0) (pc' := 55) (by decide +kernel) rfl 0 rfl ?_
    refine Gz.callVI (st := []) (b := 107) (pc' := 58) [] (g_M_fits w5) h ok_m_M_fits lk_M_267 sh_107 rfl rfl rfl (Nat.le_of_ble_eq_true rfl) (Nat.le_of_ble_eq_true rfl) (Nat.le_of_ble_eq_true rfl) (by decide +kernel) rfl (fun v6 w7 h => ?_)
    refine Gz.if_ne (off := 6) (tgt := 64) (pc' := 61) (by decide +kernel) (by decide) rfl (fun c8 => ?_) (fun c8 => ?_)
    · have h := zok_f c8 h
      refine Gz.lload (i := 4) (pc' := 66) (by decide +kernel) rfl 3 rfl ?_
      refine Gz.aload_n (q := 0) (pc' := 67) (by decide +kernel) rfl 0 rfl ?_
      refine Gz.callVJ (st := [.long x4]) (b := 107) (pc' := 70) [] (g_M_weight w7) h ok_m_M_weight lk_M_333 sh_107 rfl rfl rfl (Nat.le_of_ble_eq_true rfl) (Nat.le_of_ble_eq_true rfl) (Nat.le_of_ble_eq_true rfl) (by decide +kernel) rfl (fun v9 w10 h => ?_)
      refine Gz.ladd (pc' := 71) (by decide +kernel) rfl ?_
      refine Gz.nmJ (fun v11 e12 => ?_)
      have h := zok_l e12 h
      refine Gz.lstore (i := 4) (pc' := 73) (L' := [(4, .long v11), (0, .ref 107), (1, .int x1), (2, .long x2), (6, .int x6)]) (by decide +kernel) rfl (Nat.le_of_ble_eq_true rfl) rfl ?_
      refine Gz.lload_n (q := 2) (pc' := 74) (by decide +kernel) rfl 3 rfl ?_
      refine Gz.aload_n (q := 0) (pc' := 75) (by decide +kernel) rfl 1 rfl ?_
      refine Gz.callVJ (st := [.long x2]) (b := 107) (pc' := 78) [] (g_M_weight w10) h ok_m_M_weight lk_M_333 sh_107 rfl rfl rfl (Nat.le_of_ble_eq_true rfl) (Nat.le_of_ble_eq_true rfl) (Nat.le_of_ble_eq_true rfl) (by decide +kernel) rfl (fun v13 w14 h => ?_)
      refine Gz.aload_n (q := 0) (pc' := 79) (by decide +kernel) rfl 1 rfl ?_
      refine Gz.callVI (st := [.long v13, .long x2]) (b := 107) (pc' := 82) [] (g_M_doneMany w14) h ok_m_M_doneMany lk_M_369 sh_107 rfl rfl rfl (Nat.le_of_ble_eq_true rfl) (Nat.le_of_ble_eq_true rfl) (Nat.le_of_ble_eq_true rfl) (by decide +kernel) rfl (fun v15 w16 h => ?_)
      refine Gz.i2l (pc' := 83) (by decide +kernel) rfl ?_
      refine Gz.lmul (pc' := 84) (by decide +kernel) rfl ?_
      refine Gz.ladd (pc' := 85) (by decide +kernel) rfl ?_
      refine Gz.nmJ (fun v17 e18 => ?_)
      have h := zok_l e18 h
      refine Gz.lstore_n (q := 2) (pc' := 86) (L' := [(2, .long v17), (4, .long v11), (0, .ref 107), (1, .int x1), (6, .int x6)]) (by decide +kernel) rfl (Nat.le_of_ble_eq_true rfl) rfl ?_
      refine Gz.sub (L' := [(0, .ref 107), (1, .int x1), (2, .long v17), (4, .long v11), (6, .int x6)]) [2, 3, 0, 1, 4] rfl ?_
      exact g_M_mean_b86 k34 hk34 x1 v17 v11 x6 w16 h
    · have h := zok_t c8 h
      refine Gz.goto (off := 25) (tgt := 86) (by decide +kernel) (by decide) ?_
      exact g_M_mean_b86 k34 hk34 x1 x2 x4 x6 w7 h
theorem g_M_mean_b34 {l : Launch} {Q : Option Value → gW → Prop} (x1 : Int32) (x2 : Int64) (x4 : Int64) (x6 : Int32) (w : gW) (h : zok eJ (f_M_mean_b34 x1 x2 x4 x6 w) Q) : Gz l m_M_mean 57 34 [(0, .ref 107), (1, .int x1), (2, .long x2), (4, .long x4), (6, .int x6)] [] w Q := by
  have key : ∀ (n : Nat) (x1 : Int32) (x2 : Int64) (x4 : Int64) (x6 : Int32) (w : gW), zok eJ (zfx (fun _ _ _ _ _ => none) (f_M_mean_b34_s) n x1 x2 x4 x6 w) Q → Gz l m_M_mean 57 34 [(0, .ref 107), (1, .int x1), (2, .long x2), (4, .long x4), (6, .int x6)] [] w Q := by
    intro n
    induction n with
    | zero => intro x1 x2 x4 x6 w h; exact zok_n h
    | succ n ih => intro x1 x2 x4 x6 w h; exact g_M_mean_b34_s _ ih x1 x2 x4 x6 w h
  exact key zFU x1 x2 x4 x6 w h
theorem g_M_mean {l : Launch} (a1 : Int32) (w : gW) : gCt l m_M_mean 57 [.ref 107, .int a1] w eJ (f_M_mean a1 w) := by
  intro Q h
  unfold f_M_mean at h
  show Gz l m_M_mean 57 0 [(0, .ref 107), (1, .int a1)] [] w Q
  refine Gz.aload_n (q := 0) (pc' := 1) (by decide +kernel) rfl 0 rfl ?_
  refine Gz.iconst (n := 0) (v := (0 : Int32)) (pc' := 2) (by decide +kernel) rfl rfl ?_
  refine Gz.putI (pc' := 5) (j := 0) fd_M_96 sh_107 rfl (by decide +kernel) rfl ?_
  refine Gz.nmW (fun w1 e2 => ?_)
  have h := zok_l e2 h
  refine Gz.aload_n (q := 0) (pc' := 6) (by decide +kernel) rfl 0 rfl ?_
  refine Gz.getI (pc' := 9) (j := 21) fd_M_141 sh_107 rfl (by decide +kernel) rfl ?_
  refine Gz.if_eq (off := 13) (tgt := 22) (pc' := 12) (by decide +kernel) (by decide) rfl (fun c3 => ?_) (fun c3 => ?_)
  · have h := zok_t c3 h
    refine Gz.sub (L' := []) [] rfl ?_
    exact g_M_mean_b22 w1 h
  · have h := zok_f c3 h
    refine Gz.iload_n (q := 1) (pc' := 13) (by decide +kernel) rfl 1 rfl ?_
    refine Gz.i2l (pc' := 14) (by decide +kernel) rfl ?_
    refine Gz.lconst (n := 0) (v := (0 : Int64)) (pc' := 15) (by decide +kernel) rfl rfl ?_
    refine Gz.lconst (n := 1) (v := (1 : Int64)) (pc' := 16) (by decide +kernel) rfl rfl ?_
    refine Gz.callSI (st := []) (pc' := 19) [.long (a1.toInt64), .long (0 : Int64), .long (1 : Int64)] (g_M_isIn (a1.toInt64) (0 : Int64) (1 : Int64) w1) h ok_m_M_isIn lk_M_137 rfl (Nat.le_of_ble_eq_true rfl) (Nat.le_of_ble_eq_true rfl) (Nat.le_of_ble_eq_true rfl) (by decide +kernel) rfl (fun v4 w5 h => ?_)
    refine Gz.if_ne (off := 7) (tgt := 26) (pc' := 22) (by decide +kernel) (by decide) rfl (fun c6 => ?_) (fun c6 => ?_)
    · have h := zok_f c6 h
      refine Gz.lconst (n := 0) (v := (0 : Int64)) (pc' := 27) (by decide +kernel) rfl rfl ?_
      refine Gz.lstore_n (q := 2) (pc' := 28) (L' := [(2, .long (0 : Int64)), (0, .ref 107), (1, .int a1)]) (by decide +kernel) rfl (Nat.le_of_ble_eq_true rfl) rfl ?_
      refine Gz.lconst (n := 0) (v := (0 : Int64)) (pc' := 29) (by decide +kernel) rfl rfl ?_
      refine Gz.lstore (i := 4) (pc' := 31) (L' := [(4, .long (0 : Int64)), (2, .long (0 : Int64)), (0, .ref 107), (1, .int a1)]) (by decide +kernel) rfl (Nat.le_of_ble_eq_true rfl) rfl ?_
      refine Gz.iconst (n := 0) (v := (0 : Int32)) (pc' := 32) (by decide +kernel) rfl rfl ?_
      refine Gz.istore (i := 6) (pc' := 34) (L' := [(6, .int (0 : Int32)), (4, .long (0 : Int64)), (2, .long (0 : Int64)), (0, .ref 107), (1, .int a1)]) (by decide +kernel) rfl (Nat.le_of_ble_eq_true rfl) rfl ?_
      refine Gz.sub (L' := [(0, .ref 107), (1, .int a1), (2, .long (0 : Int64)), (4, .long (0 : Int64)), (6, .int (0 : Int32))]) [3, 4, 2, 1, 0] rfl ?_
      exact g_M_mean_b34 a1 (0 : Int64) (0 : Int64) (0 : Int32) w5 h
    · have h := zok_t c6 h
      refine Gz.sub (L' := []) [] rfl ?_
      exact g_M_mean_b22 w5 h
def f_M_likeliest_b78 (k21 : Int32 → Int64 → Int32 → gW → Option (Int32 × gW)) (x1 : Int32) (x2 : Int64) (x4 : Int32) (w : gW) : Option (Int32 × gW) :=
zl (x4 + (1 : Int32)) (fun v1 =>
k21 x1 x2 v1 w)
def f_M_likeliest_b65 (k21 : Int32 → Int64 → Int32 → gW → Option (Int32 × gW)) (x4 : Int32) (w : gW) : Option (Int32 × gW) :=
if inb x4 16807 then
zl (w.1 118 (ix x4)) (fun v2 =>
zb (f_M_weight w) (fun v4 w5 =>
f_M_likeliest_b78 k21 v2 v4 x4 w5))
else none
def f_M_likeliest_b21_s (k21 : Int32 → Int64 → Int32 → gW → Option (Int32 × gW)) (x1 : Int32) (x2 : Int64) (x4 : Int32) (w : gW) : Option (Int32 × gW) :=
if (w.1 107 26) ≤ x4 then
(some (x1, w))
else
(if inb x4 16807 then
zb (f_M_live (w.1 118 (ix x4)) w) (fun _ w3 =>
zb (f_M_fits w3) (fun v4 w5 =>
if v4 = 0 then
(f_M_likeliest_b78 k21 x1 x2 x4 w5)
else
(if x1 = (-1 : Int32) then
(f_M_likeliest_b65 k21 x4 w5)
else
(zb (f_M_weight w5) (fun v8 w9 =>
if 0 < (lg_cmp v8 x2) then
(f_M_likeliest_b65 k21 x4 w9)
else
(f_M_likeliest_b78 k21 x1 x2 x4 w9))))))
else none)
def f_M_likeliest_b21 : Int32 → Int64 → Int32 → gW → Option (Int32 × gW) := zfx (fun _ _ _ _ => none) (f_M_likeliest_b21_s) zFU
def f_M_likeliest (w : gW) : Option (Int32 × gW) :=
zl (zsI w 107 0 (0 : Int32)) (fun w1 =>
if (w1.1 107 21) = 0 then
(some ((-1 : Int32), w1))
else
(f_M_likeliest_b21 (-1 : Int32) (0 : Int64) (0 : Int32) w1))
theorem g_M_likeliest_b78 {l : Launch} {Q : Option Value → gW → Prop} (k21 : Int32 → Int64 → Int32 → gW → Option (Int32 × gW)) (hk21 : ∀ (x1 : Int32) (x2 : Int64) (x4 : Int32) (w : gW), zok eI (k21 x1 x2 x4 w) Q → Gz l m_M_likeliest 57 21 [(0, .ref 107), (1, .int x1), (2, .long x2), (4, .int x4)] [] w Q) (x1 : Int32) (x2 : Int64) (x4 : Int32) (w : gW) (h : zok eI (f_M_likeliest_b78 k21 x1 x2 x4 w) Q) : Gz l m_M_likeliest 57 78 [(0, .ref 107), (1, .int x1), (2, .long x2), (4, .int x4)] [] w Q := by
  unfold f_M_likeliest_b78 at h
  obtain ⟨v1, e2⟩ : ∃ y : Int32, y = x4 + (1 : Int32) := ⟨_, rfl⟩
  have h := zok_l e2 h
  refine Gz.iinc (i := 4) (n := 1) (pc' := 81) (L' := [(4, .int v1), (0, .ref 107), (1, .int x1), (2, .long x2)]) v1 (by decide +kernel) rfl 3 rfl (by rw [e2]; rfl) (Nat.le_of_ble_eq_true rfl) rfl ?_
  refine Gz.goto (off := -60) (tgt := 21) (by decide +kernel) (by decide) ?_
  refine Gz.sub (L' := [(0, .ref 107), (1, .int x1), (2, .long x2), (4, .int v1)]) [1, 2, 3, 0] rfl ?_
  exact hk21 x1 x2 v1 w h
theorem g_M_likeliest_b65 {l : Launch} {Q : Option Value → gW → Prop} (k21 : Int32 → Int64 → Int32 → gW → Option (Int32 × gW)) (hk21 : ∀ (x1 : Int32) (x2 : Int64) (x4 : Int32) (w : gW), zok eI (k21 x1 x2 x4 w) Q → Gz l m_M_likeliest 57 21 [(0, .ref 107), (1, .int x1), (2, .long x2), (4, .int x4)] [] w Q) (x4 : Int32) (w : gW) (h : zok eI (f_M_likeliest_b65 k21 x4 w) Q) : Gz l m_M_likeliest 57 65 [(0, .ref 107), (4, .int x4)] [] w Q := by
  unfold f_M_likeliest_b65 at h
  refine Gz.aload_n (q := 0) (pc' := 66) (by decide +kernel) rfl 0 rfl ?_
  refine Gz.getR (pc' := 69) (j := 25) 118 fd_M_44 sh_107 rfl (by decide +kernel) rfl ?_
  refine Gz.iload (i := 4) (pc' := 71) (by decide +kernel) rfl 1 rfl ?_
  obtain ⟨c1, h⟩ := zok_c h
  refine Gz.iald (pc' := 72) (n := 16807) (by decide +kernel) rfl rfl c1 ?_
  refine Gz.nmI (fun v2 e3 => ?_)
  have h := zok_l e3 h
  refine Gz.istore_n (q := 1) (pc' := 73) (L' := [(1, .int v2), (0, .ref 107), (4, .int x4)]) (by decide +kernel) rfl (Nat.le_of_ble_eq_true rfl) rfl ?_
  refine Gz.aload_n (q := 0) (pc' := 74) (by decide +kernel) rfl 1 rfl ?_
  refine Gz.callVJ (st := []) (b := 107) (pc' := 77) [] (g_M_weight w) h ok_m_M_weight lk_M_333 sh_107 rfl rfl rfl (Nat.le_of_ble_eq_true rfl) (Nat.le_of_ble_eq_true rfl) (Nat.le_of_ble_eq_true rfl) (by decide +kernel) rfl (fun v4 w5 h => ?_)
  refine Gz.lstore_n (q := 2) (pc' := 78) (L' := [(2, .long v4), (1, .int v2), (0, .ref 107), (4, .int x4)]) (by decide +kernel) rfl (Nat.le_of_ble_eq_true rfl) rfl ?_
  refine Gz.sub (L' := [(0, .ref 107), (1, .int v2), (2, .long v4), (4, .int x4)]) [2, 1, 0, 3] rfl ?_
  exact g_M_likeliest_b78 k21 hk21 v2 v4 x4 w5 h
theorem g_M_likeliest_b21_s {l : Launch} {Q : Option Value → gW → Prop} (k21 : Int32 → Int64 → Int32 → gW → Option (Int32 × gW)) (hk21 : ∀ (x1 : Int32) (x2 : Int64) (x4 : Int32) (w : gW), zok eI (k21 x1 x2 x4 w) Q → Gz l m_M_likeliest 57 21 [(0, .ref 107), (1, .int x1), (2, .long x2), (4, .int x4)] [] w Q) (x1 : Int32) (x2 : Int64) (x4 : Int32) (w : gW) (h : zok eI (f_M_likeliest_b21_s k21 x1 x2 x4 w) Q) : Gz l m_M_likeliest 57 21 [(0, .ref 107), (1, .int x1), (2, .long x2), (4, .int x4)] [] w Q := by
  unfold f_M_likeliest_b21_s at h
  refine Gz.iload (i := 4) (pc' := 23) (by decide +kernel) rfl 3 rfl ?_
  refine Gz.aload_n (q := 0) (pc' := 24) (by decide +kernel) rfl 0 rfl ?_
  refine Gz.getI (pc' := 27) (j := 26) fd_M_224 sh_107 rfl (by decide +kernel) rfl ?_
  refine Gz.icmp_ge (off := 57) (tgt := 84) (pc' := 30) (by decide +kernel) (by decide) rfl (fun c1 => ?_) (fun c1 => ?_)
  · have h := zok_t c1 h
    refine Gz.iload_n (q := 1) (pc' := 85) (by decide +kernel) rfl 1 rfl ?_
    exact Gz.ireturn (by decide +kernel) rfl (zok_sI h)
  · have h := zok_f c1 h
    refine Gz.aload_n (q := 0) (pc' := 31) (by decide +kernel) rfl 0 rfl ?_
    refine Gz.aload_n (q := 0) (pc' := 32) (by decide +kernel) rfl 0 rfl ?_
    refine Gz.getR (pc' := 35) (j := 25) 118 fd_M_44 sh_107 rfl (by decide +kernel) rfl ?_
    refine Gz.iload (i := 4) (pc' := 37) (by decide +kernel) rfl 3 rfl ?_
    obtain ⟨c2, h⟩ := zok_c h
    refine Gz.iald (pc' := 38) (n := 16807) (by decide +kernel) rfl rfl c2 ?_
    refine Gz.callVV (st := []) (b := 107) (pc' := 41) [.int (w.1 118 (ix x4))] (g_M_live (w.1 118 (ix x4)) w) h ok_m_M_live lk_M_231 sh_107 rfl rfl rfl (Nat.le_of_ble_eq_true rfl) (Nat.le_of_ble_eq_true rfl) (Nat.le_of_ble_eq_true rfl) (by decide +kernel) rfl (fun _ w3 h => ?_)
    refine Gz.aload_n (q := 0) (pc' := 42) (by decide +kernel) rfl 0 rfl ?_
    refine Gz.callVI (st := []) (b := 107) (pc' := 45) [] (g_M_fits w3) h ok_m_M_fits lk_M_267 sh_107 rfl rfl rfl (Nat.le_of_ble_eq_true rfl) (Nat.le_of_ble_eq_true rfl) (Nat.le_of_ble_eq_true rfl) (by decide +kernel) rfl (fun v4 w5 h => ?_)
    refine Gz.if_eq (off := 33) (tgt := 78) (pc' := 48) (by decide +kernel) (by decide) rfl (fun c6 => ?_) (fun c6 => ?_)
    · have h := zok_t c6 h
      exact g_M_likeliest_b78 k21 hk21 x1 x2 x4 w5 h
    · have h := zok_f c6 h
      refine Gz.iload_n (q := 1) (pc' := 49) (by decide +kernel) rfl 1 rfl ?_
      refine Gz.iconst (n := -1) (v := (-1 : Int32)) (pc' := 50) (by decide +kernel) rfl rfl ?_
      refine Gz.icmp_eq (off := 15) (tgt := 65) (pc' := 53) (by decide +kernel) (by decide) rfl (fun c7 => ?_) (fun c7 => ?_)
      · have h := zok_t c7 h
        refine Gz.sub (L' := [(0, .ref 107), (4, .int x4)]) [0, 3] rfl ?_
        exact g_M_likeliest_b65 k21 hk21 x4 w5 h
      · have h := zok_f c7 h
        refine Gz.aload_n (q := 0) (pc' := 54) (by decide +kernel) rfl 0 rfl ?_
        refine Gz.callVJ (st := []) (b := 107) (pc' := 57) [] (g_M_weight w5) h ok_m_M_weight lk_M_333 sh_107 rfl rfl rfl (Nat.le_of_ble_eq_true rfl) (Nat.le_of_ble_eq_true rfl) (Nat.le_of_ble_eq_true rfl) (by decide +kernel) rfl (fun v8 w9 h => ?_)
        refine Gz.lload_n (q := 2) (pc' := 58) (by decide +kernel) rfl 2 rfl ?_
        refine Gz.lcmp (pc' := 59) (by decide +kernel) rfl ?_
        refine Gz.if_gt (off := 6) (tgt := 65) (pc' := 62) (by decide +kernel) (by decide) rfl (fun c10 => ?_) (fun c10 => ?_)
        · have h := zok_t c10 h
          refine Gz.sub (L' := [(0, .ref 107), (4, .int x4)]) [0, 3] rfl ?_
          exact g_M_likeliest_b65 k21 hk21 x4 w9 h
        · have h := zok_f c10 h
          refine Gz.goto (off := 16) (tgt := 78) (by decide +kernel) (by decide) ?_
          exact g_M_likeliest_b78 k21 hk21 x1 x2 x4 w9 h
theorem g_M_likeliest_b21 {l : Launch} {Q : Option Value → gW → Prop} (x1 : Int32) (x2 : Int64) (x4 : Int32) (w : gW) (h : zok eI (f_M_likeliest_b21 x1 x2 x4 w) Q) : Gz l m_M_likeliest 57 21 [(0, .ref 107), (1, .int x1), (2, .long x2), (4, .int x4)] [] w Q := by
  have key : ∀ (n : Nat) (x1 : Int32) (x2 : Int64) (x4 : Int32) (w : gW), zok eI (zfx (fun _ _ _ _ => none) (f_M_likeliest_b21_s) n x1 x2 x4 w) Q → Gz l m_M_likeliest 57 21 [(0, .ref 107), (1, .int x1), (2, .long x2), (4, .int x4)] [] w Q := by
    intro n
    induction n with
    | zero => intro x1 x2 x4 w h; exact zok_n h
    | succ n ih => intro x1 x2 x4 w h; exact g_M_likeliest_b21_s _ ih x1 x2 x4 w h
  exact key zFU x1 x2 x4 w h
theorem g_M_likeliest {l : Launch} (w : gW) : gCt l m_M_likeliest 57 [.ref 107] w eI (f_M_likeliest w) := by
  intro Q h
  unfold f_M_likeliest at h
  show Gz l m_M_likeliest 57 0 [(0, .ref 107)] [] w Q
  refine Gz.aload_n (q := 0) (pc' := 1) (by decide +kernel) rfl 0 rfl ?_
  refine Gz.iconst (n := 0) (v := (0 : Int32)) (pc' := 2) (by decide +kernel) rfl rfl ?_
  refine Gz.putI (pc' := 5) (j := 0) fd_M_96 sh_107 rfl (by decide +kernel) rfl ?_
  refine Gz.nmW (fun w1 e2 => ?_)
  have h := zok_l e2 h
  refine Gz.aload_n (q := 0) (pc' := 6) (by decide +kernel) rfl 0 rfl ?_
  refine Gz.getI (pc' := 9) (j := 21) fd_M_141 sh_107 rfl (by decide +kernel) rfl ?_
  refine Gz.if_ne (off := 5) (tgt := 14) (pc' := 12) (by decide +kernel) (by decide) rfl (fun c3 => ?_) (fun c3 => ?_)
  · have h := zok_f c3 h
    refine Gz.iconst (n := -1) (v := (-1 : Int32)) (pc' := 15) (by decide +kernel) rfl rfl ?_
    refine Gz.istore_n (q := 1) (pc' := 16) (L' := [(1, .int (-1 : Int32)), (0, .ref 107)]) (by decide +kernel) rfl (Nat.le_of_ble_eq_true rfl) rfl ?_
    refine Gz.lconst (n := 0) (v := (0 : Int64)) (pc' := 17) (by decide +kernel) rfl rfl ?_
    refine Gz.lstore_n (q := 2) (pc' := 18) (L' := [(2, .long (0 : Int64)), (1, .int (-1 : Int32)), (0, .ref 107)]) (by decide +kernel) rfl (Nat.le_of_ble_eq_true rfl) rfl ?_
    refine Gz.iconst (n := 0) (v := (0 : Int32)) (pc' := 19) (by decide +kernel) rfl rfl ?_
    refine Gz.istore (i := 4) (pc' := 21) (L' := [(4, .int (0 : Int32)), (2, .long (0 : Int64)), (1, .int (-1 : Int32)), (0, .ref 107)]) (by decide +kernel) rfl (Nat.le_of_ble_eq_true rfl) rfl ?_
    refine Gz.sub (L' := [(0, .ref 107), (1, .int (-1 : Int32)), (2, .long (0 : Int64)), (4, .int (0 : Int32))]) [3, 2, 1, 0] rfl ?_
    exact g_M_likeliest_b21 (-1 : Int32) (0 : Int64) (0 : Int32) w1 h
  · have h := zok_t c3 h
    refine Gz.iconst (n := -1) (v := (-1 : Int32)) (pc' := 13) (by decide +kernel) rfl rfl ?_
    exact Gz.ireturn (by decide +kernel) rfl (zok_sI h)
def f_M_fitsMany_b35 (k4 : Int32 → Int32 → gW → Option (Int32 × gW)) (x2 : Int32) (s0 : Int32) (s1 : Int32) (w : gW) : Option (Int32 × gW) :=
zl (s0 + s1) (fun v1 =>
zl (x2 + (1 : Int32)) (fun v3 =>
k4 v1 v3 w))
def f_M_fitsMany_b4_s (k4 : Int32 → Int32 → gW → Option (Int32 × gW)) (x1 : Int32) (x2 : Int32) (w : gW) : Option (Int32 × gW) :=
if (w.1 107 26) ≤ x2 then
(some (x1, w))
else
(if inb x2 16807 then
zb (f_M_live (w.1 118 (ix x2)) w) (fun _ w3 =>
zb (f_M_fits w3) (fun v4 w5 =>
if v4 = 0 then
(f_M_fitsMany_b35 k4 x2 x1 (0 : Int32) w5)
else
(f_M_fitsMany_b35 k4 x2 x1 (1 : Int32) w5)))
else none)
def f_M_fitsMany_b4 : Int32 → Int32 → gW → Option (Int32 × gW) := zfx (fun _ _ _ => none) (f_M_fitsMany_b4_s) zFU
def f_M_fitsMany (w : gW) : Option (Int32 × gW) :=
f_M_fitsMany_b4 (0 : Int32) (0 : Int32) w
theorem g_M_fitsMany_b35 {l : Launch} {Q : Option Value → gW → Prop} (k4 : Int32 → Int32 → gW → Option (Int32 × gW)) (hk4 : ∀ (x1 : Int32) (x2 : Int32) (w : gW), zok eI (k4 x1 x2 w) Q → Gz l m_M_fitsMany 57 4 [(0, .ref 107), (1, .int x1), (2, .int x2)] [] w Q) (x2 : Int32) (s0 : Int32) (s1 : Int32) (w : gW) (h : zok eI (f_M_fitsMany_b35 k4 x2 s0 s1 w) Q) : Gz l m_M_fitsMany 57 35 [(0, .ref 107), (2, .int x2)] [.int s1, .int s0] w Q := by
  unfold f_M_fitsMany_b35 at h
  refine Gz.iadd (pc' := 36) (by decide +kernel) rfl ?_
  refine Gz.nmI (fun v1 e2 => ?_)
  have h := zok_l e2 h
  refine Gz.istore_n (q := 1) (pc' := 37) (L' := [(1, .int v1), (0, .ref 107), (2, .int x2)]) (by decide +kernel) rfl (Nat.le_of_ble_eq_true rfl) rfl ?_
  obtain ⟨v3, e4⟩ : ∃ y : Int32, y = x2 + (1 : Int32) := ⟨_, rfl⟩
  have h := zok_l e4 h
  refine Gz.iinc (i := 2) (n := 1) (pc' := 40) (L' := [(2, .int v3), (1, .int v1), (0, .ref 107)]) v3 (by decide +kernel) rfl 2 rfl (by rw [e4]; rfl) (Nat.le_of_ble_eq_true rfl) rfl ?_
  refine Gz.goto (off := -36) (tgt := 4) (by decide +kernel) (by decide) ?_
  refine Gz.sub (L' := [(0, .ref 107), (1, .int v1), (2, .int v3)]) [2, 1, 0] rfl ?_
  exact hk4 v1 v3 w h
theorem g_M_fitsMany_b4_s {l : Launch} {Q : Option Value → gW → Prop} (k4 : Int32 → Int32 → gW → Option (Int32 × gW)) (hk4 : ∀ (x1 : Int32) (x2 : Int32) (w : gW), zok eI (k4 x1 x2 w) Q → Gz l m_M_fitsMany 57 4 [(0, .ref 107), (1, .int x1), (2, .int x2)] [] w Q) (x1 : Int32) (x2 : Int32) (w : gW) (h : zok eI (f_M_fitsMany_b4_s k4 x1 x2 w) Q) : Gz l m_M_fitsMany 57 4 [(0, .ref 107), (1, .int x1), (2, .int x2)] [] w Q := by
  unfold f_M_fitsMany_b4_s at h
  refine Gz.iload_n (q := 2) (pc' := 5) (by decide +kernel) rfl 2 rfl ?_
  refine Gz.aload_n (q := 0) (pc' := 6) (by decide +kernel) rfl 0 rfl ?_
  refine Gz.getI (pc' := 9) (j := 26) fd_M_224 sh_107 rfl (by decide +kernel) rfl ?_
  refine Gz.icmp_ge (off := 34) (tgt := 43) (pc' := 12) (by decide +kernel) (by decide) rfl (fun c1 => ?_) (fun c1 => ?_)
  · have h := zok_t c1 h
    refine Gz.iload_n (q := 1) (pc' := 44) (by decide +kernel) rfl 1 rfl ?_
    exact Gz.ireturn (by decide +kernel) rfl (zok_sI h)
  · have h := zok_f c1 h
    refine Gz.aload_n (q := 0) (pc' := 13) (by decide +kernel) rfl 0 rfl ?_
    refine Gz.aload_n (q := 0) (pc' := 14) (by decide +kernel) rfl 0 rfl ?_
    refine Gz.getR (pc' := 17) (j := 25) 118 fd_M_44 sh_107 rfl (by decide +kernel) rfl ?_
    refine Gz.iload_n (q := 2) (pc' := 18) (by decide +kernel) rfl 2 rfl ?_
    obtain ⟨c2, h⟩ := zok_c h
    refine Gz.iald (pc' := 19) (n := 16807) (by decide +kernel) rfl rfl c2 ?_
    refine Gz.callVV (st := []) (b := 107) (pc' := 22) [.int (w.1 118 (ix x2))] (g_M_live (w.1 118 (ix x2)) w) h ok_m_M_live lk_M_231 sh_107 rfl rfl rfl (Nat.le_of_ble_eq_true rfl) (Nat.le_of_ble_eq_true rfl) (Nat.le_of_ble_eq_true rfl) (by decide +kernel) rfl (fun _ w3 h => ?_)
    refine Gz.iload_n (q := 1) (pc' := 23) (by decide +kernel) rfl 1 rfl ?_
    refine Gz.aload_n (q := 0) (pc' := 24) (by decide +kernel) rfl 0 rfl ?_
    refine Gz.callVI (st := [.int x1]) (b := 107) (pc' := 27) [] (g_M_fits w3) h ok_m_M_fits lk_M_267 sh_107 rfl rfl rfl (Nat.le_of_ble_eq_true rfl) (Nat.le_of_ble_eq_true rfl) (Nat.le_of_ble_eq_true rfl) (by decide +kernel) rfl (fun v4 w5 h => ?_)
    refine Gz.if_eq (off := 7) (tgt := 34) (pc' := 30) (by decide +kernel) (by decide) rfl (fun c6 => ?_) (fun c6 => ?_)
    · have h := zok_t c6 h
      refine Gz.iconst (n := 0) (v := (0 : Int32)) (pc' := 35) (by decide +kernel) rfl rfl ?_
      refine Gz.sub (L' := [(0, .ref 107), (2, .int x2)]) [0, 2] rfl ?_
      exact g_M_fitsMany_b35 k4 hk4 x2 x1 (0 : Int32) w5 h
    · have h := zok_f c6 h
      refine Gz.iconst (n := 1) (v := (1 : Int32)) (pc' := 31) (by decide +kernel) rfl rfl ?_
      refine Gz.goto (off := 4) (tgt := 35) (by decide +kernel) (by decide) ?_
      refine Gz.sub (L' := [(0, .ref 107), (2, .int x2)]) [0, 2] rfl ?_
      exact g_M_fitsMany_b35 k4 hk4 x2 x1 (1 : Int32) w5 h
theorem g_M_fitsMany_b4 {l : Launch} {Q : Option Value → gW → Prop} (x1 : Int32) (x2 : Int32) (w : gW) (h : zok eI (f_M_fitsMany_b4 x1 x2 w) Q) : Gz l m_M_fitsMany 57 4 [(0, .ref 107), (1, .int x1), (2, .int x2)] [] w Q := by
  have key : ∀ (n : Nat) (x1 : Int32) (x2 : Int32) (w : gW), zok eI (zfx (fun _ _ _ => none) (f_M_fitsMany_b4_s) n x1 x2 w) Q → Gz l m_M_fitsMany 57 4 [(0, .ref 107), (1, .int x1), (2, .int x2)] [] w Q := by
    intro n
    induction n with
    | zero => intro x1 x2 w h; exact zok_n h
    | succ n ih => intro x1 x2 w h; exact g_M_fitsMany_b4_s _ ih x1 x2 w h
  exact key zFU x1 x2 w h
theorem g_M_fitsMany {l : Launch} (w : gW) : gCt l m_M_fitsMany 57 [.ref 107] w eI (f_M_fitsMany w) := by
  intro Q h
  unfold f_M_fitsMany at h
  show Gz l m_M_fitsMany 57 0 [(0, .ref 107)] [] w Q
  refine Gz.iconst (n := 0) (v := (0 : Int32)) (pc' := 1) (by decide +kernel) rfl rfl ?_
  refine Gz.istore_n (q := 1) (pc' := 2) (L' := [(1, .int (0 : Int32)), (0, .ref 107)]) (by decide +kernel) rfl (Nat.le_of_ble_eq_true rfl) rfl ?_
  refine Gz.iconst (n := 0) (v := (0 : Int32)) (pc' := 3) (by decide +kernel) rfl rfl ?_
  refine Gz.istore_n (q := 2) (pc' := 4) (L' := [(2, .int (0 : Int32)), (1, .int (0 : Int32)), (0, .ref 107)]) (by decide +kernel) rfl (Nat.le_of_ble_eq_true rfl) rfl ?_
  refine Gz.sub (L' := [(0, .ref 107), (1, .int (0 : Int32)), (2, .int (0 : Int32))]) [2, 1, 0] rfl ?_
  exact g_M_fitsMany_b4 (0 : Int32) (0 : Int32) w h
def f_M_drawn_b112 (x7 : Int32) (w : gW) : Option (Int32 × gW) :=
some (x7, w)
def f_M_drawn_b106 (k53 : Int32 → Int32 → Int32 → gW → Option (Int32 × gW)) (x6 : Int32) (x7 : Int32) (x8 : Int32) (w : gW) : Option (Int32 × gW) :=
zl (x8 + (1 : Int32)) (fun v1 =>
k53 x6 x7 v1 w)
def f_M_drawn_b103 (k53 : Int32 → Int32 → Int32 → gW → Option (Int32 × gW)) (x6 : Int32) (x7 : Int32) (x8 : Int32) (w : gW) : Option (Int32 × gW) :=
zl (x6 + (-1 : Int32)) (fun v1 =>
f_M_drawn_b106 k53 v1 x7 x8 w)
def f_M_drawn_b53_s (k53 : Int32 → Int32 → Int32 → gW → Option (Int32 × gW)) (x6 : Int32) (x7 : Int32) (x8 : Int32) (w : gW) : Option (Int32 × gW) :=
if (w.1 107 26) ≤ x8 then
(f_M_drawn_b112 x7 w)
else
(if x7 = (-1 : Int32) then
(if inb x8 16807 then
zb (f_M_live (w.1 118 (ix x8)) w) (fun _ w4 =>
zb (f_M_fits w4) (fun v5 w6 =>
if v5 = 0 then
(f_M_drawn_b106 k53 x6 x7 x8 w6)
else
(if x6 = 0 then
(if inb x8 16807 then
zl (w6.1 118 (ix x8)) (fun v10 =>
f_M_drawn_b103 k53 x6 v10 x8 w6)
else none)
else
(f_M_drawn_b103 k53 x6 x7 x8 w6))))
else none)
else
(f_M_drawn_b112 x7 w))
def f_M_drawn_b53 : Int32 → Int32 → Int32 → gW → Option (Int32 × gW) := zfx (fun _ _ _ _ => none) (f_M_drawn_b53_s) zFU
def f_M_drawn (a1 : Int64) (w : gW) : Option (Int32 × gW) :=
zl (zsI w 107 0 (0 : Int32)) (fun w1 =>
if (w1.1 107 21) = 0 then
(some ((-1 : Int32), w1))
else
(zb (f_M_fitsMany w1) (fun v4 w5 =>
if v4 = 0 then
(some ((-1 : Int32), w5))
else
(zl ((a1 * (6364136223846793005 : Int64)) + (1442695040888963407 : Int64)) (fun v7 =>
if ¬ (v4.toInt64) = 0 then
zl (((zusL v7 (33 : Int32)) - (zusL v7 (33 : Int32)) / (v4.toInt64) * (v4.toInt64)).toInt32) (fun v10 =>
f_M_drawn_b53 v10 (-1 : Int32) (0 : Int32) w5)
else none)))))
theorem g_M_drawn_b112 {l : Launch} {Q : Option Value → gW → Prop} (x7 : Int32) (w : gW) (h : zok eI (f_M_drawn_b112 x7 w) Q) : Gz l m_M_drawn 58 112 [(7, .int x7)] [] w Q := by
  unfold f_M_drawn_b112 at h
  refine Gz.iload (i := 7) (pc' := 114) (by decide +kernel) rfl 0 rfl ?_
  exact Gz.ireturn (by decide +kernel) rfl (zok_sI h)
theorem g_M_drawn_b106 {l : Launch} {Q : Option Value → gW → Prop} (k53 : Int32 → Int32 → Int32 → gW → Option (Int32 × gW)) (hk53 : ∀ (x6 : Int32) (x7 : Int32) (x8 : Int32) (w : gW), zok eI (k53 x6 x7 x8 w) Q → Gz l m_M_drawn 58 53 [(0, .ref 107), (6, .int x6), (7, .int x7), (8, .int x8)] [] w Q) (x6 : Int32) (x7 : Int32) (x8 : Int32) (w : gW) (h : zok eI (f_M_drawn_b106 k53 x6 x7 x8 w) Q) : Gz l m_M_drawn 58 106 [(0, .ref 107), (6, .int x6), (7, .int x7), (8, .int x8)] [] w Q := by
  unfold f_M_drawn_b106 at h
  obtain ⟨v1, e2⟩ : ∃ y : Int32, y = x8 + (1 : Int32) := ⟨_, rfl⟩
  have h := zok_l e2 h
  refine Gz.iinc (i := 8) (n := 1) (pc' := 109) (L' := [(8, .int v1), (0, .ref 107), (6, .int x6), (7, .int x7)]) v1 (by decide +kernel) rfl 3 rfl (by rw [e2]; rfl) (Nat.le_of_ble_eq_true rfl) rfl ?_
  refine Gz.goto (off := -56) (tgt := 53) (by decide +kernel) (by decide) ?_
  refine Gz.sub (L' := [(0, .ref 107), (6, .int x6), (7, .int x7), (8, .int v1)]) [1, 2, 3, 0] rfl ?_
  exact hk53 x6 x7 v1 w h
theorem g_M_drawn_b103 {l : Launch} {Q : Option Value → gW → Prop} (k53 : Int32 → Int32 → Int32 → gW → Option (Int32 × gW)) (hk53 : ∀ (x6 : Int32) (x7 : Int32) (x8 : Int32) (w : gW), zok eI (k53 x6 x7 x8 w) Q → Gz l m_M_drawn 58 53 [(0, .ref 107), (6, .int x6), (7, .int x7), (8, .int x8)] [] w Q) (x6 : Int32) (x7 : Int32) (x8 : Int32) (w : gW) (h : zok eI (f_M_drawn_b103 k53 x6 x7 x8 w) Q) : Gz l m_M_drawn 58 103 [(0, .ref 107), (6, .int x6), (7, .int x7), (8, .int x8)] [] w Q := by
  unfold f_M_drawn_b103 at h
  obtain ⟨v1, e2⟩ : ∃ y : Int32, y = x6 + (-1 : Int32) := ⟨_, rfl⟩
  have h := zok_l e2 h
  refine Gz.iinc (i := 6) (n := -1) (pc' := 106) (L' := [(6, .int v1), (0, .ref 107), (7, .int x7), (8, .int x8)]) v1 (by decide +kernel) rfl 1 rfl (by rw [e2]; rfl) (Nat.le_of_ble_eq_true rfl) rfl ?_
  refine Gz.sub (L' := [(0, .ref 107), (6, .int v1), (7, .int x7), (8, .int x8)]) [1, 0, 2, 3] rfl ?_
  exact g_M_drawn_b106 k53 hk53 v1 x7 x8 w h
theorem g_M_drawn_b53_s {l : Launch} {Q : Option Value → gW → Prop} (k53 : Int32 → Int32 → Int32 → gW → Option (Int32 × gW)) (hk53 : ∀ (x6 : Int32) (x7 : Int32) (x8 : Int32) (w : gW), zok eI (k53 x6 x7 x8 w) Q → Gz l m_M_drawn 58 53 [(0, .ref 107), (6, .int x6), (7, .int x7), (8, .int x8)] [] w Q) (x6 : Int32) (x7 : Int32) (x8 : Int32) (w : gW) (h : zok eI (f_M_drawn_b53_s k53 x6 x7 x8 w) Q) : Gz l m_M_drawn 58 53 [(0, .ref 107), (6, .int x6), (7, .int x7), (8, .int x8)] [] w Q := by
  unfold f_M_drawn_b53_s at h
  refine Gz.iload (i := 8) (pc' := 55) (by decide +kernel) rfl 3 rfl ?_
  refine Gz.aload_n (q := 0) (pc' := 56) (by decide +kernel) rfl 0 rfl ?_
  refine Gz.getI (pc' := 59) (j := 26) fd_M_224 sh_107 rfl (by decide +kernel) rfl ?_
  refine Gz.icmp_ge (off := 53) (tgt := 112) (pc' := 62) (by decide +kernel) (by decide) rfl (fun c1 => ?_) (fun c1 => ?_)
  · have h := zok_t c1 h
    refine Gz.sub (L' := [(7, .int x7)]) [2] rfl ?_
    exact g_M_drawn_b112 x7 w h
  · have h := zok_f c1 h
    refine Gz.iload (i := 7) (pc' := 64) (by decide +kernel) rfl 2 rfl ?_
    refine Gz.iconst (n := -1) (v := (-1 : Int32)) (pc' := 65) (by decide +kernel) rfl rfl ?_
    refine Gz.icmp_ne (off := 47) (tgt := 112) (pc' := 68) (by decide +kernel) (by decide) rfl (fun c2 => ?_) (fun c2 => ?_)
    · have h := zok_f c2 h
      refine Gz.sub (L' := [(7, .int x7)]) [2] rfl ?_
      exact g_M_drawn_b112 x7 w h
    · have h := zok_t c2 h
      refine Gz.aload_n (q := 0) (pc' := 69) (by decide +kernel) rfl 0 rfl ?_
      refine Gz.aload_n (q := 0) (pc' := 70) (by decide +kernel) rfl 0 rfl ?_
      refine Gz.getR (pc' := 73) (j := 25) 118 fd_M_44 sh_107 rfl (by decide +kernel) rfl ?_
      refine Gz.iload (i := 8) (pc' := 75) (by decide +kernel) rfl 3 rfl ?_
      obtain ⟨c3, h⟩ := zok_c h
      refine Gz.iald (pc' := 76) (n := 16807) (by decide +kernel) rfl rfl c3 ?_
      refine Gz.callVV (st := []) (b := 107) (pc' := 79) [.int (w.1 118 (ix x8))] (g_M_live (w.1 118 (ix x8)) w) h ok_m_M_live lk_M_231 sh_107 rfl rfl rfl (Nat.le_of_ble_eq_true rfl) (Nat.le_of_ble_eq_true rfl) (Nat.le_of_ble_eq_true rfl) (by decide +kernel) rfl (fun _ w4 h => ?_)
      refine Gz.aload_n (q := 0) (pc' := 80) (by decide +kernel) rfl 0 rfl ?_
      refine Gz.callVI (st := []) (b := 107) (pc' := 83) [] (g_M_fits w4) h ok_m_M_fits lk_M_267 sh_107 rfl rfl rfl (Nat.le_of_ble_eq_true rfl) (Nat.le_of_ble_eq_true rfl) (Nat.le_of_ble_eq_true rfl) (by decide +kernel) rfl (fun v5 w6 h => ?_)
      refine Gz.if_ne (off := 6) (tgt := 89) (pc' := 86) (by decide +kernel) (by decide) rfl (fun c7 => ?_) (fun c7 => ?_)
      · have h := zok_f c7 h
        refine Gz.iload (i := 6) (pc' := 91) (by decide +kernel) rfl 1 rfl ?_
        refine Gz.if_ne (off := 12) (tgt := 103) (pc' := 94) (by decide +kernel) (by decide) rfl (fun c8 => ?_) (fun c8 => ?_)
        · have h := zok_f c8 h
          exact g_M_drawn_b103 k53 hk53 x6 x7 x8 w6 h
        · have h := zok_t c8 h
          refine Gz.aload_n (q := 0) (pc' := 95) (by decide +kernel) rfl 0 rfl ?_
          refine Gz.getR (pc' := 98) (j := 25) 118 fd_M_44 sh_107 rfl (by decide +kernel) rfl ?_
          refine Gz.iload (i := 8) (pc' := 100) (by decide +kernel) rfl 3 rfl ?_
          obtain ⟨c9, h⟩ := zok_c h
          refine Gz.iald (pc' := 101) (n := 16807) (by decide +kernel) rfl rfl c9 ?_
          refine Gz.nmI (fun v10 e11 => ?_)
          have h := zok_l e11 h
          refine Gz.istore (i := 7) (pc' := 103) (L' := [(7, .int v10), (0, .ref 107), (6, .int x6), (8, .int x8)]) (by decide +kernel) rfl (Nat.le_of_ble_eq_true rfl) rfl ?_
          refine Gz.sub (L' := [(0, .ref 107), (6, .int x6), (7, .int v10), (8, .int x8)]) [1, 2, 0, 3] rfl ?_
          exact g_M_drawn_b103 k53 hk53 x6 v10 x8 w6 h
      · have h := zok_t c7 h
        refine Gz.goto (off := 20) (tgt := 106) (by decide +kernel) (by decide) ?_
        exact g_M_drawn_b106 k53 hk53 x6 x7 x8 w6 h
theorem g_M_drawn_b53 {l : Launch} {Q : Option Value → gW → Prop} (x6 : Int32) (x7 : Int32) (x8 : Int32) (w : gW) (h : zok eI (f_M_drawn_b53 x6 x7 x8 w) Q) : Gz l m_M_drawn 58 53 [(0, .ref 107), (6, .int x6), (7, .int x7), (8, .int x8)] [] w Q := by
  have key : ∀ (n : Nat) (x6 : Int32) (x7 : Int32) (x8 : Int32) (w : gW), zok eI (zfx (fun _ _ _ _ => none) (f_M_drawn_b53_s) n x6 x7 x8 w) Q → Gz l m_M_drawn 58 53 [(0, .ref 107), (6, .int x6), (7, .int x7), (8, .int x8)] [] w Q := by
    intro n
    induction n with
    | zero => intro x6 x7 x8 w h; exact zok_n h
    | succ n ih => intro x6 x7 x8 w h; exact g_M_drawn_b53_s _ ih x6 x7 x8 w h
  exact key zFU x6 x7 x8 w h
theorem g_M_drawn {l : Launch} (a1 : Int64) (w : gW) : gCt l m_M_drawn 58 [.ref 107, .long a1] w eI (f_M_drawn a1 w) := by
  intro Q h
  unfold f_M_drawn at h
  show Gz l m_M_drawn 58 0 [(0, .ref 107), (1, .long a1)] [] w Q
  refine Gz.aload_n (q := 0) (pc' := 1) (by decide +kernel) rfl 0 rfl ?_
  refine Gz.iconst (n := 0) (v := (0 : Int32)) (pc' := 2) (by decide +kernel) rfl rfl ?_
  refine Gz.putI (pc' := 5) (j := 0) fd_M_96 sh_107 rfl (by decide +kernel) rfl ?_
  refine Gz.nmW (fun w1 e2 => ?_)
  have h := zok_l e2 h
  refine Gz.aload_n (q := 0) (pc' := 6) (by decide +kernel) rfl 0 rfl ?_
  refine Gz.getI (pc' := 9) (j := 21) fd_M_141 sh_107 rfl (by decide +kernel) rfl ?_
  refine Gz.if_ne (off := 5) (tgt := 14) (pc' := 12) (by decide +kernel) (by decide) rfl (fun c3 => ?_) (fun c3 => ?_)
  · have h := zok_f c3 h
    refine Gz.aload_n (q := 0) (pc' := 15) (by decide +kernel) rfl 0 rfl ?_
    refine Gz.callVI (st := []) (b := 107) (pc' := 18) [] (g_M_fitsMany w1) h ok_m_M_fitsMany lk_M_372 sh_107 rfl rfl rfl (Nat.le_of_ble_eq_true rfl) (Nat.le_of_ble_eq_true rfl) (Nat.le_of_ble_eq_true rfl) (by decide +kernel) rfl (fun v4 w5 h => ?_)
    refine Gz.istore_n (q := 3) (pc' := 19) (L' := [(3, .int v4), (0, .ref 107), (1, .long a1)]) (by decide +kernel) rfl (Nat.le_of_ble_eq_true rfl) rfl ?_
    refine Gz.iload_n (q := 3) (pc' := 20) (by decide +kernel) rfl 0 rfl ?_
    refine Gz.if_ne (off := 5) (tgt := 25) (pc' := 23) (by decide +kernel) (by decide) rfl (fun c6 => ?_) (fun c6 => ?_)
    · have h := zok_f c6 h
      refine Gz.lload_n (q := 1) (pc' := 26) (by decide +kernel) rfl 2 rfl ?_
      refine Gz.ldc2 (idx := 375) (v := (6364136223846793005 : Int64)) (pc' := 29) (by decide +kernel) rfl kc_M_375 ?_
      refine Gz.lmul (pc' := 30) (by decide +kernel) rfl ?_
      refine Gz.ldc2 (idx := 377) (v := (1442695040888963407 : Int64)) (pc' := 33) (by decide +kernel) rfl kc_M_377 ?_
      refine Gz.ladd (pc' := 34) (by decide +kernel) rfl ?_
      refine Gz.nmJ (fun v7 e8 => ?_)
      have h := zok_l e8 h
      refine Gz.lstore (i := 4) (pc' := 36) (L' := [(4, .long v7), (3, .int v4), (0, .ref 107), (1, .long a1)]) (by decide +kernel) rfl (Nat.le_of_ble_eq_true rfl) rfl ?_
      refine Gz.lload (i := 4) (pc' := 38) (by decide +kernel) rfl 0 rfl ?_
      refine Gz.bipush (n := 33) (v := (33 : Int32)) (pc' := 40) (by decide +kernel) rfl rfl ?_
      refine Gz.lushr (pc' := 41) (by decide +kernel) rfl ?_
      refine Gz.iload_n (q := 3) (pc' := 42) (by decide +kernel) rfl 1 rfl ?_
      refine Gz.i2l (pc' := 43) (by decide +kernel) rfl ?_
      obtain ⟨c9, h⟩ := zok_c h
      refine Gz.lrem (pc' := 44) (by decide +kernel) rfl c9 ?_
      refine Gz.l2i (pc' := 45) (by decide +kernel) rfl ?_
      refine Gz.nmI (fun v10 e11 => ?_)
      have h := zok_l e11 h
      refine Gz.istore (i := 6) (pc' := 47) (L' := [(6, .int v10), (4, .long v7), (3, .int v4), (0, .ref 107), (1, .long a1)]) (by decide +kernel) rfl (Nat.le_of_ble_eq_true rfl) rfl ?_
      refine Gz.iconst (n := -1) (v := (-1 : Int32)) (pc' := 48) (by decide +kernel) rfl rfl ?_
      refine Gz.istore (i := 7) (pc' := 50) (L' := [(7, .int (-1 : Int32)), (6, .int v10), (4, .long v7), (3, .int v4), (0, .ref 107), (1, .long a1)]) (by decide +kernel) rfl (Nat.le_of_ble_eq_true rfl) rfl ?_
      refine Gz.iconst (n := 0) (v := (0 : Int32)) (pc' := 51) (by decide +kernel) rfl rfl ?_
      refine Gz.istore (i := 8) (pc' := 53) (L' := [(8, .int (0 : Int32)), (7, .int (-1 : Int32)), (6, .int v10), (4, .long v7), (3, .int v4), (0, .ref 107), (1, .long a1)]) (by decide +kernel) rfl (Nat.le_of_ble_eq_true rfl) rfl ?_
      refine Gz.sub (L' := [(0, .ref 107), (6, .int v10), (7, .int (-1 : Int32)), (8, .int (0 : Int32))]) [5, 2, 1, 0] rfl ?_
      exact g_M_drawn_b53 v10 (-1 : Int32) (0 : Int32) w5 h
    · have h := zok_t c6 h
      refine Gz.iconst (n := -1) (v := (-1 : Int32)) (pc' := 24) (by decide +kernel) rfl rfl ?_
      exact Gz.ireturn (by decide +kernel) rfl (zok_sI h)
  · have h := zok_t c3 h
    refine Gz.iconst (n := -1) (v := (-1 : Int32)) (pc' := 13) (by decide +kernel) rfl rfl ?_
    exact Gz.ireturn (by decide +kernel) rfl (zok_sI h)
def f_M_busy_b145 (k42 : Int32 → Int32 → Int32 → Int32 → gW → Option (Int32 × gW)) (k54 : Int32 → Int32 → Int32 → Int32 → Int32 → gW → Option (Int32 × gW)) (x1 : Int32) (x2 : Int32) (x3 : Int32) (x4 : Int32) (x5 : Int32) (w : gW) : Option (Int32 × gW) :=
zl (x5 + (1 : Int32)) (fun v1 =>
k54 x1 x2 x3 x4 v1 w)
def f_M_busy_b121 (k42 : Int32 → Int32 → Int32 → Int32 → gW → Option (Int32 × gW)) (k54 : Int32 → Int32 → Int32 → Int32 → Int32 → gW → Option (Int32 × gW)) (k93 : Int32 → Int32 → Int32 → Int32 → Int32 → Int32 → Int32 → gW → Option (Int32 × gW)) (x1 : Int32) (x2 : Int32) (x3 : Int32) (x4 : Int32) (x5 : Int32) (x7 : Int32) (s0 : Int32) (s1 : Int32) (w : gW) : Option (Int32 × gW) :=
zl (s0 + s1) (fun v1 =>
zl (x7 + (1 : Int32)) (fun v3 =>
k93 x1 x2 x3 x4 x5 v1 v3 w))
def f_M_busy_b93_s (k42 : Int32 → Int32 → Int32 → Int32 → gW → Option (Int32 × gW)) (k54 : Int32 → Int32 → Int32 → Int32 → Int32 → gW → Option (Int32 × gW)) (k93 : Int32 → Int32 → Int32 → Int32 → Int32 → Int32 → Int32 → gW → Option (Int32 × gW)) (x1 : Int32) (x2 : Int32) (x3 : Int32) (x4 : Int32) (x5 : Int32) (x6 : Int32) (x7 : Int32) (w : gW) : Option (Int32 × gW) :=
if (w.1 107 21) ≤ x7 then
(if x2 < x6 then
(f_M_busy_b145 k42 k54 x1 x6 x4 x4 x5 w)
else
(f_M_busy_b145 k42 k54 x1 x2 x3 x4 x5 w))
else
(if inb x7 5 then
if (w.1 111 (ix x7)) = x4 then
(f_M_busy_b121 k42 k54 k93 x1 x2 x3 x4 x5 x7 x6 (1 : Int32) w)
else
(f_M_busy_b121 k42 k54 k93 x1 x2 x3 x4 x5 x7 x6 (0 : Int32) w)
else none)
def f_M_busy_b93 (k42 : Int32 → Int32 → Int32 → Int32 → gW → Option (Int32 × gW)) (k54 : Int32 → Int32 → Int32 → Int32 → Int32 → gW → Option (Int32 × gW)) : Int32 → Int32 → Int32 → Int32 → Int32 → Int32 → Int32 → gW → Option (Int32 × gW) := zfx (fun _ _ _ _ _ _ _ _ => none) (f_M_busy_b93_s k42 k54) zFU
def f_M_busy_b54_s (k42 : Int32 → Int32 → Int32 → Int32 → gW → Option (Int32 × gW)) (k54 : Int32 → Int32 → Int32 → Int32 → Int32 → gW → Option (Int32 × gW)) (x1 : Int32) (x2 : Int32) (x3 : Int32) (x4 : Int32) (x5 : Int32) (w : gW) : Option (Int32 × gW) :=
if (w.1 107 26) ≤ x5 then
(zl (x4 + (1 : Int32)) (fun v2 =>
k42 x1 x2 x3 v2 w))
else
(if inb x5 16807 then
if (w.1 130 (ix x5)) = 0 then
(f_M_busy_b145 k42 k54 x1 x2 x3 x4 x5 w)
else
(if inb x5 16807 then
zb (f_M_live (w.1 118 (ix x5)) w) (fun _ w7 =>
f_M_busy_b93 k42 k54 x1 x2 x3 x4 x5 (0 : Int32) (0 : Int32) w7)
else none)
else none)
def f_M_busy_b54 (k42 : Int32 → Int32 → Int32 → Int32 → gW → Option (Int32 × gW)) : Int32 → Int32 → Int32 → Int32 → Int32 → gW → Option (Int32 × gW) := zfx (fun _ _ _ _ _ _ => none) (f_M_busy_b54_s k42) zFU
def f_M_busy_b42_s (k42 : Int32 → Int32 → Int32 → Int32 → gW → Option (Int32 × gW)) (x1 : Int32) (x2 : Int32) (x3 : Int32) (x4 : Int32) (w : gW) : Option (Int32 × gW) :=
if (w.1 107 22) ≤ x4 then
(if x1 = 0 then
(some (x2, w))
else
(some (x3, w)))
else
(f_M_busy_b54 k42 x1 x2 x3 x4 (0 : Int32) w)
def f_M_busy_b42 : Int32 → Int32 → Int32 → Int32 → gW → Option (Int32 × gW) := zfx (fun _ _ _ _ _ => none) (f_M_busy_b42_s) zFU
def f_M_busy (a1 : Int32) (w : gW) : Option (Int32 × gW) :=
zl (zsI w 107 0 (0 : Int32)) (fun w1 =>
if (w1.1 107 21) = 0 then
(some ((-1 : Int32), w1))
else
(zb (f_M_isIn (a1.toInt64) (0 : Int64) (1 : Int64) w1) (fun v4 w5 =>
if v4 = 0 then
(some ((-1 : Int32), w5))
else
(zb (f_M_fitsMany w5) (fun v7 w8 =>
if v7 = 0 then
(some ((-1 : Int32), w8))
else
(zb (f_M_layFits w8) (fun _ w10 =>
f_M_busy_b42 a1 (0 : Int32) (-1 : Int32) (0 : Int32) w10)))))))
theorem g_M_busy_b145 {l : Launch} {Q : Option Value → gW → Prop} (k42 : Int32 → Int32 → Int32 → Int32 → gW → Option (Int32 × gW)) (hk42 : ∀ (x1 : Int32) (x2 : Int32) (x3 : Int32) (x4 : Int32) (w : gW), zok eI (k42 x1 x2 x3 x4 w) Q → Gz l m_M_busy 58 42 [(0, .ref 107), (1, .int x1), (2, .int x2), (3, .int x3), (4, .int x4)] [] w Q) (k54 : Int32 → Int32 → Int32 → Int32 → Int32 → gW → Option (Int32 × gW)) (hk54 : ∀ (x1 : Int32) (x2 : Int32) (x3 : Int32) (x4 : Int32) (x5 : Int32) (w : gW), zok eI (k54 x1 x2 x3 x4 x5 w) Q → Gz l m_M_busy 58 54 [(0, .ref 107), (1, .int x1), (2, .int x2), (3, .int x3), (4, .int x4), (5, .int x5)] [] w Q) (x1 : Int32) (x2 : Int32) (x3 : Int32) (x4 : Int32) (x5 : Int32) (w : gW) (h : zok eI (f_M_busy_b145 k42 k54 x1 x2 x3 x4 x5 w) Q) : Gz l m_M_busy 58 145 [(0, .ref 107), (1, .int x1), (2, .int x2), (3, .int x3), (4, .int x4), (5, .int x5)] [] w Q := by
  unfold f_M_busy_b145 at h
  obtain ⟨v1, e2⟩ : ∃ y : Int32, y = x5 + (1 : Int32) := ⟨_, rfl⟩
  have h := zok_l e2 h
  refine Gz.iinc (i := 5) (n := 1) (pc' := 148) (L' := [(5, .int v1), (0, .ref 107), (1, .int x1), (2, .int x2), (3, .int x3), (4, .int x4)]) v1 (by decide +kernel) rfl 5 rfl (by rw [e2]; rfl) (Nat.le_of_ble_eq_true rfl) rfl ?_
  refine Gz.goto (off := -94) (tgt := 54) (by decide +kernel) (by decide) ?_
  refine Gz.sub (L' := [(0, .ref 107), (1, .int x1), (2, .int x2), (3, .int x3), (4, .int x4), (5, .int v1)]) [1, 2, 3, 4, 5, 0] rfl ?_
  exact hk54 x1 x2 x3 x4 v1 w h
theorem g_M_busy_b121 {l : Launch} {Q : Option Value → gW → Prop} (k42 : Int32 → Int32 → Int32 → Int32 → gW → Option (Int32 × gW)) (hk42 : ∀ (x1 : Int32) (x2 : Int32) (x3 : Int32) (x4 : Int32) (w : gW), zok eI (k42 x1 x2 x3 x4 w) Q → Gz l m_M_busy 58 42 [(0, .ref 107), (1, .int x1), (2, .int x2), (3, .int x3), (4, .int x4)] [] w Q) (k54 : Int32 → Int32 → Int32 → Int32 → Int32 → gW → Option (Int32 × gW)) (hk54 : ∀ (x1 : Int32) (x2 : Int32) (x3 : Int32) (x4 : Int32) (x5 : Int32) (w : gW), zok eI (k54 x1 x2 x3 x4 x5 w) Q → Gz l m_M_busy 58 54 [(0, .ref 107), (1, .int x1), (2, .int x2), (3, .int x3), (4, .int x4), (5, .int x5)] [] w Q) (k93 : Int32 → Int32 → Int32 → Int32 → Int32 → Int32 → Int32 → gW → Option (Int32 × gW)) (hk93 : ∀ (x1 : Int32) (x2 : Int32) (x3 : Int32) (x4 : Int32) (x5 : Int32) (x6 : Int32) (x7 : Int32) (w : gW), zok eI (k93 x1 x2 x3 x4 x5 x6 x7 w) Q → Gz l m_M_busy 58 93 [(0, .ref 107), (1, .int x1), (2, .int x2), (3, .int x3), (4, .int x4), (5, .int x5), (6, .int x6), (7, .int x7)] [] w Q) (x1 : Int32) (x2 : Int32) (x3 : Int32) (x4 : Int32) (x5 : Int32) (x7 : Int32) (s0 : Int32) (s1 : Int32) (w : gW) (h : zok eI (f_M_busy_b121 k42 k54 k93 x1 x2 x3 x4 x5 x7 s0 s1 w) Q) : Gz l m_M_busy 58 121 [(0, .ref 107), (1, .int x1), (2, .int x2), (3, .int x3), (4, .int x4), (5, .int x5), (7, .int x7)] [.int s1, .int s0] w Q := by
  unfold f_M_busy_b121 at h
  refine Gz.iadd (pc' := 122) (by decide +kernel) rfl ?_
  refine Gz.nmI (fun v1 e2 => ?_)
  have h := zok_l e2 h
  refine Gz.istore (i := 6) (pc' := 124) (L' := [(6, .int v1), (0, .ref 107), (1, .int x1), (2, .int x2), (3, .int x3), (4, .int x4), (5, .int x5), (7, .int x7)]) (by decide +kernel) rfl (Nat.le_of_ble_eq_true rfl) rfl ?_
  obtain ⟨v3, e4⟩ : ∃ y : Int32, y = x7 + (1 : Int32) := ⟨_, rfl⟩
  have h := zok_l e4 h
  refine Gz.iinc (i := 7) (n := 1) (pc' := 127) (L' := [(7, .int v3), (6, .int v1), (0, .ref 107), (1, .int x1), (2, .int x2), (3, .int x3), (4, .int x4), (5, .int x5)]) v3 (by decide +kernel) rfl 7 rfl (by rw [e4]; rfl) (Nat.le_of_ble_eq_true rfl) rfl ?_
  refine Gz.goto (off := -34) (tgt := 93) (by decide +kernel) (by decide) ?_
  refine Gz.sub (L' := [(0, .ref 107), (1, .int x1), (2, .int x2), (3, .int x3), (4, .int x4), (5, .int x5), (6, .int v1), (7, .int v3)]) [2, 3, 4, 5, 6, 7, 1, 0] rfl ?_
  exact hk93 x1 x2 x3 x4 x5 v1 v3 w h
theorem g_M_busy_b93_s {l : Launch} {Q : Option Value → gW → Prop} (k42 : Int32 → Int32 → Int32 → Int32 → gW → Option (Int32 × gW)) (hk42 : ∀ (x1 : Int32) (x2 : Int32) (x3 : Int32) (x4 : Int32) (w : gW), zok eI (k42 x1 x2 x3 x4 w) Q → Gz l m_M_busy 58 42 [(0, .ref 107), (1, .int x1), (2, .int x2), (3, .int x3), (4, .int x4)] [] w Q) (k54 : Int32 → Int32 → Int32 → Int32 → Int32 → gW → Option (Int32 × gW)) (hk54 : ∀ (x1 : Int32) (x2 : Int32) (x3 : Int32) (x4 : Int32) (x5 : Int32) (w : gW), zok eI (k54 x1 x2 x3 x4 x5 w) Q → Gz l m_M_busy 58 54 [(0, .ref 107), (1, .int x1), (2, .int x2), (3, .int x3), (4, .int x4), (5, .int x5)] [] w Q) (k93 : Int32 → Int32 → Int32 → Int32 → Int32 → Int32 → Int32 → gW → Option (Int32 × gW)) (hk93 : ∀ (x1 : Int32) (x2 : Int32) (x3 : Int32) (x4 : Int32) (x5 : Int32) (x6 : Int32) (x7 : Int32) (w : gW), zok eI (k93 x1 x2 x3 x4 x5 x6 x7 w) Q → Gz l m_M_busy 58 93 [(0, .ref 107), (1, .int x1), (2, .int x2), (3, .int x3), (4, .int x4), (5, .int x5), (6, .int x6), (7, .int x7)] [] w Q) (x1 : Int32) (x2 : Int32) (x3 : Int32) (x4 : Int32) (x5 : Int32) (x6 : Int32) (x7 : Int32) (w : gW) (h : zok eI (f_M_busy_b93_s k42 k54 k93 x1 x2 x3 x4 x5 x6 x7 w) Q) : Gz l m_M_busy 58 93 [(0, .ref 107), (1, .int x1), (2, .int x2), (3, .int x3), (4, .int x4), (5, .int x5), (6, .int x6), (7, .int x7)] [] w Q := by
  unfold f_M_busy_b93_s at h
  refine Gz.iload (i := 7) (pc' := 95) (by decide +kernel) rfl 7 rfl ?_
  refine Gz.aload_n (q := 0) (pc' := 96) (by decide +kernel) rfl 0 rfl ?_
  refine Gz.getI (pc' := 99) (j := 21) fd_M_141 sh_107 rfl (by decide +kernel) rfl ?_
  refine Gz.icmp_ge (off := 31) (tgt := 130) (pc' := 102) (by decide +kernel) (by decide) rfl (fun c1 => ?_) (fun c1 => ?_)
  · have h := zok_t c1 h
    refine Gz.iload (i := 6) (pc' := 132) (by decide +kernel) rfl 6 rfl ?_
    refine Gz.iload_n (q := 2) (pc' := 133) (by decide +kernel) rfl 2 rfl ?_
    refine Gz.icmp_gt (off := 6) (tgt := 139) (pc' := 136) (by decide +kernel) (by decide) rfl (fun c2 => ?_) (fun c2 => ?_)
    · have h := zok_t c2 h
      refine Gz.iload (i := 6) (pc' := 141) (by decide +kernel) rfl 6 rfl ?_
      refine Gz.istore_n (q := 2) (pc' := 142) (L' := [(2, .int x6), (0, .ref 107), (1, .int x1), (3, .int x3), (4, .int x4), (5, .int x5), (6, .int x6), (7, .int x7)]) (by decide +kernel) rfl (Nat.le_of_ble_eq_true rfl) rfl ?_
      refine Gz.iload (i := 4) (pc' := 144) (by decide +kernel) rfl 4 rfl ?_
      refine Gz.istore_n (q := 3) (pc' := 145) (L' := [(3, .int x4), (2, .int x6), (0, .ref 107), (1, .int x1), (4, .int x4), (5, .int x5), (6, .int x6), (7, .int x7)]) (by decide +kernel) rfl (Nat.le_of_ble_eq_true rfl) rfl ?_
      refine Gz.sub (L' := [(0, .ref 107), (1, .int x1), (2, .int x6), (3, .int x4), (4, .int x4), (5, .int x5)]) [2, 3, 1, 0, 4, 5] rfl ?_
      exact g_M_busy_b145 k42 hk42 k54 hk54 x1 x6 x4 x4 x5 w h
    · have h := zok_f c2 h
      refine Gz.goto (off := 9) (tgt := 145) (by decide +kernel) (by decide) ?_
      refine Gz.sub (L' := [(0, .ref 107), (1, .int x1), (2, .int x2), (3, .int x3), (4, .int x4), (5, .int x5)]) [0, 1, 2, 3, 4, 5] rfl ?_
      exact g_M_busy_b145 k42 hk42 k54 hk54 x1 x2 x3 x4 x5 w h
  · have h := zok_f c1 h
    refine Gz.iload (i := 6) (pc' := 104) (by decide +kernel) rfl 6 rfl ?_
    refine Gz.aload_n (q := 0) (pc' := 105) (by decide +kernel) rfl 0 rfl ?_
    refine Gz.getR (pc' := 108) (j := 12) 111 fd_M_23 sh_107 rfl (by decide +kernel) rfl ?_
    refine Gz.iload (i := 7) (pc' := 110) (by decide +kernel) rfl 7 rfl ?_
    obtain ⟨c3, h⟩ := zok_c h
    refine Gz.iald (pc' := 111) (n := 5) (by decide +kernel) rfl rfl c3 ?_
    refine Gz.iload (i := 4) (pc' := 113) (by decide +kernel) rfl 4 rfl ?_
    refine Gz.icmp_ne (off := 7) (tgt := 120) (pc' := 116) (by decide +kernel) (by decide) rfl (fun c4 => ?_) (fun c4 => ?_)
    · have h := zok_f c4 h
      refine Gz.iconst (n := 0) (v := (0 : Int32)) (pc' := 121) (by decide +kernel) rfl rfl ?_
      refine Gz.sub (L' := [(0, .ref 107), (1, .int x1), (2, .int x2), (3, .int x3), (4, .int x4), (5, .int x5), (7, .int x7)]) [0, 1, 2, 3, 4, 5, 7] rfl ?_
      exact g_M_busy_b121 k42 hk42 k54 hk54 k93 hk93 x1 x2 x3 x4 x5 x7 x6 (0 : Int32) w h
    · have h := zok_t c4 h
      refine Gz.iconst (n := 1) (v := (1 : Int32)) (pc' := 117) (by decide +kernel) rfl rfl ?_
      refine Gz.goto (off := 4) (tgt := 121) (by decide +kernel) (by decide) ?_
      refine Gz.sub (L' := [(0, .ref 107), (1, .int x1), (2, .int x2), (3, .int x3), (4, .int x4), (5, .int x5), (7, .int x7)]) [0, 1, 2, 3, 4, 5, 7] rfl ?_
      exact g_M_busy_b121 k42 hk42 k54 hk54 k93 hk93 x1 x2 x3 x4 x5 x7 x6 (1 : Int32) w h
theorem g_M_busy_b93 {l : Launch} {Q : Option Value → gW → Prop} (k42 : Int32 → Int32 → Int32 → Int32 → gW → Option (Int32 × gW)) (hk42 : ∀ (x1 : Int32) (x2 : Int32) (x3 : Int32) (x4 : Int32) (w : gW), zok eI (k42 x1 x2 x3 x4 w) Q → Gz l m_M_busy 58 42 [(0, .ref 107), (1, .int x1), (2, .int x2), (3, .int x3), (4, .int x4)] [] w Q) (k54 : Int32 → Int32 → Int32 → Int32 → Int32 → gW → Option (Int32 × gW)) (hk54 : ∀ (x1 : Int32) (x2 : Int32) (x3 : Int32) (x4 : Int32) (x5 : Int32) (w : gW), zok eI (k54 x1 x2 x3 x4 x5 w) Q → Gz l m_M_busy 58 54 [(0, .ref 107), (1, .int x1), (2, .int x2), (3, .int x3), (4, .int x4), (5, .int x5)] [] w Q) (x1 : Int32) (x2 : Int32) (x3 : Int32) (x4 : Int32) (x5 : Int32) (x6 : Int32) (x7 : Int32) (w : gW) (h : zok eI (f_M_busy_b93 k42 k54 x1 x2 x3 x4 x5 x6 x7 w) Q) : Gz l m_M_busy 58 93 [(0, .ref 107), (1, .int x1), (2, .int x2), (3, .int x3), (4, .int x4), (5, .int x5), (6, .int x6), (7, .int x7)] [] w Q := by
  have key : ∀ (n : Nat) (x1 : Int32) (x2 : Int32) (x3 : Int32) (x4 : Int32) (x5 : Int32) (x6 : Int32) (x7 : Int32) (w : gW), zok eI (zfx (fun _ _ _ _ _ _ _ _ => none) (f_M_busy_b93_s k42 k54) n x1 x2 x3 x4 x5 x6 x7 w) Q → Gz l m_M_busy 58 93 [(0, .ref 107), (1, .int x1), (2, .int x2), (3, .int x3), (4, .int x4), (5, .int x5), (6, .int x6), (7, .int x7)] [] w Q := by
    intro n
    induction n with
    | zero => intro x1 x2 x3 x4 x5 x6 x7 w h; exact zok_n h
    | succ n ih => intro x1 x2 x3 x4 x5 x6 x7 w h; exact g_M_busy_b93_s k42 hk42 k54 hk54 _ ih x1 x2 x3 x4 x5 x6 x7 w h
  exact key zFU x1 x2 x3 x4 x5 x6 x7 w h
theorem g_M_busy_b54_s {l : Launch} {Q : Option Value → gW → Prop} (k42 : Int32 → Int32 → Int32 → Int32 → gW → Option (Int32 × gW)) (hk42 : ∀ (x1 : Int32) (x2 : Int32) (x3 : Int32) (x4 : Int32) (w : gW), zok eI (k42 x1 x2 x3 x4 w) Q → Gz l m_M_busy 58 42 [(0, .ref 107), (1, .int x1), (2, .int x2), (3, .int x3), (4, .int x4)] [] w Q) (k54 : Int32 → Int32 → Int32 → Int32 → Int32 → gW → Option (Int32 × gW)) (hk54 : ∀ (x1 : Int32) (x2 : Int32) (x3 : Int32) (x4 : Int32) (x5 : Int32) (w : gW), zok eI (k54 x1 x2 x3 x4 x5 w) Q → Gz l m_M_busy 58 54 [(0, .ref 107), (1, .int x1), (2, .int x2), (3, .int x3), (4, .int x4), (5, .int x5)] [] w Q) (x1 : Int32) (x2 : Int32) (x3 : Int32) (x4 : Int32) (x5 : Int32) (w : gW) (h : zok eI (f_M_busy_b54_s k42 k54 x1 x2 x3 x4 x5 w) Q) : Gz l m_M_busy 58 54 [(0, .ref 107), (1, .int x1), (2, .int x2), (3, .int x3), (4, .int x4), (5, .int x5)] [] w Q := by
  unfold f_M_busy_b54_s at h
  refine Gz.iload (i := 5) (pc' := 56) (by decide +kernel) rfl 5 rfl ?_
  refine Gz.aload_n (q := 0) (pc' := 57) (by decide +kernel) rfl 0 rfl ?_
  refine Gz.getI (pc' := 60) (j := 26) fd_M_224 sh_107 rfl (by decide +kernel) rfl ?_
  refine Gz.icmp_ge (off := 91) (tgt := 151) (pc' := 63) (by decide +kernel) (by decide) rfl (fun c1 => ?_) (fun c1 => ?_)
  · have h := zok_t c1 h
    obtain ⟨v2, e3⟩ : ∃ y : Int32, y = x4 + (1 : Int32) := ⟨_, rfl⟩
    have h := zok_l e3 h
    refine Gz.iinc (i := 4) (n := 1) (pc' := 154) (L' := [(4, .int v2), (0, .ref 107), (1, .int x1), (2, .int x2), (3, .int x3), (5, .int x5)]) v2 (by decide +kernel) rfl 4 rfl (by rw [e3]; rfl) (Nat.le_of_ble_eq_true rfl) rfl ?_
    refine Gz.goto (off := -112) (tgt := 42) (by decide +kernel) (by decide) ?_
    refine Gz.sub (L' := [(0, .ref 107), (1, .int x1), (2, .int x2), (3, .int x3), (4, .int v2)]) [1, 2, 3, 4, 0] rfl ?_
    exact hk42 x1 x2 x3 v2 w h
  · have h := zok_f c1 h
    refine Gz.aload_n (q := 0) (pc' := 64) (by decide +kernel) rfl 0 rfl ?_
    refine Gz.getR (pc' := 67) (j := 50) 130 fd_M_81 sh_107 rfl (by decide +kernel) rfl ?_
    refine Gz.iload (i := 5) (pc' := 69) (by decide +kernel) rfl 5 rfl ?_
    obtain ⟨c4, h⟩ := zok_c h
    refine Gz.zald (pc' := 70) (n := 16807) (by decide +kernel) rfl rfl c4 ?_
    refine Gz.if_ne (off := 6) (tgt := 76) (pc' := 73) (by decide +kernel) (by decide) rfl (fun c5 => ?_) (fun c5 => ?_)
    · have h := zok_f c5 h
      refine Gz.aload_n (q := 0) (pc' := 77) (by decide +kernel) rfl 0 rfl ?_
      refine Gz.aload_n (q := 0) (pc' := 78) (by decide +kernel) rfl 0 rfl ?_
      refine Gz.getR (pc' := 81) (j := 25) 118 fd_M_44 sh_107 rfl (by decide +kernel) rfl ?_
      refine Gz.iload (i := 5) (pc' := 83) (by decide +kernel) rfl 5 rfl ?_
      obtain ⟨c6, h⟩ := zok_c h
      refine Gz.iald (pc' := 84) (n := 16807) (by decide +kernel) rfl rfl c6 ?_
      refine Gz.callVV (st := []) (b := 107) (pc' := 87) [.int (w.1 118 (ix x5))] (g_M_live (w.1 118 (ix x5)) w) h ok_m_M_live lk_M_231 sh_107 rfl rfl rfl (Nat.le_of_ble_eq_true rfl) (Nat.le_of_ble_eq_true rfl) (Nat.le_of_ble_eq_true rfl) (by decide +kernel) rfl (fun _ w7 h => ?_)
      refine Gz.iconst (n := 0) (v := (0 : Int32)) (pc' := 88) (by decide +kernel) rfl rfl ?_
      refine Gz.istore (i := 6) (pc' := 90) (L' := [(6, .int (0 : Int32)), (0, .ref 107), (1, .int x1), (2, .int x2), (3, .int x3), (4, .int x4), (5, .int x5)]) (by decide +kernel) rfl (Nat.le_of_ble_eq_true rfl) rfl ?_
      refine Gz.iconst (n := 0) (v := (0 : Int32)) (pc' := 91) (by decide +kernel) rfl rfl ?_
      refine Gz.istore (i := 7) (pc' := 93) (L' := [(7, .int (0 : Int32)), (6, .int (0 : Int32)), (0, .ref 107), (1, .int x1), (2, .int x2), (3, .int x3), (4, .int x4), (5, .int x5)]) (by decide +kernel) rfl (Nat.le_of_ble_eq_true rfl) rfl ?_
      refine Gz.sub (L' := [(0, .ref 107), (1, .int x1), (2, .int x2), (3, .int x3), (4, .int x4), (5, .int x5), (6, .int (0 : Int32)), (7, .int (0 : Int32))]) [2, 3, 4, 5, 6, 7, 1, 0] rfl ?_
      exact g_M_busy_b93 k42 hk42 k54 hk54 x1 x2 x3 x4 x5 (0 : Int32) (0 : Int32) w7 h
    · have h := zok_t c5 h
      refine Gz.goto (off := 72) (tgt := 145) (by decide +kernel) (by decide) ?_
      exact g_M_busy_b145 k42 hk42 k54 hk54 x1 x2 x3 x4 x5 w h
theorem g_M_busy_b54 {l : Launch} {Q : Option Value → gW → Prop} (k42 : Int32 → Int32 → Int32 → Int32 → gW → Option (Int32 × gW)) (hk42 : ∀ (x1 : Int32) (x2 : Int32) (x3 : Int32) (x4 : Int32) (w : gW), zok eI (k42 x1 x2 x3 x4 w) Q → Gz l m_M_busy 58 42 [(0, .ref 107), (1, .int x1), (2, .int x2), (3, .int x3), (4, .int x4)] [] w Q) (x1 : Int32) (x2 : Int32) (x3 : Int32) (x4 : Int32) (x5 : Int32) (w : gW) (h : zok eI (f_M_busy_b54 k42 x1 x2 x3 x4 x5 w) Q) : Gz l m_M_busy 58 54 [(0, .ref 107), (1, .int x1), (2, .int x2), (3, .int x3), (4, .int x4), (5, .int x5)] [] w Q := by
  have key : ∀ (n : Nat) (x1 : Int32) (x2 : Int32) (x3 : Int32) (x4 : Int32) (x5 : Int32) (w : gW), zok eI (zfx (fun _ _ _ _ _ _ => none) (f_M_busy_b54_s k42) n x1 x2 x3 x4 x5 w) Q → Gz l m_M_busy 58 54 [(0, .ref 107), (1, .int x1), (2, .int x2), (3, .int x3), (4, .int x4), (5, .int x5)] [] w Q := by
    intro n
    induction n with
    | zero => intro x1 x2 x3 x4 x5 w h; exact zok_n h
    | succ n ih => intro x1 x2 x3 x4 x5 w h; exact g_M_busy_b54_s k42 hk42 _ ih x1 x2 x3 x4 x5 w h
  exact key zFU x1 x2 x3 x4 x5 w h
theorem g_M_busy_b42_s {l : Launch} {Q : Option Value → gW → Prop} (k42 : Int32 → Int32 → Int32 → Int32 → gW → Option (Int32 × gW)) (hk42 : ∀ (x1 : Int32) (x2 : Int32) (x3 : Int32) (x4 : Int32) (w : gW), zok eI (k42 x1 x2 x3 x4 w) Q → Gz l m_M_busy 58 42 [(0, .ref 107), (1, .int x1), (2, .int x2), (3, .int x3), (4, .int x4)] [] w Q) (x1 : Int32) (x2 : Int32) (x3 : Int32) (x4 : Int32) (w : gW) (h : zok eI (f_M_busy_b42_s k42 x1 x2 x3 x4 w) Q) : Gz l m_M_busy 58 42 [(0, .ref 107), (1, .int x1), (2, .int x2), (3, .int x3), (4, .int x4)] [] w Q := by
  unfold f_M_busy_b42_s at h
  refine Gz.iload (i := 4) (pc' := 44) (by decide +kernel) rfl 4 rfl ?_
  refine Gz.aload_n (q := 0) (pc' := 45) (by decide +kernel) rfl 0 rfl ?_
  refine Gz.getI (pc' := 48) (j := 22) fd_M_208 sh_107 rfl (by decide +kernel) rfl ?_
  refine Gz.icmp_ge (off := 109) (tgt := 157) (pc' := 51) (by decide +kernel) (by decide) rfl (fun c1 => ?_) (fun c1 => ?_)
  · have h := zok_t c1 h
    refine Gz.iload_n (q := 1) (pc' := 158) (by decide +kernel) rfl 1 rfl ?_
    refine Gz.if_ne (off := 7) (tgt := 165) (pc' := 161) (by decide +kernel) (by decide) rfl (fun c2 => ?_) (fun c2 => ?_)
    · have h := zok_f c2 h
      refine Gz.iload_n (q := 3) (pc' := 166) (by decide +kernel) rfl 3 rfl ?_
      exact Gz.ireturn (by decide +kernel) rfl (zok_sI h)
    · have h := zok_t c2 h
      refine Gz.iload_n (q := 2) (pc' := 162) (by decide +kernel) rfl 2 rfl ?_
      refine Gz.goto (off := 4) (tgt := 166) (by decide +kernel) (by decide) ?_
      exact Gz.ireturn (by decide +kernel) rfl (zok_sI h)
  · have h := zok_f c1 h
    refine Gz.iconst (n := 0) (v := (0 : Int32)) (pc' := 52) (by decide +kernel) rfl rfl ?_
    refine Gz.istore (i := 5) (pc' := 54) (L' := [(5, .int (0 : Int32)), (0, .ref 107), (1, .int x1), (2, .int x2), (3, .int x3), (4, .int x4)]) (by decide +kernel) rfl (Nat.le_of_ble_eq_true rfl) rfl ?_
    refine Gz.sub (L' := [(0, .ref 107), (1, .int x1), (2, .int x2), (3, .int x3), (4, .int x4), (5, .int (0 : Int32))]) [1, 2, 3, 4, 5, 0] rfl ?_
    exact g_M_busy_b54 k42 hk42 x1 x2 x3 x4 (0 : Int32) w h
theorem g_M_busy_b42 {l : Launch} {Q : Option Value → gW → Prop} (x1 : Int32) (x2 : Int32) (x3 : Int32) (x4 : Int32) (w : gW) (h : zok eI (f_M_busy_b42 x1 x2 x3 x4 w) Q) : Gz l m_M_busy 58 42 [(0, .ref 107), (1, .int x1), (2, .int x2), (3, .int x3), (4, .int x4)] [] w Q := by
  have key : ∀ (n : Nat) (x1 : Int32) (x2 : Int32) (x3 : Int32) (x4 : Int32) (w : gW), zok eI (zfx (fun _ _ _ _ _ => none) (f_M_busy_b42_s) n x1 x2 x3 x4 w) Q → Gz l m_M_busy 58 42 [(0, .ref 107), (1, .int x1), (2, .int x2), (3, .int x3), (4, .int x4)] [] w Q := by
    intro n
    induction n with
    | zero => intro x1 x2 x3 x4 w h; exact zok_n h
    | succ n ih => intro x1 x2 x3 x4 w h; exact g_M_busy_b42_s _ ih x1 x2 x3 x4 w h
  exact key zFU x1 x2 x3 x4 w h
theorem g_M_busy {l : Launch} (a1 : Int32) (w : gW) : gCt l m_M_busy 58 [.ref 107, .int a1] w eI (f_M_busy a1 w) := by
  intro Q h
  unfold f_M_busy at h
  show Gz l m_M_busy 58 0 [(0, .ref 107), (1, .int a1)] [] w Q
  refine Gz.aload_n (q := 0) (pc' := 1) (by decide +kernel) rfl 0 rfl ?_
  refine Gz.iconst (n := 0) (v := (0 : Int32)) (pc' := 2) (by decide +kernel) rfl rfl ?_
  refine Gz.putI (pc' := 5) (j := 0) fd_M_96 sh_107 rfl (by decide +kernel) rfl ?_
  refine Gz.nmW (fun w1 e2 => ?_)
  have h := zok_l e2 h
  refine Gz.aload_n (q := 0) (pc' := 6) (by decide +kernel) rfl 0 rfl ?_
  refine Gz.getI (pc' := 9) (j := 21) fd_M_141 sh_107 rfl (by decide +kernel) rfl ?_
  refine Gz.if_eq (off := 20) (tgt := 29) (pc' := 12) (by decide +kernel) (by decide) rfl (fun c3 => ?_) (fun c3 => ?_)
  · have h := zok_t c3 h
    refine Gz.iconst (n := -1) (v := (-1 : Int32)) (pc' := 30) (by decide +kernel) rfl rfl ?_
    exact Gz.ireturn (by decide +kernel) rfl (zok_sI h)
  · have h := zok_f c3 h
    refine Gz.iload_n (q := 1) (pc' := 13) (by decide +kernel) rfl 1 rfl ?_
    refine Gz.i2l (pc' := 14) (by decide +kernel) rfl ?_
    refine Gz.lconst (n := 0) (v := (0 : Int64)) (pc' := 15) (by decide +kernel) rfl rfl ?_
    refine Gz.lconst (n := 1) (v := (1 : Int64)) (pc' := 16) (by decide +kernel) rfl rfl ?_
    refine Gz.callSI (st := []) (pc' := 19) [.long (a1.toInt64), .long (0 : Int64), .long (1 : Int64)] (g_M_isIn (a1.toInt64) (0 : Int64) (1 : Int64) w1) h ok_m_M_isIn lk_M_137 rfl (Nat.le_of_ble_eq_true rfl) (Nat.le_of_ble_eq_true rfl) (Nat.le_of_ble_eq_true rfl) (by decide +kernel) rfl (fun v4 w5 h => ?_)
    refine Gz.if_eq (off := 10) (tgt := 29) (pc' := 22) (by decide +kernel) (by decide) rfl (fun c6 => ?_) (fun c6 => ?_)
    · have h := zok_t c6 h
      refine Gz.iconst (n := -1) (v := (-1 : Int32)) (pc' := 30) (by decide +kernel) rfl rfl ?_
      exact Gz.ireturn (by decide +kernel) rfl (zok_sI h)
    · have h := zok_f c6 h
      refine Gz.aload_n (q := 0) (pc' := 23) (by decide +kernel) rfl 0 rfl ?_
      refine Gz.callVI (st := []) (b := 107) (pc' := 26) [] (g_M_fitsMany w5) h ok_m_M_fitsMany lk_M_372 sh_107 rfl rfl rfl (Nat.le_of_ble_eq_true rfl) (Nat.le_of_ble_eq_true rfl) (Nat.le_of_ble_eq_true rfl) (by decide +kernel) rfl (fun v7 w8 h => ?_)
      refine Gz.if_ne (off := 5) (tgt := 31) (pc' := 29) (by decide +kernel) (by decide) rfl (fun c9 => ?_) (fun c9 => ?_)
      · have h := zok_f c9 h
        refine Gz.aload_n (q := 0) (pc' := 32) (by decide +kernel) rfl 0 rfl ?_
        refine Gz.callVV (st := []) (b := 107) (pc' := 35) [] (g_M_layFits w8) h ok_m_M_layFits lk_M_341 sh_107 rfl rfl rfl (Nat.le_of_ble_eq_true rfl) (Nat.le_of_ble_eq_true rfl) (Nat.le_of_ble_eq_true rfl) (by decide +kernel) rfl (fun _ w10 h => ?_)
        refine Gz.iconst (n := 0) (v := (0 : Int32)) (pc' := 36) (by decide +kernel) rfl rfl ?_
        refine Gz.istore_n (q := 2) (pc' := 37) (L' := [(2, .int (0 : Int32)), (0, .ref 107), (1, .int a1)]) (by decide +kernel) rfl (Nat.le_of_ble_eq_true rfl) rfl ?_
        refine Gz.iconst (n := -1) (v := (-1 : Int32)) (pc' := 38) (by decide +kernel) rfl rfl ?_
        refine Gz.istore_n (q := 3) (pc' := 39) (L' := [(3, .int (-1 : Int32)), (2, .int (0 : Int32)), (0, .ref 107), (1, .int a1)]) (by decide +kernel) rfl (Nat.le_of_ble_eq_true rfl) rfl ?_
        refine Gz.iconst (n := 0) (v := (0 : Int32)) (pc' := 40) (by decide +kernel) rfl rfl ?_
        refine Gz.istore (i := 4) (pc' := 42) (L' := [(4, .int (0 : Int32)), (3, .int (-1 : Int32)), (2, .int (0 : Int32)), (0, .ref 107), (1, .int a1)]) (by decide +kernel) rfl (Nat.le_of_ble_eq_true rfl) rfl ?_
        refine Gz.sub (L' := [(0, .ref 107), (1, .int a1), (2, .int (0 : Int32)), (3, .int (-1 : Int32)), (4, .int (0 : Int32))]) [3, 4, 2, 1, 0] rfl ?_
        exact g_M_busy_b42 a1 (0 : Int32) (-1 : Int32) (0 : Int32) w10 h
      · have h := zok_t c9 h
        refine Gz.iconst (n := -1) (v := (-1 : Int32)) (pc' := 30) (by decide +kernel) rfl rfl ?_
        exact Gz.ireturn (by decide +kernel) rfl (zok_sI h)
def f_M_rows_b168 (k46 : Int32 → Int32 → Int32 → Int32 → Int32 → gW → Option (Int32 × gW)) (x1 : Int32) (x2 : Int32) (x3 : Int32) (x4 : Int32) (x5 : Int32) (w : gW) : Option (Int32 × gW) :=
zl (x5 + (1 : Int32)) (fun v1 =>
k46 x1 x2 x3 x4 v1 w)
def f_M_rows_b165 (k46 : Int32 → Int32 → Int32 → Int32 → Int32 → gW → Option (Int32 × gW)) (x1 : Int32) (x2 : Int32) (x3 : Int32) (x5 : Int32) (s0 : Int32) (s1 : Int32) (w : gW) : Option (Int32 × gW) :=
zl (s0 + s1) (fun v1 =>
f_M_rows_b168 k46 x1 x2 x3 v1 x5 w)
def f_M_rows_b164 (k46 : Int32 → Int32 → Int32 → Int32 → Int32 → gW → Option (Int32 × gW)) (x1 : Int32) (x2 : Int32) (x3 : Int32) (x5 : Int32) (s0 : Int32) (w : gW) : Option (Int32 × gW) :=
f_M_rows_b165 k46 x1 x2 x3 x5 s0 (0 : Int32) w
def f_M_rows_b160 (k46 : Int32 → Int32 → Int32 → Int32 → Int32 → gW → Option (Int32 × gW)) (x1 : Int32) (x2 : Int32) (x3 : Int32) (x5 : Int32) (s0 : Int32) (w : gW) : Option (Int32 × gW) :=
f_M_rows_b165 k46 x1 x2 x3 x5 s0 (1 : Int32) w
def f_M_rows_b46_s (k46 : Int32 → Int32 → Int32 → Int32 → Int32 → gW → Option (Int32 × gW)) (x1 : Int32) (x2 : Int32) (x3 : Int32) (x4 : Int32) (x5 : Int32) (w : gW) : Option (Int32 × gW) :=
if (w.1 107 26) ≤ x5 then
(some (x4, w))
else
(if inb x5 16807 then
zb (f_M_live (w.1 118 (ix x5)) w) (fun _ w3 =>
zb (f_M_fits w3) (fun v4 w5 =>
if v4 = 0 then
(f_M_rows_b168 k46 x1 x2 x3 x4 x5 w5)
else
(if inb x1 5 then
if (w5.1 111 (ix x1)) = (9 : Int32) then
(f_M_rows_b168 k46 x1 x2 x3 x4 x5 w5)
else
(if inb x2 5 then
if (w5.1 111 (ix x2)) = (9 : Int32) then
(f_M_rows_b168 k46 x1 x2 x3 x4 x5 w5)
else
(if x3 = 0 then
(if inb x1 5 then
if inb x2 5 then
if (w5.1 111 (ix x2)) ≤ (w5.1 111 (ix x1)) then
(f_M_rows_b164 k46 x1 x2 x3 x5 x4 w5)
else
(f_M_rows_b160 k46 x1 x2 x3 x5 x4 w5)
else none
else none)
else
(if x3 = (1 : Int32) then
(if inb x1 5 then
if inb x2 5 then
if (w5.1 111 (ix x1)) ≤ (w5.1 111 (ix x2)) then
(f_M_rows_b164 k46 x1 x2 x3 x5 x4 w5)
else
(f_M_rows_b160 k46 x1 x2 x3 x5 x4 w5)
else none
else none)
else
(if inb x1 5 then
if inb x2 5 then
if (w5.1 111 (ix x1)) = (w5.1 111 (ix x2)) then
(f_M_rows_b160 k46 x1 x2 x3 x5 x4 w5)
else
(f_M_rows_b164 k46 x1 x2 x3 x5 x4 w5)
else none
else none)))
else none)
else none)))
else none)
def f_M_rows_b46 : Int32 → Int32 → Int32 → Int32 → Int32 → gW → Option (Int32 × gW) := zfx (fun _ _ _ _ _ _ => none) (f_M_rows_b46_s) zFU
def f_M_rows (a1 : Int32) (a2 : Int32) (a3 : Int32) (w : gW) : Option (Int32 × gW) :=
zl (zsI w 107 0 (0 : Int32)) (fun w1 =>
zb (f_M_isDeed a1 w1) (fun v3 w4 =>
if v3 = 0 then
(some ((-1 : Int32), w4))
else
(zb (f_M_isDeed a2 w4) (fun v6 w7 =>
if v6 = 0 then
(some ((-1 : Int32), w7))
else
(if a1 = a2 then
(some ((-1 : Int32), w7))
else
(zb (f_M_isIn (a3.toInt64) (0 : Int64) (2 : Int64) w7) (fun v10 w11 =>
if v10 = 0 then
(some ((-1 : Int32), w11))
else
(f_M_rows_b46 a1 a2 a3 (0 : Int32) (0 : Int32) w11))))))))
theorem g_M_rows_b168 {l : Launch} {Q : Option Value → gW → Prop} (k46 : Int32 → Int32 → Int32 → Int32 → Int32 → gW → Option (Int32 × gW)) (hk46 : ∀ (x1 : Int32) (x2 : Int32) (x3 : Int32) (x4 : Int32) (x5 : Int32) (w : gW), zok eI (k46 x1 x2 x3 x4 x5 w) Q → Gz l m_M_rows 57 46 [(0, .ref 107), (1, .int x1), (2, .int x2), (3, .int x3), (4, .int x4), (5, .int x5)] [] w Q) (x1 : Int32) (x2 : Int32) (x3 : Int32) (x4 : Int32) (x5 : Int32) (w : gW) (h : zok eI (f_M_rows_b168 k46 x1 x2 x3 x4 x5 w) Q) : Gz l m_M_rows 57 168 [(0, .ref 107), (1, .int x1), (2, .int x2), (3, .int x3), (4, .int x4), (5, .int x5)] [] w Q := by
  unfold f_M_rows_b168 at h
  obtain ⟨v1, e2⟩ : ∃ y : Int32, y = x5 + (1 : Int32) := ⟨_, rfl⟩
  have h := zok_l e2 h
  refine Gz.iinc (i := 5) (n := 1) (pc' := 171) (L' := [(5, .int v1), (0, .ref 107), (1, .int x1), (2, .int x2), (3, .int x3), (4, .int x4)]) v1 (by decide +kernel) rfl 5 rfl (by rw [e2]; rfl) (Nat.le_of_ble_eq_true rfl) rfl ?_
  refine Gz.goto (off := -125) (tgt := 46) (by decide +kernel) (by decide) ?_
  refine Gz.sub (L' := [(0, .ref 107), (1, .int x1), (2, .int x2), (3, .int x3), (4, .int x4), (5, .int v1)]) [1, 2, 3, 4, 5, 0] rfl ?_
  exact hk46 x1 x2 x3 x4 v1 w h
theorem g_M_rows_b165 {l : Launch} {Q : Option Value → gW → Prop} (k46 : Int32 → Int32 → Int32 → Int32 → Int32 → gW → Option (Int32 × gW)) (hk46 : ∀ (x1 : Int32) (x2 : Int32) (x3 : Int32) (x4 : Int32) (x5 : Int32) (w : gW), zok eI (k46 x1 x2 x3 x4 x5 w) Q → Gz l m_M_rows 57 46 [(0, .ref 107), (1, .int x1), (2, .int x2), (3, .int x3), (4, .int x4), (5, .int x5)] [] w Q) (x1 : Int32) (x2 : Int32) (x3 : Int32) (x5 : Int32) (s0 : Int32) (s1 : Int32) (w : gW) (h : zok eI (f_M_rows_b165 k46 x1 x2 x3 x5 s0 s1 w) Q) : Gz l m_M_rows 57 165 [(0, .ref 107), (1, .int x1), (2, .int x2), (3, .int x3), (5, .int x5)] [.int s1, .int s0] w Q := by
  unfold f_M_rows_b165 at h
  refine Gz.iadd (pc' := 166) (by decide +kernel) rfl ?_
  refine Gz.nmI (fun v1 e2 => ?_)
  have h := zok_l e2 h
  refine Gz.istore (i := 4) (pc' := 168) (L' := [(4, .int v1), (0, .ref 107), (1, .int x1), (2, .int x2), (3, .int x3), (5, .int x5)]) (by decide +kernel) rfl (Nat.le_of_ble_eq_true rfl) rfl ?_
  refine Gz.sub (L' := [(0, .ref 107), (1, .int x1), (2, .int x2), (3, .int x3), (4, .int v1), (5, .int x5)]) [1, 2, 3, 4, 0, 5] rfl ?_
  exact g_M_rows_b168 k46 hk46 x1 x2 x3 v1 x5 w h
theorem g_M_rows_b164 {l : Launch} {Q : Option Value → gW → Prop} (k46 : Int32 → Int32 → Int32 → Int32 → Int32 → gW → Option (Int32 × gW)) (hk46 : ∀ (x1 : Int32) (x2 : Int32) (x3 : Int32) (x4 : Int32) (x5 : Int32) (w : gW), zok eI (k46 x1 x2 x3 x4 x5 w) Q → Gz l m_M_rows 57 46 [(0, .ref 107), (1, .int x1), (2, .int x2), (3, .int x3), (4, .int x4), (5, .int x5)] [] w Q) (x1 : Int32) (x2 : Int32) (x3 : Int32) (x5 : Int32) (s0 : Int32) (w : gW) (h : zok eI (f_M_rows_b164 k46 x1 x2 x3 x5 s0 w) Q) : Gz l m_M_rows 57 164 [(0, .ref 107), (1, .int x1), (2, .int x2), (3, .int x3), (5, .int x5)] [.int s0] w Q := by
  unfold f_M_rows_b164 at h
  refine Gz.iconst (n := 0) (v := (0 : Int32)) (pc' := 165) (by decide +kernel) rfl rfl ?_
  exact g_M_rows_b165 k46 hk46 x1 x2 x3 x5 s0 (0 : Int32) w h
theorem g_M_rows_b160 {l : Launch} {Q : Option Value → gW → Prop} (k46 : Int32 → Int32 → Int32 → Int32 → Int32 → gW → Option (Int32 × gW)) (hk46 : ∀ (x1 : Int32) (x2 : Int32) (x3 : Int32) (x4 : Int32) (x5 : Int32) (w : gW), zok eI (k46 x1 x2 x3 x4 x5 w) Q → Gz l m_M_rows 57 46 [(0, .ref 107), (1, .int x1), (2, .int x2), (3, .int x3), (4, .int x4), (5, .int x5)] [] w Q) (x1 : Int32) (x2 : Int32) (x3 : Int32) (x5 : Int32) (s0 : Int32) (w : gW) (h : zok eI (f_M_rows_b160 k46 x1 x2 x3 x5 s0 w) Q) : Gz l m_M_rows 57 160 [(0, .ref 107), (1, .int x1), (2, .int x2), (3, .int x3), (5, .int x5)] [.int s0] w Q := by
  unfold f_M_rows_b160 at h
  refine Gz.iconst (n := 1) (v := (1 : Int32)) (pc' := 161) (by decide +kernel) rfl rfl ?_
  refine Gz.goto (off := 4) (tgt := 165) (by decide +kernel) (by decide) ?_
  exact g_M_rows_b165 k46 hk46 x1 x2 x3 x5 s0 (1 : Int32) w h
theorem g_M_rows_b46_s {l : Launch} {Q : Option Value → gW → Prop} (k46 : Int32 → Int32 → Int32 → Int32 → Int32 → gW → Option (Int32 × gW)) (hk46 : ∀ (x1 : Int32) (x2 : Int32) (x3 : Int32) (x4 : Int32) (x5 : Int32) (w : gW), zok eI (k46 x1 x2 x3 x4 x5 w) Q → Gz l m_M_rows 57 46 [(0, .ref 107), (1, .int x1), (2, .int x2), (3, .int x3), (4, .int x4), (5, .int x5)] [] w Q) (x1 : Int32) (x2 : Int32) (x3 : Int32) (x4 : Int32) (x5 : Int32) (w : gW) (h : zok eI (f_M_rows_b46_s k46 x1 x2 x3 x4 x5 w) Q) : Gz l m_M_rows 57 46 [(0, .ref 107), (1, .int x1), (2, .int x2), (3, .int x3), (4, .int x4), (5, .int x5)] [] w Q := by
  unfold f_M_rows_b46_s at h
  refine Gz.iload (i := 5) (pc' := 48) (by decide +kernel) rfl 5 rfl ?_
  refine Gz.aload_n (q := 0) (pc' := 49) (by decide +kernel) rfl 0 rfl ?_
  refine Gz.getI (pc' := 52) (j := 26) fd_M_224 sh_107 rfl (by decide +kernel) rfl ?_
  refine Gz.icmp_ge (off := 122) (tgt := 174) (pc' := 55) (by decide +kernel) (by decide) rfl (fun c1 => ?_) (fun c1 => ?_)
  · have h := zok_t c1 h
    refine Gz.iload (i := 4) (pc' := 176) (by decide +kernel) rfl 4 rfl ?_
    exact Gz.ireturn (by decide +kernel) rfl (zok_sI h)
  · have h := zok_f c1 h
    refine Gz.aload_n (q := 0) (pc' := 56) (by decide +kernel) rfl 0 rfl ?_
    refine Gz.aload_n (q := 0) (pc' := 57) (by decide +kernel) rfl 0 rfl ?_
    refine Gz.getR (pc' := 60) (j := 25) 118 fd_M_44 sh_107 rfl (by decide +kernel) rfl ?_
    refine Gz.iload (i := 5) (pc' := 62) (by decide +kernel) rfl 5 rfl ?_
    obtain ⟨c2, h⟩ := zok_c h
    refine Gz.iald (pc' := 63) (n := 16807) (by decide +kernel) rfl rfl c2 ?_
    refine Gz.callVV (st := []) (b := 107) (pc' := 66) [.int (w.1 118 (ix x5))] (g_M_live (w.1 118 (ix x5)) w) h ok_m_M_live lk_M_231 sh_107 rfl rfl rfl (Nat.le_of_ble_eq_true rfl) (Nat.le_of_ble_eq_true rfl) (Nat.le_of_ble_eq_true rfl) (by decide +kernel) rfl (fun _ w3 h => ?_)
    refine Gz.aload_n (q := 0) (pc' := 67) (by decide +kernel) rfl 0 rfl ?_
    refine Gz.callVI (st := []) (b := 107) (pc' := 70) [] (g_M_fits w3) h ok_m_M_fits lk_M_267 sh_107 rfl rfl rfl (Nat.le_of_ble_eq_true rfl) (Nat.le_of_ble_eq_true rfl) (Nat.le_of_ble_eq_true rfl) (by decide +kernel) rfl (fun v4 w5 h => ?_)
    refine Gz.if_eq (off := 98) (tgt := 168) (pc' := 73) (by decide +kernel) (by decide) rfl (fun c6 => ?_) (fun c6 => ?_)
    · have h := zok_t c6 h
      exact g_M_rows_b168 k46 hk46 x1 x2 x3 x4 x5 w5 h
    · have h := zok_f c6 h
      refine Gz.aload_n (q := 0) (pc' := 74) (by decide +kernel) rfl 0 rfl ?_
      refine Gz.getR (pc' := 77) (j := 12) 111 fd_M_23 sh_107 rfl (by decide +kernel) rfl ?_
      refine Gz.iload_n (q := 1) (pc' := 78) (by decide +kernel) rfl 1 rfl ?_
      obtain ⟨c7, h⟩ := zok_c h
      refine Gz.iald (pc' := 79) (n := 5) (by decide +kernel) rfl rfl c7 ?_
      refine Gz.bipush (n := 9) (v := (9 : Int32)) (pc' := 81) (by decide +kernel) rfl rfl ?_
      refine Gz.icmp_eq (off := 87) (tgt := 168) (pc' := 84) (by decide +kernel) (by decide) rfl (fun c8 => ?_) (fun c8 => ?_)
      · have h := zok_t c8 h
        exact g_M_rows_b168 k46 hk46 x1 x2 x3 x4 x5 w5 h
      · have h := zok_f c8 h
        refine Gz.aload_n (q := 0) (pc' := 85) (by decide +kernel) rfl 0 rfl ?_
        refine Gz.getR (pc' := 88) (j := 12) 111 fd_M_23 sh_107 rfl (by decide +kernel) rfl ?_
        refine Gz.iload_n (q := 2) (pc' := 89) (by decide +kernel) rfl 2 rfl ?_
        obtain ⟨c9, h⟩ := zok_c h
        refine Gz.iald (pc' := 90) (n := 5) (by decide +kernel) rfl rfl c9 ?_
        refine Gz.bipush (n := 9) (v := (9 : Int32)) (pc' := 92) (by decide +kernel) rfl rfl ?_
        refine Gz.icmp_ne (off := 6) (tgt := 98) (pc' := 95) (by decide +kernel) (by decide) rfl (fun c10 => ?_) (fun c10 => ?_)
        · have h := zok_f c10 h
          refine Gz.iload (i := 4) (pc' := 100) (by decide +kernel) rfl 4 rfl ?_
          refine Gz.iload_n (q := 3) (pc' := 101) (by decide +kernel) rfl 3 rfl ?_
          refine Gz.if_ne (off := 21) (tgt := 122) (pc' := 104) (by decide +kernel) (by decide) rfl (fun c11 => ?_) (fun c11 => ?_)
          · have h := zok_f c11 h
            refine Gz.iload_n (q := 3) (pc' := 123) (by decide +kernel) rfl 3 rfl ?_
            refine Gz.iconst (n := 1) (v := (1 : Int32)) (pc' := 124) (by decide +kernel) rfl rfl ?_
            refine Gz.icmp_ne (off := 21) (tgt := 145) (pc' := 127) (by decide +kernel) (by decide) rfl (fun c12 => ?_) (fun c12 => ?_)
            · have h := zok_f c12 h
              refine Gz.aload_n (q := 0) (pc' := 146) (by decide +kernel) rfl 0 rfl ?_
              refine Gz.getR (pc' := 149) (j := 12) 111 fd_M_23 sh_107 rfl (by decide +kernel) rfl ?_
              refine Gz.iload_n (q := 1) (pc' := 150) (by decide +kernel) rfl 1 rfl ?_
              obtain ⟨c13, h⟩ := zok_c h
              refine Gz.iald (pc' := 151) (n := 5) (by decide +kernel) rfl rfl c13 ?_
              refine Gz.aload_n (q := 0) (pc' := 152) (by decide +kernel) rfl 0 rfl ?_
              refine Gz.getR (pc' := 155) (j := 12) 111 fd_M_23 sh_107 rfl (by decide +kernel) rfl ?_
              refine Gz.iload_n (q := 2) (pc' := 156) (by decide +kernel) rfl 2 rfl ?_
              obtain ⟨c14, h⟩ := zok_c h
              refine Gz.iald (pc' := 157) (n := 5) (by decide +kernel) rfl rfl c14 ?_
              refine Gz.icmp_ne (off := 7) (tgt := 164) (pc' := 160) (by decide +kernel) (by decide) rfl (fun c15 => ?_) (fun c15 => ?_)
              · have h := zok_f c15 h
                refine Gz.sub (L' := [(0, .ref 107), (1, .int x1), (2, .int x2), (3, .int x3), (5, .int x5)]) [0, 1, 2, 3, 5] rfl ?_
                exact g_M_rows_b164 k46 hk46 x1 x2 x3 x5 x4 w5 h
              · have h := zok_t c15 h
                refine Gz.sub (L' := [(0, .ref 107), (1, .int x1), (2, .int x2), (3, .int x3), (5, .int x5)]) [0, 1, 2, 3, 5] rfl ?_
                exact g_M_rows_b160 k46 hk46 x1 x2 x3 x5 x4 w5 h
            · have h := zok_t c12 h
              refine Gz.aload_n (q := 0) (pc' := 128) (by decide +kernel) rfl 0 rfl ?_
              refine Gz.getR (pc' := 131) (j := 12) 111 fd_M_23 sh_107 rfl (by decide +kernel) rfl ?_
              refine Gz.iload_n (q := 1) (pc' := 132) (by decide +kernel) rfl 1 rfl ?_
              obtain ⟨c16, h⟩ := zok_c h
              refine Gz.iald (pc' := 133) (n := 5) (by decide +kernel) rfl rfl c16 ?_
              refine Gz.aload_n (q := 0) (pc' := 134) (by decide +kernel) rfl 0 rfl ?_
              refine Gz.getR (pc' := 137) (j := 12) 111 fd_M_23 sh_107 rfl (by decide +kernel) rfl ?_
              refine Gz.iload_n (q := 2) (pc' := 138) (by decide +kernel) rfl 2 rfl ?_
              obtain ⟨c17, h⟩ := zok_c h
              refine Gz.iald (pc' := 139) (n := 5) (by decide +kernel) rfl rfl c17 ?_
              refine Gz.icmp_le (off := 25) (tgt := 164) (pc' := 142) (by decide +kernel) (by decide) rfl (fun c18 => ?_) (fun c18 => ?_)
              · have h := zok_t c18 h
                refine Gz.sub (L' := [(0, .ref 107), (1, .int x1), (2, .int x2), (3, .int x3), (5, .int x5)]) [0, 1, 2, 3, 5] rfl ?_
                exact g_M_rows_b164 k46 hk46 x1 x2 x3 x5 x4 w5 h
              · have h := zok_f c18 h
                refine Gz.goto (off := 18) (tgt := 160) (by decide +kernel) (by decide) ?_
                refine Gz.sub (L' := [(0, .ref 107), (1, .int x1), (2, .int x2), (3, .int x3), (5, .int x5)]) [0, 1, 2, 3, 5] rfl ?_
                exact g_M_rows_b160 k46 hk46 x1 x2 x3 x5 x4 w5 h
          · have h := zok_t c11 h
            refine Gz.aload_n (q := 0) (pc' := 105) (by decide +kernel) rfl 0 rfl ?_
            refine Gz.getR (pc' := 108) (j := 12) 111 fd_M_23 sh_107 rfl (by decide +kernel) rfl ?_
            refine Gz.iload_n (q := 1) (pc' := 109) (by decide +kernel) rfl 1 rfl ?_
            obtain ⟨c19, h⟩ := zok_c h
            refine Gz.iald (pc' := 110) (n := 5) (by decide +kernel) rfl rfl c19 ?_
            refine Gz.aload_n (q := 0) (pc' := 111) (by decide +kernel) rfl 0 rfl ?_
            refine Gz.getR (pc' := 114) (j := 12) 111 fd_M_23 sh_107 rfl (by decide +kernel) rfl ?_
            refine Gz.iload_n (q := 2) (pc' := 115) (by decide +kernel) rfl 2 rfl ?_
            obtain ⟨c20, h⟩ := zok_c h
            refine Gz.iald (pc' := 116) (n := 5) (by decide +kernel) rfl rfl c20 ?_
            refine Gz.icmp_ge (off := 48) (tgt := 164) (pc' := 119) (by decide +kernel) (by decide) rfl (fun c21 => ?_) (fun c21 => ?_)
            · have h := zok_t c21 h
              refine Gz.sub (L' := [(0, .ref 107), (1, .int x1), (2, .int x2), (3, .int x3), (5, .int x5)]) [0, 1, 2, 3, 5] rfl ?_
              exact g_M_rows_b164 k46 hk46 x1 x2 x3 x5 x4 w5 h
            · have h := zok_f c21 h
              refine Gz.goto (off := 41) (tgt := 160) (by decide +kernel) (by decide) ?_
              refine Gz.sub (L' := [(0, .ref 107), (1, .int x1), (2, .int x2), (3, .int x3), (5, .int x5)]) [0, 1, 2, 3, 5] rfl ?_
              exact g_M_rows_b160 k46 hk46 x1 x2 x3 x5 x4 w5 h
        · have h := zok_t c10 h
          refine Gz.goto (off := 73) (tgt := 168) (by decide +kernel) (by decide) ?_
          exact g_M_rows_b168 k46 hk46 x1 x2 x3 x4 x5 w5 h
theorem g_M_rows_b46 {l : Launch} {Q : Option Value → gW → Prop} (x1 : Int32) (x2 : Int32) (x3 : Int32) (x4 : Int32) (x5 : Int32) (w : gW) (h : zok eI (f_M_rows_b46 x1 x2 x3 x4 x5 w) Q) : Gz l m_M_rows 57 46 [(0, .ref 107), (1, .int x1), (2, .int x2), (3, .int x3), (4, .int x4), (5, .int x5)] [] w Q := by
  have key : ∀ (n : Nat) (x1 : Int32) (x2 : Int32) (x3 : Int32) (x4 : Int32) (x5 : Int32) (w : gW), zok eI (zfx (fun _ _ _ _ _ _ => none) (f_M_rows_b46_s) n x1 x2 x3 x4 x5 w) Q → Gz l m_M_rows 57 46 [(0, .ref 107), (1, .int x1), (2, .int x2), (3, .int x3), (4, .int x4), (5, .int x5)] [] w Q := by
    intro n
    induction n with
    | zero => intro x1 x2 x3 x4 x5 w h; exact zok_n h
    | succ n ih => intro x1 x2 x3 x4 x5 w h; exact g_M_rows_b46_s _ ih x1 x2 x3 x4 x5 w h
  exact key zFU x1 x2 x3 x4 x5 w h
theorem g_M_rows {l : Launch} (a1 : Int32) (a2 : Int32) (a3 : Int32) (w : gW) : gCt l m_M_rows 57 [.ref 107, .int a1, .int a2, .int a3] w eI (f_M_rows a1 a2 a3 w) := by
  intro Q h
  unfold f_M_rows at h
  show Gz l m_M_rows 57 0 [(0, .ref 107), (1, .int a1), (2, .int a2), (3, .int a3)] [] w Q
  refine Gz.aload_n (q := 0) (pc' := 1) (by decide +kernel) rfl 0 rfl ?_
  refine Gz.iconst (n := 0) (v := (0 : Int32)) (pc' := 2) (by decide +kernel) rfl rfl ?_
  refine Gz.putI (pc' := 5) (j := 0) fd_M_96 sh_107 rfl (by decide +kernel) rfl ?_
  refine Gz.nmW (fun w1 e2 => ?_)
  have h := zok_l e2 h
  refine Gz.aload_n (q := 0) (pc' := 6) (by decide +kernel) rfl 0 rfl ?_
  refine Gz.iload_n (q := 1) (pc' := 7) (by decide +kernel) rfl 1 rfl ?_
  refine Gz.callVI (st := []) (b := 107) (pc' := 10) [.int a1] (g_M_isDeed a1 w1) h ok_m_M_isDeed lk_M_234 sh_107 rfl rfl rfl (Nat.le_of_ble_eq_true rfl) (Nat.le_of_ble_eq_true rfl) (Nat.le_of_ble_eq_true rfl) (by decide +kernel) rfl (fun v3 w4 h => ?_)
  refine Gz.if_eq (off := 28) (tgt := 38) (pc' := 13) (by decide +kernel) (by decide) rfl (fun c5 => ?_) (fun c5 => ?_)
  · have h := zok_t c5 h
    refine Gz.iconst (n := -1) (v := (-1 : Int32)) (pc' := 39) (by decide +kernel) rfl rfl ?_
    exact Gz.ireturn (by decide +kernel) rfl (zok_sI h)
  · have h := zok_f c5 h
    refine Gz.aload_n (q := 0) (pc' := 14) (by decide +kernel) rfl 0 rfl ?_
    refine Gz.iload_n (q := 2) (pc' := 15) (by decide +kernel) rfl 2 rfl ?_
    refine Gz.callVI (st := []) (b := 107) (pc' := 18) [.int a2] (g_M_isDeed a2 w4) h ok_m_M_isDeed lk_M_234 sh_107 rfl rfl rfl (Nat.le_of_ble_eq_true rfl) (Nat.le_of_ble_eq_true rfl) (Nat.le_of_ble_eq_true rfl) (by decide +kernel) rfl (fun v6 w7 h => ?_)
    refine Gz.if_eq (off := 20) (tgt := 38) (pc' := 21) (by decide +kernel) (by decide) rfl (fun c8 => ?_) (fun c8 => ?_)
    · have h := zok_t c8 h
      refine Gz.iconst (n := -1) (v := (-1 : Int32)) (pc' := 39) (by decide +kernel) rfl rfl ?_
      exact Gz.ireturn (by decide +kernel) rfl (zok_sI h)
    · have h := zok_f c8 h
      refine Gz.iload_n (q := 1) (pc' := 22) (by decide +kernel) rfl 1 rfl ?_
      refine Gz.iload_n (q := 2) (pc' := 23) (by decide +kernel) rfl 2 rfl ?_
      refine Gz.icmp_eq (off := 15) (tgt := 38) (pc' := 26) (by decide +kernel) (by decide) rfl (fun c9 => ?_) (fun c9 => ?_)
      · have h := zok_t c9 h
        refine Gz.iconst (n := -1) (v := (-1 : Int32)) (pc' := 39) (by decide +kernel) rfl rfl ?_
        exact Gz.ireturn (by decide +kernel) rfl (zok_sI h)
      · have h := zok_f c9 h
        refine Gz.iload_n (q := 3) (pc' := 27) (by decide +kernel) rfl 3 rfl ?_
        refine Gz.i2l (pc' := 28) (by decide +kernel) rfl ?_
        refine Gz.lconst (n := 0) (v := (0 : Int64)) (pc' := 29) (by decide +kernel) rfl rfl ?_
        refine Gz.ldc2 (idx := 237) (v := (2 : Int64)) (pc' := 32) (by decide +kernel) rfl kc_M_237 ?_
        refine Gz.callSI (st := []) (pc' := 35) [.long (a3.toInt64), .long (0 : Int64), .long (2 : Int64)] (g_M_isIn (a3.toInt64) (0 : Int64) (2 : Int64) w7) h ok_m_M_isIn lk_M_137 rfl (Nat.le_of_ble_eq_true rfl) (Nat.le_of_ble_eq_true rfl) (Nat.le_of_ble_eq_true rfl) (by decide +kernel) rfl (fun v10 w11 h => ?_)
        refine Gz.if_ne (off := 5) (tgt := 40) (pc' := 38) (by decide +kernel) (by decide) rfl (fun c12 => ?_) (fun c12 => ?_)
        · have h := zok_f c12 h
          refine Gz.iconst (n := 0) (v := (0 : Int32)) (pc' := 41) (by decide +kernel) rfl rfl ?_
          refine Gz.istore (i := 4) (pc' := 43) (L' := [(4, .int (0 : Int32)), (0, .ref 107), (1, .int a1), (2, .int a2), (3, .int a3)]) (by decide +kernel) rfl (Nat.le_of_ble_eq_true rfl) rfl ?_
          refine Gz.iconst (n := 0) (v := (0 : Int32)) (pc' := 44) (by decide +kernel) rfl rfl ?_
          refine Gz.istore (i := 5) (pc' := 46) (L' := [(5, .int (0 : Int32)), (4, .int (0 : Int32)), (0, .ref 107), (1, .int a1), (2, .int a2), (3, .int a3)]) (by decide +kernel) rfl (Nat.le_of_ble_eq_true rfl) rfl ?_
          refine Gz.sub (L' := [(0, .ref 107), (1, .int a1), (2, .int a2), (3, .int a3), (4, .int (0 : Int32)), (5, .int (0 : Int32))]) [2, 3, 4, 5, 1, 0] rfl ?_
          exact g_M_rows_b46 a1 a2 a3 (0 : Int32) (0 : Int32) w11 h
        · have h := zok_t c12 h
          refine Gz.iconst (n := -1) (v := (-1 : Int32)) (pc' := 39) (by decide +kernel) rfl rfl ?_
          exact Gz.ireturn (by decide +kernel) rfl (zok_sI h)
