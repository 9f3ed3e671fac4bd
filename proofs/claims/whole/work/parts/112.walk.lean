def f_Ch_sumDone_b130 (rK : Nat → Int32 → Int32 → Int64 → Int32 → gW → Option (Int64 × gW)) (x7 : Int64) (w : gW) : Option (Int64 × gW) :=
some (x7, w)
def f_Ch_sumDone_b91 (rK : Nat → Int32 → Int32 → Int64 → Int32 → gW → Option (Int64 × gW)) (k36 : Nat → Int32 → Int32 → Int64 → Int32 → Int64 → Int32 → gW → Option (Int64 × gW)) (x1 : Nat) (x2 : Int32) (x3 : Int32) (x4 : Int64) (x6 : Int32) (x7 : Int64) (x9 : Int32) (x10 : Int32) (s0 : Int32) (w : gW) : Option (Int64 × gW) :=
zb (f_Ch_weightOf x2 x9 w) (fun v1 w2 =>
zb (rK x1 (x2 + (1 : Int32)) x10 (x4 * (v1.toInt64)) (x6 + s0) w2) (fun v3 w4 =>
zl (x7 + v3) (fun v5 =>
zl (x9 + (1 : Int32)) (fun v7 =>
k36 x1 x2 x3 x4 x6 v5 v7 w4))))
def f_Ch_sumDone_b36_s (rK : Nat → Int32 → Int32 → Int64 → Int32 → gW → Option (Int64 × gW)) (k36 : Nat → Int32 → Int32 → Int64 → Int32 → Int64 → Int32 → gW → Option (Int64 × gW)) (x1 : Nat) (x2 : Int32) (x3 : Int32) (x4 : Int64) (x6 : Int32) (x7 : Int64) (x9 : Int32) (w : gW) : Option (Int64 × gW) :=
if (lg_cmp x4 (0 : Int64)) = 0 then
(f_Ch_sumDone_b130 rK x7 w)
else
(zb (f_La_options x2 w) (fun v2 w3 =>
if v2 ≤ x9 then
(f_Ch_sumDone_b130 rK x7 w3)
else
(zb (f_La_stride x2 w3) (fun v5 w6 =>
zl (x3 + (x9 * v5)) (fun v7 =>
zb (f_La_dayOf x2 x9 w6) (fun v9 w10 =>
if v9 = (9 : Int32) then
(f_Ch_sumDone_b91 rK k36 x1 x2 x3 x4 x6 x7 x9 v7 (0 : Int32) w10)
else
(f_Ch_sumDone_b91 rK k36 x1 x2 x3 x4 x6 x7 x9 v7 (1 : Int32) w10)))))))
def f_Ch_sumDone_b36 (rK : Nat → Int32 → Int32 → Int64 → Int32 → gW → Option (Int64 × gW)) : Nat → Int32 → Int32 → Int64 → Int32 → Int64 → Int32 → gW → Option (Int64 × gW) := zfx (fun _ _ _ _ _ _ _ _ => none) (f_Ch_sumDone_b36_s rK) zFU
def f_Ch_sumDone_rec (rK : Nat → Int32 → Int32 → Int64 → Int32 → gW → Option (Int64 × gW)) (a1 : Nat) (a2 : Int32) (a3 : Int32) (a4 : Int64) (a6 : Int32) (w : gW) : Option (Int64 × gW) :=
zb (f_La_hasDeed a2 w) (fun v1 w2 =>
if v1 = 0 then
(zb (f_Ro_has a1 a3 w2) (fun v4 w5 =>
if v4 = 0 then
(some ((0 : Int64), w5))
else
(some (a4 * (a6.toInt64), w5))))
else
(f_Ch_sumDone_b36 rK a1 a2 a3 a4 a6 (0 : Int64) (0 : Int32) w2))
def f_Ch_sumDone (a1 : Nat) (a2 : Int32) (a3 : Int32) (a4 : Int64) (a6 : Int32) (w : gW) : Option (Int64 × gW) := zfx (fun _ _ _ _ _ _ => none) f_Ch_sumDone_rec 16 a1 a2 a3 a4 a6 w
theorem g_Ch_sumDone_b130 {l : Launch} {Q : Option Value → gW → Prop} (rK : Nat → Int32 → Int32 → Int64 → Int32 → gW → Option (Int64 × gW)) {dK : Nat} (hd0 : 3 ≤ dK) (hK : ∀ (a1 : Nat) (a2 : Int32) (a3 : Int32) (a4 : Int64) (a6 : Int32) (w : gW), gCt l m_Ch_sumDone dK [.ref 102, .ref a1, .int a2, .int a3, .long a4, .int a6] w eJ (rK a1 a2 a3 a4 a6 w)) (x7 : Int64) (w : gW) (h : zok eJ (f_Ch_sumDone_b130 rK x7 w) Q) : Gz l m_Ch_sumDone (dK + 1) 130 [(7, .long x7)] [] w Q := by
  unfold f_Ch_sumDone_b130 at h
  refine Gz.lload (i := 7) (pc' := 132) (by decide +kernel) rfl 0 rfl ?_
  exact Gz.lreturn (by decide +kernel) rfl (zok_sJ h)
theorem g_Ch_sumDone_b91 {l : Launch} {Q : Option Value → gW → Prop} (rK : Nat → Int32 → Int32 → Int64 → Int32 → gW → Option (Int64 × gW)) {dK : Nat} (hd0 : 3 ≤ dK) (hK : ∀ (a1 : Nat) (a2 : Int32) (a3 : Int32) (a4 : Int64) (a6 : Int32) (w : gW), gCt l m_Ch_sumDone dK [.ref 102, .ref a1, .int a2, .int a3, .long a4, .int a6] w eJ (rK a1 a2 a3 a4 a6 w)) (k36 : Nat → Int32 → Int32 → Int64 → Int32 → Int64 → Int32 → gW → Option (Int64 × gW)) (hk36 : ∀ (x1 : Nat) (x2 : Int32) (x3 : Int32) (x4 : Int64) (x6 : Int32) (x7 : Int64) (x9 : Int32) (w : gW), zok eJ (k36 x1 x2 x3 x4 x6 x7 x9 w) Q → Gz l m_Ch_sumDone (dK + 1) 36 [(0, .ref 102), (1, .ref x1), (2, .int x2), (3, .int x3), (4, .long x4), (6, .int x6), (7, .long x7), (9, .int x9)] [] w Q) (x1 : Nat) (x2 : Int32) (x3 : Int32) (x4 : Int64) (x6 : Int32) (x7 : Int64) (x9 : Int32) (x10 : Int32) (s0 : Int32) (w : gW) (h : zok eJ (f_Ch_sumDone_b91 rK k36 x1 x2 x3 x4 x6 x7 x9 x10 s0 w) Q) : Gz l m_Ch_sumDone (dK + 1) 91 [(0, .ref 102), (1, .ref x1), (2, .int x2), (3, .int x3), (4, .long x4), (6, .int x6), (7, .long x7), (9, .int x9), (10, .int x10)] [.int s0] w Q := by
  unfold f_Ch_sumDone_b91 at h
  refine Gz.istore (i := 11) (pc' := 93) (L' := [(11, .int s0), (0, .ref 102), (1, .ref x1), (2, .int x2), (3, .int x3), (4, .long x4), (6, .int x6), (7, .long x7), (9, .int x9), (10, .int x10)]) (by decide +kernel) rfl (Nat.le_of_ble_eq_true rfl) rfl ?_
  refine Gz.lload (i := 7) (pc' := 95) (by decide +kernel) rfl 7 rfl ?_
  refine Gz.aload_n (q := 0) (pc' := 96) (by decide +kernel) rfl 1 rfl ?_
  refine Gz.aload_n (q := 1) (pc' := 97) (by decide +kernel) rfl 2 rfl ?_
  refine Gz.iload_n (q := 2) (pc' := 98) (by decide +kernel) rfl 3 rfl ?_
  refine Gz.iconst (n := 1) (v := (1 : Int32)) (pc' := 99) (by decide +kernel) rfl rfl ?_
  refine Gz.iadd (pc' := 100) (by decide +kernel) rfl ?_
  refine Gz.iload (i := 10) (pc' := 102) (by decide +kernel) rfl 9 rfl ?_
  refine Gz.lload (i := 4) (pc' := 104) (by decide +kernel) rfl 5 rfl ?_
  refine Gz.aload_n (q := 0) (pc' := 105) (by decide +kernel) rfl 1 rfl ?_
  refine Gz.iload_n (q := 2) (pc' := 106) (by decide +kernel) rfl 3 rfl ?_
  refine Gz.iload (i := 9) (pc' := 108) (by decide +kernel) rfl 8 rfl ?_
  refine Gz.callVI (st := [.long x4, .int x10, .int (x2 + (1 : Int32)), .ref x1, .ref 102, .long x7]) (b := 102) (pc' := 111) [.int x2, .int x9] (g_Ch_weightOf x2 x9 w) h ok_m_Ch_weightOf lk_Ch_184 sh_102 rfl rfl rfl (Nat.le_of_ble_eq_true rfl) (by omega) (Nat.le_of_ble_eq_true rfl) (by decide +kernel) rfl (fun v1 w2 h => ?_)
  refine Gz.i2l (pc' := 112) (by decide +kernel) rfl ?_
  refine Gz.lmul (pc' := 113) (by decide +kernel) rfl ?_
  refine Gz.iload (i := 6) (pc' := 115) (by decide +kernel) rfl 6 rfl ?_
  refine Gz.iload (i := 11) (pc' := 117) (by decide +kernel) rfl 0 rfl ?_
  refine Gz.iadd (pc' := 118) (by decide +kernel) rfl ?_
  refine Gz.callVJ (st := [.long x7]) (b := 102) (pc' := 121) [.ref x1, .int (x2 + (1 : Int32)), .int x10, .long (x4 * (v1.toInt64)), .int (x6 + s0)] (hK x1 (x2 + (1 : Int32)) x10 (x4 * (v1.toInt64)) (x6 + s0) w2) h ok_m_Ch_sumDone lk_Ch_54 sh_102 rfl rfl rfl (Nat.le_of_ble_eq_true rfl) (by omega) (Nat.le_of_ble_eq_true rfl) (by decide +kernel) rfl (fun v3 w4 h => ?_)
  refine Gz.ladd (pc' := 122) (by decide +kernel) rfl ?_
  refine Gz.nmJ (fun v5 e6 => ?_)
  have h := zok_l e6 h
  refine Gz.lstore (i := 7) (pc' := 124) (L' := [(7, .long v5), (11, .int s0), (0, .ref 102), (1, .ref x1), (2, .int x2), (3, .int x3), (4, .long x4), (6, .int x6), (9, .int x9), (10, .int x10)]) (by decide +kernel) rfl (Nat.le_of_ble_eq_true rfl) rfl ?_
  obtain ⟨v7, e8⟩ : ∃ y : Int32, y = x9 + (1 : Int32) := ⟨_, rfl⟩
  have h := zok_l e8 h
  refine Gz.iinc (i := 9) (n := 1) (pc' := 127) (L' := [(9, .int v7), (7, .long v5), (11, .int s0), (0, .ref 102), (1, .ref x1), (2, .int x2), (3, .int x3), (4, .long x4), (6, .int x6), (10, .int x10)]) v7 (by decide +kernel) rfl 8 rfl (by rw [e8]; rfl) (Nat.le_of_ble_eq_true rfl) rfl ?_
  refine Gz.goto (off := -91) (tgt := 36) (by decide +kernel) (by decide) ?_
  refine Gz.sub (L' := [(0, .ref 102), (1, .ref x1), (2, .int x2), (3, .int x3), (4, .long x4), (6, .int x6), (7, .long v5), (9, .int v7)]) [3, 4, 5, 6, 7, 8, 1, 0] rfl ?_
  exact hk36 x1 x2 x3 x4 x6 v5 v7 w4 h
theorem g_Ch_sumDone_b36_s {l : Launch} {Q : Option Value → gW → Prop} (rK : Nat → Int32 → Int32 → Int64 → Int32 → gW → Option (Int64 × gW)) {dK : Nat} (hd0 : 3 ≤ dK) (hK : ∀ (a1 : Nat) (a2 : Int32) (a3 : Int32) (a4 : Int64) (a6 : Int32) (w : gW), gCt l m_Ch_sumDone dK [.ref 102, .ref a1, .int a2, .int a3, .long a4, .int a6] w eJ (rK a1 a2 a3 a4 a6 w)) (k36 : Nat → Int32 → Int32 → Int64 → Int32 → Int64 → Int32 → gW → Option (Int64 × gW)) (hk36 : ∀ (x1 : Nat) (x2 : Int32) (x3 : Int32) (x4 : Int64) (x6 : Int32) (x7 : Int64) (x9 : Int32) (w : gW), zok eJ (k36 x1 x2 x3 x4 x6 x7 x9 w) Q → Gz l m_Ch_sumDone (dK + 1) 36 [(0, .ref 102), (1, .ref x1), (2, .int x2), (3, .int x3), (4, .long x4), (6, .int x6), (7, .long x7), (9, .int x9)] [] w Q) (x1 : Nat) (x2 : Int32) (x3 : Int32) (x4 : Int64) (x6 : Int32) (x7 : Int64) (x9 : Int32) (w : gW) (h : zok eJ (f_Ch_sumDone_b36_s rK k36 x1 x2 x3 x4 x6 x7 x9 w) Q) : Gz l m_Ch_sumDone (dK + 1) 36 [(0, .ref 102), (1, .ref x1), (2, .int x2), (3, .int x3), (4, .long x4), (6, .int x6), (7, .long x7), (9, .int x9)] [] w Q := by
  unfold f_Ch_sumDone_b36_s at h
  refine Gz.lload (i := 4) (pc' := 38) (by decide +kernel) rfl 4 rfl ?_
  refine Gz.lconst (n := 0) (v := (0 : Int64)) (pc' := 39) (by decide +kernel) rfl rfl ?_
  refine Gz.lcmp (pc' := 40) (by decide +kernel) rfl ?_
  refine Gz.if_eq (off := 90) (tgt := 130) (pc' := 43) (by decide +kernel) (by decide) rfl (fun c1 => ?_) (fun c1 => ?_)
  · have h := zok_t c1 h
    refine Gz.sub (L' := [(7, .long x7)]) [6] rfl ?_
    exact g_Ch_sumDone_b130 rK hd0 hK x7 w h
  · have h := zok_f c1 h
    refine Gz.iload (i := 9) (pc' := 45) (by decide +kernel) rfl 7 rfl ?_
    refine Gz.aload_n (q := 0) (pc' := 46) (by decide +kernel) rfl 0 rfl ?_
    refine Gz.getR (pc' := 49) (j := 0) 19 fd_Ch_18 sh_102 rfl (by decide +kernel) rfl ?_
    refine Gz.iload_n (q := 2) (pc' := 50) (by decide +kernel) rfl 2 rfl ?_
    refine Gz.callVI (st := [.int x9]) (b := 19) (pc' := 53) [.int x2] (g_La_options x2 w) h ok_m_La_options lk_Ch_178 sh_19 rfl rfl rfl (Nat.le_of_ble_eq_true rfl) (by omega) (Nat.le_of_ble_eq_true rfl) (by decide +kernel) rfl (fun v2 w3 h => ?_)
    refine Gz.icmp_ge (off := 77) (tgt := 130) (pc' := 56) (by decide +kernel) (by decide) rfl (fun c4 => ?_) (fun c4 => ?_)
    · have h := zok_t c4 h
      refine Gz.sub (L' := [(7, .long x7)]) [6] rfl ?_
      exact g_Ch_sumDone_b130 rK hd0 hK x7 w3 h
    · have h := zok_f c4 h
      refine Gz.iload_n (q := 3) (pc' := 57) (by decide +kernel) rfl 3 rfl ?_
      refine Gz.iload (i := 9) (pc' := 59) (by decide +kernel) rfl 7 rfl ?_
      refine Gz.aload_n (q := 0) (pc' := 60) (by decide +kernel) rfl 0 rfl ?_
      refine Gz.getR (pc' := 63) (j := 0) 19 fd_Ch_18 sh_102 rfl (by decide +kernel) rfl ?_
      refine Gz.iload_n (q := 2) (pc' := 64) (by decide +kernel) rfl 2 rfl ?_
      refine Gz.callVI (st := [.int x9, .int x3]) (b := 19) (pc' := 67) [.int x2] (g_La_stride x2 w3) h ok_m_La_stride lk_Ch_181 sh_19 rfl rfl rfl (Nat.le_of_ble_eq_true rfl) (by omega) (Nat.le_of_ble_eq_true rfl) (by decide +kernel) rfl (fun v5 w6 h => ?_)
      refine Gz.imul (pc' := 68) (by decide +kernel) rfl ?_
      refine Gz.iadd (pc' := 69) (by decide +kernel) rfl ?_
      refine Gz.nmI (fun v7 e8 => ?_)
      have h := zok_l e8 h
      refine Gz.istore (i := 10) (pc' := 71) (L' := [(10, .int v7), (0, .ref 102), (1, .ref x1), (2, .int x2), (3, .int x3), (4, .long x4), (6, .int x6), (7, .long x7), (9, .int x9)]) (by decide +kernel) rfl (Nat.le_of_ble_eq_true rfl) rfl ?_
      refine Gz.aload_n (q := 0) (pc' := 72) (by decide +kernel) rfl 1 rfl ?_
      refine Gz.getR (pc' := 75) (j := 0) 19 fd_Ch_18 sh_102 rfl (by decide +kernel) rfl ?_
      refine Gz.iload_n (q := 2) (pc' := 76) (by decide +kernel) rfl 3 rfl ?_
      refine Gz.iload (i := 9) (pc' := 78) (by decide +kernel) rfl 8 rfl ?_
      refine Gz.callVI (st := []) (b := 19) (pc' := 81) [.int x2, .int x9] (g_La_dayOf x2 x9 w6) h ok_m_La_dayOf lk_Ch_163 sh_19 rfl rfl rfl (Nat.le_of_ble_eq_true rfl) (by omega) (Nat.le_of_ble_eq_true rfl) (by decide +kernel) rfl (fun v9 w10 h => ?_)
      refine Gz.bipush (n := 9) (v := (9 : Int32)) (pc' := 83) (by decide +kernel) rfl rfl ?_
      refine Gz.icmp_ne (off := 7) (tgt := 90) (pc' := 86) (by decide +kernel) (by decide) rfl (fun c11 => ?_) (fun c11 => ?_)
      · have h := zok_f c11 h
        refine Gz.iconst (n := 1) (v := (1 : Int32)) (pc' := 91) (by decide +kernel) rfl rfl ?_
        refine Gz.sub (L' := [(0, .ref 102), (1, .ref x1), (2, .int x2), (3, .int x3), (4, .long x4), (6, .int x6), (7, .long x7), (9, .int x9), (10, .int v7)]) [1, 2, 3, 4, 5, 6, 7, 8, 0] rfl ?_
        exact g_Ch_sumDone_b91 rK hd0 hK k36 hk36 x1 x2 x3 x4 x6 x7 x9 v7 (1 : Int32) w10 h
      · have h := zok_t c11 h
        refine Gz.iconst (n := 0) (v := (0 : Int32)) (pc' := 87) (by decide +kernel) rfl rfl ?_
        refine Gz.goto (off := 4) (tgt := 91) (by decide +kernel) (by decide) ?_
        refine Gz.sub (L' := [(0, .ref 102), (1, .ref x1), (2, .int x2), (3, .int x3), (4, .long x4), (6, .int x6), (7, .long x7), (9, .int x9), (10, .int v7)]) [1, 2, 3, 4, 5, 6, 7, 8, 0] rfl ?_
        exact g_Ch_sumDone_b91 rK hd0 hK k36 hk36 x1 x2 x3 x4 x6 x7 x9 v7 (0 : Int32) w10 h
theorem g_Ch_sumDone_b36 {l : Launch} {Q : Option Value → gW → Prop} (rK : Nat → Int32 → Int32 → Int64 → Int32 → gW → Option (Int64 × gW)) {dK : Nat} (hd0 : 3 ≤ dK) (hK : ∀ (a1 : Nat) (a2 : Int32) (a3 : Int32) (a4 : Int64) (a6 : Int32) (w : gW), gCt l m_Ch_sumDone dK [.ref 102, .ref a1, .int a2, .int a3, .long a4, .int a6] w eJ (rK a1 a2 a3 a4 a6 w)) (x1 : Nat) (x2 : Int32) (x3 : Int32) (x4 : Int64) (x6 : Int32) (x7 : Int64) (x9 : Int32) (w : gW) (h : zok eJ (f_Ch_sumDone_b36 rK x1 x2 x3 x4 x6 x7 x9 w) Q) : Gz l m_Ch_sumDone (dK + 1) 36 [(0, .ref 102), (1, .ref x1), (2, .int x2), (3, .int x3), (4, .long x4), (6, .int x6), (7, .long x7), (9, .int x9)] [] w Q := by
  have key : ∀ (n : Nat) (x1 : Nat) (x2 : Int32) (x3 : Int32) (x4 : Int64) (x6 : Int32) (x7 : Int64) (x9 : Int32) (w : gW), zok eJ (zfx (fun _ _ _ _ _ _ _ _ => none) (f_Ch_sumDone_b36_s rK) n x1 x2 x3 x4 x6 x7 x9 w) Q → Gz l m_Ch_sumDone (dK + 1) 36 [(0, .ref 102), (1, .ref x1), (2, .int x2), (3, .int x3), (4, .long x4), (6, .int x6), (7, .long x7), (9, .int x9)] [] w Q := by
    intro n
    induction n with
    | zero => intro x1 x2 x3 x4 x6 x7 x9 w h; exact zok_n h
    | succ n ih => intro x1 x2 x3 x4 x6 x7 x9 w h; exact g_Ch_sumDone_b36_s rK hd0 hK _ ih x1 x2 x3 x4 x6 x7 x9 w h
  exact key zFU x1 x2 x3 x4 x6 x7 x9 w h
theorem g_Ch_sumDone_rec {l : Launch} (rK : Nat → Int32 → Int32 → Int64 → Int32 → gW → Option (Int64 × gW)) {dK : Nat} (hd0 : 3 ≤ dK) (hK : ∀ (a1 : Nat) (a2 : Int32) (a3 : Int32) (a4 : Int64) (a6 : Int32) (w : gW), gCt l m_Ch_sumDone dK [.ref 102, .ref a1, .int a2, .int a3, .long a4, .int a6] w eJ (rK a1 a2 a3 a4 a6 w)) (a1 : Nat) (a2 : Int32) (a3 : Int32) (a4 : Int64) (a6 : Int32) (w : gW) : gCt l m_Ch_sumDone (dK + 1) [.ref 102, .ref a1, .int a2, .int a3, .long a4, .int a6] w eJ (f_Ch_sumDone_rec rK a1 a2 a3 a4 a6 w) := by
  intro Q h
  unfold f_Ch_sumDone_rec at h
  show Gz l m_Ch_sumDone (dK + 1) 0 [(0, .ref 102), (1, .ref a1), (2, .int a2), (3, .int a3), (4, .long a4), (6, .int a6)] [] w Q
  refine Gz.aload_n (q := 0) (pc' := 1) (by decide +kernel) rfl 0 rfl ?_
  refine Gz.getR (pc' := 4) (j := 0) 19 fd_Ch_18 sh_102 rfl (by decide +kernel) rfl ?_
  refine Gz.iload_n (q := 2) (pc' := 5) (by decide +kernel) rfl 2 rfl ?_
  refine Gz.callVI (st := []) (b := 19) (pc' := 8) [.int a2] (g_La_hasDeed a2 w) h ok_m_La_hasDeed lk_Ch_171 sh_19 rfl rfl rfl (Nat.le_of_ble_eq_true rfl) (by omega) (Nat.le_of_ble_eq_true rfl) (by decide +kernel) rfl (fun v1 w2 h => ?_)
  refine Gz.if_ne (off := 22) (tgt := 30) (pc' := 11) (by decide +kernel) (by decide) rfl (fun c3 => ?_) (fun c3 => ?_)
  · have h := zok_f c3 h
    refine Gz.lconst (n := 0) (v := (0 : Int64)) (pc' := 31) (by decide +kernel) rfl rfl ?_
    refine Gz.lstore (i := 7) (pc' := 33) (L' := [(7, .long (0 : Int64)), (0, .ref 102), (1, .ref a1), (2, .int a2), (3, .int a3), (4, .long a4), (6, .int a6)]) (by decide +kernel) rfl (Nat.le_of_ble_eq_true rfl) rfl ?_
    refine Gz.iconst (n := 0) (v := (0 : Int32)) (pc' := 34) (by decide +kernel) rfl rfl ?_
    refine Gz.istore (i := 9) (pc' := 36) (L' := [(9, .int (0 : Int32)), (7, .long (0 : Int64)), (0, .ref 102), (1, .ref a1), (2, .int a2), (3, .int a3), (4, .long a4), (6, .int a6)]) (by decide +kernel) rfl (Nat.le_of_ble_eq_true rfl) rfl ?_
    refine Gz.sub (L' := [(0, .ref 102), (1, .ref a1), (2, .int a2), (3, .int a3), (4, .long a4), (6, .int a6), (7, .long (0 : Int64)), (9, .int (0 : Int32))]) [2, 3, 4, 5, 6, 7, 1, 0] rfl ?_
    exact g_Ch_sumDone_b36 rK hd0 hK a1 a2 a3 a4 a6 (0 : Int64) (0 : Int32) w2 h
  · have h := zok_t c3 h
    refine Gz.aload_n (q := 1) (pc' := 12) (by decide +kernel) rfl 1 rfl ?_
    refine Gz.iload_n (q := 3) (pc' := 13) (by decide +kernel) rfl 3 rfl ?_
    refine Gz.callSI (st := []) (pc' := 16) [.ref a1, .int a3] (g_Ro_has a1 a3 w2) h ok_m_Ro_has lk_Ch_174 rfl (Nat.le_of_ble_eq_true rfl) (by omega) (Nat.le_of_ble_eq_true rfl) (by decide +kernel) rfl (fun v4 w5 h => ?_)
    refine Gz.if_eq (off := 12) (tgt := 28) (pc' := 19) (by decide +kernel) (by decide) rfl (fun c6 => ?_) (fun c6 => ?_)
    · have h := zok_t c6 h
      refine Gz.lconst (n := 0) (v := (0 : Int64)) (pc' := 29) (by decide +kernel) rfl rfl ?_
      exact Gz.lreturn (by decide +kernel) rfl (zok_sJ h)
    · have h := zok_f c6 h
      refine Gz.lload (i := 4) (pc' := 21) (by decide +kernel) rfl 4 rfl ?_
      refine Gz.iload (i := 6) (pc' := 23) (by decide +kernel) rfl 5 rfl ?_
      refine Gz.i2l (pc' := 24) (by decide +kernel) rfl ?_
      refine Gz.lmul (pc' := 25) (by decide +kernel) rfl ?_
      refine Gz.goto (off := 4) (tgt := 29) (by decide +kernel) (by decide) ?_
      exact Gz.lreturn (by decide +kernel) rfl (zok_sJ h)
theorem g_Ch_sumDone_n {l : Launch} : ∀ (n : Nat) (a1 : Nat) (a2 : Int32) (a3 : Int32) (a4 : Int64) (a6 : Int32) (w : gW), gCt l m_Ch_sumDone (3 + n * 1) [.ref 102, .ref a1, .int a2, .int a3, .long a4, .int a6] w eJ (zfx (fun _ _ _ _ _ _ => none) f_Ch_sumDone_rec n a1 a2 a3 a4 a6 w) := by
  intro n
  induction n with
  | zero => intro a1 a2 a3 a4 a6 w Q h; exact zok_n h
  | succ n ih =>
    intro a1 a2 a3 a4 a6 w
    have hh := g_Ch_sumDone_rec (l := l) _ (dK := 3 + n * 1) (by omega) ih a1 a2 a3 a4 a6 w
    rw [show 3 + (n + 1) * 1 = 3 + n * 1 + 1 by omega]
    exact hh
theorem g_Ch_sumDone {l : Launch} (a1 : Nat) (a2 : Int32) (a3 : Int32) (a4 : Int64) (a6 : Int32) (w : gW) : gCt l m_Ch_sumDone 19 [.ref 102, .ref a1, .int a2, .int a3, .long a4, .int a6] w eJ (f_Ch_sumDone a1 a2 a3 a4 a6 w) := g_Ch_sumDone_n 16 a1 a2 a3 a4 a6 w
def f_Ch_meanDone (a1 : Int32) (w : gW) : Option (Int64 × gW) :=
zb (f_Co_fitting w) (fun v1 w2 =>
zb (f_Ch_sumDone v1 (0 : Int32) (0 : Int32) (1 : Int64) (0 : Int32) w2) (fun v3 w4 =>
zb (f_Co_fitting w4) (fun v5 w6 =>
zb (f_Ch_sum v5 (0 : Int32) (0 : Int32) (1 : Int64) w6) (fun v7 w8 =>
zb (f_Ch_plain v3 v7 a1 w8) (fun v9 w10 =>
some (v9, w10))))))
theorem g_Ch_meanDone {l : Launch} (a1 : Int32) (w : gW) : gCt l m_Ch_meanDone 20 [.ref 102, .int a1] w eJ (f_Ch_meanDone a1 w) := by
  intro Q h
  unfold f_Ch_meanDone at h
  show Gz l m_Ch_meanDone 20 0 [(0, .ref 102), (1, .int a1)] [] w Q
  refine Gz.aload_n (q := 0) (pc' := 1) (by decide +kernel) rfl 0 rfl ?_
  refine Gz.aload_n (q := 0) (pc' := 2) (by decide +kernel) rfl 0 rfl ?_
  refine Gz.getR (pc' := 5) (j := 2) 73 fd_Ch_26 sh_102 rfl (by decide +kernel) rfl ?_
  refine Gz.callVR (st := [.ref 102]) (b := 73) (pc' := 8) [] (g_Co_fitting w) h ok_m_Co_fitting lk_Ch_36 sh_73 rfl rfl rfl (Nat.le_of_ble_eq_true rfl) (Nat.le_of_ble_eq_true rfl) (Nat.le_of_ble_eq_true rfl) (by decide +kernel) rfl (fun v1 w2 h => ?_)
  refine Gz.iconst (n := 0) (v := (0 : Int32)) (pc' := 9) (by decide +kernel) rfl rfl ?_
  refine Gz.iconst (n := 0) (v := (0 : Int32)) (pc' := 10) (by decide +kernel) rfl rfl ?_
  refine Gz.lconst (n := 1) (v := (1 : Int64)) (pc' := 11) (by decide +kernel) rfl rfl ?_
  refine Gz.iconst (n := 0) (v := (0 : Int32)) (pc' := 12) (by decide +kernel) rfl rfl ?_
  refine Gz.callVJ (st := []) (b := 102) (pc' := 15) [.ref v1, .int (0 : Int32), .int (0 : Int32), .long (1 : Int64), .int (0 : Int32)] (g_Ch_sumDone v1 (0 : Int32) (0 : Int32) (1 : Int64) (0 : Int32) w2) h ok_m_Ch_sumDone lk_Ch_54 sh_102 rfl rfl rfl (Nat.le_of_ble_eq_true rfl) (Nat.le_of_ble_eq_true rfl) (Nat.le_of_ble_eq_true rfl) (by decide +kernel) rfl (fun v3 w4 h => ?_)
  refine Gz.aload_n (q := 0) (pc' := 16) (by decide +kernel) rfl 0 rfl ?_
  refine Gz.aload_n (q := 0) (pc' := 17) (by decide +kernel) rfl 0 rfl ?_
  refine Gz.getR (pc' := 20) (j := 2) 73 fd_Ch_26 sh_102 rfl (by decide +kernel) rfl ?_
  refine Gz.callVR (st := [.ref 102, .long v3]) (b := 73) (pc' := 23) [] (g_Co_fitting w4) h ok_m_Co_fitting lk_Ch_36 sh_73 rfl rfl rfl (Nat.le_of_ble_eq_true rfl) (Nat.le_of_ble_eq_true rfl) (Nat.le_of_ble_eq_true rfl) (by decide +kernel) rfl (fun v5 w6 h => ?_)
  refine Gz.iconst (n := 0) (v := (0 : Int32)) (pc' := 24) (by decide +kernel) rfl rfl ?_
  refine Gz.iconst (n := 0) (v := (0 : Int32)) (pc' := 25) (by decide +kernel) rfl rfl ?_
  refine Gz.lconst (n := 1) (v := (1 : Int64)) (pc' := 26) (by decide +kernel) rfl rfl ?_
  refine Gz.callVJ (st := [.long v3]) (b := 102) (pc' := 29) [.ref v5, .int (0 : Int32), .int (0 : Int32), .long (1 : Int64)] (g_Ch_sum v5 (0 : Int32) (0 : Int32) (1 : Int64) w6) h ok_m_Ch_sum lk_Ch_46 sh_102 rfl rfl rfl (Nat.le_of_ble_eq_true rfl) (Nat.le_of_ble_eq_true rfl) (Nat.le_of_ble_eq_true rfl) (by decide +kernel) rfl (fun v7 w8 h => ?_)
  refine Gz.iload_n (q := 1) (pc' := 30) (by decide +kernel) rfl 1 rfl ?_
  refine Gz.callSJ (st := []) (pc' := 33) [.long v3, .long v7, .int a1] (g_Ch_plain v3 v7 a1 w8) h ok_m_Ch_plain lk_Ch_50 rfl (Nat.le_of_ble_eq_true rfl) (Nat.le_of_ble_eq_true rfl) (Nat.le_of_ble_eq_true rfl) (by decide +kernel) rfl (fun v9 w10 h => ?_)
  exact Gz.lreturn (by decide +kernel) rfl (zok_sJ h)
def f_X_mean_b28 (w : gW) : Option (Int64 × gW) :=
some ((-1 : Int64), w)
def f_X_mean (a1 : Int32) (w : gW) : Option (Int64 × gW) :=
zb (f_La_isThere w) (fun v1 w2 =>
if v1 = 0 then
(f_X_mean_b28 w2)
else
(zb (f_X_isZeroOrOne a1 w2) (fun v4 w5 =>
if v4 = 0 then
(f_X_mean_b28 w5)
else
(zb (f_Ch_meanDone a1 w5) (fun v7 w8 =>
some (v7, w8))))))
theorem g_X_mean_b28 {l : Launch} {Q : Option Value → gW → Prop} (w : gW) (h : zok eJ (f_X_mean_b28 w) Q) : Gz l m_X_mean 21 28 [] [] w Q := by
  unfold f_X_mean_b28 at h
  refine Gz.ldc2 (idx := 271) (v := (-1 : Int64)) (pc' := 31) (by decide +kernel) rfl kc_X_271 ?_
  exact Gz.lreturn (by decide +kernel) rfl (zok_sJ h)
theorem g_X_mean {l : Launch} (a1 : Int32) (w : gW) : gCt l m_X_mean 21 [.ref 0, .int a1] w eJ (f_X_mean a1 w) := by
  intro Q h
  unfold f_X_mean at h
  show Gz l m_X_mean 21 0 [(0, .ref 0), (1, .int a1)] [] w Q
  refine Gz.aload_n (q := 0) (pc' := 1) (by decide +kernel) rfl 0 rfl ?_
  refine Gz.getR (pc' := 4) (j := 3) 19 fd_X_33 sh_0 rfl (by decide +kernel) rfl ?_
  refine Gz.callVI (st := []) (b := 19) (pc' := 7) [] (g_La_isThere w) h ok_m_La_isThere lk_X_176 sh_19 rfl rfl rfl (Nat.le_of_ble_eq_true rfl) (Nat.le_of_ble_eq_true rfl) (Nat.le_of_ble_eq_true rfl) (by decide +kernel) rfl (fun v1 w2 h => ?_)
  refine Gz.if_eq (off := 21) (tgt := 28) (pc' := 10) (by decide +kernel) (by decide) rfl (fun c3 => ?_) (fun c3 => ?_)
  · have h := zok_t c3 h
    refine Gz.sub (L' := []) [] rfl ?_
    exact g_X_mean_b28 w2 h
  · have h := zok_f c3 h
    refine Gz.iload_n (q := 1) (pc' := 11) (by decide +kernel) rfl 1 rfl ?_
    refine Gz.callSI (st := []) (pc' := 14) [.int a1] (g_X_isZeroOrOne a1 w2) h ok_m_X_isZeroOrOne lk_X_228 rfl (Nat.le_of_ble_eq_true rfl) (Nat.le_of_ble_eq_true rfl) (Nat.le_of_ble_eq_true rfl) (by decide +kernel) rfl (fun v4 w5 h => ?_)
    refine Gz.if_eq (off := 14) (tgt := 28) (pc' := 17) (by decide +kernel) (by decide) rfl (fun c6 => ?_) (fun c6 => ?_)
    · have h := zok_t c6 h
      refine Gz.sub (L' := []) [] rfl ?_
      exact g_X_mean_b28 w5 h
    · have h := zok_f c6 h
      refine Gz.aload_n (q := 0) (pc' := 18) (by decide +kernel) rfl 0 rfl ?_
      refine Gz.getR (pc' := 21) (j := 9) 102 fd_X_79 sh_0 rfl (by decide +kernel) rfl ?_
      refine Gz.iload_n (q := 1) (pc' := 22) (by decide +kernel) rfl 1 rfl ?_
      refine Gz.callVJ (st := []) (b := 102) (pc' := 25) [.int a1] (g_Ch_meanDone a1 w5) h ok_m_Ch_meanDone lk_X_328 sh_102 rfl rfl rfl (Nat.le_of_ble_eq_true rfl) (Nat.le_of_ble_eq_true rfl) (Nat.le_of_ble_eq_true rfl) (by decide +kernel) rfl (fun v7 w8 h => ?_)
      refine Gz.goto (off := 6) (tgt := 31) (by decide +kernel) (by decide) ?_
      exact Gz.lreturn (by decide +kernel) rfl (zok_sJ h)
def f_Ch_seekHeaviest_b44_s (rK : Nat → Int32 → Int32 → Int64 → gW → Option (Unit × gW)) (k44 : Nat → Int32 → Int32 → Int64 → Int32 → gW → Option (Unit × gW)) (x1 : Nat) (x2 : Int32) (x3 : Int32) (x4 : Int64) (x6 : Int32) (w : gW) : Option (Unit × gW) :=
zb (f_La_options x2 w) (fun v1 w2 =>
if v1 ≤ x6 then
(some ((), w2))
else
(zb (f_La_stride x2 w2) (fun v4 w5 =>
zl (x3 + (x6 * v4)) (fun v6 =>
zb (f_Ch_weightOf x2 x6 w5) (fun v8 w9 =>
zb (rK x1 (x2 + (1 : Int32)) v6 (x4 * (v8.toInt64)) w9) (fun _ w10 =>
zl (x6 + (1 : Int32)) (fun v11 =>
k44 x1 x2 x3 x4 v11 w10)))))))
def f_Ch_seekHeaviest_b44 (rK : Nat → Int32 → Int32 → Int64 → gW → Option (Unit × gW)) : Nat → Int32 → Int32 → Int64 → Int32 → gW → Option (Unit × gW) := zfx (fun _ _ _ _ _ _ => none) (f_Ch_seekHeaviest_b44_s rK) zFU
def f_Ch_seekHeaviest_rec (rK : Nat → Int32 → Int32 → Int64 → gW → Option (Unit × gW)) (a1 : Nat) (a2 : Int32) (a3 : Int32) (a4 : Int64) (w : gW) : Option (Unit × gW) :=
zb (f_La_hasDeed a2 w) (fun v1 w2 =>
if v1 = 0 then
(if (lg_cmp a4 (w2.2 102 5)) ≤ 0 then
(some ((), w2))
else
(zb (f_Ro_has a1 a3 w2) (fun v5 w6 =>
if v5 = 0 then
(some ((), w6))
else
(zl (zsL w6 102 5 a4) (fun w8 =>
zl (zsI w8 102 6 a3) (fun w10 =>
some ((), w10)))))))
else
(f_Ch_seekHeaviest_b44 rK a1 a2 a3 a4 (0 : Int32) w2))
def f_Ch_seekHeaviest (a1 : Nat) (a2 : Int32) (a3 : Int32) (a4 : Int64) (w : gW) : Option (Unit × gW) := zfx (fun _ _ _ _ _ => none) f_Ch_seekHeaviest_rec 16 a1 a2 a3 a4 w
theorem g_Ch_seekHeaviest_b44_s {l : Launch} {Q : Option Value → gW → Prop} (rK : Nat → Int32 → Int32 → Int64 → gW → Option (Unit × gW)) {dK : Nat} (hd0 : 3 ≤ dK) (hK : ∀ (a1 : Nat) (a2 : Int32) (a3 : Int32) (a4 : Int64) (w : gW), gCt l m_Ch_seekHeaviest dK [.ref 102, .ref a1, .int a2, .int a3, .long a4] w eV (rK a1 a2 a3 a4 w)) (k44 : Nat → Int32 → Int32 → Int64 → Int32 → gW → Option (Unit × gW)) (hk44 : ∀ (x1 : Nat) (x2 : Int32) (x3 : Int32) (x4 : Int64) (x6 : Int32) (w : gW), zok eV (k44 x1 x2 x3 x4 x6 w) Q → Gz l m_Ch_seekHeaviest (dK + 1) 44 [(0, .ref 102), (1, .ref x1), (2, .int x2), (3, .int x3), (4, .long x4), (6, .int x6)] [] w Q) (x1 : Nat) (x2 : Int32) (x3 : Int32) (x4 : Int64) (x6 : Int32) (w : gW) (h : zok eV (f_Ch_seekHeaviest_b44_s rK k44 x1 x2 x3 x4 x6 w) Q) : Gz l m_Ch_seekHeaviest (dK + 1) 44 [(0, .ref 102), (1, .ref x1), (2, .int x2), (3, .int x3), (4, .long x4), (6, .int x6)] [] w Q := by
  unfold f_Ch_seekHeaviest_b44_s at h
  refine Gz.iload (i := 6) (pc' := 46) (by decide +kernel) rfl 5 rfl ?_
  refine Gz.aload_n (q := 0) (pc' := 47) (by decide +kernel) rfl 0 rfl ?_
  refine Gz.getR (pc' := 50) (j := 0) 19 fd_Ch_18 sh_102 rfl (by decide +kernel) rfl ?_
  refine Gz.iload_n (q := 2) (pc' := 51) (by decide +kernel) rfl 2 rfl ?_
  refine Gz.callVI (st := [.int x6]) (b := 19) (pc' := 54) [.int x2] (g_La_options x2 w) h ok_m_La_options lk_Ch_178 sh_19 rfl rfl rfl (Nat.le_of_ble_eq_true rfl) (by omega) (Nat.le_of_ble_eq_true rfl) (by decide +kernel) rfl (fun v1 w2 h => ?_)
  refine Gz.icmp_ge (off := 45) (tgt := 99) (pc' := 57) (by decide +kernel) (by decide) rfl (fun c3 => ?_) (fun c3 => ?_)
  · have h := zok_t c3 h
    exact Gz.return_ (by decide +kernel) rfl (zok_sV h)
  · have h := zok_f c3 h
    refine Gz.iload_n (q := 3) (pc' := 58) (by decide +kernel) rfl 3 rfl ?_
    refine Gz.iload (i := 6) (pc' := 60) (by decide +kernel) rfl 5 rfl ?_
    refine Gz.aload_n (q := 0) (pc' := 61) (by decide +kernel) rfl 0 rfl ?_
    refine Gz.getR (pc' := 64) (j := 0) 19 fd_Ch_18 sh_102 rfl (by decide +kernel) rfl ?_
    refine Gz.iload_n (q := 2) (pc' := 65) (by decide +kernel) rfl 2 rfl ?_
    refine Gz.callVI (st := [.int x6, .int x3]) (b := 19) (pc' := 68) [.int x2] (g_La_stride x2 w2) h ok_m_La_stride lk_Ch_181 sh_19 rfl rfl rfl (Nat.le_of_ble_eq_true rfl) (by omega) (Nat.le_of_ble_eq_true rfl) (by decide +kernel) rfl (fun v4 w5 h => ?_)
    refine Gz.imul (pc' := 69) (by decide +kernel) rfl ?_
    refine Gz.iadd (pc' := 70) (by decide +kernel) rfl ?_
    refine Gz.nmI (fun v6 e7 => ?_)
    have h := zok_l e7 h
    refine Gz.istore (i := 7) (pc' := 72) (L' := [(7, .int v6), (0, .ref 102), (1, .ref x1), (2, .int x2), (3, .int x3), (4, .long x4), (6, .int x6)]) (by decide +kernel) rfl (Nat.le_of_ble_eq_true rfl) rfl ?_
    refine Gz.aload_n (q := 0) (pc' := 73) (by decide +kernel) rfl 1 rfl ?_
    refine Gz.aload_n (q := 1) (pc' := 74) (by decide +kernel) rfl 2 rfl ?_
    refine Gz.iload_n (q := 2) (pc' := 75) (by decide +kernel) rfl 3 rfl ?_
    refine Gz.iconst (n := 1) (v := (1 : Int32)) (pc' := 76) (by decide +kernel) rfl rfl ?_
    refine Gz.iadd (pc' := 77) (by decide +kernel) rfl ?_
    refine Gz.iload (i := 7) (pc' := 79) (by decide +kernel) rfl 0 rfl ?_
    refine Gz.lload (i := 4) (pc' := 81) (by decide +kernel) rfl 5 rfl ?_
    refine Gz.aload_n (q := 0) (pc' := 82) (by decide +kernel) rfl 1 rfl ?_
    refine Gz.iload_n (q := 2) (pc' := 83) (by decide +kernel) rfl 3 rfl ?_
    refine Gz.iload (i := 6) (pc' := 85) (by decide +kernel) rfl 6 rfl ?_
    refine Gz.callVI (st := [.long x4, .int v6, .int (x2 + (1 : Int32)), .ref x1, .ref 102]) (b := 102) (pc' := 88) [.int x2, .int x6] (g_Ch_weightOf x2 x6 w5) h ok_m_Ch_weightOf lk_Ch_184 sh_102 rfl rfl rfl (Nat.le_of_ble_eq_true rfl) (by omega) (Nat.le_of_ble_eq_true rfl) (by decide +kernel) rfl (fun v8 w9 h => ?_)
    refine Gz.i2l (pc' := 89) (by decide +kernel) rfl ?_
    refine Gz.lmul (pc' := 90) (by decide +kernel) rfl ?_
    refine Gz.callVV (st := []) (b := 102) (pc' := 93) [.ref x1, .int (x2 + (1 : Int32)), .int v6, .long (x4 * (v8.toInt64))] (hK x1 (x2 + (1 : Int32)) v6 (x4 * (v8.toInt64)) w9) h ok_m_Ch_seekHeaviest lk_Ch_93 sh_102 rfl rfl rfl (Nat.le_of_ble_eq_true rfl) (by omega) (Nat.le_of_ble_eq_true rfl) (by decide +kernel) rfl (fun _ w10 h => ?_)
    obtain ⟨v11, e12⟩ : ∃ y : Int32, y = x6 + (1 : Int32) := ⟨_, rfl⟩
    have h := zok_l e12 h
    refine Gz.iinc (i := 6) (n := 1) (pc' := 96) (L' := [(6, .int v11), (7, .int v6), (0, .ref 102), (1, .ref x1), (2, .int x2), (3, .int x3), (4, .long x4)]) v11 (by decide +kernel) rfl 6 rfl (by rw [e12]; rfl) (Nat.le_of_ble_eq_true rfl) rfl ?_
    refine Gz.goto (off := -52) (tgt := 44) (by decide +kernel) (by decide) ?_
    refine Gz.sub (L' := [(0, .ref 102), (1, .ref x1), (2, .int x2), (3, .int x3), (4, .long x4), (6, .int v11)]) [2, 3, 4, 5, 6, 0] rfl ?_
    exact hk44 x1 x2 x3 x4 v11 w10 h
theorem g_Ch_seekHeaviest_b44 {l : Launch} {Q : Option Value → gW → Prop} (rK : Nat → Int32 → Int32 → Int64 → gW → Option (Unit × gW)) {dK : Nat} (hd0 : 3 ≤ dK) (hK : ∀ (a1 : Nat) (a2 : Int32) (a3 : Int32) (a4 : Int64) (w : gW), gCt l m_Ch_seekHeaviest dK [.ref 102, .ref a1, .int a2, .int a3, .long a4] w eV (rK a1 a2 a3 a4 w)) (x1 : Nat) (x2 : Int32) (x3 : Int32) (x4 : Int64) (x6 : Int32) (w : gW) (h : zok eV (f_Ch_seekHeaviest_b44 rK x1 x2 x3 x4 x6 w) Q) : Gz l m_Ch_seekHeaviest (dK + 1) 44 [(0, .ref 102), (1, .ref x1), (2, .int x2), (3, .int x3), (4, .long x4), (6, .int x6)] [] w Q := by
  have key : ∀ (n : Nat) (x1 : Nat) (x2 : Int32) (x3 : Int32) (x4 : Int64) (x6 : Int32) (w : gW), zok eV (zfx (fun _ _ _ _ _ _ => none) (f_Ch_seekHeaviest_b44_s rK) n x1 x2 x3 x4 x6 w) Q → Gz l m_Ch_seekHeaviest (dK + 1) 44 [(0, .ref 102), (1, .ref x1), (2, .int x2), (3, .int x3), (4, .long x4), (6, .int x6)] [] w Q := by
    intro n
    induction n with
    | zero => intro x1 x2 x3 x4 x6 w h; exact zok_n h
    | succ n ih => intro x1 x2 x3 x4 x6 w h; exact g_Ch_seekHeaviest_b44_s rK hd0 hK _ ih x1 x2 x3 x4 x6 w h
  exact key zFU x1 x2 x3 x4 x6 w h
theorem g_Ch_seekHeaviest_rec {l : Launch} (rK : Nat → Int32 → Int32 → Int64 → gW → Option (Unit × gW)) {dK : Nat} (hd0 : 3 ≤ dK) (hK : ∀ (a1 : Nat) (a2 : Int32) (a3 : Int32) (a4 : Int64) (w : gW), gCt l m_Ch_seekHeaviest dK [.ref 102, .ref a1, .int a2, .int a3, .long a4] w eV (rK a1 a2 a3 a4 w)) (a1 : Nat) (a2 : Int32) (a3 : Int32) (a4 : Int64) (w : gW) : gCt l m_Ch_seekHeaviest (dK + 1) [.ref 102, .ref a1, .int a2, .int a3, .long a4] w eV (f_Ch_seekHeaviest_rec rK a1 a2 a3 a4 w) := by
  intro Q h
  unfold f_Ch_seekHeaviest_rec at h
  show Gz l m_Ch_seekHeaviest (dK + 1) 0 [(0, .ref 102), (1, .ref a1), (2, .int a2), (3, .int a3), (4, .long a4)] [] w Q
  refine Gz.aload_n (q := 0) (pc' := 1) (by decide +kernel) rfl 0 rfl ?_
  refine Gz.getR (pc' := 4) (j := 0) 19 fd_Ch_18 sh_102 rfl (by decide +kernel) rfl ?_
  refine Gz.iload_n (q := 2) (pc' := 5) (by decide +kernel) rfl 2 rfl ?_
  refine Gz.callVI (st := []) (b := 19) (pc' := 8) [.int a2] (g_La_hasDeed a2 w) h ok_m_La_hasDeed lk_Ch_171 sh_19 rfl rfl rfl (Nat.le_of_ble_eq_true rfl) (by omega) (Nat.le_of_ble_eq_true rfl) (by decide +kernel) rfl (fun v1 w2 h => ?_)
  refine Gz.if_ne (off := 33) (tgt := 41) (pc' := 11) (by decide +kernel) (by decide) rfl (fun c3 => ?_) (fun c3 => ?_)
  · have h := zok_f c3 h
    refine Gz.iconst (n := 0) (v := (0 : Int32)) (pc' := 42) (by decide +kernel) rfl rfl ?_
    refine Gz.istore (i := 6) (pc' := 44) (L' := [(6, .int (0 : Int32)), (0, .ref 102), (1, .ref a1), (2, .int a2), (3, .int a3), (4, .long a4)]) (by decide +kernel) rfl (Nat.le_of_ble_eq_true rfl) rfl ?_
    refine Gz.sub (L' := [(0, .ref 102), (1, .ref a1), (2, .int a2), (3, .int a3), (4, .long a4), (6, .int (0 : Int32))]) [1, 2, 3, 4, 5, 0] rfl ?_
    exact g_Ch_seekHeaviest_b44 rK hd0 hK a1 a2 a3 a4 (0 : Int32) w2 h
  · have h := zok_t c3 h
    refine Gz.lload (i := 4) (pc' := 13) (by decide +kernel) rfl 4 rfl ?_
    refine Gz.aload_n (q := 0) (pc' := 14) (by decide +kernel) rfl 0 rfl ?_
    refine Gz.getJ (pc' := 17) (j := 5) fd_Ch_85 sh_102 rfl (by decide +kernel) rfl ?_
    refine Gz.lcmp (pc' := 18) (by decide +kernel) rfl ?_
    refine Gz.if_le (off := 22) (tgt := 40) (pc' := 21) (by decide +kernel) (by decide) rfl (fun c4 => ?_) (fun c4 => ?_)
    · have h := zok_t c4 h
      exact Gz.return_ (by decide +kernel) rfl (zok_sV h)
    · have h := zok_f c4 h
      refine Gz.aload_n (q := 1) (pc' := 22) (by decide +kernel) rfl 1 rfl ?_
      refine Gz.iload_n (q := 3) (pc' := 23) (by decide +kernel) rfl 3 rfl ?_
      refine Gz.callSI (st := []) (pc' := 26) [.ref a1, .int a3] (g_Ro_has a1 a3 w2) h ok_m_Ro_has lk_Ch_174 rfl (Nat.le_of_ble_eq_true rfl) (by omega) (Nat.le_of_ble_eq_true rfl) (by decide +kernel) rfl (fun v5 w6 h => ?_)
      refine Gz.if_eq (off := 14) (tgt := 40) (pc' := 29) (by decide +kernel) (by decide) rfl (fun c7 => ?_) (fun c7 => ?_)
      · have h := zok_t c7 h
        exact Gz.return_ (by decide +kernel) rfl (zok_sV h)
      · have h := zok_f c7 h
        refine Gz.aload_n (q := 0) (pc' := 30) (by decide +kernel) rfl 0 rfl ?_
        refine Gz.lload (i := 4) (pc' := 32) (by decide +kernel) rfl 4 rfl ?_
        refine Gz.putJ (pc' := 35) (j := 5) fd_Ch_85 sh_102 rfl (by decide +kernel) rfl ?_
        refine Gz.nmW (fun w8 e9 => ?_)
        have h := zok_l e9 h
        refine Gz.aload_n (q := 0) (pc' := 36) (by decide +kernel) rfl 0 rfl ?_
        refine Gz.iload_n (q := 3) (pc' := 37) (by decide +kernel) rfl 3 rfl ?_
        refine Gz.putI (pc' := 40) (j := 6) fd_Ch_89 sh_102 rfl (by decide +kernel) rfl ?_
        refine Gz.nmW (fun w10 e11 => ?_)
        have h := zok_l e11 h
        exact Gz.return_ (by decide +kernel) rfl (zok_sV h)
theorem g_Ch_seekHeaviest_n {l : Launch} : ∀ (n : Nat) (a1 : Nat) (a2 : Int32) (a3 : Int32) (a4 : Int64) (w : gW), gCt l m_Ch_seekHeaviest (3 + n * 1) [.ref 102, .ref a1, .int a2, .int a3, .long a4] w eV (zfx (fun _ _ _ _ _ => none) f_Ch_seekHeaviest_rec n a1 a2 a3 a4 w) := by
  intro n
  induction n with
  | zero => intro a1 a2 a3 a4 w Q h; exact zok_n h
  | succ n ih =>
    intro a1 a2 a3 a4 w
    have hh := g_Ch_seekHeaviest_rec (l := l) _ (dK := 3 + n * 1) (by omega) ih a1 a2 a3 a4 w
    rw [show 3 + (n + 1) * 1 = 3 + n * 1 + 1 by omega]
    exact hh
theorem g_Ch_seekHeaviest {l : Launch} (a1 : Nat) (a2 : Int32) (a3 : Int32) (a4 : Int64) (w : gW) : gCt l m_Ch_seekHeaviest 19 [.ref 102, .ref a1, .int a2, .int a3, .long a4] w eV (f_Ch_seekHeaviest a1 a2 a3 a4 w) := g_Ch_seekHeaviest_n 16 a1 a2 a3 a4 w
def f_Ch_heaviest (w : gW) : Option (Int32 × gW) :=
zl (zsL w 102 5 (-1 : Int64)) (fun w1 =>
zl (zsI w1 102 6 (-1 : Int32)) (fun w3 =>
zb (f_Co_fitting w3) (fun v5 w6 =>
zb (f_Ch_seekHeaviest v5 (0 : Int32) (0 : Int32) (1 : Int64) w6) (fun _ w7 =>
zb (f_La_numberAt (w7.1 102 6) w7) (fun v8 w9 =>
some (v8, w9))))))
theorem g_Ch_heaviest {l : Launch} (w : gW) : gCt l m_Ch_heaviest 20 [.ref 102] w eI (f_Ch_heaviest w) := by
  intro Q h
  unfold f_Ch_heaviest at h
  show Gz l m_Ch_heaviest 20 0 [(0, .ref 102)] [] w Q
  refine Gz.aload_n (q := 0) (pc' := 1) (by decide +kernel) rfl 0 rfl ?_
  refine Gz.ldc2 (idx := 83) (v := (-1 : Int64)) (pc' := 4) (by decide +kernel) rfl kc_Ch_83 ?_
  refine Gz.putJ (pc' := 7) (j := 5) fd_Ch_85 sh_102 rfl (by decide +kernel) rfl ?_
  refine Gz.nmW (fun w1 e2 => ?_)
  have h := zok_l e2 h
  refine Gz.aload_n (q := 0) (pc' := 8) (by decide +kernel) rfl 0 rfl ?_
  refine Gz.iconst (n := -1) (v := (-1 : Int32)) (pc' := 9) (by decide +kernel) rfl rfl ?_
  refine Gz.putI (pc' := 12) (j := 6) fd_Ch_89 sh_102 rfl (by decide +kernel) rfl ?_
  refine Gz.nmW (fun w3 e4 => ?_)
  have h := zok_l e4 h
  refine Gz.aload_n (q := 0) (pc' := 13) (by decide +kernel) rfl 0 rfl ?_
  refine Gz.aload_n (q := 0) (pc' := 14) (by decide +kernel) rfl 0 rfl ?_
  refine Gz.getR (pc' := 17) (j := 2) 73 fd_Ch_26 sh_102 rfl (by decide +kernel) rfl ?_
  refine Gz.callVR (st := [.ref 102]) (b := 73) (pc' := 20) [] (g_Co_fitting w3) h ok_m_Co_fitting lk_Ch_36 sh_73 rfl rfl rfl (Nat.le_of_ble_eq_true rfl) (Nat.le_of_ble_eq_true rfl) (Nat.le_of_ble_eq_true rfl) (by decide +kernel) rfl (fun v5 w6 h => ?_)
  refine Gz.iconst (n := 0) (v := (0 : Int32)) (pc' := 21) (by decide +kernel) rfl rfl ?_
  refine Gz.iconst (n := 0) (v := (0 : Int32)) (pc' := 22) (by decide +kernel) rfl rfl ?_
  refine Gz.lconst (n := 1) (v := (1 : Int64)) (pc' := 23) (by decide +kernel) rfl rfl ?_
  refine Gz.callVV (st := []) (b := 102) (pc' := 26) [.ref v5, .int (0 : Int32), .int (0 : Int32), .long (1 : Int64)] (g_Ch_seekHeaviest v5 (0 : Int32) (0 : Int32) (1 : Int64) w6) h ok_m_Ch_seekHeaviest lk_Ch_93 sh_102 rfl rfl rfl (Nat.le_of_ble_eq_true rfl) (Nat.le_of_ble_eq_true rfl) (Nat.le_of_ble_eq_true rfl) (by decide +kernel) rfl (fun _ w7 h => ?_)
  refine Gz.aload_n (q := 0) (pc' := 27) (by decide +kernel) rfl 0 rfl ?_
  refine Gz.getR (pc' := 30) (j := 0) 19 fd_Ch_18 sh_102 rfl (by decide +kernel) rfl ?_
  refine Gz.aload_n (q := 0) (pc' := 31) (by decide +kernel) rfl 0 rfl ?_
  refine Gz.getI (pc' := 34) (j := 6) fd_Ch_89 sh_102 rfl (by decide +kernel) rfl ?_
  refine Gz.callVI (st := []) (b := 19) (pc' := 37) [.int (w7.1 102 6)] (g_La_numberAt (w7.1 102 6) w7) h ok_m_La_numberAt lk_Ch_97 sh_19 rfl rfl rfl (Nat.le_of_ble_eq_true rfl) (Nat.le_of_ble_eq_true rfl) (Nat.le_of_ble_eq_true rfl) (by decide +kernel) rfl (fun v8 w9 h => ?_)
  exact Gz.ireturn (by decide +kernel) rfl (zok_sI h)
def f_X_likeliest (w : gW) : Option (Int32 × gW) :=
zb (f_La_isThere w) (fun v1 w2 =>
if v1 = 0 then
(some ((-1 : Int32), w2))
else
(zb (f_Ch_heaviest w2) (fun v4 w5 =>
some (v4, w5))))
theorem g_X_likeliest {l : Launch} (w : gW) : gCt l m_X_likeliest 21 [.ref 0] w eI (f_X_likeliest w) := by
  intro Q h
  unfold f_X_likeliest at h
  show Gz l m_X_likeliest 21 0 [(0, .ref 0)] [] w Q
  refine Gz.aload_n (q := 0) (pc' := 1) (by decide +kernel) rfl 0 rfl ?_
  refine Gz.getR (pc' := 4) (j := 3) 19 fd_X_33 sh_0 rfl (by decide +kernel) rfl ?_
  refine Gz.callVI (st := []) (b := 19) (pc' := 7) [] (g_La_isThere w) h ok_m_La_isThere lk_X_176 sh_19 rfl rfl rfl (Nat.le_of_ble_eq_true rfl) (Nat.le_of_ble_eq_true rfl) (Nat.le_of_ble_eq_true rfl) (by decide +kernel) rfl (fun v1 w2 h => ?_)
  refine Gz.if_eq (off := 13) (tgt := 20) (pc' := 10) (by decide +kernel) (by decide) rfl (fun c3 => ?_) (fun c3 => ?_)
  · have h := zok_t c3 h
    refine Gz.iconst (n := -1) (v := (-1 : Int32)) (pc' := 21) (by decide +kernel) rfl rfl ?_
    exact Gz.ireturn (by decide +kernel) rfl (zok_sI h)
  · have h := zok_f c3 h
    refine Gz.aload_n (q := 0) (pc' := 11) (by decide +kernel) rfl 0 rfl ?_
    refine Gz.getR (pc' := 14) (j := 9) 102 fd_X_79 sh_0 rfl (by decide +kernel) rfl ?_
    refine Gz.callVI (st := []) (b := 102) (pc' := 17) [] (g_Ch_heaviest w2) h ok_m_Ch_heaviest lk_X_332 sh_102 rfl rfl rfl (Nat.le_of_ble_eq_true rfl) (Nat.le_of_ble_eq_true rfl) (Nat.le_of_ble_eq_true rfl) (by decide +kernel) rfl (fun v4 w5 h => ?_)
    refine Gz.goto (off := 4) (tgt := 21) (by decide +kernel) (by decide) ?_
    exact Gz.ireturn (by decide +kernel) rfl (zok_sI h)
def f_Ch_drawnBy (a1 : Int64) (w : gW) : Option (Int32 × gW) :=
zb (f_Co_fitting w) (fun v1 w2 =>
zb (f_La_words w2) (fun v3 w4 =>
zb (f_Ro_size v1 v3 w4) (fun v5 w6 =>
if 0 < v5 then
(zl ((a1 * (6364136223846793005 : Int64)) + (1442695040888963407 : Int64)) (fun v8 =>
zb (f_Co_fitting w6) (fun v10 w11 =>
zb (f_La_words w11) (fun v12 w13 =>
if ¬ (v5.toInt64) = 0 then
zb (f_Ro_pick v10 v12 (((zusL v8 (33 : Int32)) - (zusL v8 (33 : Int32)) / (v5.toInt64) * (v5.toInt64)).toInt32) w13) (fun v15 w16 =>
zb (f_La_numberAt v15 w16) (fun v17 w18 =>
some (v17, w18)))
else none))))
else
(some ((-1 : Int32), w6)))))
theorem g_Ch_drawnBy {l : Launch} (a1 : Int64) (w : gW) : gCt l m_Ch_drawnBy 5 [.ref 102, .long a1] w eI (f_Ch_drawnBy a1 w) := by
  intro Q h
  unfold f_Ch_drawnBy at h
  show Gz l m_Ch_drawnBy 5 0 [(0, .ref 102), (1, .long a1)] [] w Q
  refine Gz.aload_n (q := 0) (pc' := 1) (by decide +kernel) rfl 0 rfl ?_
  refine Gz.getR (pc' := 4) (j := 2) 73 fd_Ch_26 sh_102 rfl (by decide +kernel) rfl ?_
  refine Gz.callVR (st := []) (b := 73) (pc' := 7) [] (g_Co_fitting w) h ok_m_Co_fitting lk_Ch_36 sh_73 rfl rfl rfl (Nat.le_of_ble_eq_true rfl) (Nat.le_of_ble_eq_true rfl) (Nat.le_of_ble_eq_true rfl) (by decide +kernel) rfl (fun v1 w2 h => ?_)
  refine Gz.aload_n (q := 0) (pc' := 8) (by decide +kernel) rfl 0 rfl ?_
  refine Gz.getR (pc' := 11) (j := 0) 19 fd_Ch_18 sh_102 rfl (by decide +kernel) rfl ?_
  refine Gz.callVI (st := [.ref v1]) (b := 19) (pc' := 14) [] (g_La_words w2) h ok_m_La_words lk_Ch_58 sh_19 rfl rfl rfl (Nat.le_of_ble_eq_true rfl) (Nat.le_of_ble_eq_true rfl) (Nat.le_of_ble_eq_true rfl) (by decide +kernel) rfl (fun v3 w4 h => ?_)
  refine Gz.callSI (st := []) (pc' := 17) [.ref v1, .int v3] (g_Ro_size v1 v3 w4) h ok_m_Ro_size lk_Ch_64 rfl (Nat.le_of_ble_eq_true rfl) (Nat.le_of_ble_eq_true rfl) (Nat.le_of_ble_eq_true rfl) (by decide +kernel) rfl (fun v5 w6 h => ?_)
  refine Gz.istore_n (q := 3) (pc' := 18) (L' := [(3, .int v5), (0, .ref 102), (1, .long a1)]) (by decide +kernel) rfl (Nat.le_of_ble_eq_true rfl) rfl ?_
  refine Gz.iload_n (q := 3) (pc' := 19) (by decide +kernel) rfl 0 rfl ?_
  refine Gz.if_gt (off := 5) (tgt := 24) (pc' := 22) (by decide +kernel) (by decide) rfl (fun c7 => ?_) (fun c7 => ?_)
  · have h := zok_t c7 h
    refine Gz.lload_n (q := 1) (pc' := 25) (by decide +kernel) rfl 2 rfl ?_
    refine Gz.ldc2 (idx := 101) (v := (6364136223846793005 : Int64)) (pc' := 28) (by decide +kernel) rfl kc_Ch_101 ?_
    refine Gz.lmul (pc' := 29) (by decide +kernel) rfl ?_
    refine Gz.ldc2 (idx := 103) (v := (1442695040888963407 : Int64)) (pc' := 32) (by decide +kernel) rfl kc_Ch_103 ?_
    refine Gz.ladd (pc' := 33) (by decide +kernel) rfl ?_
    refine Gz.nmJ (fun v8 e9 => ?_)
    have h := zok_l e9 h
    refine Gz.lstore (i := 4) (pc' := 35) (L' := [(4, .long v8), (3, .int v5), (0, .ref 102), (1, .long a1)]) (by decide +kernel) rfl (Nat.le_of_ble_eq_true rfl) rfl ?_
    refine Gz.aload_n (q := 0) (pc' := 36) (by decide +kernel) rfl 2 rfl ?_
    refine Gz.getR (pc' := 39) (j := 0) 19 fd_Ch_18 sh_102 rfl (by decide +kernel) rfl ?_
    refine Gz.aload_n (q := 0) (pc' := 40) (by decide +kernel) rfl 2 rfl ?_
    refine Gz.getR (pc' := 43) (j := 2) 73 fd_Ch_26 sh_102 rfl (by decide +kernel) rfl ?_
    refine Gz.callVR (st := [.ref 19]) (b := 73) (pc' := 46) [] (g_Co_fitting w6) h ok_m_Co_fitting lk_Ch_36 sh_73 rfl rfl rfl (Nat.le_of_ble_eq_true rfl) (Nat.le_of_ble_eq_true rfl) (Nat.le_of_ble_eq_true rfl) (by decide +kernel) rfl (fun v10 w11 h => ?_)
    refine Gz.aload_n (q := 0) (pc' := 47) (by decide +kernel) rfl 2 rfl ?_
    refine Gz.getR (pc' := 50) (j := 0) 19 fd_Ch_18 sh_102 rfl (by decide +kernel) rfl ?_
    refine Gz.callVI (st := [.ref v10, .ref 19]) (b := 19) (pc' := 53) [] (g_La_words w11) h ok_m_La_words lk_Ch_58 sh_19 rfl rfl rfl (Nat.le_of_ble_eq_true rfl) (Nat.le_of_ble_eq_true rfl) (Nat.le_of_ble_eq_true rfl) (by decide +kernel) rfl (fun v12 w13 h => ?_)
    refine Gz.lload (i := 4) (pc' := 55) (by decide +kernel) rfl 0 rfl ?_
    refine Gz.bipush (n := 33) (v := (33 : Int32)) (pc' := 57) (by decide +kernel) rfl rfl ?_
    refine Gz.lushr (pc' := 58) (by decide +kernel) rfl ?_
    refine Gz.iload_n (q := 3) (pc' := 59) (by decide +kernel) rfl 1 rfl ?_
    refine Gz.i2l (pc' := 60) (by decide +kernel) rfl ?_
    obtain ⟨c14, h⟩ := zok_c h
    refine Gz.lrem (pc' := 61) (by decide +kernel) rfl c14 ?_
    refine Gz.l2i (pc' := 62) (by decide +kernel) rfl ?_
    refine Gz.callSI (st := [.ref 19]) (pc' := 65) [.ref v10, .int v12, .int (((zusL v8 (33 : Int32)) - (zusL v8 (33 : Int32)) / (v5.toInt64) * (v5.toInt64)).toInt32)] (g_Ro_pick v10 v12 (((zusL v8 (33 : Int32)) - (zusL v8 (33 : Int32)) / (v5.toInt64) * (v5.toInt64)).toInt32) w13) h ok_m_Ro_pick lk_Ch_105 rfl (Nat.le_of_ble_eq_true rfl) (Nat.le_of_ble_eq_true rfl) (Nat.le_of_ble_eq_true rfl) (by decide +kernel) rfl (fun v15 w16 h => ?_)
    refine Gz.callVI (st := []) (b := 19) (pc' := 68) [.int v15] (g_La_numberAt v15 w16) h ok_m_La_numberAt lk_Ch_97 sh_19 rfl rfl rfl (Nat.le_of_ble_eq_true rfl) (Nat.le_of_ble_eq_true rfl) (Nat.le_of_ble_eq_true rfl) (by decide +kernel) rfl (fun v17 w18 h => ?_)
    exact Gz.ireturn (by decide +kernel) rfl (zok_sI h)
  · have h := zok_f c7 h
    refine Gz.iconst (n := -1) (v := (-1 : Int32)) (pc' := 23) (by decide +kernel) rfl rfl ?_
    exact Gz.ireturn (by decide +kernel) rfl (zok_sI h)
def f_X_drawn (a1 : Int64) (w : gW) : Option (Int32 × gW) :=
zb (f_La_isThere w) (fun v1 w2 =>
if v1 = 0 then
(some ((-1 : Int32), w2))
else
(zb (f_Ch_drawnBy a1 w2) (fun v4 w5 =>
some (v4, w5))))
theorem g_X_drawn {l : Launch} (a1 : Int64) (w : gW) : gCt l m_X_drawn 6 [.ref 0, .long a1] w eI (f_X_drawn a1 w) := by
  intro Q h
  unfold f_X_drawn at h
  show Gz l m_X_drawn 6 0 [(0, .ref 0), (1, .long a1)] [] w Q
  refine Gz.aload_n (q := 0) (pc' := 1) (by decide +kernel) rfl 0 rfl ?_
  refine Gz.getR (pc' := 4) (j := 3) 19 fd_X_33 sh_0 rfl (by decide +kernel) rfl ?_
  refine Gz.callVI (st := []) (b := 19) (pc' := 7) [] (g_La_isThere w) h ok_m_La_isThere lk_X_176 sh_19 rfl rfl rfl (Nat.le_of_ble_eq_true rfl) (Nat.le_of_ble_eq_true rfl) (Nat.le_of_ble_eq_true rfl) (by decide +kernel) rfl (fun v1 w2 h => ?_)
  refine Gz.if_eq (off := 14) (tgt := 21) (pc' := 10) (by decide +kernel) (by decide) rfl (fun c3 => ?_) (fun c3 => ?_)
  · have h := zok_t c3 h
    refine Gz.iconst (n := -1) (v := (-1 : Int32)) (pc' := 22) (by decide +kernel) rfl rfl ?_
    exact Gz.ireturn (by decide +kernel) rfl (zok_sI h)
  · have h := zok_f c3 h
    refine Gz.aload_n (q := 0) (pc' := 11) (by decide +kernel) rfl 0 rfl ?_
    refine Gz.getR (pc' := 14) (j := 9) 102 fd_X_79 sh_0 rfl (by decide +kernel) rfl ?_
    refine Gz.lload_n (q := 1) (pc' := 15) (by decide +kernel) rfl 1 rfl ?_
    refine Gz.callVI (st := []) (b := 102) (pc' := 18) [.long a1] (g_Ch_drawnBy a1 w2) h ok_m_Ch_drawnBy lk_X_335 sh_102 rfl rfl rfl (Nat.le_of_ble_eq_true rfl) (Nat.le_of_ble_eq_true rfl) (Nat.le_of_ble_eq_true rfl) (by decide +kernel) rfl (fun v4 w5 h => ?_)
    refine Gz.goto (off := 4) (tgt := 22) (by decide +kernel) (by decide) ?_
    exact Gz.ireturn (by decide +kernel) rfl (zok_sI h)
def f_Ch_mostOn_b20_s (k20 : Int32 → Int32 → Int32 → gW → Option (Int32 × gW)) (x1 : Int32) (x2 : Int32) (x3 : Int32) (w : gW) : Option (Int32 × gW) :=
zb (f_La_deedCount w) (fun v1 w2 =>
if v1 ≤ x3 then
(zb (f_Ro_topLevel 103 w2) (fun v4 w5 =>
some (v4, w5)))
else
(zb (f_La_dateWord x3 x1 x2 w2) (fun v6 w7 =>
zb (f_Ro_addLevel 103 v6 w7) (fun _ w8 =>
zl (x3 + (1 : Int32)) (fun v9 =>
k20 x1 x2 v9 w8)))))
def f_Ch_mostOn_b20 : Int32 → Int32 → Int32 → gW → Option (Int32 × gW) := zfx (fun _ _ _ _ => none) (f_Ch_mostOn_b20_s) zFU
def f_Ch_mostOn (a1 : Int32) (a2 : Int32) (w : gW) : Option (Int32 × gW) :=
zb (f_Co_fitting w) (fun v1 w2 =>
zb (f_Ro_word v1 a2 w2) (fun v3 w4 =>
zb (f_Ro_startLevels 103 v3 w4) (fun _ w5 =>
f_Ch_mostOn_b20 a1 a2 (0 : Int32) w5)))
theorem g_Ch_mostOn_b20_s {l : Launch} {Q : Option Value → gW → Prop} (k20 : Int32 → Int32 → Int32 → gW → Option (Int32 × gW)) (hk20 : ∀ (x1 : Int32) (x2 : Int32) (x3 : Int32) (w : gW), zok eI (k20 x1 x2 x3 w) Q → Gz l m_Ch_mostOn 4 20 [(0, .ref 102), (1, .int x1), (2, .int x2), (3, .int x3)] [] w Q) (x1 : Int32) (x2 : Int32) (x3 : Int32) (w : gW) (h : zok eI (f_Ch_mostOn_b20_s k20 x1 x2 x3 w) Q) : Gz l m_Ch_mostOn 4 20 [(0, .ref 102), (1, .int x1), (2, .int x2), (3, .int x3)] [] w Q := by
  unfold f_Ch_mostOn_b20_s at h
  refine Gz.iload_n (q := 3) (pc' := 21) (by decide +kernel) rfl 3 rfl ?_
  refine Gz.aload_n (q := 0) (pc' := 22) (by decide +kernel) rfl 0 rfl ?_
  refine Gz.getR (pc' := 25) (j := 0) 19 fd_Ch_18 sh_102 rfl (by decide +kernel) rfl ?_
  refine Gz.callVI (st := [.int x3]) (b := 19) (pc' := 28) [] (g_La_deedCount w) h ok_m_La_deedCount lk_Ch_68 sh_19 rfl rfl rfl (Nat.le_of_ble_eq_true rfl) (Nat.le_of_ble_eq_true rfl) (Nat.le_of_ble_eq_true rfl) (by decide +kernel) rfl (fun v1 w2 h => ?_)
  refine Gz.icmp_ge (off := 26) (tgt := 54) (pc' := 31) (by decide +kernel) (by decide) rfl (fun c3 => ?_) (fun c3 => ?_)
  · have h := zok_t c3 h
    refine Gz.aload_n (q := 0) (pc' := 55) (by decide +kernel) rfl 0 rfl ?_
    refine Gz.getR (pc' := 58) (j := 3) 103 fd_Ch_9 sh_102 rfl (by decide +kernel) rfl ?_
    refine Gz.callSI (st := []) (pc' := 61) [.ref 103] (g_Ro_topLevel 103 w2) h ok_m_Ro_topLevel lk_Ch_123 rfl (Nat.le_of_ble_eq_true rfl) (Nat.le_of_ble_eq_true rfl) (Nat.le_of_ble_eq_true rfl) (by decide +kernel) rfl (fun v4 w5 h => ?_)
    exact Gz.ireturn (by decide +kernel) rfl (zok_sI h)
  · have h := zok_f c3 h
    refine Gz.aload_n (q := 0) (pc' := 32) (by decide +kernel) rfl 0 rfl ?_
    refine Gz.getR (pc' := 35) (j := 3) 103 fd_Ch_9 sh_102 rfl (by decide +kernel) rfl ?_
    refine Gz.aload_n (q := 0) (pc' := 36) (by decide +kernel) rfl 0 rfl ?_
    refine Gz.getR (pc' := 39) (j := 0) 19 fd_Ch_18 sh_102 rfl (by decide +kernel) rfl ?_
    refine Gz.iload_n (q := 3) (pc' := 40) (by decide +kernel) rfl 3 rfl ?_
    refine Gz.iload_n (q := 1) (pc' := 41) (by decide +kernel) rfl 1 rfl ?_
    refine Gz.iload_n (q := 2) (pc' := 42) (by decide +kernel) rfl 2 rfl ?_
    refine Gz.callVJ (st := [.ref 103]) (b := 19) (pc' := 45) [.int x3, .int x1, .int x2] (g_La_dateWord x3 x1 x2 w2) h ok_m_La_dateWord lk_Ch_116 sh_19 rfl rfl rfl (Nat.le_of_ble_eq_true rfl) (Nat.le_of_ble_eq_true rfl) (Nat.le_of_ble_eq_true rfl) (by decide +kernel) rfl (fun v6 w7 h => ?_)
    refine Gz.callSV (st := []) (pc' := 48) [.ref 103, .long v6] (g_Ro_addLevel 103 v6 w7) h ok_m_Ro_addLevel lk_Ch_120 rfl (Nat.le_of_ble_eq_true rfl) (Nat.le_of_ble_eq_true rfl) (Nat.le_of_ble_eq_true rfl) (by decide +kernel) rfl (fun _ w8 h => ?_)
    obtain ⟨v9, e10⟩ : ∃ y : Int32, y = x3 + (1 : Int32) := ⟨_, rfl⟩
    have h := zok_l e10 h
    refine Gz.iinc (i := 3) (n := 1) (pc' := 51) (L' := [(3, .int v9), (0, .ref 102), (1, .int x1), (2, .int x2)]) v9 (by decide +kernel) rfl 3 rfl (by rw [e10]; rfl) (Nat.le_of_ble_eq_true rfl) rfl ?_
    refine Gz.goto (off := -31) (tgt := 20) (by decide +kernel) (by decide) ?_
    refine Gz.sub (L' := [(0, .ref 102), (1, .int x1), (2, .int x2), (3, .int v9)]) [1, 2, 3, 0] rfl ?_
    exact hk20 x1 x2 v9 w8 h
theorem g_Ch_mostOn_b20 {l : Launch} {Q : Option Value → gW → Prop} (x1 : Int32) (x2 : Int32) (x3 : Int32) (w : gW) (h : zok eI (f_Ch_mostOn_b20 x1 x2 x3 w) Q) : Gz l m_Ch_mostOn 4 20 [(0, .ref 102), (1, .int x1), (2, .int x2), (3, .int x3)] [] w Q := by
  have key : ∀ (n : Nat) (x1 : Int32) (x2 : Int32) (x3 : Int32) (w : gW), zok eI (zfx (fun _ _ _ _ => none) (f_Ch_mostOn_b20_s) n x1 x2 x3 w) Q → Gz l m_Ch_mostOn 4 20 [(0, .ref 102), (1, .int x1), (2, .int x2), (3, .int x3)] [] w Q := by
    intro n
    induction n with
    | zero => intro x1 x2 x3 w h; exact zok_n h
    | succ n ih => intro x1 x2 x3 w h; exact g_Ch_mostOn_b20_s _ ih x1 x2 x3 w h
  exact key zFU x1 x2 x3 w h
theorem g_Ch_mostOn {l : Launch} (a1 : Int32) (a2 : Int32) (w : gW) : gCt l m_Ch_mostOn 4 [.ref 102, .int a1, .int a2] w eI (f_Ch_mostOn a1 a2 w) := by
  intro Q h
  unfold f_Ch_mostOn at h
  show Gz l m_Ch_mostOn 4 0 [(0, .ref 102), (1, .int a1), (2, .int a2)] [] w Q
  refine Gz.aload_n (q := 0) (pc' := 1) (by decide +kernel) rfl 0 rfl ?_
  refine Gz.getR (pc' := 4) (j := 3) 103 fd_Ch_9 sh_102 rfl (by decide +kernel) rfl ?_
  refine Gz.aload_n (q := 0) (pc' := 5) (by decide +kernel) rfl 0 rfl ?_
  refine Gz.getR (pc' := 8) (j := 2) 73 fd_Ch_26 sh_102 rfl (by decide +kernel) rfl ?_
  refine Gz.callVR (st := [.ref 103]) (b := 73) (pc' := 11) [] (g_Co_fitting w) h ok_m_Co_fitting lk_Ch_36 sh_73 rfl rfl rfl (Nat.le_of_ble_eq_true rfl) (Nat.le_of_ble_eq_true rfl) (Nat.le_of_ble_eq_true rfl) (by decide +kernel) rfl (fun v1 w2 h => ?_)
  refine Gz.iload_n (q := 2) (pc' := 12) (by decide +kernel) rfl 2 rfl ?_
  refine Gz.callSJ (st := [.ref 103]) (pc' := 15) [.ref v1, .int a2] (g_Ro_word v1 a2 w2) h ok_m_Ro_word lk_Ch_40 rfl (Nat.le_of_ble_eq_true rfl) (Nat.le_of_ble_eq_true rfl) (Nat.le_of_ble_eq_true rfl) (by decide +kernel) rfl (fun v3 w4 h => ?_)
  refine Gz.callSV (st := []) (pc' := 18) [.ref 103, .long v3] (g_Ro_startLevels 103 v3 w4) h ok_m_Ro_startLevels lk_Ch_109 rfl (Nat.le_of_ble_eq_true rfl) (Nat.le_of_ble_eq_true rfl) (Nat.le_of_ble_eq_true rfl) (by decide +kernel) rfl (fun _ w5 h => ?_)
  refine Gz.iconst (n := 0) (v := (0 : Int32)) (pc' := 19) (by decide +kernel) rfl rfl ?_
  refine Gz.istore_n (q := 3) (pc' := 20) (L' := [(3, .int (0 : Int32)), (0, .ref 102), (1, .int a1), (2, .int a2)]) (by decide +kernel) rfl (Nat.le_of_ble_eq_true rfl) rfl ?_
  refine Gz.sub (L' := [(0, .ref 102), (1, .int a1), (2, .int a2), (3, .int (0 : Int32))]) [1, 2, 3, 0] rfl ?_
  exact g_Ch_mostOn_b20 a1 a2 (0 : Int32) w5 h
def f_Ch_busiest_b56 (k7 : Int32 → Int32 → Int32 → Int32 → gW → Option (Int32 × gW)) (k22 : Int32 → Int32 → Int32 → Int32 → Int32 → gW → Option (Int32 × gW)) (x1 : Int32) (x2 : Int32) (x3 : Int32) (x4 : Int32) (x5 : Int32) (w : gW) : Option (Int32 × gW) :=
zl (x5 + (1 : Int32)) (fun v1 =>
k22 x1 x2 x3 x4 v1 w)
def f_Ch_busiest_b22_s (k7 : Int32 → Int32 → Int32 → Int32 → gW → Option (Int32 × gW)) (k22 : Int32 → Int32 → Int32 → Int32 → Int32 → gW → Option (Int32 × gW)) (x1 : Int32) (x2 : Int32) (x3 : Int32) (x4 : Int32) (x5 : Int32) (w : gW) : Option (Int32 × gW) :=
zb (f_La_words w) (fun v1 w2 =>
if v1 ≤ x5 then
(zl (x4 + (1 : Int32)) (fun v4 =>
k7 x1 x2 x3 v4 w2))
else
(zb (f_Ch_mostOn x4 x5 w2) (fun v6 w7 =>
if v6 ≤ x2 then
(f_Ch_busiest_b56 k7 k22 x1 x2 x3 x4 x5 w7)
else
(f_Ch_busiest_b56 k7 k22 x1 v6 x4 x4 x5 w7))))
def f_Ch_busiest_b22 (k7 : Int32 → Int32 → Int32 → Int32 → gW → Option (Int32 × gW)) : Int32 → Int32 → Int32 → Int32 → Int32 → gW → Option (Int32 × gW) := zfx (fun _ _ _ _ _ _ => none) (f_Ch_busiest_b22_s k7) zFU
def f_Ch_busiest_b7_s (k7 : Int32 → Int32 → Int32 → Int32 → gW → Option (Int32 × gW)) (x1 : Int32) (x2 : Int32) (x3 : Int32) (x4 : Int32) (w : gW) : Option (Int32 × gW) :=
zb (f_La_dayCount w) (fun v1 w2 =>
if v1 ≤ x4 then
(if x1 = 0 then
(some (x2, w2))
else
(if x2 = 0 then
(some ((-1 : Int32), w2))
else
(some (x3, w2))))
else
(f_Ch_busiest_b22 k7 x1 x2 x3 x4 (0 : Int32) w2))
def f_Ch_busiest_b7 : Int32 → Int32 → Int32 → Int32 → gW → Option (Int32 × gW) := zfx (fun _ _ _ _ _ => none) (f_Ch_busiest_b7_s) zFU
def f_Ch_busiest (a1 : Int32) (w : gW) : Option (Int32 × gW) :=
f_Ch_busiest_b7 a1 (-1 : Int32) (-1 : Int32) (0 : Int32) w
theorem g_Ch_busiest_b56 {l : Launch} {Q : Option Value → gW → Prop} (k7 : Int32 → Int32 → Int32 → Int32 → gW → Option (Int32 × gW)) (hk7 : ∀ (x1 : Int32) (x2 : Int32) (x3 : Int32) (x4 : Int32) (w : gW), zok eI (k7 x1 x2 x3 x4 w) Q → Gz l m_Ch_busiest 5 7 [(0, .ref 102), (1, .int x1), (2, .int x2), (3, .int x3), (4, .int x4)] [] w Q) (k22 : Int32 → Int32 → Int32 → Int32 → Int32 → gW → Option (Int32 × gW)) (hk22 : ∀ (x1 : Int32) (x2 : Int32) (x3 : Int32) (x4 : Int32) (x5 : Int32) (w : gW), zok eI (k22 x1 x2 x3 x4 x5 w) Q → Gz l m_Ch_busiest 5 22 [(0, .ref 102), (1, .int x1), (2, .int x2), (3, .int x3), (4, .int x4), (5, .int x5)] [] w Q) (x1 : Int32) (x2 : Int32) (x3 : Int32) (x4 : Int32) (x5 : Int32) (w : gW) (h : zok eI (f_Ch_busiest_b56 k7 k22 x1 x2 x3 x4 x5 w) Q) : Gz l m_Ch_busiest 5 56 [(0, .ref 102), (1, .int x1), (2, .int x2), (3, .int x3), (4, .int x4), (5, .int x5)] [] w Q := by
  unfold f_Ch_busiest_b56 at h
  obtain ⟨v1, e2⟩ : ∃ y : Int32, y = x5 + (1 : Int32) := ⟨_, rfl⟩
  have h := zok_l e2 h
  refine Gz.iinc (i := 5) (n := 1) (pc' := 59) (L' := [(5, .int v1), (0, .ref 102), (1, .int x1), (2, .int x2), (3, .int x3), (4, .int x4)]) v1 (by decide +kernel) rfl 5 rfl (by rw [e2]; rfl) (Nat.le_of_ble_eq_true rfl) rfl ?_
  refine Gz.goto (off := -37) (tgt := 22) (by decide +kernel) (by decide) ?_
  refine Gz.sub (L' := [(0, .ref 102), (1, .int x1), (2, .int x2), (3, .int x3), (4, .int x4), (5, .int v1)]) [1, 2, 3, 4, 5, 0] rfl ?_
  exact hk22 x1 x2 x3 x4 v1 w h
theorem g_Ch_busiest_b22_s {l : Launch} {Q : Option Value → gW → Prop} (k7 : Int32 → Int32 → Int32 → Int32 → gW → Option (Int32 × gW)) (hk7 : ∀ (x1 : Int32) (x2 : Int32) (x3 : Int32) (x4 : Int32) (w : gW), zok eI (k7 x1 x2 x3 x4 w) Q → Gz l m_Ch_busiest 5 7 [(0, .ref 102), (1, .int x1), (2, .int x2), (3, .int x3), (4, .int x4)] [] w Q) (k22 : Int32 → Int32 → Int32 → Int32 → Int32 → gW → Option (Int32 × gW)) (hk22 : ∀ (x1 : Int32) (x2 : Int32) (x3 : Int32) (x4 : Int32) (x5 : Int32) (w : gW), zok eI (k22 x1 x2 x3 x4 x5 w) Q → Gz l m_Ch_busiest 5 22 [(0, .ref 102), (1, .int x1), (2, .int x2), (3, .int x3), (4, .int x4), (5, .int x5)] [] w Q) (x1 : Int32) (x2 : Int32) (x3 : Int32) (x4 : Int32) (x5 : Int32) (w : gW) (h : zok eI (f_Ch_busiest_b22_s k7 k22 x1 x2 x3 x4 x5 w) Q) : Gz l m_Ch_busiest 5 22 [(0, .ref 102), (1, .int x1), (2, .int x2), (3, .int x3), (4, .int x4), (5, .int x5)] [] w Q := by
  unfold f_Ch_busiest_b22_s at h
  refine Gz.iload (i := 5) (pc' := 24) (by decide +kernel) rfl 5 rfl ?_
  refine Gz.aload_n (q := 0) (pc' := 25) (by decide +kernel) rfl 0 rfl ?_
  refine Gz.getR (pc' := 28) (j := 0) 19 fd_Ch_18 sh_102 rfl (by decide +kernel) rfl ?_
  refine Gz.callVI (st := [.int x5]) (b := 19) (pc' := 31) [] (g_La_words w) h ok_m_La_words lk_Ch_58 sh_19 rfl rfl rfl (Nat.le_of_ble_eq_true rfl) (Nat.le_of_ble_eq_true rfl) (Nat.le_of_ble_eq_true rfl) (by decide +kernel) rfl (fun v1 w2 h => ?_)
  refine Gz.icmp_ge (off := 31) (tgt := 62) (pc' := 34) (by decide +kernel) (by decide) rfl (fun c3 => ?_) (fun c3 => ?_)
  · have h := zok_t c3 h
    obtain ⟨v4, e5⟩ : ∃ y : Int32, y = x4 + (1 : Int32) := ⟨_, rfl⟩
    have h := zok_l e5 h
    refine Gz.iinc (i := 4) (n := 1) (pc' := 65) (L' := [(4, .int v4), (0, .ref 102), (1, .int x1), (2, .int x2), (3, .int x3), (5, .int x5)]) v4 (by decide +kernel) rfl 4 rfl (by rw [e5]; rfl) (Nat.le_of_ble_eq_true rfl) rfl ?_
    refine Gz.goto (off := -58) (tgt := 7) (by decide +kernel) (by decide) ?_
    refine Gz.sub (L' := [(0, .ref 102), (1, .int x1), (2, .int x2), (3, .int x3), (4, .int v4)]) [1, 2, 3, 4, 0] rfl ?_
    exact hk7 x1 x2 x3 v4 w2 h
  · have h := zok_f c3 h
    refine Gz.aload_n (q := 0) (pc' := 35) (by decide +kernel) rfl 0 rfl ?_
    refine Gz.iload (i := 4) (pc' := 37) (by decide +kernel) rfl 4 rfl ?_
    refine Gz.iload (i := 5) (pc' := 39) (by decide +kernel) rfl 5 rfl ?_
    refine Gz.callVI (st := []) (b := 102) (pc' := 42) [.int x4, .int x5] (g_Ch_mostOn x4 x5 w2) h ok_m_Ch_mostOn lk_Ch_131 sh_102 rfl rfl rfl (Nat.le_of_ble_eq_true rfl) (Nat.le_of_ble_eq_true rfl) (Nat.le_of_ble_eq_true rfl) (by decide +kernel) rfl (fun v6 w7 h => ?_)
    refine Gz.istore (i := 6) (pc' := 44) (L' := [(6, .int v6), (0, .ref 102), (1, .int x1), (2, .int x2), (3, .int x3), (4, .int x4), (5, .int x5)]) (by decide +kernel) rfl (Nat.le_of_ble_eq_true rfl) rfl ?_
    refine Gz.iload (i := 6) (pc' := 46) (by decide +kernel) rfl 0 rfl ?_
    refine Gz.iload_n (q := 2) (pc' := 47) (by decide +kernel) rfl 3 rfl ?_
    refine Gz.icmp_le (off := 9) (tgt := 56) (pc' := 50) (by decide +kernel) (by decide) rfl (fun c8 => ?_) (fun c8 => ?_)
    · have h := zok_t c8 h
      refine Gz.sub (L' := [(0, .ref 102), (1, .int x1), (2, .int x2), (3, .int x3), (4, .int x4), (5, .int x5)]) [1, 2, 3, 4, 5, 6] rfl ?_
      exact g_Ch_busiest_b56 k7 hk7 k22 hk22 x1 x2 x3 x4 x5 w7 h
    · have h := zok_f c8 h
      refine Gz.iload (i := 6) (pc' := 52) (by decide +kernel) rfl 0 rfl ?_
      refine Gz.istore_n (q := 2) (pc' := 53) (L' := [(2, .int v6), (6, .int v6), (0, .ref 102), (1, .int x1), (3, .int x3), (4, .int x4), (5, .int x5)]) (by decide +kernel) rfl (Nat.le_of_ble_eq_true rfl) rfl ?_
      refine Gz.iload (i := 4) (pc' := 55) (by decide +kernel) rfl 5 rfl ?_
      refine Gz.istore_n (q := 3) (pc' := 56) (L' := [(3, .int x4), (2, .int v6), (6, .int v6), (0, .ref 102), (1, .int x1), (4, .int x4), (5, .int x5)]) (by decide +kernel) rfl (Nat.le_of_ble_eq_true rfl) rfl ?_
      refine Gz.sub (L' := [(0, .ref 102), (1, .int x1), (2, .int v6), (3, .int x4), (4, .int x4), (5, .int x5)]) [3, 4, 1, 0, 5, 6] rfl ?_
      exact g_Ch_busiest_b56 k7 hk7 k22 hk22 x1 v6 x4 x4 x5 w7 h
theorem g_Ch_busiest_b22 {l : Launch} {Q : Option Value → gW → Prop} (k7 : Int32 → Int32 → Int32 → Int32 → gW → Option (Int32 × gW)) (hk7 : ∀ (x1 : Int32) (x2 : Int32) (x3 : Int32) (x4 : Int32) (w : gW), zok eI (k7 x1 x2 x3 x4 w) Q → Gz l m_Ch_busiest 5 7 [(0, .ref 102), (1, .int x1), (2, .int x2), (3, .int x3), (4, .int x4)] [] w Q) (x1 : Int32) (x2 : Int32) (x3 : Int32) (x4 : Int32) (x5 : Int32) (w : gW) (h : zok eI (f_Ch_busiest_b22 k7 x1 x2 x3 x4 x5 w) Q) : Gz l m_Ch_busiest 5 22 [(0, .ref 102), (1, .int x1), (2, .int x2), (3, .int x3), (4, .int x4), (5, .int x5)] [] w Q := by
  have key : ∀ (n : Nat) (x1 : Int32) (x2 : Int32) (x3 : Int32) (x4 : Int32) (x5 : Int32) (w : gW), zok eI (zfx (fun _ _ _ _ _ _ => none) (f_Ch_busiest_b22_s k7) n x1 x2 x3 x4 x5 w) Q → Gz l m_Ch_busiest 5 22 [(0, .ref 102), (1, .int x1), (2, .int x2), (3, .int x3), (4, .int x4), (5, .int x5)] [] w Q := by
    intro n
    induction n with
    | zero => intro x1 x2 x3 x4 x5 w h; exact zok_n h
    | succ n ih => intro x1 x2 x3 x4 x5 w h; exact g_Ch_busiest_b22_s k7 hk7 _ ih x1 x2 x3 x4 x5 w h
  exact key zFU x1 x2 x3 x4 x5 w h
theorem g_Ch_busiest_b7_s {l : Launch} {Q : Option Value → gW → Prop} (k7 : Int32 → Int32 → Int32 → Int32 → gW → Option (Int32 × gW)) (hk7 : ∀ (x1 : Int32) (x2 : Int32) (x3 : Int32) (x4 : Int32) (w : gW), zok eI (k7 x1 x2 x3 x4 w) Q → Gz l m_Ch_busiest 5 7 [(0, .ref 102), (1, .int x1), (2, .int x2), (3, .int x3), (4, .int x4)] [] w Q) (x1 : Int32) (x2 : Int32) (x3 : Int32) (x4 : Int32) (w : gW) (h : zok eI (f_Ch_busiest_b7_s k7 x1 x2 x3 x4 w) Q) : Gz l m_Ch_busiest 5 7 [(0, .ref 102), (1, .int x1), (2, .int x2), (3, .int x3), (4, .int x4)] [] w Q := by
  unfold f_Ch_busiest_b7_s at h
  refine Gz.iload (i := 4) (pc' := 9) (by decide +kernel) rfl 4 rfl ?_
  refine Gz.aload_n (q := 0) (pc' := 10) (by decide +kernel) rfl 0 rfl ?_
  refine Gz.getR (pc' := 13) (j := 0) 19 fd_Ch_18 sh_102 rfl (by decide +kernel) rfl ?_
  refine Gz.callVI (st := [.int x4]) (b := 19) (pc' := 16) [] (g_La_dayCount w) h ok_m_La_dayCount lk_Ch_71 sh_19 rfl rfl rfl (Nat.le_of_ble_eq_true rfl) (Nat.le_of_ble_eq_true rfl) (Nat.le_of_ble_eq_true rfl) (by decide +kernel) rfl (fun v1 w2 h => ?_)
  refine Gz.icmp_ge (off := 52) (tgt := 68) (pc' := 19) (by decide +kernel) (by decide) rfl (fun c3 => ?_) (fun c3 => ?_)
  · have h := zok_t c3 h
    refine Gz.iload_n (q := 1) (pc' := 69) (by decide +kernel) rfl 1 rfl ?_
    refine Gz.if_ne (off := 7) (tgt := 76) (pc' := 72) (by decide +kernel) (by decide) rfl (fun c4 => ?_) (fun c4 => ?_)
    · have h := zok_f c4 h
      refine Gz.iload_n (q := 2) (pc' := 77) (by decide +kernel) rfl 2 rfl ?_
      refine Gz.if_ne (off := 7) (tgt := 84) (pc' := 80) (by decide +kernel) (by decide) rfl (fun c5 => ?_) (fun c5 => ?_)
      · have h := zok_f c5 h
        refine Gz.iload_n (q := 3) (pc' := 85) (by decide +kernel) rfl 3 rfl ?_
        exact Gz.ireturn (by decide +kernel) rfl (zok_sI h)
      · have h := zok_t c5 h
        refine Gz.iconst (n := -1) (v := (-1 : Int32)) (pc' := 81) (by decide +kernel) rfl rfl ?_
        refine Gz.goto (off := 4) (tgt := 85) (by decide +kernel) (by decide) ?_
        exact Gz.ireturn (by decide +kernel) rfl (zok_sI h)
    · have h := zok_t c4 h
      refine Gz.iload_n (q := 2) (pc' := 73) (by decide +kernel) rfl 2 rfl ?_
      refine Gz.goto (off := 12) (tgt := 85) (by decide +kernel) (by decide) ?_
      exact Gz.ireturn (by decide +kernel) rfl (zok_sI h)
  · have h := zok_f c3 h
    refine Gz.iconst (n := 0) (v := (0 : Int32)) (pc' := 20) (by decide +kernel) rfl rfl ?_
    refine Gz.istore (i := 5) (pc' := 22) (L' := [(5, .int (0 : Int32)), (0, .ref 102), (1, .int x1), (2, .int x2), (3, .int x3), (4, .int x4)]) (by decide +kernel) rfl (Nat.le_of_ble_eq_true rfl) rfl ?_
    refine Gz.sub (L' := [(0, .ref 102), (1, .int x1), (2, .int x2), (3, .int x3), (4, .int x4), (5, .int (0 : Int32))]) [1, 2, 3, 4, 5, 0] rfl ?_
    exact g_Ch_busiest_b22 k7 hk7 x1 x2 x3 x4 (0 : Int32) w2 h
theorem g_Ch_busiest_b7 {l : Launch} {Q : Option Value → gW → Prop} (x1 : Int32) (x2 : Int32) (x3 : Int32) (x4 : Int32) (w : gW) (h : zok eI (f_Ch_busiest_b7 x1 x2 x3 x4 w) Q) : Gz l m_Ch_busiest 5 7 [(0, .ref 102), (1, .int x1), (2, .int x2), (3, .int x3), (4, .int x4)] [] w Q := by
  have key : ∀ (n : Nat) (x1 : Int32) (x2 : Int32) (x3 : Int32) (x4 : Int32) (w : gW), zok eI (zfx (fun _ _ _ _ _ => none) (f_Ch_busiest_b7_s) n x1 x2 x3 x4 w) Q → Gz l m_Ch_busiest 5 7 [(0, .ref 102), (1, .int x1), (2, .int x2), (3, .int x3), (4, .int x4)] [] w Q := by
    intro n
    induction n with
    | zero => intro x1 x2 x3 x4 w h; exact zok_n h
    | succ n ih => intro x1 x2 x3 x4 w h; exact g_Ch_busiest_b7_s _ ih x1 x2 x3 x4 w h
  exact key zFU x1 x2 x3 x4 w h
theorem g_Ch_busiest {l : Launch} (a1 : Int32) (w : gW) : gCt l m_Ch_busiest 5 [.ref 102, .int a1] w eI (f_Ch_busiest a1 w) := by
  intro Q h
  unfold f_Ch_busiest at h
  show Gz l m_Ch_busiest 5 0 [(0, .ref 102), (1, .int a1)] [] w Q
  refine Gz.iconst (n := -1) (v := (-1 : Int32)) (pc' := 1) (by decide +kernel) rfl rfl ?_
  refine Gz.istore_n (q := 2) (pc' := 2) (L' := [(2, .int (-1 : Int32)), (0, .ref 102), (1, .int a1)]) (by decide +kernel) rfl (Nat.le_of_ble_eq_true rfl) rfl ?_
  refine Gz.iconst (n := -1) (v := (-1 : Int32)) (pc' := 3) (by decide +kernel) rfl rfl ?_
  refine Gz.istore_n (q := 3) (pc' := 4) (L' := [(3, .int (-1 : Int32)), (2, .int (-1 : Int32)), (0, .ref 102), (1, .int a1)]) (by decide +kernel) rfl (Nat.le_of_ble_eq_true rfl) rfl ?_
  refine Gz.iconst (n := 0) (v := (0 : Int32)) (pc' := 5) (by decide +kernel) rfl rfl ?_
  refine Gz.istore (i := 4) (pc' := 7) (L' := [(4, .int (0 : Int32)), (3, .int (-1 : Int32)), (2, .int (-1 : Int32)), (0, .ref 102), (1, .int a1)]) (by decide +kernel) rfl (Nat.le_of_ble_eq_true rfl) rfl ?_
  refine Gz.sub (L' := [(0, .ref 102), (1, .int a1), (2, .int (-1 : Int32)), (3, .int (-1 : Int32)), (4, .int (0 : Int32))]) [3, 4, 2, 1, 0] rfl ?_
  exact g_Ch_busiest_b7 a1 (-1 : Int32) (-1 : Int32) (0 : Int32) w h
def f_X_busy (a1 : Int32) (w : gW) : Option (Int32 × gW) :=
zb (f_La_isThere w) (fun v1 w2 =>
if v1 = 0 then
(some ((-1 : Int32), w2))
else
(zb (f_X_isZeroOrOne a1 w2) (fun v4 w5 =>
if v4 = 0 then
(some ((-1 : Int32), w5))
else
(zb (f_Ch_busiest a1 w5) (fun v7 w8 =>
some (v7, w8))))))
theorem g_X_busy {l : Launch} (a1 : Int32) (w : gW) : gCt l m_X_busy 6 [.ref 0, .int a1] w eI (f_X_busy a1 w) := by
  intro Q h
  unfold f_X_busy at h
  show Gz l m_X_busy 6 0 [(0, .ref 0), (1, .int a1)] [] w Q
  refine Gz.aload_n (q := 0) (pc' := 1) (by decide +kernel) rfl 0 rfl ?_
  refine Gz.getR (pc' := 4) (j := 3) 19 fd_X_33 sh_0 rfl (by decide +kernel) rfl ?_
  refine Gz.callVI (st := []) (b := 19) (pc' := 7) [] (g_La_isThere w) h ok_m_La_isThere lk_X_176 sh_19 rfl rfl rfl (Nat.le_of_ble_eq_true rfl) (Nat.le_of_ble_eq_true rfl) (Nat.le_of_ble_eq_true rfl) (by decide +kernel) rfl (fun v1 w2 h => ?_)
  refine Gz.if_eq (off := 21) (tgt := 28) (pc' := 10) (by decide +kernel) (by decide) rfl (fun c3 => ?_) (fun c3 => ?_)
  · have h := zok_t c3 h
    refine Gz.iconst (n := -1) (v := (-1 : Int32)) (pc' := 29) (by decide +kernel) rfl rfl ?_
    exact Gz.ireturn (by decide +kernel) rfl (zok_sI h)
  · have h := zok_f c3 h
    refine Gz.iload_n (q := 1) (pc' := 11) (by decide +kernel) rfl 1 rfl ?_
    refine Gz.callSI (st := []) (pc' := 14) [.int a1] (g_X_isZeroOrOne a1 w2) h ok_m_X_isZeroOrOne lk_X_228 rfl (Nat.le_of_ble_eq_true rfl) (Nat.le_of_ble_eq_true rfl) (Nat.le_of_ble_eq_true rfl) (by decide +kernel) rfl (fun v4 w5 h => ?_)
    refine Gz.if_eq (off := 14) (tgt := 28) (pc' := 17) (by decide +kernel) (by decide) rfl (fun c6 => ?_) (fun c6 => ?_)
    · have h := zok_t c6 h
      refine Gz.iconst (n := -1) (v := (-1 : Int32)) (pc' := 29) (by decide +kernel) rfl rfl ?_
      exact Gz.ireturn (by decide +kernel) rfl (zok_sI h)
    · have h := zok_f c6 h
      refine Gz.aload_n (q := 0) (pc' := 18) (by decide +kernel) rfl 0 rfl ?_
      refine Gz.getR (pc' := 21) (j := 9) 102 fd_X_79 sh_0 rfl (by decide +kernel) rfl ?_
      refine Gz.iload_n (q := 1) (pc' := 22) (by decide +kernel) rfl 1 rfl ?_
      refine Gz.callVI (st := []) (b := 102) (pc' := 25) [.int a1] (g_Ch_busiest a1 w5) h ok_m_Ch_busiest lk_X_339 sh_102 rfl rfl rfl (Nat.le_of_ble_eq_true rfl) (Nat.le_of_ble_eq_true rfl) (Nat.le_of_ble_eq_true rfl) (by decide +kernel) rfl (fun v7 w8 h => ?_)
      refine Gz.goto (off := 4) (tgt := 29) (by decide +kernel) (by decide) ?_
      exact Gz.ireturn (by decide +kernel) rfl (zok_sI h)
def f_Ch_ordered_b88 (k6 : Int32 → Int32 → Int32 → Int32 → Int32 → gW → Option (Int32 × gW)) (x1 : Int32) (x2 : Int32) (x3 : Int32) (x4 : Int32) (x5 : Int32) (s0 : Int64) (w : gW) : Option (Int32 × gW) :=
zb (f_Co_fitting w) (fun v1 w2 =>
zb (f_Ro_word v1 x5 w2) (fun v3 w4 =>
zb (f_Lng_bitCount (s0 &&& v3) w4) (fun v5 w6 =>
zl (x4 + v5) (fun v7 =>
zl (x5 + (1 : Int32)) (fun v9 =>
k6 x1 x2 x3 v7 v9 w6)))))
def f_Ch_ordered_b6_s (k6 : Int32 → Int32 → Int32 → Int32 → Int32 → gW → Option (Int32 × gW)) (x1 : Int32) (x2 : Int32) (x3 : Int32) (x4 : Int32) (x5 : Int32) (w : gW) : Option (Int32 × gW) :=
zb (f_La_words w) (fun v1 w2 =>
if v1 ≤ x5 then
(some (x4, w2))
else
(if x3 = (2 : Int32) then
(zb (f_La_dayCount w2) (fun v14 w15 =>
zb (f_La_togetherWord x1 x2 v14 x5 w15) (fun v16 w17 =>
f_Ch_ordered_b88 k6 x1 x2 x3 x4 x5 v16 w17)))
else
(if x3 = (1 : Int32) then
(zb (f_La_dayCount w2) (fun v10 w11 =>
zb (f_La_beforeWord x2 x1 v10 x5 w11) (fun v12 w13 =>
f_Ch_ordered_b88 k6 x1 x2 x3 x4 x5 v12 w13)))
else
(zb (f_La_dayCount w2) (fun v6 w7 =>
zb (f_La_beforeWord x1 x2 v6 x5 w7) (fun v8 w9 =>
f_Ch_ordered_b88 k6 x1 x2 x3 x4 x5 v8 w9))))))
def f_Ch_ordered_b6 : Int32 → Int32 → Int32 → Int32 → Int32 → gW → Option (Int32 × gW) := zfx (fun _ _ _ _ _ _ => none) (f_Ch_ordered_b6_s) zFU
def f_Ch_ordered (a1 : Int32) (a2 : Int32) (a3 : Int32) (w : gW) : Option (Int32 × gW) :=
f_Ch_ordered_b6 a1 a2 a3 (0 : Int32) (0 : Int32) w
theorem g_Ch_ordered_b88 {l : Launch} {Q : Option Value → gW → Prop} (k6 : Int32 → Int32 → Int32 → Int32 → Int32 → gW → Option (Int32 × gW)) (hk6 : ∀ (x1 : Int32) (x2 : Int32) (x3 : Int32) (x4 : Int32) (x5 : Int32) (w : gW), zok eI (k6 x1 x2 x3 x4 x5 w) Q → Gz l m_Ch_ordered 3 6 [(0, .ref 102), (1, .int x1), (2, .int x2), (3, .int x3), (4, .int x4), (5, .int x5)] [] w Q) (x1 : Int32) (x2 : Int32) (x3 : Int32) (x4 : Int32) (x5 : Int32) (s0 : Int64) (w : gW) (h : zok eI (f_Ch_ordered_b88 k6 x1 x2 x3 x4 x5 s0 w) Q) : Gz l m_Ch_ordered 3 88 [(0, .ref 102), (1, .int x1), (2, .int x2), (3, .int x3), (4, .int x4), (5, .int x5)] [.long s0] w Q := by
  unfold f_Ch_ordered_b88 at h
  refine Gz.lstore (i := 6) (pc' := 90) (L' := [(6, .long s0), (0, .ref 102), (1, .int x1), (2, .int x2), (3, .int x3), (4, .int x4), (5, .int x5)]) (by decide +kernel) rfl (Nat.le_of_ble_eq_true rfl) rfl ?_
  refine Gz.iload (i := 4) (pc' := 92) (by decide +kernel) rfl 5 rfl ?_
  refine Gz.lload (i := 6) (pc' := 94) (by decide +kernel) rfl 0 rfl ?_
  refine Gz.aload_n (q := 0) (pc' := 95) (by decide +kernel) rfl 1 rfl ?_
  refine Gz.getR (pc' := 98) (j := 2) 73 fd_Ch_26 sh_102 rfl (by decide +kernel) rfl ?_
  refine Gz.callVR (st := [.long s0, .int x4]) (b := 73) (pc' := 101) [] (g_Co_fitting w) h ok_m_Co_fitting lk_Ch_36 sh_73 rfl rfl rfl (Nat.le_of_ble_eq_true rfl) (Nat.le_of_ble_eq_true rfl) (Nat.le_of_ble_eq_true rfl) (by decide +kernel) rfl (fun v1 w2 h => ?_)
  refine Gz.iload (i := 5) (pc' := 103) (by decide +kernel) rfl 6 rfl ?_
  refine Gz.callSJ (st := [.long s0, .int x4]) (pc' := 106) [.ref v1, .int x5] (g_Ro_word v1 x5 w2) h ok_m_Ro_word lk_Ch_40 rfl (Nat.le_of_ble_eq_true rfl) (Nat.le_of_ble_eq_true rfl) (Nat.le_of_ble_eq_true rfl) (by decide +kernel) rfl (fun v3 w4 h => ?_)
  refine Gz.land (pc' := 107) (by decide +kernel) rfl ?_
  refine Gz.callSI (st := [.int x4]) (pc' := 110) [.long (s0 &&& v3)] (g_Lng_bitCount (s0 &&& v3) w4) h ok_m_Lng_bitCount lk_Ch_149 rfl (Nat.le_of_ble_eq_true rfl) (Nat.le_of_ble_eq_true rfl) (Nat.le_of_ble_eq_true rfl) (by decide +kernel) rfl (fun v5 w6 h => ?_)
  refine Gz.iadd (pc' := 111) (by decide +kernel) rfl ?_
  refine Gz.nmI (fun v7 e8 => ?_)
  have h := zok_l e8 h
  refine Gz.istore (i := 4) (pc' := 113) (L' := [(4, .int v7), (6, .long s0), (0, .ref 102), (1, .int x1), (2, .int x2), (3, .int x3), (5, .int x5)]) (by decide +kernel) rfl (Nat.le_of_ble_eq_true rfl) rfl ?_
  obtain ⟨v9, e10⟩ : ∃ y : Int32, y = x5 + (1 : Int32) := ⟨_, rfl⟩
  have h := zok_l e10 h
  refine Gz.iinc (i := 5) (n := 1) (pc' := 116) (L' := [(5, .int v9), (4, .int v7), (6, .long s0), (0, .ref 102), (1, .int x1), (2, .int x2), (3, .int x3)]) v9 (by decide +kernel) rfl 6 rfl (by rw [e10]; rfl) (Nat.le_of_ble_eq_true rfl) rfl ?_
  refine Gz.goto (off := -110) (tgt := 6) (by decide +kernel) (by decide) ?_
  refine Gz.sub (L' := [(0, .ref 102), (1, .int x1), (2, .int x2), (3, .int x3), (4, .int v7), (5, .int v9)]) [3, 4, 5, 6, 1, 0] rfl ?_
  exact hk6 x1 x2 x3 v7 v9 w6 h
theorem g_Ch_ordered_b6_s {l : Launch} {Q : Option Value → gW → Prop} (k6 : Int32 → Int32 → Int32 → Int32 → Int32 → gW → Option (Int32 × gW)) (hk6 : ∀ (x1 : Int32) (x2 : Int32) (x3 : Int32) (x4 : Int32) (x5 : Int32) (w : gW), zok eI (k6 x1 x2 x3 x4 x5 w) Q → Gz l m_Ch_ordered 3 6 [(0, .ref 102), (1, .int x1), (2, .int x2), (3, .int x3), (4, .int x4), (5, .int x5)] [] w Q) (x1 : Int32) (x2 : Int32) (x3 : Int32) (x4 : Int32) (x5 : Int32) (w : gW) (h : zok eI (f_Ch_ordered_b6_s k6 x1 x2 x3 x4 x5 w) Q) : Gz l m_Ch_ordered 3 6 [(0, .ref 102), (1, .int x1), (2, .int x2), (3, .int x3), (4, .int x4), (5, .int x5)] [] w Q := by
  unfold f_Ch_ordered_b6_s at h
  refine Gz.iload (i := 5) (pc' := 8) (by decide +kernel) rfl 5 rfl ?_
  refine Gz.aload_n (q := 0) (pc' := 9) (by decide +kernel) rfl 0 rfl ?_
  refine Gz.getR (pc' := 12) (j := 0) 19 fd_Ch_18 sh_102 rfl (by decide +kernel) rfl ?_
  refine Gz.callVI (st := [.int x5]) (b := 19) (pc' := 15) [] (g_La_words w) h ok_m_La_words lk_Ch_58 sh_19 rfl rfl rfl (Nat.le_of_ble_eq_true rfl) (Nat.le_of_ble_eq_true rfl) (Nat.le_of_ble_eq_true rfl) (by decide +kernel) rfl (fun v1 w2 h => ?_)
  refine Gz.icmp_ge (off := 104) (tgt := 119) (pc' := 18) (by decide +kernel) (by decide) rfl (fun c3 => ?_) (fun c3 => ?_)
  · have h := zok_t c3 h
    refine Gz.iload (i := 4) (pc' := 121) (by decide +kernel) rfl 4 rfl ?_
    exact Gz.ireturn (by decide +kernel) rfl (zok_sI h)
  · have h := zok_f c3 h
    refine Gz.iload_n (q := 3) (pc' := 19) (by decide +kernel) rfl 3 rfl ?_
    refine Gz.iconst (n := 2) (v := (2 : Int32)) (pc' := 20) (by decide +kernel) rfl rfl ?_
    refine Gz.icmp_ne (off := 24) (tgt := 44) (pc' := 23) (by decide +kernel) (by decide) rfl (fun c4 => ?_) (fun c4 => ?_)
    · have h := zok_f c4 h
      refine Gz.iload_n (q := 3) (pc' := 45) (by decide +kernel) rfl 3 rfl ?_
      refine Gz.iconst (n := 1) (v := (1 : Int32)) (pc' := 46) (by decide +kernel) rfl rfl ?_
      refine Gz.icmp_ne (off := 24) (tgt := 70) (pc' := 49) (by decide +kernel) (by decide) rfl (fun c5 => ?_) (fun c5 => ?_)
      · have h := zok_f c5 h
        refine Gz.aload_n (q := 0) (pc' := 71) (by decide +kernel) rfl 0 rfl ?_
        refine Gz.getR (pc' := 74) (j := 0) 19 fd_Ch_18 sh_102 rfl (by decide +kernel) rfl ?_
        refine Gz.iload_n (q := 1) (pc' := 75) (by decide +kernel) rfl 1 rfl ?_
        refine Gz.iload_n (q := 2) (pc' := 76) (by decide +kernel) rfl 2 rfl ?_
        refine Gz.aload_n (q := 0) (pc' := 77) (by decide +kernel) rfl 0 rfl ?_
        refine Gz.getR (pc' := 80) (j := 0) 19 fd_Ch_18 sh_102 rfl (by decide +kernel) rfl ?_
        refine Gz.callVI (st := [.int x2, .int x1, .ref 19]) (b := 19) (pc' := 83) [] (g_La_dayCount w2) h ok_m_La_dayCount lk_Ch_71 sh_19 rfl rfl rfl (Nat.le_of_ble_eq_true rfl) (Nat.le_of_ble_eq_true rfl) (Nat.le_of_ble_eq_true rfl) (by decide +kernel) rfl (fun v6 w7 h => ?_)
        refine Gz.iload (i := 5) (pc' := 85) (by decide +kernel) rfl 5 rfl ?_
        refine Gz.callVJ (st := []) (b := 19) (pc' := 88) [.int x1, .int x2, .int v6, .int x5] (g_La_beforeWord x1 x2 v6 x5 w7) h ok_m_La_beforeWord lk_Ch_146 sh_19 rfl rfl rfl (Nat.le_of_ble_eq_true rfl) (Nat.le_of_ble_eq_true rfl) (Nat.le_of_ble_eq_true rfl) (by decide +kernel) rfl (fun v8 w9 h => ?_)
        exact g_Ch_ordered_b88 k6 hk6 x1 x2 x3 x4 x5 v8 w9 h
      · have h := zok_t c5 h
        refine Gz.aload_n (q := 0) (pc' := 50) (by decide +kernel) rfl 0 rfl ?_
        refine Gz.getR (pc' := 53) (j := 0) 19 fd_Ch_18 sh_102 rfl (by decide +kernel) rfl ?_
        refine Gz.iload_n (q := 2) (pc' := 54) (by decide +kernel) rfl 2 rfl ?_
        refine Gz.iload_n (q := 1) (pc' := 55) (by decide +kernel) rfl 1 rfl ?_
        refine Gz.aload_n (q := 0) (pc' := 56) (by decide +kernel) rfl 0 rfl ?_
        refine Gz.getR (pc' := 59) (j := 0) 19 fd_Ch_18 sh_102 rfl (by decide +kernel) rfl ?_
        refine Gz.callVI (st := [.int x1, .int x2, .ref 19]) (b := 19) (pc' := 62) [] (g_La_dayCount w2) h ok_m_La_dayCount lk_Ch_71 sh_19 rfl rfl rfl (Nat.le_of_ble_eq_true rfl) (Nat.le_of_ble_eq_true rfl) (Nat.le_of_ble_eq_true rfl) (by decide +kernel) rfl (fun v10 w11 h => ?_)
        refine Gz.iload (i := 5) (pc' := 64) (by decide +kernel) rfl 5 rfl ?_
        refine Gz.callVJ (st := []) (b := 19) (pc' := 67) [.int x2, .int x1, .int v10, .int x5] (g_La_beforeWord x2 x1 v10 x5 w11) h ok_m_La_beforeWord lk_Ch_146 sh_19 rfl rfl rfl (Nat.le_of_ble_eq_true rfl) (Nat.le_of_ble_eq_true rfl) (Nat.le_of_ble_eq_true rfl) (by decide +kernel) rfl (fun v12 w13 h => ?_)
        refine Gz.goto (off := 21) (tgt := 88) (by decide +kernel) (by decide) ?_
        exact g_Ch_ordered_b88 k6 hk6 x1 x2 x3 x4 x5 v12 w13 h
    · have h := zok_t c4 h
      refine Gz.aload_n (q := 0) (pc' := 24) (by decide +kernel) rfl 0 rfl ?_
      refine Gz.getR (pc' := 27) (j := 0) 19 fd_Ch_18 sh_102 rfl (by decide +kernel) rfl ?_
      refine Gz.iload_n (q := 1) (pc' := 28) (by decide +kernel) rfl 1 rfl ?_
      refine Gz.iload_n (q := 2) (pc' := 29) (by decide +kernel) rfl 2 rfl ?_
      refine Gz.aload_n (q := 0) (pc' := 30) (by decide +kernel) rfl 0 rfl ?_
      refine Gz.getR (pc' := 33) (j := 0) 19 fd_Ch_18 sh_102 rfl (by decide +kernel) rfl ?_
      refine Gz.callVI (st := [.int x2, .int x1, .ref 19]) (b := 19) (pc' := 36) [] (g_La_dayCount w2) h ok_m_La_dayCount lk_Ch_71 sh_19 rfl rfl rfl (Nat.le_of_ble_eq_true rfl) (Nat.le_of_ble_eq_true rfl) (Nat.le_of_ble_eq_true rfl) (by decide +kernel) rfl (fun v14 w15 h => ?_)
      refine Gz.iload (i := 5) (pc' := 38) (by decide +kernel) rfl 5 rfl ?_
      refine Gz.callVJ (st := []) (b := 19) (pc' := 41) [.int x1, .int x2, .int v14, .int x5] (g_La_togetherWord x1 x2 v14 x5 w15) h ok_m_La_togetherWord lk_Ch_142 sh_19 rfl rfl rfl (Nat.le_of_ble_eq_true rfl) (Nat.le_of_ble_eq_true rfl) (Nat.le_of_ble_eq_true rfl) (by decide +kernel) rfl (fun v16 w17 h => ?_)
      refine Gz.goto (off := 47) (tgt := 88) (by decide +kernel) (by decide) ?_
      exact g_Ch_ordered_b88 k6 hk6 x1 x2 x3 x4 x5 v16 w17 h
theorem g_Ch_ordered_b6 {l : Launch} {Q : Option Value → gW → Prop} (x1 : Int32) (x2 : Int32) (x3 : Int32) (x4 : Int32) (x5 : Int32) (w : gW) (h : zok eI (f_Ch_ordered_b6 x1 x2 x3 x4 x5 w) Q) : Gz l m_Ch_ordered 3 6 [(0, .ref 102), (1, .int x1), (2, .int x2), (3, .int x3), (4, .int x4), (5, .int x5)] [] w Q := by
  have key : ∀ (n : Nat) (x1 : Int32) (x2 : Int32) (x3 : Int32) (x4 : Int32) (x5 : Int32) (w : gW), zok eI (zfx (fun _ _ _ _ _ _ => none) (f_Ch_ordered_b6_s) n x1 x2 x3 x4 x5 w) Q → Gz l m_Ch_ordered 3 6 [(0, .ref 102), (1, .int x1), (2, .int x2), (3, .int x3), (4, .int x4), (5, .int x5)] [] w Q := by
    intro n
    induction n with
    | zero => intro x1 x2 x3 x4 x5 w h; exact zok_n h
    | succ n ih => intro x1 x2 x3 x4 x5 w h; exact g_Ch_ordered_b6_s _ ih x1 x2 x3 x4 x5 w h
  exact key zFU x1 x2 x3 x4 x5 w h
theorem g_Ch_ordered {l : Launch} (a1 : Int32) (a2 : Int32) (a3 : Int32) (w : gW) : gCt l m_Ch_ordered 3 [.ref 102, .int a1, .int a2, .int a3] w eI (f_Ch_ordered a1 a2 a3 w) := by
  intro Q h
  unfold f_Ch_ordered at h
  show Gz l m_Ch_ordered 3 0 [(0, .ref 102), (1, .int a1), (2, .int a2), (3, .int a3)] [] w Q
  refine Gz.iconst (n := 0) (v := (0 : Int32)) (pc' := 1) (by decide +kernel) rfl rfl ?_
  refine Gz.istore (i := 4) (pc' := 3) (L' := [(4, .int (0 : Int32)), (0, .ref 102), (1, .int a1), (2, .int a2), (3, .int a3)]) (by decide +kernel) rfl (Nat.le_of_ble_eq_true rfl) rfl ?_
  refine Gz.iconst (n := 0) (v := (0 : Int32)) (pc' := 4) (by decide +kernel) rfl rfl ?_
  refine Gz.istore (i := 5) (pc' := 6) (L' := [(5, .int (0 : Int32)), (4, .int (0 : Int32)), (0, .ref 102), (1, .int a1), (2, .int a2), (3, .int a3)]) (by decide +kernel) rfl (Nat.le_of_ble_eq_true rfl) rfl ?_
  refine Gz.sub (L' := [(0, .ref 102), (1, .int a1), (2, .int a2), (3, .int a3), (4, .int (0 : Int32)), (5, .int (0 : Int32))]) [2, 3, 4, 5, 1, 0] rfl ?_
  exact g_Ch_ordered_b6 a1 a2 a3 (0 : Int32) (0 : Int32) w h
def f_X_rows_b32 (x1 : Int32) (x2 : Int32) (x3 : Int32) (s0 : Int32) (w : gW) : Option (Int32 × gW) :=
if s0 = 0 then
(some ((-1 : Int32), w))
else
(if x3 < 0 then
(some ((-1 : Int32), w))
else
(if (2 : Int32) < x3 then
(some ((-1 : Int32), w))
else
(zb (f_Ch_ordered x1 x2 x3 w) (fun v4 w5 =>
some (v4, w5)))))
def f_X_rows_b31 (x1 : Int32) (x2 : Int32) (x3 : Int32) (w : gW) : Option (Int32 × gW) :=
f_X_rows_b32 x1 x2 x3 (0 : Int32) w
def f_X_rows (a1 : Int32) (a2 : Int32) (a3 : Int32) (w : gW) : Option (Int32 × gW) :=
zb (f_La_hasDeed a1 w) (fun v1 w2 =>
if v1 = 0 then
(f_X_rows_b31 a1 a2 a3 w2)
else
(zb (f_La_hasDeed a2 w2) (fun v4 w5 =>
if v4 = 0 then
(f_X_rows_b31 a1 a2 a3 w5)
else
(if a1 = a2 then
(f_X_rows_b31 a1 a2 a3 w5)
else
(f_X_rows_b32 a1 a2 a3 (1 : Int32) w5)))))
theorem g_X_rows_b32 {l : Launch} {Q : Option Value → gW → Prop} (x1 : Int32) (x2 : Int32) (x3 : Int32) (s0 : Int32) (w : gW) (h : zok eI (f_X_rows_b32 x1 x2 x3 s0 w) Q) : Gz l m_X_rows 4 32 [(0, .ref 0), (1, .int x1), (2, .int x2), (3, .int x3)] [.int s0] w Q := by
  unfold f_X_rows_b32 at h
  refine Gz.istore (i := 4) (pc' := 34) (L' := [(4, .int s0), (0, .ref 0), (1, .int x1), (2, .int x2), (3, .int x3)]) (by decide +kernel) rfl (Nat.le_of_ble_eq_true rfl) rfl ?_
  refine Gz.iload (i := 4) (pc' := 36) (by decide +kernel) rfl 0 rfl ?_
  refine Gz.if_eq (off := 25) (tgt := 61) (pc' := 39) (by decide +kernel) (by decide) rfl (fun c1 => ?_) (fun c1 => ?_)
  · have h := zok_t c1 h
    refine Gz.iconst (n := -1) (v := (-1 : Int32)) (pc' := 62) (by decide +kernel) rfl rfl ?_
    exact Gz.ireturn (by decide +kernel) rfl (zok_sI h)
  · have h := zok_f c1 h
    refine Gz.iload_n (q := 3) (pc' := 40) (by decide +kernel) rfl 4 rfl ?_
    refine Gz.if_lt (off := 21) (tgt := 61) (pc' := 43) (by decide +kernel) (by decide) rfl (fun c2 => ?_) (fun c2 => ?_)
    · have h := zok_t c2 h
      refine Gz.iconst (n := -1) (v := (-1 : Int32)) (pc' := 62) (by decide +kernel) rfl rfl ?_
      exact Gz.ireturn (by decide +kernel) rfl (zok_sI h)
    · have h := zok_f c2 h
      refine Gz.iload_n (q := 3) (pc' := 44) (by decide +kernel) rfl 4 rfl ?_
      refine Gz.iconst (n := 2) (v := (2 : Int32)) (pc' := 45) (by decide +kernel) rfl rfl ?_
      refine Gz.icmp_gt (off := 16) (tgt := 61) (pc' := 48) (by decide +kernel) (by decide) rfl (fun c3 => ?_) (fun c3 => ?_)
      · have h := zok_t c3 h
        refine Gz.iconst (n := -1) (v := (-1 : Int32)) (pc' := 62) (by decide +kernel) rfl rfl ?_
        exact Gz.ireturn (by decide +kernel) rfl (zok_sI h)
      · have h := zok_f c3 h
        refine Gz.aload_n (q := 0) (pc' := 49) (by decide +kernel) rfl 1 rfl ?_
        refine Gz.getR (pc' := 52) (j := 9) 102 fd_X_79 sh_0 rfl (by decide +kernel) rfl ?_
        refine Gz.iload_n (q := 1) (pc' := 53) (by decide +kernel) rfl 2 rfl ?_
        refine Gz.iload_n (q := 2) (pc' := 54) (by decide +kernel) rfl 3 rfl ?_
        refine Gz.iload_n (q := 3) (pc' := 55) (by decide +kernel) rfl 4 rfl ?_
        refine Gz.callVI (st := []) (b := 102) (pc' := 58) [.int x1, .int x2, .int x3] (g_Ch_ordered x1 x2 x3 w) h ok_m_Ch_ordered lk_X_342 sh_102 rfl rfl rfl (Nat.le_of_ble_eq_true rfl) (Nat.le_of_ble_eq_true rfl) (Nat.le_of_ble_eq_true rfl) (by decide +kernel) rfl (fun v4 w5 h => ?_)
        refine Gz.goto (off := 4) (tgt := 62) (by decide +kernel) (by decide) ?_
        exact Gz.ireturn (by decide +kernel) rfl (zok_sI h)
theorem g_X_rows_b31 {l : Launch} {Q : Option Value → gW → Prop} (x1 : Int32) (x2 : Int32) (x3 : Int32) (w : gW) (h : zok eI (f_X_rows_b31 x1 x2 x3 w) Q) : Gz l m_X_rows 4 31 [(0, .ref 0), (1, .int x1), (2, .int x2), (3, .int x3)] [] w Q := by
  unfold f_X_rows_b31 at h
  refine Gz.iconst (n := 0) (v := (0 : Int32)) (pc' := 32) (by decide +kernel) rfl rfl ?_
  exact g_X_rows_b32 x1 x2 x3 (0 : Int32) w h
theorem g_X_rows {l : Launch} (a1 : Int32) (a2 : Int32) (a3 : Int32) (w : gW) : gCt l m_X_rows 4 [.ref 0, .int a1, .int a2, .int a3] w eI (f_X_rows a1 a2 a3 w) := by
  intro Q h
  unfold f_X_rows at h
  show Gz l m_X_rows 4 0 [(0, .ref 0), (1, .int a1), (2, .int a2), (3, .int a3)] [] w Q
  refine Gz.aload_n (q := 0) (pc' := 1) (by decide +kernel) rfl 0 rfl ?_
  refine Gz.getR (pc' := 4) (j := 3) 19 fd_X_33 sh_0 rfl (by decide +kernel) rfl ?_
  refine Gz.iload_n (q := 1) (pc' := 5) (by decide +kernel) rfl 1 rfl ?_
  refine Gz.callVI (st := []) (b := 19) (pc' := 8) [.int a1] (g_La_hasDeed a1 w) h ok_m_La_hasDeed lk_X_129 sh_19 rfl rfl rfl (Nat.le_of_ble_eq_true rfl) (Nat.le_of_ble_eq_true rfl) (Nat.le_of_ble_eq_true rfl) (by decide +kernel) rfl (fun v1 w2 h => ?_)
  refine Gz.if_eq (off := 23) (tgt := 31) (pc' := 11) (by decide +kernel) (by decide) rfl (fun c3 => ?_) (fun c3 => ?_)
  · have h := zok_t c3 h
    exact g_X_rows_b31 a1 a2 a3 w2 h
  · have h := zok_f c3 h
    refine Gz.aload_n (q := 0) (pc' := 12) (by decide +kernel) rfl 0 rfl ?_
    refine Gz.getR (pc' := 15) (j := 3) 19 fd_X_33 sh_0 rfl (by decide +kernel) rfl ?_
    refine Gz.iload_n (q := 2) (pc' := 16) (by decide +kernel) rfl 2 rfl ?_
    refine Gz.callVI (st := []) (b := 19) (pc' := 19) [.int a2] (g_La_hasDeed a2 w2) h ok_m_La_hasDeed lk_X_129 sh_19 rfl rfl rfl (Nat.le_of_ble_eq_true rfl) (Nat.le_of_ble_eq_true rfl) (Nat.le_of_ble_eq_true rfl) (by decide +kernel) rfl (fun v4 w5 h => ?_)
    refine Gz.if_eq (off := 12) (tgt := 31) (pc' := 22) (by decide +kernel) (by decide) rfl (fun c6 => ?_) (fun c6 => ?_)
    · have h := zok_t c6 h
      exact g_X_rows_b31 a1 a2 a3 w5 h
    · have h := zok_f c6 h
      refine Gz.iload_n (q := 1) (pc' := 23) (by decide +kernel) rfl 1 rfl ?_
      refine Gz.iload_n (q := 2) (pc' := 24) (by decide +kernel) rfl 2 rfl ?_
      refine Gz.icmp_eq (off := 7) (tgt := 31) (pc' := 27) (by decide +kernel) (by decide) rfl (fun c7 => ?_) (fun c7 => ?_)
      · have h := zok_t c7 h
        exact g_X_rows_b31 a1 a2 a3 w5 h
      · have h := zok_f c7 h
        refine Gz.iconst (n := 1) (v := (1 : Int32)) (pc' := 28) (by decide +kernel) rfl rfl ?_
        refine Gz.goto (off := 4) (tgt := 32) (by decide +kernel) (by decide) ?_
        exact g_X_rows_b32 a1 a2 a3 (1 : Int32) w5 h
def f_An_copyOf_66_59_b56_s (k56 : Int32 → gW → Option (Unit × gW)) (x2 : Int32) (w : gW) : Option (Unit × gW) :=
if (20 : Int32) ≤ x2 then
(if cpOk (0 : Int32) (0 : Int32) (nI 30) 30 30 then
zl (zcI w 71 (va_cpy (w.1 64) (w.1 71) (ix (0 : Int32)) (ix (0 : Int32)) (ix (nI 30)))) (fun w3 =>
if cpOk (0 : Int32) (0 : Int32) (nI 50) 50 50 then
zl (zcI w3 72 (va_cpy (w3.1 65) (w3.1 72) (ix (0 : Int32)) (ix (0 : Int32)) (ix (nI 50)))) (fun w6 =>
zl (zsI w6 66 6 (w6.1 59 6)) (fun w8 =>
zl (zsI w8 66 7 (w8.1 59 7)) (fun w10 =>
some ((), w10))))
else none)
else none)
else
(if inb x2 20 then
if inb x2 20 then
zl (zsI w 70 (ix x2) ((w.1 63 (ix x2)) &&& 1)) (fun w14 =>
zl (x2 + (1 : Int32)) (fun v16 =>
k56 v16 w14))
else none
else none)
def f_An_copyOf_66_59_b56 : Int32 → gW → Option (Unit × gW) := zfx (fun _ _ => none) (f_An_copyOf_66_59_b56_s) zFU
def f_An_copyOf_66_59 (w : gW) : Option (Unit × gW) :=
if cpOk (0 : Int32) (0 : Int32) (nI 40) 40 40 then
zl (zcI w 67 (va_cpy (w.1 60) (w.1 67) (ix (0 : Int32)) (ix (0 : Int32)) (ix (nI 40)))) (fun w2 =>
if cpOk (0 : Int32) (0 : Int32) (nI 20) 20 20 then
zl (zcI w2 68 (va_cpy (w2.1 61) (w2.1 68) (ix (0 : Int32)) (ix (0 : Int32)) (ix (nI 20)))) (fun w5 =>
if cpOk (0 : Int32) (0 : Int32) (nI 20) 20 20 then
zl (zcI w5 69 (va_cpy (w5.1 62) (w5.1 69) (ix (0 : Int32)) (ix (0 : Int32)) (ix (nI 20)))) (fun w8 =>
f_An_copyOf_66_59_b56 (0 : Int32) w8)
else none)
else none)
else none
theorem g_An_copyOf_66_59_b56_s {l : Launch} {Q : Option Value → gW → Prop} (k56 : Int32 → gW → Option (Unit × gW)) (hk56 : ∀ (x2 : Int32) (w : gW), zok eV (k56 x2 w) Q → Gz l m_An_copyOf 1 56 [(0, .ref 66), (1, .ref 59), (2, .int x2)] [] w Q) (x2 : Int32) (w : gW) (h : zok eV (f_An_copyOf_66_59_b56_s k56 x2 w) Q) : Gz l m_An_copyOf 1 56 [(0, .ref 66), (1, .ref 59), (2, .int x2)] [] w Q := by
  unfold f_An_copyOf_66_59_b56_s at h
  refine Gz.iload_n (q := 2) (pc' := 57) (by decide +kernel) rfl 2 rfl ?_
  refine Gz.bipush (n := 20) (v := (20 : Int32)) (pc' := 59) (by decide +kernel) rfl rfl ?_
  refine Gz.icmp_ge (off := 21) (tgt := 80) (pc' := 62) (by decide +kernel) (by decide) rfl (fun c1 => ?_) (fun c1 => ?_)
  · have h := zok_t c1 h
    refine Gz.aload_n (q := 1) (pc' := 81) (by decide +kernel) rfl 1 rfl ?_
    refine Gz.getR (pc' := 84) (j := 4) 64 fd_An_25 sh_59 rfl (by decide +kernel) rfl ?_
    refine Gz.iconst (n := 0) (v := (0 : Int32)) (pc' := 85) (by decide +kernel) rfl rfl ?_
    refine Gz.aload_n (q := 0) (pc' := 86) (by decide +kernel) rfl 0 rfl ?_
    refine Gz.getR (pc' := 89) (j := 4) 71 fd_An_25 sh_66 rfl (by decide +kernel) rfl ?_
    refine Gz.iconst (n := 0) (v := (0 : Int32)) (pc' := 90) (by decide +kernel) rfl rfl ?_
    refine Gz.aload_n (q := 0) (pc' := 91) (by decide +kernel) rfl 0 rfl ?_
    refine Gz.getR (pc' := 94) (j := 4) 71 fd_An_25 sh_66 rfl (by decide +kernel) rfl ?_
    refine Gz.alen (pc' := 95) (n := 30) (kd := 1) (by decide +kernel) rfl (Or.inl rfl) rfl rfl ?_
    obtain ⟨c2, h⟩ := zok_c h
    refine Gz.copyI (pc' := 98) (by decide +kernel) rfl lk_An_44 cp_n cp_s cp_i sh_64 sh_71 c2 (Nat.le_of_ble_eq_true rfl) (Nat.le_of_ble_eq_true rfl) ?_
    refine Gz.nmW (fun w3 e4 => ?_)
    have h := zok_l e4 h
    refine Gz.aload_n (q := 1) (pc' := 99) (by decide +kernel) rfl 1 rfl ?_
    refine Gz.getR (pc' := 102) (j := 5) 65 fd_An_28 sh_59 rfl (by decide +kernel) rfl ?_
    refine Gz.iconst (n := 0) (v := (0 : Int32)) (pc' := 103) (by decide +kernel) rfl rfl ?_
    refine Gz.aload_n (q := 0) (pc' := 104) (by decide +kernel) rfl 0 rfl ?_
    refine Gz.getR (pc' := 107) (j := 5) 72 fd_An_28 sh_66 rfl (by decide +kernel) rfl ?_
    refine Gz.iconst (n := 0) (v := (0 : Int32)) (pc' := 108) (by decide +kernel) rfl rfl ?_
    refine Gz.aload_n (q := 0) (pc' := 109) (by decide +kernel) rfl 0 rfl ?_
    refine Gz.getR (pc' := 112) (j := 5) 72 fd_An_28 sh_66 rfl (by decide +kernel) rfl ?_
    refine Gz.alen (pc' := 113) (n := 50) (kd := 1) (by decide +kernel) rfl (Or.inl rfl) rfl rfl ?_
    obtain ⟨c5, h⟩ := zok_c h
    refine Gz.copyI (pc' := 116) (by decide +kernel) rfl lk_An_44 cp_n cp_s cp_i sh_65 sh_72 c5 (Nat.le_of_ble_eq_true rfl) (Nat.le_of_ble_eq_true rfl) ?_
    refine Gz.nmW (fun w6 e7 => ?_)
    have h := zok_l e7 h
    refine Gz.aload_n (q := 0) (pc' := 117) (by decide +kernel) rfl 0 rfl ?_
    refine Gz.aload_n (q := 1) (pc' := 118) (by decide +kernel) rfl 1 rfl ?_
    refine Gz.getI (pc' := 121) (j := 6) fd_An_37 sh_59 rfl (by decide +kernel) rfl ?_
    refine Gz.putI (pc' := 124) (j := 6) fd_An_37 sh_66 rfl (by decide +kernel) rfl ?_
    refine Gz.nmW (fun w8 e9 => ?_)
    have h := zok_l e9 h
    refine Gz.aload_n (q := 0) (pc' := 125) (by decide +kernel) rfl 0 rfl ?_
    refine Gz.aload_n (q := 1) (pc' := 126) (by decide +kernel) rfl 1 rfl ?_
    refine Gz.getI (pc' := 129) (j := 7) fd_An_41 sh_59 rfl (by decide +kernel) rfl ?_
    refine Gz.putI (pc' := 132) (j := 7) fd_An_41 sh_66 rfl (by decide +kernel) rfl ?_
    refine Gz.nmW (fun w10 e11 => ?_)
    have h := zok_l e11 h
    exact Gz.return_ (by decide +kernel) rfl (zok_sV h)
  · have h := zok_f c1 h
    refine Gz.aload_n (q := 0) (pc' := 63) (by decide +kernel) rfl 0 rfl ?_
    refine Gz.getR (pc' := 66) (j := 3) 70 fd_An_21 sh_66 rfl (by decide +kernel) rfl ?_
    refine Gz.iload_n (q := 2) (pc' := 67) (by decide +kernel) rfl 2 rfl ?_
    refine Gz.aload_n (q := 1) (pc' := 68) (by decide +kernel) rfl 1 rfl ?_
    refine Gz.getR (pc' := 71) (j := 3) 63 fd_An_21 sh_59 rfl (by decide +kernel) rfl ?_
    refine Gz.iload_n (q := 2) (pc' := 72) (by decide +kernel) rfl 2 rfl ?_
    obtain ⟨c12, h⟩ := zok_c h
    refine Gz.zald (pc' := 73) (n := 20) (by decide +kernel) rfl rfl c12 ?_
    obtain ⟨c13, h⟩ := zok_c h
    refine Gz.zast (pc' := 74) (n := 20) (by decide +kernel) rfl rfl c13 ?_
    refine Gz.nmW (fun w14 e15 => ?_)
    have h := zok_l e15 h
    obtain ⟨v16, e17⟩ : ∃ y : Int32, y = x2 + (1 : Int32) := ⟨_, rfl⟩
    have h := zok_l e17 h
    refine Gz.iinc (i := 2) (n := 1) (pc' := 77) (L' := [(2, .int v16), (0, .ref 66), (1, .ref 59)]) v16 (by decide +kernel) rfl 2 rfl (by rw [e17]; rfl) (Nat.le_of_ble_eq_true rfl) rfl ?_
    refine Gz.goto (off := -21) (tgt := 56) (by decide +kernel) (by decide) ?_
    refine Gz.sub (L' := [(0, .ref 66), (1, .ref 59), (2, .int v16)]) [1, 2, 0] rfl ?_
    exact hk56 v16 w14 h
theorem g_An_copyOf_66_59_b56 {l : Launch} {Q : Option Value → gW → Prop} (x2 : Int32) (w : gW) (h : zok eV (f_An_copyOf_66_59_b56 x2 w) Q) : Gz l m_An_copyOf 1 56 [(0, .ref 66), (1, .ref 59), (2, .int x2)] [] w Q := by
  have key : ∀ (n : Nat) (x2 : Int32) (w : gW), zok eV (zfx (fun _ _ => none) (f_An_copyOf_66_59_b56_s) n x2 w) Q → Gz l m_An_copyOf 1 56 [(0, .ref 66), (1, .ref 59), (2, .int x2)] [] w Q := by
    intro n
    induction n with
    | zero => intro x2 w h; exact zok_n h
    | succ n ih => intro x2 w h; exact g_An_copyOf_66_59_b56_s _ ih x2 w h
  exact key zFU x2 w h
theorem g_An_copyOf_66_59 {l : Launch} (w : gW) : gCt l m_An_copyOf 1 [.ref 66, .ref 59] w eV (f_An_copyOf_66_59 w) := by
  intro Q h
  unfold f_An_copyOf_66_59 at h
  show Gz l m_An_copyOf 1 0 [(0, .ref 66), (1, .ref 59)] [] w Q
  refine Gz.aload_n (q := 1) (pc' := 1) (by decide +kernel) rfl 1 rfl ?_
  refine Gz.getR (pc' := 4) (j := 0) 60 fd_An_11 sh_59 rfl (by decide +kernel) rfl ?_
  refine Gz.iconst (n := 0) (v := (0 : Int32)) (pc' := 5) (by decide +kernel) rfl rfl ?_
  refine Gz.aload_n (q := 0) (pc' := 6) (by decide +kernel) rfl 0 rfl ?_
  refine Gz.getR (pc' := 9) (j := 0) 67 fd_An_11 sh_66 rfl (by decide +kernel) rfl ?_
  refine Gz.iconst (n := 0) (v := (0 : Int32)) (pc' := 10) (by decide +kernel) rfl rfl ?_
  refine Gz.aload_n (q := 0) (pc' := 11) (by decide +kernel) rfl 0 rfl ?_
  refine Gz.getR (pc' := 14) (j := 0) 67 fd_An_11 sh_66 rfl (by decide +kernel) rfl ?_
  refine Gz.alen (pc' := 15) (n := 40) (kd := 1) (by decide +kernel) rfl (Or.inl rfl) rfl rfl ?_
  obtain ⟨c1, h⟩ := zok_c h
  refine Gz.copyI (pc' := 18) (by decide +kernel) rfl lk_An_44 cp_n cp_s cp_i sh_60 sh_67 c1 (Nat.le_of_ble_eq_true rfl) (Nat.le_of_ble_eq_true rfl) ?_
  refine Gz.nmW (fun w2 e3 => ?_)
  have h := zok_l e3 h
  refine Gz.aload_n (q := 1) (pc' := 19) (by decide +kernel) rfl 1 rfl ?_
  refine Gz.getR (pc' := 22) (j := 1) 61 fd_An_15 sh_59 rfl (by decide +kernel) rfl ?_
  refine Gz.iconst (n := 0) (v := (0 : Int32)) (pc' := 23) (by decide +kernel) rfl rfl ?_
  refine Gz.aload_n (q := 0) (pc' := 24) (by decide +kernel) rfl 0 rfl ?_
  refine Gz.getR (pc' := 27) (j := 1) 68 fd_An_15 sh_66 rfl (by decide +kernel) rfl ?_
  refine Gz.iconst (n := 0) (v := (0 : Int32)) (pc' := 28) (by decide +kernel) rfl rfl ?_
  refine Gz.aload_n (q := 0) (pc' := 29) (by decide +kernel) rfl 0 rfl ?_
  refine Gz.getR (pc' := 32) (j := 1) 68 fd_An_15 sh_66 rfl (by decide +kernel) rfl ?_
  refine Gz.alen (pc' := 33) (n := 20) (kd := 1) (by decide +kernel) rfl (Or.inl rfl) rfl rfl ?_
  obtain ⟨c4, h⟩ := zok_c h
  refine Gz.copyI (pc' := 36) (by decide +kernel) rfl lk_An_44 cp_n cp_s cp_i sh_61 sh_68 c4 (Nat.le_of_ble_eq_true rfl) (Nat.le_of_ble_eq_true rfl) ?_
  refine Gz.nmW (fun w5 e6 => ?_)
  have h := zok_l e6 h
  refine Gz.aload_n (q := 1) (pc' := 37) (by decide +kernel) rfl 1 rfl ?_
  refine Gz.getR (pc' := 40) (j := 2) 62 fd_An_18 sh_59 rfl (by decide +kernel) rfl ?_
  refine Gz.iconst (n := 0) (v := (0 : Int32)) (pc' := 41) (by decide +kernel) rfl rfl ?_
  refine Gz.aload_n (q := 0) (pc' := 42) (by decide +kernel) rfl 0 rfl ?_
  refine Gz.getR (pc' := 45) (j := 2) 69 fd_An_18 sh_66 rfl (by decide +kernel) rfl ?_
  refine Gz.iconst (n := 0) (v := (0 : Int32)) (pc' := 46) (by decide +kernel) rfl rfl ?_
  refine Gz.aload_n (q := 0) (pc' := 47) (by decide +kernel) rfl 0 rfl ?_
  refine Gz.getR (pc' := 50) (j := 2) 69 fd_An_18 sh_66 rfl (by decide +kernel) rfl ?_
  refine Gz.alen (pc' := 51) (n := 20) (kd := 1) (by decide +kernel) rfl (Or.inl rfl) rfl rfl ?_
  obtain ⟨c7, h⟩ := zok_c h
  refine Gz.copyI (pc' := 54) (by decide +kernel) rfl lk_An_44 cp_n cp_s cp_i sh_62 sh_69 c7 (Nat.le_of_ble_eq_true rfl) (Nat.le_of_ble_eq_true rfl) ?_
  refine Gz.nmW (fun w8 e9 => ?_)
  have h := zok_l e9 h
  refine Gz.iconst (n := 0) (v := (0 : Int32)) (pc' := 55) (by decide +kernel) rfl rfl ?_
  refine Gz.istore_n (q := 2) (pc' := 56) (L' := [(2, .int (0 : Int32)), (0, .ref 66), (1, .ref 59)]) (by decide +kernel) rfl (Nat.le_of_ble_eq_true rfl) rfl ?_
  refine Gz.sub (L' := [(0, .ref 66), (1, .ref 59), (2, .int (0 : Int32))]) [1, 2, 0] rfl ?_
  exact g_An_copyOf_66_59_b56 (0 : Int32) w8 h
