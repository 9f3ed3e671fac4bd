def f_Le_toBlame_b79 (k16 : Int32 → Int32 → Int32 → Int32 → Int32 → gW → Option (Int32 × gW)) (x1 : Int32) (x2 : Int32) (x3 : Int32) (x4 : Int32) (x5 : Int32) (w : gW) : Option (Int32 × gW) :=
zl (x5 + (1 : Int32)) (fun v1 =>
k16 x1 x2 x3 x4 v1 w)
def f_Le_toBlame_b70 (k16 : Int32 → Int32 → Int32 → Int32 → Int32 → gW → Option (Int32 × gW)) (x1 : Int32) (x2 : Int32) (x5 : Int32) (w : gW) : Option (Int32 × gW) :=
zl (w.1 99 6) (fun v1 =>
f_Le_toBlame_b79 k16 x1 x2 x5 v1 x5 w)
def f_Le_toBlame_b16_s (k16 : Int32 → Int32 → Int32 → Int32 → Int32 → gW → Option (Int32 × gW)) (x1 : Int32) (x2 : Int32) (x3 : Int32) (x4 : Int32) (x5 : Int32) (w : gW) : Option (Int32 × gW) :=
if (6 : Int32) ≤ x5 then
(if x1 = 0 then
(some (x3, w))
else
(some (x4, w)))
else
(zb (f_Co_possible w) (fun v3 w4 =>
zb (f_An_swornBy x5 w4) (fun v5 w6 =>
zb (f_Le_findLeast v3 (x2 &&& (v5 ^^^ (-1 : Int32))) x2 w6) (fun _ w7 =>
if (w7.1 99 7) = (-1 : Int32) then
(f_Le_toBlame_b79 k16 x1 x2 x3 x4 x5 w7)
else
(if x3 = (-1 : Int32) then
(f_Le_toBlame_b70 k16 x1 x2 x5 w7)
else
(if x4 ≤ (w7.1 99 6) then
(f_Le_toBlame_b79 k16 x1 x2 x3 x4 x5 w7)
else
(f_Le_toBlame_b70 k16 x1 x2 x5 w7)))))))
def f_Le_toBlame_b16 : Int32 → Int32 → Int32 → Int32 → Int32 → gW → Option (Int32 × gW) := zfx (fun _ _ _ _ _ _ => none) (f_Le_toBlame_b16_s) zFU
def f_Le_toBlame (a1 : Int32) (w : gW) : Option (Int32 × gW) :=
zb (f_An_allSworn w) (fun v1 w2 =>
f_Le_toBlame_b16 a1 v1 (-1 : Int32) (-1 : Int32) (0 : Int32) w2)
theorem g_Le_toBlame_b79 {l : Launch} {Q : Option Value → gW → Prop} (k16 : Int32 → Int32 → Int32 → Int32 → Int32 → gW → Option (Int32 × gW)) (hk16 : ∀ (x1 : Int32) (x2 : Int32) (x3 : Int32) (x4 : Int32) (x5 : Int32) (w : gW), zok eI (k16 x1 x2 x3 x4 x5 w) Q → Gz l m_Le_toBlame 21 16 [(0, .ref 99), (1, .int x1), (2, .int x2), (3, .int x3), (4, .int x4), (5, .int x5)] [] w Q) (x1 : Int32) (x2 : Int32) (x3 : Int32) (x4 : Int32) (x5 : Int32) (w : gW) (h : zok eI (f_Le_toBlame_b79 k16 x1 x2 x3 x4 x5 w) Q) : Gz l m_Le_toBlame 21 79 [(0, .ref 99), (1, .int x1), (2, .int x2), (3, .int x3), (4, .int x4), (5, .int x5)] [] w Q := by
  unfold f_Le_toBlame_b79 at h
  obtain ⟨v1, e2⟩ : ∃ y : Int32, y = x5 + (1 : Int32) := ⟨_, rfl⟩
  have h := zok_l e2 h
  refine Gz.iinc (i := 5) (n := 1) (pc' := 82) (L' := [(5, .int v1), (0, .ref 99), (1, .int x1), (2, .int x2), (3, .int x3), (4, .int x4)]) v1 (by decide +kernel) rfl 5 rfl (by rw [e2]; rfl) (Nat.le_of_ble_eq_true rfl) rfl ?_
  refine Gz.goto (off := -66) (tgt := 16) (by decide +kernel) (by decide) ?_
  refine Gz.sub (L' := [(0, .ref 99), (1, .int x1), (2, .int x2), (3, .int x3), (4, .int x4), (5, .int v1)]) [1, 2, 3, 4, 5, 0] rfl ?_
  exact hk16 x1 x2 x3 x4 v1 w h
theorem g_Le_toBlame_b70 {l : Launch} {Q : Option Value → gW → Prop} (k16 : Int32 → Int32 → Int32 → Int32 → Int32 → gW → Option (Int32 × gW)) (hk16 : ∀ (x1 : Int32) (x2 : Int32) (x3 : Int32) (x4 : Int32) (x5 : Int32) (w : gW), zok eI (k16 x1 x2 x3 x4 x5 w) Q → Gz l m_Le_toBlame 21 16 [(0, .ref 99), (1, .int x1), (2, .int x2), (3, .int x3), (4, .int x4), (5, .int x5)] [] w Q) (x1 : Int32) (x2 : Int32) (x5 : Int32) (w : gW) (h : zok eI (f_Le_toBlame_b70 k16 x1 x2 x5 w) Q) : Gz l m_Le_toBlame 21 70 [(0, .ref 99), (1, .int x1), (2, .int x2), (5, .int x5)] [] w Q := by
  unfold f_Le_toBlame_b70 at h
  refine Gz.iload (i := 5) (pc' := 72) (by decide +kernel) rfl 3 rfl ?_
  refine Gz.istore_n (q := 3) (pc' := 73) (L' := [(3, .int x5), (0, .ref 99), (1, .int x1), (2, .int x2), (5, .int x5)]) (by decide +kernel) rfl (Nat.le_of_ble_eq_true rfl) rfl ?_
  refine Gz.aload_n (q := 0) (pc' := 74) (by decide +kernel) rfl 1 rfl ?_
  refine Gz.getI (pc' := 77) (j := 6) fd_Le_83 sh_99 rfl (by decide +kernel) rfl ?_
  refine Gz.nmI (fun v1 e2 => ?_)
  have h := zok_l e2 h
  refine Gz.istore (i := 4) (pc' := 79) (L' := [(4, .int v1), (3, .int x5), (0, .ref 99), (1, .int x1), (2, .int x2), (5, .int x5)]) (by decide +kernel) rfl (Nat.le_of_ble_eq_true rfl) rfl ?_
  refine Gz.sub (L' := [(0, .ref 99), (1, .int x1), (2, .int x2), (3, .int x5), (4, .int v1), (5, .int x5)]) [2, 3, 4, 1, 0, 5] rfl ?_
  exact g_Le_toBlame_b79 k16 hk16 x1 x2 x5 v1 x5 w h
theorem g_Le_toBlame_b16_s {l : Launch} {Q : Option Value → gW → Prop} (k16 : Int32 → Int32 → Int32 → Int32 → Int32 → gW → Option (Int32 × gW)) (hk16 : ∀ (x1 : Int32) (x2 : Int32) (x3 : Int32) (x4 : Int32) (x5 : Int32) (w : gW), zok eI (k16 x1 x2 x3 x4 x5 w) Q → Gz l m_Le_toBlame 21 16 [(0, .ref 99), (1, .int x1), (2, .int x2), (3, .int x3), (4, .int x4), (5, .int x5)] [] w Q) (x1 : Int32) (x2 : Int32) (x3 : Int32) (x4 : Int32) (x5 : Int32) (w : gW) (h : zok eI (f_Le_toBlame_b16_s k16 x1 x2 x3 x4 x5 w) Q) : Gz l m_Le_toBlame 21 16 [(0, .ref 99), (1, .int x1), (2, .int x2), (3, .int x3), (4, .int x4), (5, .int x5)] [] w Q := by
  unfold f_Le_toBlame_b16_s at h
  refine Gz.iload (i := 5) (pc' := 18) (by decide +kernel) rfl 5 rfl ?_
  refine Gz.bipush (n := 6) (v := (6 : Int32)) (pc' := 20) (by decide +kernel) rfl rfl ?_
  refine Gz.icmp_ge (off := 65) (tgt := 85) (pc' := 23) (by decide +kernel) (by decide) rfl (fun c1 => ?_) (fun c1 => ?_)
  · have h := zok_t c1 h
    refine Gz.iload_n (q := 1) (pc' := 86) (by decide +kernel) rfl 1 rfl ?_
    refine Gz.if_ne (off := 7) (tgt := 93) (pc' := 89) (by decide +kernel) (by decide) rfl (fun c2 => ?_) (fun c2 => ?_)
    · have h := zok_f c2 h
      refine Gz.iload (i := 4) (pc' := 95) (by decide +kernel) rfl 4 rfl ?_
      exact Gz.ireturn (by decide +kernel) rfl (zok_sI h)
    · have h := zok_t c2 h
      refine Gz.iload_n (q := 3) (pc' := 90) (by decide +kernel) rfl 3 rfl ?_
      refine Gz.goto (off := 5) (tgt := 95) (by decide +kernel) (by decide) ?_
      exact Gz.ireturn (by decide +kernel) rfl (zok_sI h)
  · have h := zok_f c1 h
    refine Gz.aload_n (q := 0) (pc' := 24) (by decide +kernel) rfl 0 rfl ?_
    refine Gz.aload_n (q := 0) (pc' := 25) (by decide +kernel) rfl 0 rfl ?_
    refine Gz.getR (pc' := 28) (j := 3) 73 fd_Le_30 sh_99 rfl (by decide +kernel) rfl ?_
    refine Gz.callVR (st := [.ref 99]) (b := 73) (pc' := 31) [] (g_Co_possible w) h ok_m_Co_possible lk_Le_40 sh_73 rfl rfl rfl (Nat.le_of_ble_eq_true rfl) (Nat.le_of_ble_eq_true rfl) (Nat.le_of_ble_eq_true rfl) (by decide +kernel) rfl (fun v3 w4 h => ?_)
    refine Gz.iload_n (q := 2) (pc' := 32) (by decide +kernel) rfl 2 rfl ?_
    refine Gz.aload_n (q := 0) (pc' := 33) (by decide +kernel) rfl 0 rfl ?_
    refine Gz.getR (pc' := 36) (j := 2) 59 fd_Le_26 sh_99 rfl (by decide +kernel) rfl ?_
    refine Gz.iload (i := 5) (pc' := 38) (by decide +kernel) rfl 5 rfl ?_
    refine Gz.callVI (st := [.int x2, .ref v3, .ref 99]) (b := 59) (pc' := 41) [.int x5] (g_An_swornBy x5 w4) h ok_m_An_swornBy lk_Le_90 sh_59 rfl rfl rfl (Nat.le_of_ble_eq_true rfl) (Nat.le_of_ble_eq_true rfl) (Nat.le_of_ble_eq_true rfl) (by decide +kernel) rfl (fun v5 w6 h => ?_)
    refine Gz.iconst (n := -1) (v := (-1 : Int32)) (pc' := 42) (by decide +kernel) rfl rfl ?_
    refine Gz.ixor (pc' := 43) (by decide +kernel) rfl ?_
    refine Gz.iand (pc' := 44) (by decide +kernel) rfl ?_
    refine Gz.iload_n (q := 2) (pc' := 45) (by decide +kernel) rfl 2 rfl ?_
    refine Gz.callVV (st := []) (b := 99) (pc' := 48) [.ref v3, .int (x2 &&& (v5 ^^^ (-1 : Int32))), .int x2] (g_Le_findLeast v3 (x2 &&& (v5 ^^^ (-1 : Int32))) x2 w6) h ok_m_Le_findLeast lk_Le_71 sh_99 rfl rfl rfl (Nat.le_of_ble_eq_true rfl) (Nat.le_of_ble_eq_true rfl) (Nat.le_of_ble_eq_true rfl) (by decide +kernel) rfl (fun _ w7 h => ?_)
    refine Gz.aload_n (q := 0) (pc' := 49) (by decide +kernel) rfl 0 rfl ?_
    refine Gz.getI (pc' := 52) (j := 7) fd_Le_75 sh_99 rfl (by decide +kernel) rfl ?_
    refine Gz.iconst (n := -1) (v := (-1 : Int32)) (pc' := 53) (by decide +kernel) rfl rfl ?_
    refine Gz.icmp_eq (off := 26) (tgt := 79) (pc' := 56) (by decide +kernel) (by decide) rfl (fun c8 => ?_) (fun c8 => ?_)
    · have h := zok_t c8 h
      exact g_Le_toBlame_b79 k16 hk16 x1 x2 x3 x4 x5 w7 h
    · have h := zok_f c8 h
      refine Gz.iload_n (q := 3) (pc' := 57) (by decide +kernel) rfl 3 rfl ?_
      refine Gz.iconst (n := -1) (v := (-1 : Int32)) (pc' := 58) (by decide +kernel) rfl rfl ?_
      refine Gz.icmp_eq (off := 12) (tgt := 70) (pc' := 61) (by decide +kernel) (by decide) rfl (fun c9 => ?_) (fun c9 => ?_)
      · have h := zok_t c9 h
        refine Gz.sub (L' := [(0, .ref 99), (1, .int x1), (2, .int x2), (5, .int x5)]) [0, 1, 2, 5] rfl ?_
        exact g_Le_toBlame_b70 k16 hk16 x1 x2 x5 w7 h
      · have h := zok_f c9 h
        refine Gz.aload_n (q := 0) (pc' := 62) (by decide +kernel) rfl 0 rfl ?_
        refine Gz.getI (pc' := 65) (j := 6) fd_Le_83 sh_99 rfl (by decide +kernel) rfl ?_
        refine Gz.iload (i := 4) (pc' := 67) (by decide +kernel) rfl 4 rfl ?_
        refine Gz.icmp_ge (off := 12) (tgt := 79) (pc' := 70) (by decide +kernel) (by decide) rfl (fun c10 => ?_) (fun c10 => ?_)
        · have h := zok_t c10 h
          exact g_Le_toBlame_b79 k16 hk16 x1 x2 x3 x4 x5 w7 h
        · have h := zok_f c10 h
          refine Gz.sub (L' := [(0, .ref 99), (1, .int x1), (2, .int x2), (5, .int x5)]) [0, 1, 2, 5] rfl ?_
          exact g_Le_toBlame_b70 k16 hk16 x1 x2 x5 w7 h
theorem g_Le_toBlame_b16 {l : Launch} {Q : Option Value → gW → Prop} (x1 : Int32) (x2 : Int32) (x3 : Int32) (x4 : Int32) (x5 : Int32) (w : gW) (h : zok eI (f_Le_toBlame_b16 x1 x2 x3 x4 x5 w) Q) : Gz l m_Le_toBlame 21 16 [(0, .ref 99), (1, .int x1), (2, .int x2), (3, .int x3), (4, .int x4), (5, .int x5)] [] w Q := by
  have key : ∀ (n : Nat) (x1 : Int32) (x2 : Int32) (x3 : Int32) (x4 : Int32) (x5 : Int32) (w : gW), zok eI (zfx (fun _ _ _ _ _ _ => none) (f_Le_toBlame_b16_s) n x1 x2 x3 x4 x5 w) Q → Gz l m_Le_toBlame 21 16 [(0, .ref 99), (1, .int x1), (2, .int x2), (3, .int x3), (4, .int x4), (5, .int x5)] [] w Q := by
    intro n
    induction n with
    | zero => intro x1 x2 x3 x4 x5 w h; exact zok_n h
    | succ n ih => intro x1 x2 x3 x4 x5 w h; exact g_Le_toBlame_b16_s _ ih x1 x2 x3 x4 x5 w h
  exact key zFU x1 x2 x3 x4 x5 w h
theorem g_Le_toBlame {l : Launch} (a1 : Int32) (w : gW) : gCt l m_Le_toBlame 21 [.ref 99, .int a1] w eI (f_Le_toBlame a1 w) := by
  intro Q h
  unfold f_Le_toBlame at h
  show Gz l m_Le_toBlame 21 0 [(0, .ref 99), (1, .int a1)] [] w Q
  refine Gz.aload_n (q := 0) (pc' := 1) (by decide +kernel) rfl 0 rfl ?_
  refine Gz.getR (pc' := 4) (j := 2) 59 fd_Le_26 sh_99 rfl (by decide +kernel) rfl ?_
  refine Gz.callVI (st := []) (b := 59) (pc' := 7) [] (g_An_allSworn w) h ok_m_An_allSworn lk_Le_34 sh_59 rfl rfl rfl (Nat.le_of_ble_eq_true rfl) (Nat.le_of_ble_eq_true rfl) (Nat.le_of_ble_eq_true rfl) (by decide +kernel) rfl (fun v1 w2 h => ?_)
  refine Gz.istore_n (q := 2) (pc' := 8) (L' := [(2, .int v1), (0, .ref 99), (1, .int a1)]) (by decide +kernel) rfl (Nat.le_of_ble_eq_true rfl) rfl ?_
  refine Gz.iconst (n := -1) (v := (-1 : Int32)) (pc' := 9) (by decide +kernel) rfl rfl ?_
  refine Gz.istore_n (q := 3) (pc' := 10) (L' := [(3, .int (-1 : Int32)), (2, .int v1), (0, .ref 99), (1, .int a1)]) (by decide +kernel) rfl (Nat.le_of_ble_eq_true rfl) rfl ?_
  refine Gz.iconst (n := -1) (v := (-1 : Int32)) (pc' := 11) (by decide +kernel) rfl rfl ?_
  refine Gz.istore (i := 4) (pc' := 13) (L' := [(4, .int (-1 : Int32)), (3, .int (-1 : Int32)), (2, .int v1), (0, .ref 99), (1, .int a1)]) (by decide +kernel) rfl (Nat.le_of_ble_eq_true rfl) rfl ?_
  refine Gz.iconst (n := 0) (v := (0 : Int32)) (pc' := 14) (by decide +kernel) rfl rfl ?_
  refine Gz.istore (i := 5) (pc' := 16) (L' := [(5, .int (0 : Int32)), (4, .int (-1 : Int32)), (3, .int (-1 : Int32)), (2, .int v1), (0, .ref 99), (1, .int a1)]) (by decide +kernel) rfl (Nat.le_of_ble_eq_true rfl) rfl ?_
  refine Gz.sub (L' := [(0, .ref 99), (1, .int a1), (2, .int v1), (3, .int (-1 : Int32)), (4, .int (-1 : Int32)), (5, .int (0 : Int32))]) [4, 5, 3, 2, 1, 0] rfl ?_
  exact g_Le_toBlame_b16 a1 v1 (-1 : Int32) (-1 : Int32) (0 : Int32) w2 h
def f_X_blame (a1 : Int32) (w : gW) : Option (Int32 × gW) :=
zb (f_La_isThere w) (fun v1 w2 =>
if v1 = 0 then
(some ((-1 : Int32), w2))
else
(zb (f_X_isZeroOrOne a1 w2) (fun v4 w5 =>
if v4 = 0 then
(some ((-1 : Int32), w5))
else
(zb (f_Le_toBlame a1 w5) (fun v7 w8 =>
some (v7, w8))))))
theorem g_X_blame {l : Launch} (a1 : Int32) (w : gW) : gCt l m_X_blame 22 [.ref 0, .int a1] w eI (f_X_blame a1 w) := by
  intro Q h
  unfold f_X_blame at h
  show Gz l m_X_blame 22 0 [(0, .ref 0), (1, .int a1)] [] w Q
  refine Gz.aload_n (q := 0) (pc' := 1) (by decide +kernel) rfl 0 rfl ?_
  refine Gz.getR (pc' := 4) (j := 3) 19 fd_X_33 sh_0 rfl (by decide +kernel) rfl ?_
  refine Gz.callVI (st := []) (b := 19) (pc' := 7) [] (g_La_isThere w) h ok_m_La_isThere lk_X_176 sh_19 rfl rfl rfl (Nat.le_of_ble_eq_true rfl) (Nat.le_of_ble_eq_true rfl) (Nat.le_of_ble_eq_true rfl) (by decide +kernel) rfl (fun v1 w2 h => ?_)
  refine Gz.if_eq (off := 21) (tgt := 28) (pc' := 10) (by decide +kernel) (by decide) rfl (fun c3 => ?_) (fun c3 => ?_)
  · have h := zok_t c3 h
    refine Gz.iconst (n := -1) (v := (-1 : Int32)) (pc' := 29) (by decide +kernel) rfl rfl ?_
    exact Gz.ireturn (by decide +kernel) rfl (zok_sI h)
  · have h := zok_f c3 h
    refine Gz.iload_n (q := 1) (pc' := 11) (by decide +kernel) rfl 1 rfl ?_
    refine Gz.callSI (st := []) (pc' := 14) [.int a1] (g_X_isZeroOrOne a1 w2) h ok_m_X_isZeroOrOne lk_X_228 rfl (Nat.le_of_ble_eq_true rfl) (Nat.le_of_ble_eq_true rfl) (Nat.le_of_ble_eq_true rfl) (by decide +kernel) rfl (fun v4 w5 h => ?_)
    refine Gz.if_eq (off := 14) (tgt := 28) (pc' := 17) (by decide +kernel) (by decide) rfl (fun c6 => ?_) (fun c6 => ?_)
    · have h := zok_t c6 h
      refine Gz.iconst (n := -1) (v := (-1 : Int32)) (pc' := 29) (by decide +kernel) rfl rfl ?_
      exact Gz.ireturn (by decide +kernel) rfl (zok_sI h)
    · have h := zok_f c6 h
      refine Gz.aload_n (q := 0) (pc' := 18) (by decide +kernel) rfl 0 rfl ?_
      refine Gz.getR (pc' := 21) (j := 8) 99 fd_X_70 sh_0 rfl (by decide +kernel) rfl ?_
      refine Gz.iload_n (q := 1) (pc' := 22) (by decide +kernel) rfl 1 rfl ?_
      refine Gz.callVI (st := []) (b := 99) (pc' := 25) [.int a1] (g_Le_toBlame a1 w5) h ok_m_Le_toBlame lk_X_255 sh_99 rfl rfl rfl (Nat.le_of_ble_eq_true rfl) (Nat.le_of_ble_eq_true rfl) (Nat.le_of_ble_eq_true rfl) (by decide +kernel) rfl (fun v7 w8 h => ?_)
      refine Gz.goto (off := 4) (tgt := 29) (by decide +kernel) (by decide) ?_
      exact Gz.ireturn (by decide +kernel) rfl (zok_sI h)
def f_Le_worthOf (a1 : Int32) (a2 : Int32) (a3 : Int32) (a4 : Int32) (w : gW) : Option (Int32 × gW) :=
zb (f_An_swornBy a1 w) (fun v1 w2 =>
zb (f_Co_possible w2) (fun v3 w4 =>
zb (f_Le_findLeast v3 v1 v1 w4) (fun _ w5 =>
if (w5.1 99 7) = (-1 : Int32) then
(some ((-1000000 : Int32), w5))
else
(zl (w5.1 99 6) (fun v7 =>
zb (f_Co_possible w5) (fun v9 w10 =>
zb (f_Ro_copy v9 101 w10) (fun _ w11 =>
zb (f_Co_narrow 101 a2 a3 a4 w11) (fun _ w12 =>
zb (f_Le_findLeast 101 v1 v1 w12) (fun _ w13 =>
if (w13.1 99 7) = (-1 : Int32) then
(some ((0 : Int32), w13))
else
(some (v7 - (w13.1 99 6), w13)))))))))))
theorem g_Le_worthOf {l : Launch} (a1 : Int32) (a2 : Int32) (a3 : Int32) (a4 : Int32) (w : gW) : gCt l m_Le_worthOf 21 [.ref 99, .int a1, .int a2, .int a3, .int a4] w eI (f_Le_worthOf a1 a2 a3 a4 w) := by
  intro Q h
  unfold f_Le_worthOf at h
  show Gz l m_Le_worthOf 21 0 [(0, .ref 99), (1, .int a1), (2, .int a2), (3, .int a3), (4, .int a4)] [] w Q
  refine Gz.aload_n (q := 0) (pc' := 1) (by decide +kernel) rfl 0 rfl ?_
  refine Gz.getR (pc' := 4) (j := 2) 59 fd_Le_26 sh_99 rfl (by decide +kernel) rfl ?_
  refine Gz.iload_n (q := 1) (pc' := 5) (by decide +kernel) rfl 1 rfl ?_
  refine Gz.callVI (st := []) (b := 59) (pc' := 8) [.int a1] (g_An_swornBy a1 w) h ok_m_An_swornBy lk_Le_90 sh_59 rfl rfl rfl (Nat.le_of_ble_eq_true rfl) (Nat.le_of_ble_eq_true rfl) (Nat.le_of_ble_eq_true rfl) (by decide +kernel) rfl (fun v1 w2 h => ?_)
  refine Gz.istore (i := 5) (pc' := 10) (L' := [(5, .int v1), (0, .ref 99), (1, .int a1), (2, .int a2), (3, .int a3), (4, .int a4)]) (by decide +kernel) rfl (Nat.le_of_ble_eq_true rfl) rfl ?_
  refine Gz.aload_n (q := 0) (pc' := 11) (by decide +kernel) rfl 1 rfl ?_
  refine Gz.aload_n (q := 0) (pc' := 12) (by decide +kernel) rfl 1 rfl ?_
  refine Gz.getR (pc' := 15) (j := 3) 73 fd_Le_30 sh_99 rfl (by decide +kernel) rfl ?_
  refine Gz.callVR (st := [.ref 99]) (b := 73) (pc' := 18) [] (g_Co_possible w2) h ok_m_Co_possible lk_Le_40 sh_73 rfl rfl rfl (Nat.le_of_ble_eq_true rfl) (Nat.le_of_ble_eq_true rfl) (Nat.le_of_ble_eq_true rfl) (by decide +kernel) rfl (fun v3 w4 h => ?_)
  refine Gz.iload (i := 5) (pc' := 20) (by decide +kernel) rfl 0 rfl ?_
  refine Gz.iload (i := 5) (pc' := 22) (by decide +kernel) rfl 0 rfl ?_
  refine Gz.callVV (st := []) (b := 99) (pc' := 25) [.ref v3, .int v1, .int v1] (g_Le_findLeast v3 v1 v1 w4) h ok_m_Le_findLeast lk_Le_71 sh_99 rfl rfl rfl (Nat.le_of_ble_eq_true rfl) (Nat.le_of_ble_eq_true rfl) (Nat.le_of_ble_eq_true rfl) (by decide +kernel) rfl (fun _ w5 h => ?_)
  refine Gz.aload_n (q := 0) (pc' := 26) (by decide +kernel) rfl 1 rfl ?_
  refine Gz.getI (pc' := 29) (j := 7) fd_Le_75 sh_99 rfl (by decide +kernel) rfl ?_
  refine Gz.iconst (n := -1) (v := (-1 : Int32)) (pc' := 30) (by decide +kernel) rfl rfl ?_
  refine Gz.icmp_ne (off := 6) (tgt := 36) (pc' := 33) (by decide +kernel) (by decide) rfl (fun c6 => ?_) (fun c6 => ?_)
  · have h := zok_f c6 h
    refine Gz.aload_n (q := 0) (pc' := 37) (by decide +kernel) rfl 1 rfl ?_
    refine Gz.getI (pc' := 40) (j := 6) fd_Le_83 sh_99 rfl (by decide +kernel) rfl ?_
    refine Gz.nmI (fun v7 e8 => ?_)
    have h := zok_l e8 h
    refine Gz.istore (i := 6) (pc' := 42) (L' := [(6, .int v7), (5, .int v1), (0, .ref 99), (1, .int a1), (2, .int a2), (3, .int a3), (4, .int a4)]) (by decide +kernel) rfl (Nat.le_of_ble_eq_true rfl) rfl ?_
    refine Gz.aload_n (q := 0) (pc' := 43) (by decide +kernel) rfl 2 rfl ?_
    refine Gz.getR (pc' := 46) (j := 3) 73 fd_Le_30 sh_99 rfl (by decide +kernel) rfl ?_
    refine Gz.callVR (st := []) (b := 73) (pc' := 49) [] (g_Co_possible w5) h ok_m_Co_possible lk_Le_40 sh_73 rfl rfl rfl (Nat.le_of_ble_eq_true rfl) (Nat.le_of_ble_eq_true rfl) (Nat.le_of_ble_eq_true rfl) (by decide +kernel) rfl (fun v9 w10 h => ?_)
    refine Gz.aload_n (q := 0) (pc' := 50) (by decide +kernel) rfl 2 rfl ?_
    refine Gz.getR (pc' := 53) (j := 5) 101 fd_Le_15 sh_99 rfl (by decide +kernel) rfl ?_
    refine Gz.callSV (st := []) (pc' := 56) [.ref v9, .ref 101] (g_Ro_copy v9 101 w10) h ok_m_Ro_copy lk_Le_46 rfl (Nat.le_of_ble_eq_true rfl) (Nat.le_of_ble_eq_true rfl) (Nat.le_of_ble_eq_true rfl) (by decide +kernel) rfl (fun _ w11 h => ?_)
    refine Gz.aload_n (q := 0) (pc' := 57) (by decide +kernel) rfl 2 rfl ?_
    refine Gz.getR (pc' := 60) (j := 3) 73 fd_Le_30 sh_99 rfl (by decide +kernel) rfl ?_
    refine Gz.aload_n (q := 0) (pc' := 61) (by decide +kernel) rfl 2 rfl ?_
    refine Gz.getR (pc' := 64) (j := 5) 101 fd_Le_15 sh_99 rfl (by decide +kernel) rfl ?_
    refine Gz.iload_n (q := 2) (pc' := 65) (by decide +kernel) rfl 4 rfl ?_
    refine Gz.iload_n (q := 3) (pc' := 66) (by decide +kernel) rfl 5 rfl ?_
    refine Gz.iload (i := 4) (pc' := 68) (by decide +kernel) rfl 6 rfl ?_
    refine Gz.callVV (st := []) (b := 73) (pc' := 71) [.ref 101, .int a2, .int a3, .int a4] (g_Co_narrow 101 a2 a3 a4 w11) h ok_m_Co_narrow lk_Le_94 sh_73 rfl rfl rfl (Nat.le_of_ble_eq_true rfl) (Nat.le_of_ble_eq_true rfl) (Nat.le_of_ble_eq_true rfl) (by decide +kernel) rfl (fun _ w12 h => ?_)
    refine Gz.aload_n (q := 0) (pc' := 72) (by decide +kernel) rfl 2 rfl ?_
    refine Gz.aload_n (q := 0) (pc' := 73) (by decide +kernel) rfl 2 rfl ?_
    refine Gz.getR (pc' := 76) (j := 5) 101 fd_Le_15 sh_99 rfl (by decide +kernel) rfl ?_
    refine Gz.iload (i := 5) (pc' := 78) (by decide +kernel) rfl 1 rfl ?_
    refine Gz.iload (i := 5) (pc' := 80) (by decide +kernel) rfl 1 rfl ?_
    refine Gz.callVV (st := []) (b := 99) (pc' := 83) [.ref 101, .int v1, .int v1] (g_Le_findLeast 101 v1 v1 w12) h ok_m_Le_findLeast lk_Le_71 sh_99 rfl rfl rfl (Nat.le_of_ble_eq_true rfl) (Nat.le_of_ble_eq_true rfl) (Nat.le_of_ble_eq_true rfl) (by decide +kernel) rfl (fun _ w13 h => ?_)
    refine Gz.aload_n (q := 0) (pc' := 84) (by decide +kernel) rfl 2 rfl ?_
    refine Gz.getI (pc' := 87) (j := 7) fd_Le_75 sh_99 rfl (by decide +kernel) rfl ?_
    refine Gz.iconst (n := -1) (v := (-1 : Int32)) (pc' := 88) (by decide +kernel) rfl rfl ?_
    refine Gz.icmp_ne (off := 7) (tgt := 95) (pc' := 91) (by decide +kernel) (by decide) rfl (fun c14 => ?_) (fun c14 => ?_)
    · have h := zok_f c14 h
      refine Gz.iload (i := 6) (pc' := 97) (by decide +kernel) rfl 0 rfl ?_
      refine Gz.aload_n (q := 0) (pc' := 98) (by decide +kernel) rfl 2 rfl ?_
      refine Gz.getI (pc' := 101) (j := 6) fd_Le_83 sh_99 rfl (by decide +kernel) rfl ?_
      refine Gz.isub (pc' := 102) (by decide +kernel) rfl ?_
      exact Gz.ireturn (by decide +kernel) rfl (zok_sI h)
    · have h := zok_t c14 h
      refine Gz.iconst (n := 0) (v := (0 : Int32)) (pc' := 92) (by decide +kernel) rfl rfl ?_
      refine Gz.goto (off := 10) (tgt := 102) (by decide +kernel) (by decide) ?_
      exact Gz.ireturn (by decide +kernel) rfl (zok_sI h)
  · have h := zok_t c6 h
    refine Gz.ldc (idx := 93) (v := (-1000000 : Int32)) (pc' := 35) (by decide +kernel) rfl kc_Le_93 ?_
    exact Gz.ireturn (by decide +kernel) rfl (zok_sI h)
def f_X_worth_b24 (x1 : Int32) (x2 : Int32) (x3 : Int32) (x4 : Int32) (s0 : Int32) (w : gW) : Option (Int32 × gW) :=
if s0 = 0 then
(some ((-1000000 : Int32), w))
else
(zb (f_Le_worthOf x1 x2 x3 x4 w) (fun v2 w3 =>
some (v2, w3)))
def f_X_worth_b23 (x1 : Int32) (x2 : Int32) (x3 : Int32) (x4 : Int32) (w : gW) : Option (Int32 × gW) :=
f_X_worth_b24 x1 x2 x3 x4 (0 : Int32) w
def f_X_worth (a1 : Int32) (a2 : Int32) (a3 : Int32) (a4 : Int32) (w : gW) : Option (Int32 × gW) :=
zb (f_X_isPerson a1 w) (fun v1 w2 =>
if v1 = 0 then
(f_X_worth_b23 a1 a2 a3 a4 w2)
else
(zb (f_La_hasDate a2 a3 w2) (fun v4 w5 =>
if v4 = 0 then
(f_X_worth_b23 a1 a2 a3 a4 w5)
else
(f_X_worth_b24 a1 a2 a3 a4 (1 : Int32) w5))))
theorem g_X_worth_b24 {l : Launch} {Q : Option Value → gW → Prop} (x1 : Int32) (x2 : Int32) (x3 : Int32) (x4 : Int32) (s0 : Int32) (w : gW) (h : zok eI (f_X_worth_b24 x1 x2 x3 x4 s0 w) Q) : Gz l m_X_worth 22 24 [(0, .ref 0), (1, .int x1), (2, .int x2), (3, .int x3), (4, .int x4)] [.int s0] w Q := by
  unfold f_X_worth_b24 at h
  refine Gz.istore (i := 5) (pc' := 26) (L' := [(5, .int s0), (0, .ref 0), (1, .int x1), (2, .int x2), (3, .int x3), (4, .int x4)]) (by decide +kernel) rfl (Nat.le_of_ble_eq_true rfl) rfl ?_
  refine Gz.iload (i := 5) (pc' := 28) (by decide +kernel) rfl 0 rfl ?_
  refine Gz.if_eq (off := 18) (tgt := 46) (pc' := 31) (by decide +kernel) (by decide) rfl (fun c1 => ?_) (fun c1 => ?_)
  · have h := zok_t c1 h
    refine Gz.ldcw (idx := 262) (v := (-1000000 : Int32)) (pc' := 49) (by decide +kernel) rfl kc_X_262 ?_
    exact Gz.ireturn (by decide +kernel) rfl (zok_sI h)
  · have h := zok_f c1 h
    refine Gz.aload_n (q := 0) (pc' := 32) (by decide +kernel) rfl 1 rfl ?_
    refine Gz.getR (pc' := 35) (j := 8) 99 fd_X_70 sh_0 rfl (by decide +kernel) rfl ?_
    refine Gz.iload_n (q := 1) (pc' := 36) (by decide +kernel) rfl 2 rfl ?_
    refine Gz.iload_n (q := 2) (pc' := 37) (by decide +kernel) rfl 3 rfl ?_
    refine Gz.iload_n (q := 3) (pc' := 38) (by decide +kernel) rfl 4 rfl ?_
    refine Gz.iload (i := 4) (pc' := 40) (by decide +kernel) rfl 5 rfl ?_
    refine Gz.callVI (st := []) (b := 99) (pc' := 43) [.int x1, .int x2, .int x3, .int x4] (g_Le_worthOf x1 x2 x3 x4 w) h ok_m_Le_worthOf lk_X_258 sh_99 rfl rfl rfl (Nat.le_of_ble_eq_true rfl) (Nat.le_of_ble_eq_true rfl) (Nat.le_of_ble_eq_true rfl) (by decide +kernel) rfl (fun v2 w3 h => ?_)
    refine Gz.goto (off := 6) (tgt := 49) (by decide +kernel) (by decide) ?_
    exact Gz.ireturn (by decide +kernel) rfl (zok_sI h)
theorem g_X_worth_b23 {l : Launch} {Q : Option Value → gW → Prop} (x1 : Int32) (x2 : Int32) (x3 : Int32) (x4 : Int32) (w : gW) (h : zok eI (f_X_worth_b23 x1 x2 x3 x4 w) Q) : Gz l m_X_worth 22 23 [(0, .ref 0), (1, .int x1), (2, .int x2), (3, .int x3), (4, .int x4)] [] w Q := by
  unfold f_X_worth_b23 at h
  refine Gz.iconst (n := 0) (v := (0 : Int32)) (pc' := 24) (by decide +kernel) rfl rfl ?_
  exact g_X_worth_b24 x1 x2 x3 x4 (0 : Int32) w h
theorem g_X_worth {l : Launch} (a1 : Int32) (a2 : Int32) (a3 : Int32) (a4 : Int32) (w : gW) : gCt l m_X_worth 22 [.ref 0, .int a1, .int a2, .int a3, .int a4] w eI (f_X_worth a1 a2 a3 a4 w) := by
  intro Q h
  unfold f_X_worth at h
  show Gz l m_X_worth 22 0 [(0, .ref 0), (1, .int a1), (2, .int a2), (3, .int a3), (4, .int a4)] [] w Q
  refine Gz.iload_n (q := 1) (pc' := 1) (by decide +kernel) rfl 1 rfl ?_
  refine Gz.callSI (st := []) (pc' := 4) [.int a1] (g_X_isPerson a1 w) h ok_m_X_isPerson lk_X_143 rfl (Nat.le_of_ble_eq_true rfl) (Nat.le_of_ble_eq_true rfl) (Nat.le_of_ble_eq_true rfl) (by decide +kernel) rfl (fun v1 w2 h => ?_)
  refine Gz.if_eq (off := 19) (tgt := 23) (pc' := 7) (by decide +kernel) (by decide) rfl (fun c3 => ?_) (fun c3 => ?_)
  · have h := zok_t c3 h
    exact g_X_worth_b23 a1 a2 a3 a4 w2 h
  · have h := zok_f c3 h
    refine Gz.aload_n (q := 0) (pc' := 8) (by decide +kernel) rfl 0 rfl ?_
    refine Gz.getR (pc' := 11) (j := 3) 19 fd_X_33 sh_0 rfl (by decide +kernel) rfl ?_
    refine Gz.iload_n (q := 2) (pc' := 12) (by decide +kernel) rfl 2 rfl ?_
    refine Gz.iload_n (q := 3) (pc' := 13) (by decide +kernel) rfl 3 rfl ?_
    refine Gz.callVI (st := []) (b := 19) (pc' := 16) [.int a2, .int a3] (g_La_hasDate a2 a3 w2) h ok_m_La_hasDate lk_X_160 sh_19 rfl rfl rfl (Nat.le_of_ble_eq_true rfl) (Nat.le_of_ble_eq_true rfl) (Nat.le_of_ble_eq_true rfl) (by decide +kernel) rfl (fun v4 w5 h => ?_)
    refine Gz.if_eq (off := 7) (tgt := 23) (pc' := 19) (by decide +kernel) (by decide) rfl (fun c6 => ?_) (fun c6 => ?_)
    · have h := zok_t c6 h
      exact g_X_worth_b23 a1 a2 a3 a4 w5 h
    · have h := zok_f c6 h
      refine Gz.iconst (n := 1) (v := (1 : Int32)) (pc' := 20) (by decide +kernel) rfl rfl ?_
      refine Gz.goto (off := 4) (tgt := 24) (by decide +kernel) (by decide) ?_
      exact g_X_worth_b24 a1 a2 a3 a4 (1 : Int32) w5 h
def f_An_setWeight (a1 : Int32) (a2 : Int32) (a3 : Int32) (w : gW) : Option (Unit × gW) :=
zl ((a1 * (10 : Int32)) + a2) (fun v1 =>
if v1 < 0 then
(some ((), w))
else
(if (nI 50) ≤ v1 then
(some ((), w))
else
(if inb v1 50 then
zl (zsI w 65 (ix v1) a3) (fun w6 =>
some ((), w6))
else none)))
theorem g_An_setWeight {l : Launch} (a1 : Int32) (a2 : Int32) (a3 : Int32) (w : gW) : gCt l m_An_setWeight 1 [.ref 59, .int a1, .int a2, .int a3] w eV (f_An_setWeight a1 a2 a3 w) := by
  intro Q h
  unfold f_An_setWeight at h
  show Gz l m_An_setWeight 1 0 [(0, .ref 59), (1, .int a1), (2, .int a2), (3, .int a3)] [] w Q
  refine Gz.iload_n (q := 1) (pc' := 1) (by decide +kernel) rfl 1 rfl ?_
  refine Gz.bipush (n := 10) (v := (10 : Int32)) (pc' := 3) (by decide +kernel) rfl rfl ?_
  refine Gz.imul (pc' := 4) (by decide +kernel) rfl ?_
  refine Gz.iload_n (q := 2) (pc' := 5) (by decide +kernel) rfl 2 rfl ?_
  refine Gz.iadd (pc' := 6) (by decide +kernel) rfl ?_
  refine Gz.nmI (fun v1 e2 => ?_)
  have h := zok_l e2 h
  refine Gz.istore (i := 4) (pc' := 8) (L' := [(4, .int v1), (0, .ref 59), (1, .int a1), (2, .int a2), (3, .int a3)]) (by decide +kernel) rfl (Nat.le_of_ble_eq_true rfl) rfl ?_
  refine Gz.iload (i := 4) (pc' := 10) (by decide +kernel) rfl 0 rfl ?_
  refine Gz.if_lt (off := 21) (tgt := 31) (pc' := 13) (by decide +kernel) (by decide) rfl (fun c3 => ?_) (fun c3 => ?_)
  · have h := zok_t c3 h
    exact Gz.return_ (by decide +kernel) rfl (zok_sV h)
  · have h := zok_f c3 h
    refine Gz.iload (i := 4) (pc' := 15) (by decide +kernel) rfl 0 rfl ?_
    refine Gz.aload_n (q := 0) (pc' := 16) (by decide +kernel) rfl 1 rfl ?_
    refine Gz.getR (pc' := 19) (j := 5) 65 fd_An_28 sh_59 rfl (by decide +kernel) rfl ?_
    refine Gz.alen (pc' := 20) (n := 50) (kd := 1) (by decide +kernel) rfl (Or.inl rfl) rfl rfl ?_
    refine Gz.icmp_ge (off := 11) (tgt := 31) (pc' := 23) (by decide +kernel) (by decide) rfl (fun c4 => ?_) (fun c4 => ?_)
    · have h := zok_t c4 h
      exact Gz.return_ (by decide +kernel) rfl (zok_sV h)
    · have h := zok_f c4 h
      refine Gz.aload_n (q := 0) (pc' := 24) (by decide +kernel) rfl 1 rfl ?_
      refine Gz.getR (pc' := 27) (j := 5) 65 fd_An_28 sh_59 rfl (by decide +kernel) rfl ?_
      refine Gz.iload (i := 4) (pc' := 29) (by decide +kernel) rfl 0 rfl ?_
      refine Gz.iload_n (q := 3) (pc' := 30) (by decide +kernel) rfl 4 rfl ?_
      obtain ⟨c5, h⟩ := zok_c h
      refine Gz.iast (pc' := 31) (n := 50) (by decide +kernel) rfl rfl c5 ?_
      refine Gz.nmW (fun w6 e7 => ?_)
      have h := zok_l e7 h
      exact Gz.return_ (by decide +kernel) rfl (zok_sV h)
def f_X_weigh (a1 : Int32) (a2 : Int32) (a3 : Int32) (w : gW) : Option (Int32 × gW) :=
zb (f_La_hasDate a1 a2 w) (fun v1 w2 =>
if v1 = 0 then
(some ((0 : Int32), w2))
else
(if a3 < 0 then
(some ((0 : Int32), w2))
else
(if a3 ≤ (9 : Int32) then
(zb (f_An_setWeight a1 a2 a3 w2) (fun _ w6 =>
some ((1 : Int32), w6)))
else
(some ((0 : Int32), w2)))))
theorem g_X_weigh {l : Launch} (a1 : Int32) (a2 : Int32) (a3 : Int32) (w : gW) : gCt l m_X_weigh 3 [.ref 0, .int a1, .int a2, .int a3] w eI (f_X_weigh a1 a2 a3 w) := by
  intro Q h
  unfold f_X_weigh at h
  show Gz l m_X_weigh 3 0 [(0, .ref 0), (1, .int a1), (2, .int a2), (3, .int a3)] [] w Q
  refine Gz.aload_n (q := 0) (pc' := 1) (by decide +kernel) rfl 0 rfl ?_
  refine Gz.getR (pc' := 4) (j := 3) 19 fd_X_33 sh_0 rfl (by decide +kernel) rfl ?_
  refine Gz.iload_n (q := 1) (pc' := 5) (by decide +kernel) rfl 1 rfl ?_
  refine Gz.iload_n (q := 2) (pc' := 6) (by decide +kernel) rfl 2 rfl ?_
  refine Gz.callVI (st := []) (b := 19) (pc' := 9) [.int a1, .int a2] (g_La_hasDate a1 a2 w) h ok_m_La_hasDate lk_X_160 sh_19 rfl rfl rfl (Nat.le_of_ble_eq_true rfl) (Nat.le_of_ble_eq_true rfl) (Nat.le_of_ble_eq_true rfl) (by decide +kernel) rfl (fun v1 w2 h => ?_)
  refine Gz.if_eq (off := 13) (tgt := 22) (pc' := 12) (by decide +kernel) (by decide) rfl (fun c3 => ?_) (fun c3 => ?_)
  · have h := zok_t c3 h
    refine Gz.iconst (n := 0) (v := (0 : Int32)) (pc' := 23) (by decide +kernel) rfl rfl ?_
    exact Gz.zreturn (by decide +kernel) rfl (by decide) (zok_sI h)
  · have h := zok_f c3 h
    refine Gz.iload_n (q := 3) (pc' := 13) (by decide +kernel) rfl 3 rfl ?_
    refine Gz.if_lt (off := 9) (tgt := 22) (pc' := 16) (by decide +kernel) (by decide) rfl (fun c4 => ?_) (fun c4 => ?_)
    · have h := zok_t c4 h
      refine Gz.iconst (n := 0) (v := (0 : Int32)) (pc' := 23) (by decide +kernel) rfl rfl ?_
      exact Gz.zreturn (by decide +kernel) rfl (by decide) (zok_sI h)
    · have h := zok_f c4 h
      refine Gz.iload_n (q := 3) (pc' := 17) (by decide +kernel) rfl 3 rfl ?_
      refine Gz.bipush (n := 9) (v := (9 : Int32)) (pc' := 19) (by decide +kernel) rfl rfl ?_
      refine Gz.icmp_le (off := 5) (tgt := 24) (pc' := 22) (by decide +kernel) (by decide) rfl (fun c5 => ?_) (fun c5 => ?_)
      · have h := zok_t c5 h
        refine Gz.aload_n (q := 0) (pc' := 25) (by decide +kernel) rfl 0 rfl ?_
        refine Gz.getR (pc' := 28) (j := 4) 59 fd_X_40 sh_0 rfl (by decide +kernel) rfl ?_
        refine Gz.iload_n (q := 1) (pc' := 29) (by decide +kernel) rfl 1 rfl ?_
        refine Gz.iload_n (q := 2) (pc' := 30) (by decide +kernel) rfl 2 rfl ?_
        refine Gz.iload_n (q := 3) (pc' := 31) (by decide +kernel) rfl 3 rfl ?_
        refine Gz.callVV (st := []) (b := 59) (pc' := 34) [.int a1, .int a2, .int a3] (g_An_setWeight a1 a2 a3 w2) h ok_m_An_setWeight lk_X_263 sh_59 rfl rfl rfl (Nat.le_of_ble_eq_true rfl) (Nat.le_of_ble_eq_true rfl) (Nat.le_of_ble_eq_true rfl) (by decide +kernel) rfl (fun _ w6 h => ?_)
        refine Gz.iconst (n := 1) (v := (1 : Int32)) (pc' := 35) (by decide +kernel) rfl rfl ?_
        exact Gz.zreturn (by decide +kernel) rfl (by decide) (zok_sI h)
      · have h := zok_f c5 h
        refine Gz.iconst (n := 0) (v := (0 : Int32)) (pc' := 23) (by decide +kernel) rfl rfl ?_
        exact Gz.zreturn (by decide +kernel) rfl (by decide) (zok_sI h)
def f_Ro_has (a0 : Nat) (a1 : Int32) (w : gW) : Option (Int32 × gW) :=
zb (f_Ro_word a0 (a1 >>> ((6 : Int32) &&& 31)) w) (fun v1 w2 =>
if (lg_cmp ((zusL v1 (a1 &&& (63 : Int32))) &&& (1 : Int64)) (0 : Int64)) = 0 then
(some ((0 : Int32), w2))
else
(some ((1 : Int32), w2)))
theorem g_Ro_has {l : Launch} (a0 : Nat) (a1 : Int32) (w : gW) : gCt l m_Ro_has 2 [.ref a0, .int a1] w eI (f_Ro_has a0 a1 w) := by
  intro Q h
  unfold f_Ro_has at h
  show Gz l m_Ro_has 2 0 [(0, .ref a0), (1, .int a1)] [] w Q
  refine Gz.aload_n (q := 0) (pc' := 1) (by decide +kernel) rfl 0 rfl ?_
  refine Gz.iload_n (q := 1) (pc' := 2) (by decide +kernel) rfl 1 rfl ?_
  refine Gz.bipush (n := 6) (v := (6 : Int32)) (pc' := 4) (by decide +kernel) rfl rfl ?_
  refine Gz.ishr (pc' := 5) (by decide +kernel) rfl ?_
  refine Gz.callSJ (st := []) (pc' := 8) [.ref a0, .int (a1 >>> ((6 : Int32) &&& 31))] (g_Ro_word a0 (a1 >>> ((6 : Int32) &&& 31)) w) h ok_m_Ro_word lk_Ro_23 rfl (Nat.le_of_ble_eq_true rfl) (Nat.le_of_ble_eq_true rfl) (Nat.le_of_ble_eq_true rfl) (by decide +kernel) rfl (fun v1 w2 h => ?_)
  refine Gz.iload_n (q := 1) (pc' := 9) (by decide +kernel) rfl 1 rfl ?_
  refine Gz.bipush (n := 63) (v := (63 : Int32)) (pc' := 11) (by decide +kernel) rfl rfl ?_
  refine Gz.iand (pc' := 12) (by decide +kernel) rfl ?_
  refine Gz.lushr (pc' := 13) (by decide +kernel) rfl ?_
  refine Gz.lconst (n := 1) (v := (1 : Int64)) (pc' := 14) (by decide +kernel) rfl rfl ?_
  refine Gz.land (pc' := 15) (by decide +kernel) rfl ?_
  refine Gz.lconst (n := 0) (v := (0 : Int64)) (pc' := 16) (by decide +kernel) rfl rfl ?_
  refine Gz.lcmp (pc' := 17) (by decide +kernel) rfl ?_
  refine Gz.if_eq (off := 7) (tgt := 24) (pc' := 20) (by decide +kernel) (by decide) rfl (fun c3 => ?_) (fun c3 => ?_)
  · have h := zok_t c3 h
    refine Gz.iconst (n := 0) (v := (0 : Int32)) (pc' := 25) (by decide +kernel) rfl rfl ?_
    exact Gz.zreturn (by decide +kernel) rfl (by decide) (zok_sI h)
  · have h := zok_f c3 h
    refine Gz.iconst (n := 1) (v := (1 : Int32)) (pc' := 21) (by decide +kernel) rfl rfl ?_
    refine Gz.goto (off := 4) (tgt := 25) (by decide +kernel) (by decide) ?_
    exact Gz.zreturn (by decide +kernel) rfl (by decide) (zok_sI h)
def f_An_weight (a1 : Int32) (a2 : Int32) (w : gW) : Option (Int32 × gW) :=
zl ((a1 * (10 : Int32)) + a2) (fun v1 =>
if v1 < 0 then
(some ((0 : Int32), w))
else
(if (nI 50) ≤ v1 then
(some ((0 : Int32), w))
else
(if inb v1 50 then
some (w.1 65 (ix v1), w)
else none)))
theorem g_An_weight {l : Launch} (a1 : Int32) (a2 : Int32) (w : gW) : gCt l m_An_weight 1 [.ref 59, .int a1, .int a2] w eI (f_An_weight a1 a2 w) := by
  intro Q h
  unfold f_An_weight at h
  show Gz l m_An_weight 1 0 [(0, .ref 59), (1, .int a1), (2, .int a2)] [] w Q
  refine Gz.iload_n (q := 1) (pc' := 1) (by decide +kernel) rfl 1 rfl ?_
  refine Gz.bipush (n := 10) (v := (10 : Int32)) (pc' := 3) (by decide +kernel) rfl rfl ?_
  refine Gz.imul (pc' := 4) (by decide +kernel) rfl ?_
  refine Gz.iload_n (q := 2) (pc' := 5) (by decide +kernel) rfl 2 rfl ?_
  refine Gz.iadd (pc' := 6) (by decide +kernel) rfl ?_
  refine Gz.nmI (fun v1 e2 => ?_)
  have h := zok_l e2 h
  refine Gz.istore_n (q := 3) (pc' := 7) (L' := [(3, .int v1), (0, .ref 59), (1, .int a1), (2, .int a2)]) (by decide +kernel) rfl (Nat.le_of_ble_eq_true rfl) rfl ?_
  refine Gz.iload_n (q := 3) (pc' := 8) (by decide +kernel) rfl 0 rfl ?_
  refine Gz.if_lt (off := 21) (tgt := 29) (pc' := 11) (by decide +kernel) (by decide) rfl (fun c3 => ?_) (fun c3 => ?_)
  · have h := zok_t c3 h
    refine Gz.iconst (n := 0) (v := (0 : Int32)) (pc' := 30) (by decide +kernel) rfl rfl ?_
    exact Gz.ireturn (by decide +kernel) rfl (zok_sI h)
  · have h := zok_f c3 h
    refine Gz.iload_n (q := 3) (pc' := 12) (by decide +kernel) rfl 0 rfl ?_
    refine Gz.aload_n (q := 0) (pc' := 13) (by decide +kernel) rfl 1 rfl ?_
    refine Gz.getR (pc' := 16) (j := 5) 65 fd_An_28 sh_59 rfl (by decide +kernel) rfl ?_
    refine Gz.alen (pc' := 17) (n := 50) (kd := 1) (by decide +kernel) rfl (Or.inl rfl) rfl rfl ?_
    refine Gz.icmp_ge (off := 12) (tgt := 29) (pc' := 20) (by decide +kernel) (by decide) rfl (fun c4 => ?_) (fun c4 => ?_)
    · have h := zok_t c4 h
      refine Gz.iconst (n := 0) (v := (0 : Int32)) (pc' := 30) (by decide +kernel) rfl rfl ?_
      exact Gz.ireturn (by decide +kernel) rfl (zok_sI h)
    · have h := zok_f c4 h
      refine Gz.aload_n (q := 0) (pc' := 21) (by decide +kernel) rfl 1 rfl ?_
      refine Gz.getR (pc' := 24) (j := 5) 65 fd_An_28 sh_59 rfl (by decide +kernel) rfl ?_
      refine Gz.iload_n (q := 3) (pc' := 25) (by decide +kernel) rfl 0 rfl ?_
      obtain ⟨c5, h⟩ := zok_c h
      refine Gz.iald (pc' := 26) (n := 50) (by decide +kernel) rfl rfl c5 ?_
      refine Gz.goto (off := 4) (tgt := 30) (by decide +kernel) (by decide) ?_
      exact Gz.ireturn (by decide +kernel) rfl (zok_sI h)
def f_Ch_weightOf (a1 : Int32) (a2 : Int32) (w : gW) : Option (Int32 × gW) :=
zb (f_La_dayOf a1 a2 w) (fun v1 w2 =>
zb (f_An_weight a1 v1 w2) (fun v3 w4 =>
some (v3, w4)))
theorem g_Ch_weightOf {l : Launch} (a1 : Int32) (a2 : Int32) (w : gW) : gCt l m_Ch_weightOf 3 [.ref 102, .int a1, .int a2] w eI (f_Ch_weightOf a1 a2 w) := by
  intro Q h
  unfold f_Ch_weightOf at h
  show Gz l m_Ch_weightOf 3 0 [(0, .ref 102), (1, .int a1), (2, .int a2)] [] w Q
  refine Gz.aload_n (q := 0) (pc' := 1) (by decide +kernel) rfl 0 rfl ?_
  refine Gz.getR (pc' := 4) (j := 1) 59 fd_Ch_22 sh_102 rfl (by decide +kernel) rfl ?_
  refine Gz.iload_n (q := 1) (pc' := 5) (by decide +kernel) rfl 1 rfl ?_
  refine Gz.aload_n (q := 0) (pc' := 6) (by decide +kernel) rfl 0 rfl ?_
  refine Gz.getR (pc' := 9) (j := 0) 19 fd_Ch_18 sh_102 rfl (by decide +kernel) rfl ?_
  refine Gz.iload_n (q := 1) (pc' := 10) (by decide +kernel) rfl 1 rfl ?_
  refine Gz.iload_n (q := 2) (pc' := 11) (by decide +kernel) rfl 2 rfl ?_
  refine Gz.callVI (st := [.int a1, .ref 59]) (b := 19) (pc' := 14) [.int a1, .int a2] (g_La_dayOf a1 a2 w) h ok_m_La_dayOf lk_Ch_163 sh_19 rfl rfl rfl (Nat.le_of_ble_eq_true rfl) (Nat.le_of_ble_eq_true rfl) (Nat.le_of_ble_eq_true rfl) (by decide +kernel) rfl (fun v1 w2 h => ?_)
  refine Gz.callVI (st := []) (b := 59) (pc' := 17) [.int a1, .int v1] (g_An_weight a1 v1 w2) h ok_m_An_weight lk_Ch_166 sh_59 rfl rfl rfl (Nat.le_of_ble_eq_true rfl) (Nat.le_of_ble_eq_true rfl) (Nat.le_of_ble_eq_true rfl) (by decide +kernel) rfl (fun v3 w4 h => ?_)
  exact Gz.ireturn (by decide +kernel) rfl (zok_sI h)
def f_Ch_sum_b99 (rK : Nat → Int32 → Int32 → Int64 → gW → Option (Int64 × gW)) (x6 : Int64) (w : gW) : Option (Int64 × gW) :=
some (x6, w)
def f_Ch_sum_b32_s (rK : Nat → Int32 → Int32 → Int64 → gW → Option (Int64 × gW)) (k32 : Nat → Int32 → Int32 → Int64 → Int64 → Int32 → gW → Option (Int64 × gW)) (x1 : Nat) (x2 : Int32) (x3 : Int32) (x4 : Int64) (x6 : Int64) (x8 : Int32) (w : gW) : Option (Int64 × gW) :=
if (lg_cmp x4 (0 : Int64)) = 0 then
(f_Ch_sum_b99 rK x6 w)
else
(zb (f_La_options x2 w) (fun v2 w3 =>
if v2 ≤ x8 then
(f_Ch_sum_b99 rK x6 w3)
else
(zb (f_La_stride x2 w3) (fun v5 w6 =>
zl (x3 + (x8 * v5)) (fun v7 =>
zb (f_Ch_weightOf x2 x8 w6) (fun v9 w10 =>
zb (rK x1 (x2 + (1 : Int32)) v7 (x4 * (v9.toInt64)) w10) (fun v11 w12 =>
zl (x6 + v11) (fun v13 =>
zl (x8 + (1 : Int32)) (fun v15 =>
k32 x1 x2 x3 x4 v13 v15 w12)))))))))
def f_Ch_sum_b32 (rK : Nat → Int32 → Int32 → Int64 → gW → Option (Int64 × gW)) : Nat → Int32 → Int32 → Int64 → Int64 → Int32 → gW → Option (Int64 × gW) := zfx (fun _ _ _ _ _ _ _ => none) (f_Ch_sum_b32_s rK) zFU
def f_Ch_sum_rec (rK : Nat → Int32 → Int32 → Int64 → gW → Option (Int64 × gW)) (a1 : Nat) (a2 : Int32) (a3 : Int32) (a4 : Int64) (w : gW) : Option (Int64 × gW) :=
zb (f_La_hasDeed a2 w) (fun v1 w2 =>
if v1 = 0 then
(zb (f_Ro_has a1 a3 w2) (fun v4 w5 =>
if v4 = 0 then
(some ((0 : Int64), w5))
else
(some (a4, w5))))
else
(f_Ch_sum_b32 rK a1 a2 a3 a4 (0 : Int64) (0 : Int32) w2))
def f_Ch_sum (a1 : Nat) (a2 : Int32) (a3 : Int32) (a4 : Int64) (w : gW) : Option (Int64 × gW) := zfx (fun _ _ _ _ _ => none) f_Ch_sum_rec 16 a1 a2 a3 a4 w
theorem g_Ch_sum_b99 {l : Launch} {Q : Option Value → gW → Prop} (rK : Nat → Int32 → Int32 → Int64 → gW → Option (Int64 × gW)) {dK : Nat} (hd0 : 3 ≤ dK) (hK : ∀ (a1 : Nat) (a2 : Int32) (a3 : Int32) (a4 : Int64) (w : gW), gCt l m_Ch_sum dK [.ref 102, .ref a1, .int a2, .int a3, .long a4] w eJ (rK a1 a2 a3 a4 w)) (x6 : Int64) (w : gW) (h : zok eJ (f_Ch_sum_b99 rK x6 w) Q) : Gz l m_Ch_sum (dK + 1) 99 [(6, .long x6)] [] w Q := by
  unfold f_Ch_sum_b99 at h
  refine Gz.lload (i := 6) (pc' := 101) (by decide +kernel) rfl 0 rfl ?_
  exact Gz.lreturn (by decide +kernel) rfl (zok_sJ h)
theorem g_Ch_sum_b32_s {l : Launch} {Q : Option Value → gW → Prop} (rK : Nat → Int32 → Int32 → Int64 → gW → Option (Int64 × gW)) {dK : Nat} (hd0 : 3 ≤ dK) (hK : ∀ (a1 : Nat) (a2 : Int32) (a3 : Int32) (a4 : Int64) (w : gW), gCt l m_Ch_sum dK [.ref 102, .ref a1, .int a2, .int a3, .long a4] w eJ (rK a1 a2 a3 a4 w)) (k32 : Nat → Int32 → Int32 → Int64 → Int64 → Int32 → gW → Option (Int64 × gW)) (hk32 : ∀ (x1 : Nat) (x2 : Int32) (x3 : Int32) (x4 : Int64) (x6 : Int64) (x8 : Int32) (w : gW), zok eJ (k32 x1 x2 x3 x4 x6 x8 w) Q → Gz l m_Ch_sum (dK + 1) 32 [(0, .ref 102), (1, .ref x1), (2, .int x2), (3, .int x3), (4, .long x4), (6, .long x6), (8, .int x8)] [] w Q) (x1 : Nat) (x2 : Int32) (x3 : Int32) (x4 : Int64) (x6 : Int64) (x8 : Int32) (w : gW) (h : zok eJ (f_Ch_sum_b32_s rK k32 x1 x2 x3 x4 x6 x8 w) Q) : Gz l m_Ch_sum (dK + 1) 32 [(0, .ref 102), (1, .ref x1), (2, .int x2), (3, .int x3), (4, .long x4), (6, .long x6), (8, .int x8)] [] w Q := by
  unfold f_Ch_sum_b32_s at h
  refine Gz.lload (i := 4) (pc' := 34) (by decide +kernel) rfl 4 rfl ?_
  refine Gz.lconst (n := 0) (v := (0 : Int64)) (pc' := 35) (by decide +kernel) rfl rfl ?_
  refine Gz.lcmp (pc' := 36) (by decide +kernel) rfl ?_
  refine Gz.if_eq (off := 63) (tgt := 99) (pc' := 39) (by decide +kernel) (by decide) rfl (fun c1 => ?_) (fun c1 => ?_)
  · have h := zok_t c1 h
    refine Gz.sub (L' := [(6, .long x6)]) [5] rfl ?_
    exact g_Ch_sum_b99 rK hd0 hK x6 w h
  · have h := zok_f c1 h
    refine Gz.iload (i := 8) (pc' := 41) (by decide +kernel) rfl 6 rfl ?_
    refine Gz.aload_n (q := 0) (pc' := 42) (by decide +kernel) rfl 0 rfl ?_
    refine Gz.getR (pc' := 45) (j := 0) 19 fd_Ch_18 sh_102 rfl (by decide +kernel) rfl ?_
    refine Gz.iload_n (q := 2) (pc' := 46) (by decide +kernel) rfl 2 rfl ?_
    refine Gz.callVI (st := [.int x8]) (b := 19) (pc' := 49) [.int x2] (g_La_options x2 w) h ok_m_La_options lk_Ch_178 sh_19 rfl rfl rfl (Nat.le_of_ble_eq_true rfl) (by omega) (Nat.le_of_ble_eq_true rfl) (by decide +kernel) rfl (fun v2 w3 h => ?_)
    refine Gz.icmp_ge (off := 50) (tgt := 99) (pc' := 52) (by decide +kernel) (by decide) rfl (fun c4 => ?_) (fun c4 => ?_)
    · have h := zok_t c4 h
      refine Gz.sub (L' := [(6, .long x6)]) [5] rfl ?_
      exact g_Ch_sum_b99 rK hd0 hK x6 w3 h
    · have h := zok_f c4 h
      refine Gz.iload_n (q := 3) (pc' := 53) (by decide +kernel) rfl 3 rfl ?_
      refine Gz.iload (i := 8) (pc' := 55) (by decide +kernel) rfl 6 rfl ?_
      refine Gz.aload_n (q := 0) (pc' := 56) (by decide +kernel) rfl 0 rfl ?_
      refine Gz.getR (pc' := 59) (j := 0) 19 fd_Ch_18 sh_102 rfl (by decide +kernel) rfl ?_
      refine Gz.iload_n (q := 2) (pc' := 60) (by decide +kernel) rfl 2 rfl ?_
      refine Gz.callVI (st := [.int x8, .int x3]) (b := 19) (pc' := 63) [.int x2] (g_La_stride x2 w3) h ok_m_La_stride lk_Ch_181 sh_19 rfl rfl rfl (Nat.le_of_ble_eq_true rfl) (by omega) (Nat.le_of_ble_eq_true rfl) (by decide +kernel) rfl (fun v5 w6 h => ?_)
      refine Gz.imul (pc' := 64) (by decide +kernel) rfl ?_
      refine Gz.iadd (pc' := 65) (by decide +kernel) rfl ?_
      refine Gz.nmI (fun v7 e8 => ?_)
      have h := zok_l e8 h
      refine Gz.istore (i := 9) (pc' := 67) (L' := [(9, .int v7), (0, .ref 102), (1, .ref x1), (2, .int x2), (3, .int x3), (4, .long x4), (6, .long x6), (8, .int x8)]) (by decide +kernel) rfl (Nat.le_of_ble_eq_true rfl) rfl ?_
      refine Gz.lload (i := 6) (pc' := 69) (by decide +kernel) rfl 6 rfl ?_
      refine Gz.aload_n (q := 0) (pc' := 70) (by decide +kernel) rfl 1 rfl ?_
      refine Gz.aload_n (q := 1) (pc' := 71) (by decide +kernel) rfl 2 rfl ?_
      refine Gz.iload_n (q := 2) (pc' := 72) (by decide +kernel) rfl 3 rfl ?_
      refine Gz.iconst (n := 1) (v := (1 : Int32)) (pc' := 73) (by decide +kernel) rfl rfl ?_
      refine Gz.iadd (pc' := 74) (by decide +kernel) rfl ?_
      refine Gz.iload (i := 9) (pc' := 76) (by decide +kernel) rfl 0 rfl ?_
      refine Gz.lload (i := 4) (pc' := 78) (by decide +kernel) rfl 5 rfl ?_
      refine Gz.aload_n (q := 0) (pc' := 79) (by decide +kernel) rfl 1 rfl ?_
      refine Gz.iload_n (q := 2) (pc' := 80) (by decide +kernel) rfl 3 rfl ?_
      refine Gz.iload (i := 8) (pc' := 82) (by decide +kernel) rfl 7 rfl ?_
      refine Gz.callVI (st := [.long x4, .int v7, .int (x2 + (1 : Int32)), .ref x1, .ref 102, .long x6]) (b := 102) (pc' := 85) [.int x2, .int x8] (g_Ch_weightOf x2 x8 w6) h ok_m_Ch_weightOf lk_Ch_184 sh_102 rfl rfl rfl (Nat.le_of_ble_eq_true rfl) (by omega) (Nat.le_of_ble_eq_true rfl) (by decide +kernel) rfl (fun v9 w10 h => ?_)
      refine Gz.i2l (pc' := 86) (by decide +kernel) rfl ?_
      refine Gz.lmul (pc' := 87) (by decide +kernel) rfl ?_
      refine Gz.callVJ (st := [.long x6]) (b := 102) (pc' := 90) [.ref x1, .int (x2 + (1 : Int32)), .int v7, .long (x4 * (v9.toInt64))] (hK x1 (x2 + (1 : Int32)) v7 (x4 * (v9.toInt64)) w10) h ok_m_Ch_sum lk_Ch_46 sh_102 rfl rfl rfl (Nat.le_of_ble_eq_true rfl) (by omega) (Nat.le_of_ble_eq_true rfl) (by decide +kernel) rfl (fun v11 w12 h => ?_)
      refine Gz.ladd (pc' := 91) (by decide +kernel) rfl ?_
      refine Gz.nmJ (fun v13 e14 => ?_)
      have h := zok_l e14 h
      refine Gz.lstore (i := 6) (pc' := 93) (L' := [(6, .long v13), (9, .int v7), (0, .ref 102), (1, .ref x1), (2, .int x2), (3, .int x3), (4, .long x4), (8, .int x8)]) (by decide +kernel) rfl (Nat.le_of_ble_eq_true rfl) rfl ?_
      obtain ⟨v15, e16⟩ : ∃ y : Int32, y = x8 + (1 : Int32) := ⟨_, rfl⟩
      have h := zok_l e16 h
      refine Gz.iinc (i := 8) (n := 1) (pc' := 96) (L' := [(8, .int v15), (6, .long v13), (9, .int v7), (0, .ref 102), (1, .ref x1), (2, .int x2), (3, .int x3), (4, .long x4)]) v15 (by decide +kernel) rfl 7 rfl (by rw [e16]; rfl) (Nat.le_of_ble_eq_true rfl) rfl ?_
      refine Gz.goto (off := -64) (tgt := 32) (by decide +kernel) (by decide) ?_
      refine Gz.sub (L' := [(0, .ref 102), (1, .ref x1), (2, .int x2), (3, .int x3), (4, .long x4), (6, .long v13), (8, .int v15)]) [3, 4, 5, 6, 7, 1, 0] rfl ?_
      exact hk32 x1 x2 x3 x4 v13 v15 w12 h
theorem g_Ch_sum_b32 {l : Launch} {Q : Option Value → gW → Prop} (rK : Nat → Int32 → Int32 → Int64 → gW → Option (Int64 × gW)) {dK : Nat} (hd0 : 3 ≤ dK) (hK : ∀ (a1 : Nat) (a2 : Int32) (a3 : Int32) (a4 : Int64) (w : gW), gCt l m_Ch_sum dK [.ref 102, .ref a1, .int a2, .int a3, .long a4] w eJ (rK a1 a2 a3 a4 w)) (x1 : Nat) (x2 : Int32) (x3 : Int32) (x4 : Int64) (x6 : Int64) (x8 : Int32) (w : gW) (h : zok eJ (f_Ch_sum_b32 rK x1 x2 x3 x4 x6 x8 w) Q) : Gz l m_Ch_sum (dK + 1) 32 [(0, .ref 102), (1, .ref x1), (2, .int x2), (3, .int x3), (4, .long x4), (6, .long x6), (8, .int x8)] [] w Q := by
  have key : ∀ (n : Nat) (x1 : Nat) (x2 : Int32) (x3 : Int32) (x4 : Int64) (x6 : Int64) (x8 : Int32) (w : gW), zok eJ (zfx (fun _ _ _ _ _ _ _ => none) (f_Ch_sum_b32_s rK) n x1 x2 x3 x4 x6 x8 w) Q → Gz l m_Ch_sum (dK + 1) 32 [(0, .ref 102), (1, .ref x1), (2, .int x2), (3, .int x3), (4, .long x4), (6, .long x6), (8, .int x8)] [] w Q := by
    intro n
    induction n with
    | zero => intro x1 x2 x3 x4 x6 x8 w h; exact zok_n h
    | succ n ih => intro x1 x2 x3 x4 x6 x8 w h; exact g_Ch_sum_b32_s rK hd0 hK _ ih x1 x2 x3 x4 x6 x8 w h
  exact key zFU x1 x2 x3 x4 x6 x8 w h
theorem g_Ch_sum_rec {l : Launch} (rK : Nat → Int32 → Int32 → Int64 → gW → Option (Int64 × gW)) {dK : Nat} (hd0 : 3 ≤ dK) (hK : ∀ (a1 : Nat) (a2 : Int32) (a3 : Int32) (a4 : Int64) (w : gW), gCt l m_Ch_sum dK [.ref 102, .ref a1, .int a2, .int a3, .long a4] w eJ (rK a1 a2 a3 a4 w)) (a1 : Nat) (a2 : Int32) (a3 : Int32) (a4 : Int64) (w : gW) : gCt l m_Ch_sum (dK + 1) [.ref 102, .ref a1, .int a2, .int a3, .long a4] w eJ (f_Ch_sum_rec rK a1 a2 a3 a4 w) := by
  intro Q h
  unfold f_Ch_sum_rec at h
  show Gz l m_Ch_sum (dK + 1) 0 [(0, .ref 102), (1, .ref a1), (2, .int a2), (3, .int a3), (4, .long a4)] [] w Q
  refine Gz.aload_n (q := 0) (pc' := 1) (by decide +kernel) rfl 0 rfl ?_
  refine Gz.getR (pc' := 4) (j := 0) 19 fd_Ch_18 sh_102 rfl (by decide +kernel) rfl ?_
  refine Gz.iload_n (q := 2) (pc' := 5) (by decide +kernel) rfl 2 rfl ?_
  refine Gz.callVI (st := []) (b := 19) (pc' := 8) [.int a2] (g_La_hasDeed a2 w) h ok_m_La_hasDeed lk_Ch_171 sh_19 rfl rfl rfl (Nat.le_of_ble_eq_true rfl) (by omega) (Nat.le_of_ble_eq_true rfl) (by decide +kernel) rfl (fun v1 w2 h => ?_)
  refine Gz.if_ne (off := 18) (tgt := 26) (pc' := 11) (by decide +kernel) (by decide) rfl (fun c3 => ?_) (fun c3 => ?_)
  · have h := zok_f c3 h
    refine Gz.lconst (n := 0) (v := (0 : Int64)) (pc' := 27) (by decide +kernel) rfl rfl ?_
    refine Gz.lstore (i := 6) (pc' := 29) (L' := [(6, .long (0 : Int64)), (0, .ref 102), (1, .ref a1), (2, .int a2), (3, .int a3), (4, .long a4)]) (by decide +kernel) rfl (Nat.le_of_ble_eq_true rfl) rfl ?_
    refine Gz.iconst (n := 0) (v := (0 : Int32)) (pc' := 30) (by decide +kernel) rfl rfl ?_
    refine Gz.istore (i := 8) (pc' := 32) (L' := [(8, .int (0 : Int32)), (6, .long (0 : Int64)), (0, .ref 102), (1, .ref a1), (2, .int a2), (3, .int a3), (4, .long a4)]) (by decide +kernel) rfl (Nat.le_of_ble_eq_true rfl) rfl ?_
    refine Gz.sub (L' := [(0, .ref 102), (1, .ref a1), (2, .int a2), (3, .int a3), (4, .long a4), (6, .long (0 : Int64)), (8, .int (0 : Int32))]) [2, 3, 4, 5, 6, 1, 0] rfl ?_
    exact g_Ch_sum_b32 rK hd0 hK a1 a2 a3 a4 (0 : Int64) (0 : Int32) w2 h
  · have h := zok_t c3 h
    refine Gz.aload_n (q := 1) (pc' := 12) (by decide +kernel) rfl 1 rfl ?_
    refine Gz.iload_n (q := 3) (pc' := 13) (by decide +kernel) rfl 3 rfl ?_
    refine Gz.callSI (st := []) (pc' := 16) [.ref a1, .int a3] (g_Ro_has a1 a3 w2) h ok_m_Ro_has lk_Ch_174 rfl (Nat.le_of_ble_eq_true rfl) (by omega) (Nat.le_of_ble_eq_true rfl) (by decide +kernel) rfl (fun v4 w5 h => ?_)
    refine Gz.if_eq (off := 8) (tgt := 24) (pc' := 19) (by decide +kernel) (by decide) rfl (fun c6 => ?_) (fun c6 => ?_)
    · have h := zok_t c6 h
      refine Gz.lconst (n := 0) (v := (0 : Int64)) (pc' := 25) (by decide +kernel) rfl rfl ?_
      exact Gz.lreturn (by decide +kernel) rfl (zok_sJ h)
    · have h := zok_f c6 h
      refine Gz.lload (i := 4) (pc' := 21) (by decide +kernel) rfl 4 rfl ?_
      refine Gz.goto (off := 4) (tgt := 25) (by decide +kernel) (by decide) ?_
      exact Gz.lreturn (by decide +kernel) rfl (zok_sJ h)
theorem g_Ch_sum_n {l : Launch} : ∀ (n : Nat) (a1 : Nat) (a2 : Int32) (a3 : Int32) (a4 : Int64) (w : gW), gCt l m_Ch_sum (3 + n * 1) [.ref 102, .ref a1, .int a2, .int a3, .long a4] w eJ (zfx (fun _ _ _ _ _ => none) f_Ch_sum_rec n a1 a2 a3 a4 w) := by
  intro n
  induction n with
  | zero => intro a1 a2 a3 a4 w Q h; exact zok_n h
  | succ n ih =>
    intro a1 a2 a3 a4 w
    have hh := g_Ch_sum_rec (l := l) _ (dK := 3 + n * 1) (by omega) ih a1 a2 a3 a4 w
    rw [show 3 + (n + 1) * 1 = 3 + n * 1 + 1 by omega]
    exact hh
theorem g_Ch_sum {l : Launch} (a1 : Nat) (a2 : Int32) (a3 : Int32) (a4 : Int64) (w : gW) : gCt l m_Ch_sum 19 [.ref 102, .ref a1, .int a2, .int a3, .long a4] w eJ (f_Ch_sum a1 a2 a3 a4 w) := g_Ch_sum_n 16 a1 a2 a3 a4 w
def f_Ch_plain_b78 (x5 : Int64) (s0 : Int64) (w : gW) : Option (Int64 × gW) :=
if ¬ x5 = 0 then
some (s0 / x5, w)
else none
def f_Ch_plain_b55 (x0 : Int64) (x2 : Int64) (x4 : Int32) (x5 : Int64) (w : gW) : Option (Int64 × gW) :=
if 0 < (lg_cmp x5 (0 : Int64)) then
(if x4 = 0 then
(f_Ch_plain_b78 x5 x0 w)
else
(f_Ch_plain_b78 x5 x2 w))
else
(some ((-1 : Int64), w))
def f_Ch_plain_b19_s (k19 : Int64 → Int64 → Int32 → Int64 → Int64 → Int32 → gW → Option (Int64 × gW)) (x0 : Int64) (x2 : Int64) (x4 : Int32) (x5 : Int64) (x7 : Int64) (x9 : Int32) (w : gW) : Option (Int64 × gW) :=
if (200 : Int32) ≤ x9 then
(f_Ch_plain_b55 x0 x2 x4 x5 w)
else
(if (lg_cmp x7 (0 : Int64)) ≤ 0 then
(f_Ch_plain_b55 x0 x2 x4 x5 w)
else
(if ¬ x7 = 0 then
zl (x5 - x5 / x7 * x7) (fun v4 =>
zl (x9 + (1 : Int32)) (fun v6 =>
k19 x0 x2 x4 x7 v4 v6 w))
else none))
def f_Ch_plain_b19 : Int64 → Int64 → Int32 → Int64 → Int64 → Int32 → gW → Option (Int64 × gW) := zfx (fun _ _ _ _ _ _ _ => none) (f_Ch_plain_b19_s) zFU
def f_Ch_plain (a0 : Int64) (a2 : Int64) (a4 : Int32) (w : gW) : Option (Int64 × gW) :=
if 0 < (lg_cmp a2 (0 : Int64)) then
(f_Ch_plain_b19 a0 a2 a4 a2 a0 (0 : Int32) w)
else
(some ((-1 : Int64), w))
theorem g_Ch_plain_b78 {l : Launch} {Q : Option Value → gW → Prop} (x5 : Int64) (s0 : Int64) (w : gW) (h : zok eJ (f_Ch_plain_b78 x5 s0 w) Q) : Gz l m_Ch_plain 1 78 [(5, .long x5)] [.long s0] w Q := by
  unfold f_Ch_plain_b78 at h
  refine Gz.lload (i := 5) (pc' := 80) (by decide +kernel) rfl 0 rfl ?_
  obtain ⟨c1, h⟩ := zok_c h
  refine Gz.ldiv (pc' := 81) (by decide +kernel) rfl c1 ?_
  exact Gz.lreturn (by decide +kernel) rfl (zok_sJ h)
theorem g_Ch_plain_b55 {l : Launch} {Q : Option Value → gW → Prop} (x0 : Int64) (x2 : Int64) (x4 : Int32) (x5 : Int64) (w : gW) (h : zok eJ (f_Ch_plain_b55 x0 x2 x4 x5 w) Q) : Gz l m_Ch_plain 1 55 [(0, .long x0), (2, .long x2), (4, .int x4), (5, .long x5)] [] w Q := by
  unfold f_Ch_plain_b55 at h
  refine Gz.lload (i := 5) (pc' := 57) (by decide +kernel) rfl 3 rfl ?_
  refine Gz.lconst (n := 0) (v := (0 : Int64)) (pc' := 58) (by decide +kernel) rfl rfl ?_
  refine Gz.lcmp (pc' := 59) (by decide +kernel) rfl ?_
  refine Gz.if_gt (off := 9) (tgt := 68) (pc' := 62) (by decide +kernel) (by decide) rfl (fun c1 => ?_) (fun c1 => ?_)
  · have h := zok_t c1 h
    refine Gz.iload (i := 4) (pc' := 70) (by decide +kernel) rfl 2 rfl ?_
    refine Gz.if_ne (off := 7) (tgt := 77) (pc' := 73) (by decide +kernel) (by decide) rfl (fun c2 => ?_) (fun c2 => ?_)
    · have h := zok_f c2 h
      refine Gz.lload_n (q := 2) (pc' := 78) (by decide +kernel) rfl 1 rfl ?_
      refine Gz.sub (L' := [(5, .long x5)]) [3] rfl ?_
      exact g_Ch_plain_b78 x5 x2 w h
    · have h := zok_t c2 h
      refine Gz.lload_n (q := 0) (pc' := 74) (by decide +kernel) rfl 0 rfl ?_
      refine Gz.goto (off := 4) (tgt := 78) (by decide +kernel) (by decide) ?_
      refine Gz.sub (L' := [(5, .long x5)]) [3] rfl ?_
      exact g_Ch_plain_b78 x5 x0 w h
  · have h := zok_f c1 h
    refine Gz.ldc2 (idx := 83) (v := (-1 : Int64)) (pc' := 65) (by decide +kernel) rfl kc_Ch_83 ?_
    refine Gz.goto (off := 16) (tgt := 81) (by decide +kernel) (by decide) ?_
    exact Gz.lreturn (by decide +kernel) rfl (zok_sJ h)
theorem g_Ch_plain_b19_s {l : Launch} {Q : Option Value → gW → Prop} (k19 : Int64 → Int64 → Int32 → Int64 → Int64 → Int32 → gW → Option (Int64 × gW)) (hk19 : ∀ (x0 : Int64) (x2 : Int64) (x4 : Int32) (x5 : Int64) (x7 : Int64) (x9 : Int32) (w : gW), zok eJ (k19 x0 x2 x4 x5 x7 x9 w) Q → Gz l m_Ch_plain 1 19 [(0, .long x0), (2, .long x2), (4, .int x4), (5, .long x5), (7, .long x7), (9, .int x9)] [] w Q) (x0 : Int64) (x2 : Int64) (x4 : Int32) (x5 : Int64) (x7 : Int64) (x9 : Int32) (w : gW) (h : zok eJ (f_Ch_plain_b19_s k19 x0 x2 x4 x5 x7 x9 w) Q) : Gz l m_Ch_plain 1 19 [(0, .long x0), (2, .long x2), (4, .int x4), (5, .long x5), (7, .long x7), (9, .int x9)] [] w Q := by
  unfold f_Ch_plain_b19_s at h
  refine Gz.iload (i := 9) (pc' := 21) (by decide +kernel) rfl 5 rfl ?_
  refine Gz.sipush (n := 200) (v := (200 : Int32)) (pc' := 24) (by decide +kernel) rfl rfl ?_
  refine Gz.icmp_ge (off := 31) (tgt := 55) (pc' := 27) (by decide +kernel) (by decide) rfl (fun c1 => ?_) (fun c1 => ?_)
  · have h := zok_t c1 h
    refine Gz.sub (L' := [(0, .long x0), (2, .long x2), (4, .int x4), (5, .long x5)]) [0, 1, 2, 3] rfl ?_
    exact g_Ch_plain_b55 x0 x2 x4 x5 w h
  · have h := zok_f c1 h
    refine Gz.lload (i := 7) (pc' := 29) (by decide +kernel) rfl 4 rfl ?_
    refine Gz.lconst (n := 0) (v := (0 : Int64)) (pc' := 30) (by decide +kernel) rfl rfl ?_
    refine Gz.lcmp (pc' := 31) (by decide +kernel) rfl ?_
    refine Gz.if_le (off := 24) (tgt := 55) (pc' := 34) (by decide +kernel) (by decide) rfl (fun c2 => ?_) (fun c2 => ?_)
    · have h := zok_t c2 h
      refine Gz.sub (L' := [(0, .long x0), (2, .long x2), (4, .int x4), (5, .long x5)]) [0, 1, 2, 3] rfl ?_
      exact g_Ch_plain_b55 x0 x2 x4 x5 w h
    · have h := zok_f c2 h
      refine Gz.lload (i := 5) (pc' := 36) (by decide +kernel) rfl 3 rfl ?_
      refine Gz.lload (i := 7) (pc' := 38) (by decide +kernel) rfl 4 rfl ?_
      obtain ⟨c3, h⟩ := zok_c h
      refine Gz.lrem (pc' := 39) (by decide +kernel) rfl c3 ?_
      refine Gz.nmJ (fun v4 e5 => ?_)
      have h := zok_l e5 h
      refine Gz.lstore (i := 10) (pc' := 41) (L' := [(10, .long v4), (0, .long x0), (2, .long x2), (4, .int x4), (5, .long x5), (7, .long x7), (9, .int x9)]) (by decide +kernel) rfl (Nat.le_of_ble_eq_true rfl) rfl ?_
      refine Gz.lload (i := 7) (pc' := 43) (by decide +kernel) rfl 5 rfl ?_
      refine Gz.lstore (i := 5) (pc' := 45) (L' := [(5, .long x7), (10, .long v4), (0, .long x0), (2, .long x2), (4, .int x4), (7, .long x7), (9, .int x9)]) (by decide +kernel) rfl (Nat.le_of_ble_eq_true rfl) rfl ?_
      refine Gz.lload (i := 10) (pc' := 47) (by decide +kernel) rfl 1 rfl ?_
      refine Gz.lstore (i := 7) (pc' := 49) (L' := [(7, .long v4), (5, .long x7), (10, .long v4), (0, .long x0), (2, .long x2), (4, .int x4), (9, .int x9)]) (by decide +kernel) rfl (Nat.le_of_ble_eq_true rfl) rfl ?_
      obtain ⟨v6, e7⟩ : ∃ y : Int32, y = x9 + (1 : Int32) := ⟨_, rfl⟩
      have h := zok_l e7 h
      refine Gz.iinc (i := 9) (n := 1) (pc' := 52) (L' := [(9, .int v6), (7, .long v4), (5, .long x7), (10, .long v4), (0, .long x0), (2, .long x2), (4, .int x4)]) v6 (by decide +kernel) rfl 6 rfl (by rw [e7]; rfl) (Nat.le_of_ble_eq_true rfl) rfl ?_
      refine Gz.goto (off := -33) (tgt := 19) (by decide +kernel) (by decide) ?_
      refine Gz.sub (L' := [(0, .long x0), (2, .long x2), (4, .int x4), (5, .long x7), (7, .long v4), (9, .int v6)]) [4, 5, 6, 2, 1, 0] rfl ?_
      exact hk19 x0 x2 x4 x7 v4 v6 w h
theorem g_Ch_plain_b19 {l : Launch} {Q : Option Value → gW → Prop} (x0 : Int64) (x2 : Int64) (x4 : Int32) (x5 : Int64) (x7 : Int64) (x9 : Int32) (w : gW) (h : zok eJ (f_Ch_plain_b19 x0 x2 x4 x5 x7 x9 w) Q) : Gz l m_Ch_plain 1 19 [(0, .long x0), (2, .long x2), (4, .int x4), (5, .long x5), (7, .long x7), (9, .int x9)] [] w Q := by
  have key : ∀ (n : Nat) (x0 : Int64) (x2 : Int64) (x4 : Int32) (x5 : Int64) (x7 : Int64) (x9 : Int32) (w : gW), zok eJ (zfx (fun _ _ _ _ _ _ _ => none) (f_Ch_plain_b19_s) n x0 x2 x4 x5 x7 x9 w) Q → Gz l m_Ch_plain 1 19 [(0, .long x0), (2, .long x2), (4, .int x4), (5, .long x5), (7, .long x7), (9, .int x9)] [] w Q := by
    intro n
    induction n with
    | zero => intro x0 x2 x4 x5 x7 x9 w h; exact zok_n h
    | succ n ih => intro x0 x2 x4 x5 x7 x9 w h; exact g_Ch_plain_b19_s _ ih x0 x2 x4 x5 x7 x9 w h
  exact key zFU x0 x2 x4 x5 x7 x9 w h
theorem g_Ch_plain {l : Launch} (a0 : Int64) (a2 : Int64) (a4 : Int32) (w : gW) : gCt l m_Ch_plain 1 [.long a0, .long a2, .int a4] w eJ (f_Ch_plain a0 a2 a4 w) := by
  intro Q h
  unfold f_Ch_plain at h
  show Gz l m_Ch_plain 1 0 [(0, .long a0), (2, .long a2), (4, .int a4)] [] w Q
  refine Gz.lload_n (q := 2) (pc' := 1) (by decide +kernel) rfl 1 rfl ?_
  refine Gz.lconst (n := 0) (v := (0 : Int64)) (pc' := 2) (by decide +kernel) rfl rfl ?_
  refine Gz.lcmp (pc' := 3) (by decide +kernel) rfl ?_
  refine Gz.if_gt (off := 7) (tgt := 10) (pc' := 6) (by decide +kernel) (by decide) rfl (fun c1 => ?_) (fun c1 => ?_)
  · have h := zok_t c1 h
    refine Gz.lload_n (q := 2) (pc' := 11) (by decide +kernel) rfl 1 rfl ?_
    refine Gz.lstore (i := 5) (pc' := 13) (L' := [(5, .long a2), (0, .long a0), (2, .long a2), (4, .int a4)]) (by decide +kernel) rfl (Nat.le_of_ble_eq_true rfl) rfl ?_
    refine Gz.lload_n (q := 0) (pc' := 14) (by decide +kernel) rfl 1 rfl ?_
    refine Gz.lstore (i := 7) (pc' := 16) (L' := [(7, .long a0), (5, .long a2), (0, .long a0), (2, .long a2), (4, .int a4)]) (by decide +kernel) rfl (Nat.le_of_ble_eq_true rfl) rfl ?_
    refine Gz.iconst (n := 0) (v := (0 : Int32)) (pc' := 17) (by decide +kernel) rfl rfl ?_
    refine Gz.istore (i := 9) (pc' := 19) (L' := [(9, .int (0 : Int32)), (7, .long a0), (5, .long a2), (0, .long a0), (2, .long a2), (4, .int a4)]) (by decide +kernel) rfl (Nat.le_of_ble_eq_true rfl) rfl ?_
    refine Gz.sub (L' := [(0, .long a0), (2, .long a2), (4, .int a4), (5, .long a2), (7, .long a0), (9, .int (0 : Int32))]) [3, 4, 5, 2, 1, 0] rfl ?_
    exact g_Ch_plain_b19 a0 a2 a4 a2 a0 (0 : Int32) w h
  · have h := zok_f c1 h
    refine Gz.ldc2 (idx := 83) (v := (-1 : Int64)) (pc' := 9) (by decide +kernel) rfl kc_Ch_83 ?_
    exact Gz.lreturn (by decide +kernel) rfl (zok_sJ h)
def f_Ch_oddsOf_b25_s (k25 : Int32 → Nat → Int32 → gW → Option (Int64 × gW)) (x3 : Int32) (x4 : Nat) (x5 : Int32) (w : gW) : Option (Int64 × gW) :=
if (263 : Int32) ≤ x5 then
(zb (f_Ch_sum 104 (0 : Int32) (0 : Int32) (1 : Int64) w) (fun v2 w3 =>
zb (f_Ch_sum x4 (0 : Int32) (0 : Int32) (1 : Int64) w3) (fun v4 w5 =>
zb (f_Ch_plain v2 v4 x3 w5) (fun v6 w7 =>
some (v6, w7)))))
else
(if inb x5 263 then
zb (f_Ro_word x4 x5 w) (fun v9 w10 =>
if inb x5 263 then
zl (zsL w10 104 (ix x5) ((w.2 104 (ix x5)) &&& v9)) (fun w12 =>
zl (x5 + (1 : Int32)) (fun v14 =>
k25 x3 x4 v14 w12))
else none)
else none)
def f_Ch_oddsOf_b25 : Int32 → Nat → Int32 → gW → Option (Int64 × gW) := zfx (fun _ _ _ _ => none) (f_Ch_oddsOf_b25_s) zFU
def f_Ch_oddsOf (a1 : Int32) (a2 : Int32) (a3 : Int32) (w : gW) : Option (Int64 × gW) :=
zb (f_Co_hear a1 a2 104 w) (fun _ w1 =>
zb (f_Co_fitting w1) (fun v2 w3 =>
f_Ch_oddsOf_b25 a3 v2 (0 : Int32) w3))
theorem g_Ch_oddsOf_b25_s {l : Launch} {Q : Option Value → gW → Prop} (k25 : Int32 → Nat → Int32 → gW → Option (Int64 × gW)) (hk25 : ∀ (x3 : Int32) (x4 : Nat) (x5 : Int32) (w : gW), zok eJ (k25 x3 x4 x5 w) Q → Gz l m_Ch_oddsOf 20 25 [(0, .ref 102), (3, .int x3), (4, .ref x4), (5, .int x5)] [] w Q) (x3 : Int32) (x4 : Nat) (x5 : Int32) (w : gW) (h : zok eJ (f_Ch_oddsOf_b25_s k25 x3 x4 x5 w) Q) : Gz l m_Ch_oddsOf 20 25 [(0, .ref 102), (3, .int x3), (4, .ref x4), (5, .int x5)] [] w Q := by
  unfold f_Ch_oddsOf_b25_s at h
  refine Gz.iload (i := 5) (pc' := 27) (by decide +kernel) rfl 3 rfl ?_
  refine Gz.sipush (n := 263) (v := (263 : Int32)) (pc' := 30) (by decide +kernel) rfl rfl ?_
  refine Gz.icmp_ge (off := 26) (tgt := 56) (pc' := 33) (by decide +kernel) (by decide) rfl (fun c1 => ?_) (fun c1 => ?_)
  · have h := zok_t c1 h
    refine Gz.aload_n (q := 0) (pc' := 57) (by decide +kernel) rfl 0 rfl ?_
    refine Gz.aload_n (q := 0) (pc' := 58) (by decide +kernel) rfl 0 rfl ?_
    refine Gz.getR (pc' := 61) (j := 4) 104 fd_Ch_15 sh_102 rfl (by decide +kernel) rfl ?_
    refine Gz.iconst (n := 0) (v := (0 : Int32)) (pc' := 62) (by decide +kernel) rfl rfl ?_
    refine Gz.iconst (n := 0) (v := (0 : Int32)) (pc' := 63) (by decide +kernel) rfl rfl ?_
    refine Gz.lconst (n := 1) (v := (1 : Int64)) (pc' := 64) (by decide +kernel) rfl rfl ?_
    refine Gz.callVJ (st := []) (b := 102) (pc' := 67) [.ref 104, .int (0 : Int32), .int (0 : Int32), .long (1 : Int64)] (g_Ch_sum 104 (0 : Int32) (0 : Int32) (1 : Int64) w) h ok_m_Ch_sum lk_Ch_46 sh_102 rfl rfl rfl (Nat.le_of_ble_eq_true rfl) (Nat.le_of_ble_eq_true rfl) (Nat.le_of_ble_eq_true rfl) (by decide +kernel) rfl (fun v2 w3 h => ?_)
    refine Gz.aload_n (q := 0) (pc' := 68) (by decide +kernel) rfl 0 rfl ?_
    refine Gz.aload (i := 4) (pc' := 70) (by decide +kernel) rfl 2 rfl ?_
    refine Gz.iconst (n := 0) (v := (0 : Int32)) (pc' := 71) (by decide +kernel) rfl rfl ?_
    refine Gz.iconst (n := 0) (v := (0 : Int32)) (pc' := 72) (by decide +kernel) rfl rfl ?_
    refine Gz.lconst (n := 1) (v := (1 : Int64)) (pc' := 73) (by decide +kernel) rfl rfl ?_
    refine Gz.callVJ (st := [.long v2]) (b := 102) (pc' := 76) [.ref x4, .int (0 : Int32), .int (0 : Int32), .long (1 : Int64)] (g_Ch_sum x4 (0 : Int32) (0 : Int32) (1 : Int64) w3) h ok_m_Ch_sum lk_Ch_46 sh_102 rfl rfl rfl (Nat.le_of_ble_eq_true rfl) (Nat.le_of_ble_eq_true rfl) (Nat.le_of_ble_eq_true rfl) (by decide +kernel) rfl (fun v4 w5 h => ?_)
    refine Gz.iload_n (q := 3) (pc' := 77) (by decide +kernel) rfl 1 rfl ?_
    refine Gz.callSJ (st := []) (pc' := 80) [.long v2, .long v4, .int x3] (g_Ch_plain v2 v4 x3 w5) h ok_m_Ch_plain lk_Ch_50 rfl (Nat.le_of_ble_eq_true rfl) (Nat.le_of_ble_eq_true rfl) (Nat.le_of_ble_eq_true rfl) (by decide +kernel) rfl (fun v6 w7 h => ?_)
    exact Gz.lreturn (by decide +kernel) rfl (zok_sJ h)
  · have h := zok_f c1 h
    refine Gz.aload_n (q := 0) (pc' := 34) (by decide +kernel) rfl 0 rfl ?_
    refine Gz.getR (pc' := 37) (j := 4) 104 fd_Ch_15 sh_102 rfl (by decide +kernel) rfl ?_
    refine Gz.iload (i := 5) (pc' := 39) (by decide +kernel) rfl 3 rfl ?_
    refine Gz.dup2 (pc' := 40) (by decide +kernel) rfl rfl rfl ?_
    obtain ⟨c8, h⟩ := zok_c h
    refine Gz.lald (pc' := 41) (n := 263) (by decide +kernel) rfl rfl c8 ?_
    refine Gz.aload (i := 4) (pc' := 43) (by decide +kernel) rfl 2 rfl ?_
    refine Gz.iload (i := 5) (pc' := 45) (by decide +kernel) rfl 3 rfl ?_
    refine Gz.callSJ (st := [.long (w.2 104 (ix x5)), .int x5, .ref 104]) (pc' := 48) [.ref x4, .int x5] (g_Ro_word x4 x5 w) h ok_m_Ro_word lk_Ch_40 rfl (Nat.le_of_ble_eq_true rfl) (Nat.le_of_ble_eq_true rfl) (Nat.le_of_ble_eq_true rfl) (by decide +kernel) rfl (fun v9 w10 h => ?_)
    refine Gz.land (pc' := 49) (by decide +kernel) rfl ?_
    obtain ⟨c11, h⟩ := zok_c h
    refine Gz.last (pc' := 50) (n := 263) (by decide +kernel) rfl rfl c11 ?_
    refine Gz.nmW (fun w12 e13 => ?_)
    have h := zok_l e13 h
    obtain ⟨v14, e15⟩ : ∃ y : Int32, y = x5 + (1 : Int32) := ⟨_, rfl⟩
    have h := zok_l e15 h
    refine Gz.iinc (i := 5) (n := 1) (pc' := 53) (L' := [(5, .int v14), (0, .ref 102), (3, .int x3), (4, .ref x4)]) v14 (by decide +kernel) rfl 3 rfl (by rw [e15]; rfl) (Nat.le_of_ble_eq_true rfl) rfl ?_
    refine Gz.goto (off := -28) (tgt := 25) (by decide +kernel) (by decide) ?_
    refine Gz.sub (L' := [(0, .ref 102), (3, .int x3), (4, .ref x4), (5, .int v14)]) [1, 2, 3, 0] rfl ?_
    exact hk25 x3 x4 v14 w12 h
theorem g_Ch_oddsOf_b25 {l : Launch} {Q : Option Value → gW → Prop} (x3 : Int32) (x4 : Nat) (x5 : Int32) (w : gW) (h : zok eJ (f_Ch_oddsOf_b25 x3 x4 x5 w) Q) : Gz l m_Ch_oddsOf 20 25 [(0, .ref 102), (3, .int x3), (4, .ref x4), (5, .int x5)] [] w Q := by
  have key : ∀ (n : Nat) (x3 : Int32) (x4 : Nat) (x5 : Int32) (w : gW), zok eJ (zfx (fun _ _ _ _ => none) (f_Ch_oddsOf_b25_s) n x3 x4 x5 w) Q → Gz l m_Ch_oddsOf 20 25 [(0, .ref 102), (3, .int x3), (4, .ref x4), (5, .int x5)] [] w Q := by
    intro n
    induction n with
    | zero => intro x3 x4 x5 w h; exact zok_n h
    | succ n ih => intro x3 x4 x5 w h; exact g_Ch_oddsOf_b25_s _ ih x3 x4 x5 w h
  exact key zFU x3 x4 x5 w h
theorem g_Ch_oddsOf {l : Launch} (a1 : Int32) (a2 : Int32) (a3 : Int32) (w : gW) : gCt l m_Ch_oddsOf 20 [.ref 102, .int a1, .int a2, .int a3] w eJ (f_Ch_oddsOf a1 a2 a3 w) := by
  intro Q h
  unfold f_Ch_oddsOf at h
  show Gz l m_Ch_oddsOf 20 0 [(0, .ref 102), (1, .int a1), (2, .int a2), (3, .int a3)] [] w Q
  refine Gz.aload_n (q := 0) (pc' := 1) (by decide +kernel) rfl 0 rfl ?_
  refine Gz.getR (pc' := 4) (j := 2) 73 fd_Ch_26 sh_102 rfl (by decide +kernel) rfl ?_
  refine Gz.iload_n (q := 1) (pc' := 5) (by decide +kernel) rfl 1 rfl ?_
  refine Gz.iload_n (q := 2) (pc' := 6) (by decide +kernel) rfl 2 rfl ?_
  refine Gz.aload_n (q := 0) (pc' := 7) (by decide +kernel) rfl 0 rfl ?_
  refine Gz.getR (pc' := 10) (j := 4) 104 fd_Ch_15 sh_102 rfl (by decide +kernel) rfl ?_
  refine Gz.callVV (st := []) (b := 73) (pc' := 13) [.int a1, .int a2, .ref 104] (g_Co_hear a1 a2 104 w) h ok_m_Co_hear lk_Ch_30 sh_73 rfl rfl rfl (Nat.le_of_ble_eq_true rfl) (Nat.le_of_ble_eq_true rfl) (Nat.le_of_ble_eq_true rfl) (by decide +kernel) rfl (fun _ w1 h => ?_)
  refine Gz.aload_n (q := 0) (pc' := 14) (by decide +kernel) rfl 0 rfl ?_
  refine Gz.getR (pc' := 17) (j := 2) 73 fd_Ch_26 sh_102 rfl (by decide +kernel) rfl ?_
  refine Gz.callVR (st := []) (b := 73) (pc' := 20) [] (g_Co_fitting w1) h ok_m_Co_fitting lk_Ch_36 sh_73 rfl rfl rfl (Nat.le_of_ble_eq_true rfl) (Nat.le_of_ble_eq_true rfl) (Nat.le_of_ble_eq_true rfl) (by decide +kernel) rfl (fun v2 w3 h => ?_)
  refine Gz.astore (i := 4) (pc' := 22) (L' := [(4, .ref v2), (0, .ref 102), (1, .int a1), (2, .int a2), (3, .int a3)]) (by decide +kernel) rfl (Nat.le_of_ble_eq_true rfl) rfl ?_
  refine Gz.iconst (n := 0) (v := (0 : Int32)) (pc' := 23) (by decide +kernel) rfl rfl ?_
  refine Gz.istore (i := 5) (pc' := 25) (L' := [(5, .int (0 : Int32)), (4, .ref v2), (0, .ref 102), (1, .int a1), (2, .int a2), (3, .int a3)]) (by decide +kernel) rfl (Nat.le_of_ble_eq_true rfl) rfl ?_
  refine Gz.sub (L' := [(0, .ref 102), (3, .int a3), (4, .ref v2), (5, .int (0 : Int32))]) [2, 5, 1, 0] rfl ?_
  exact g_Ch_oddsOf_b25 a3 v2 (0 : Int32) w3 h
def f_X_odds_b29 (w : gW) : Option (Int64 × gW) :=
some ((-1 : Int64), w)
def f_X_odds (a1 : Int32) (a2 : Int32) (a3 : Int32) (w : gW) : Option (Int64 × gW) :=
zb (f_X_isSuch a1 a2 w) (fun v1 w2 =>
if v1 = 0 then
(f_X_odds_b29 w2)
else
(zb (f_X_isZeroOrOne a3 w2) (fun v4 w5 =>
if v4 = 0 then
(f_X_odds_b29 w5)
else
(zb (f_Ch_oddsOf a1 a2 a3 w5) (fun v7 w8 =>
some (v7, w8))))))
theorem g_X_odds_b29 {l : Launch} {Q : Option Value → gW → Prop} (w : gW) (h : zok eJ (f_X_odds_b29 w) Q) : Gz l m_X_odds 21 29 [] [] w Q := by
  unfold f_X_odds_b29 at h
  refine Gz.ldc2 (idx := 271) (v := (-1 : Int64)) (pc' := 32) (by decide +kernel) rfl kc_X_271 ?_
  exact Gz.lreturn (by decide +kernel) rfl (zok_sJ h)
theorem g_X_odds {l : Launch} (a1 : Int32) (a2 : Int32) (a3 : Int32) (w : gW) : gCt l m_X_odds 21 [.ref 0, .int a1, .int a2, .int a3] w eJ (f_X_odds a1 a2 a3 w) := by
  intro Q h
  unfold f_X_odds at h
  show Gz l m_X_odds 21 0 [(0, .ref 0), (1, .int a1), (2, .int a2), (3, .int a3)] [] w Q
  refine Gz.aload_n (q := 0) (pc' := 1) (by decide +kernel) rfl 0 rfl ?_
  refine Gz.iload_n (q := 1) (pc' := 2) (by decide +kernel) rfl 1 rfl ?_
  refine Gz.iload_n (q := 2) (pc' := 3) (by decide +kernel) rfl 2 rfl ?_
  refine Gz.callVI (st := []) (b := 0) (pc' := 6) [.int a1, .int a2] (g_X_isSuch a1 a2 w) h ok_m_X_isSuch lk_X_146 sh_0 rfl rfl rfl (Nat.le_of_ble_eq_true rfl) (Nat.le_of_ble_eq_true rfl) (Nat.le_of_ble_eq_true rfl) (by decide +kernel) rfl (fun v1 w2 h => ?_)
  refine Gz.if_eq (off := 23) (tgt := 29) (pc' := 9) (by decide +kernel) (by decide) rfl (fun c3 => ?_) (fun c3 => ?_)
  · have h := zok_t c3 h
    refine Gz.sub (L' := []) [] rfl ?_
    exact g_X_odds_b29 w2 h
  · have h := zok_f c3 h
    refine Gz.iload_n (q := 3) (pc' := 10) (by decide +kernel) rfl 3 rfl ?_
    refine Gz.callSI (st := []) (pc' := 13) [.int a3] (g_X_isZeroOrOne a3 w2) h ok_m_X_isZeroOrOne lk_X_228 rfl (Nat.le_of_ble_eq_true rfl) (Nat.le_of_ble_eq_true rfl) (Nat.le_of_ble_eq_true rfl) (by decide +kernel) rfl (fun v4 w5 h => ?_)
    refine Gz.if_eq (off := 16) (tgt := 29) (pc' := 16) (by decide +kernel) (by decide) rfl (fun c6 => ?_) (fun c6 => ?_)
    · have h := zok_t c6 h
      refine Gz.sub (L' := []) [] rfl ?_
      exact g_X_odds_b29 w5 h
    · have h := zok_f c6 h
      refine Gz.aload_n (q := 0) (pc' := 17) (by decide +kernel) rfl 0 rfl ?_
      refine Gz.getR (pc' := 20) (j := 9) 102 fd_X_79 sh_0 rfl (by decide +kernel) rfl ?_
      refine Gz.iload_n (q := 1) (pc' := 21) (by decide +kernel) rfl 1 rfl ?_
      refine Gz.iload_n (q := 2) (pc' := 22) (by decide +kernel) rfl 2 rfl ?_
      refine Gz.iload_n (q := 3) (pc' := 23) (by decide +kernel) rfl 3 rfl ?_
      refine Gz.callVJ (st := []) (b := 102) (pc' := 26) [.int a1, .int a2, .int a3] (g_Ch_oddsOf a1 a2 a3 w5) h ok_m_Ch_oddsOf lk_X_267 sh_102 rfl rfl rfl (Nat.le_of_ble_eq_true rfl) (Nat.le_of_ble_eq_true rfl) (Nat.le_of_ble_eq_true rfl) (by decide +kernel) rfl (fun v7 w8 h => ?_)
      refine Gz.goto (off := 6) (tgt := 32) (by decide +kernel) (by decide) ?_
      exact Gz.lreturn (by decide +kernel) rfl (zok_sJ h)
def f_La_dayCount (w : gW) : Option (Int32 × gW) :=
some (w.1 19 4, w)
theorem g_La_dayCount {l : Launch} (w : gW) : gCt l m_La_dayCount 1 [.ref 19] w eI (f_La_dayCount w) := by
  intro Q h
  unfold f_La_dayCount at h
  show Gz l m_La_dayCount 1 0 [(0, .ref 19)] [] w Q
  refine Gz.aload_n (q := 0) (pc' := 1) (by decide +kernel) rfl 0 rfl ?_
  refine Gz.getI (pc' := 4) (j := 4) fd_La_32 sh_19 rfl (by decide +kernel) rfl ?_
  exact Gz.ireturn (by decide +kernel) rfl (zok_sI h)
def f_Ch_countDone_b5_s (k5 : Int32 → Int32 → Int32 → Int32 → gW → Option (Int32 × gW)) (x1 : Int32) (x2 : Int32) (x3 : Int32) (x4 : Int32) (w : gW) : Option (Int32 × gW) :=
zb (f_La_words w) (fun v1 w2 =>
if v1 ≤ x4 then
(some (x3, w2))
else
(zb (f_La_seenWord x1 x2 x4 w2) (fun v4 w5 =>
zb (f_Co_fitting w5) (fun v6 w7 =>
zb (f_Ro_word v6 x4 w7) (fun v8 w9 =>
zb (f_Lng_bitCount (v4 &&& v8) w9) (fun v10 w11 =>
zl (x3 + v10) (fun v12 =>
zl (x4 + (1 : Int32)) (fun v14 =>
k5 x1 x2 v12 v14 w11))))))))
def f_Ch_countDone_b5 : Int32 → Int32 → Int32 → Int32 → gW → Option (Int32 × gW) := zfx (fun _ _ _ _ _ => none) (f_Ch_countDone_b5_s) zFU
def f_Ch_countDone (a1 : Int32) (a2 : Int32) (w : gW) : Option (Int32 × gW) :=
f_Ch_countDone_b5 a1 a2 (0 : Int32) (0 : Int32) w
theorem g_Ch_countDone_b5_s {l : Launch} {Q : Option Value → gW → Prop} (k5 : Int32 → Int32 → Int32 → Int32 → gW → Option (Int32 × gW)) (hk5 : ∀ (x1 : Int32) (x2 : Int32) (x3 : Int32) (x4 : Int32) (w : gW), zok eI (k5 x1 x2 x3 x4 w) Q → Gz l m_Ch_countDone 3 5 [(0, .ref 102), (1, .int x1), (2, .int x2), (3, .int x3), (4, .int x4)] [] w Q) (x1 : Int32) (x2 : Int32) (x3 : Int32) (x4 : Int32) (w : gW) (h : zok eI (f_Ch_countDone_b5_s k5 x1 x2 x3 x4 w) Q) : Gz l m_Ch_countDone 3 5 [(0, .ref 102), (1, .int x1), (2, .int x2), (3, .int x3), (4, .int x4)] [] w Q := by
  unfold f_Ch_countDone_b5_s at h
  refine Gz.iload (i := 4) (pc' := 7) (by decide +kernel) rfl 4 rfl ?_
  refine Gz.aload_n (q := 0) (pc' := 8) (by decide +kernel) rfl 0 rfl ?_
  refine Gz.getR (pc' := 11) (j := 0) 19 fd_Ch_18 sh_102 rfl (by decide +kernel) rfl ?_
  refine Gz.callVI (st := [.int x4]) (b := 19) (pc' := 14) [] (g_La_words w) h ok_m_La_words lk_Ch_58 sh_19 rfl rfl rfl (Nat.le_of_ble_eq_true rfl) (Nat.le_of_ble_eq_true rfl) (Nat.le_of_ble_eq_true rfl) (by decide +kernel) rfl (fun v1 w2 h => ?_)
  refine Gz.icmp_ge (off := 39) (tgt := 53) (pc' := 17) (by decide +kernel) (by decide) rfl (fun c3 => ?_) (fun c3 => ?_)
  · have h := zok_t c3 h
    refine Gz.iload_n (q := 3) (pc' := 54) (by decide +kernel) rfl 3 rfl ?_
    exact Gz.ireturn (by decide +kernel) rfl (zok_sI h)
  · have h := zok_f c3 h
    refine Gz.iload_n (q := 3) (pc' := 18) (by decide +kernel) rfl 3 rfl ?_
    refine Gz.aload_n (q := 0) (pc' := 19) (by decide +kernel) rfl 0 rfl ?_
    refine Gz.getR (pc' := 22) (j := 0) 19 fd_Ch_18 sh_102 rfl (by decide +kernel) rfl ?_
    refine Gz.iload_n (q := 1) (pc' := 23) (by decide +kernel) rfl 1 rfl ?_
    refine Gz.iload_n (q := 2) (pc' := 24) (by decide +kernel) rfl 2 rfl ?_
    refine Gz.iload (i := 4) (pc' := 26) (by decide +kernel) rfl 4 rfl ?_
    refine Gz.callVJ (st := [.int x3]) (b := 19) (pc' := 29) [.int x1, .int x2, .int x4] (g_La_seenWord x1 x2 x4 w2) h ok_m_La_seenWord lk_Ch_155 sh_19 rfl rfl rfl (Nat.le_of_ble_eq_true rfl) (Nat.le_of_ble_eq_true rfl) (Nat.le_of_ble_eq_true rfl) (by decide +kernel) rfl (fun v4 w5 h => ?_)
    refine Gz.aload_n (q := 0) (pc' := 30) (by decide +kernel) rfl 0 rfl ?_
    refine Gz.getR (pc' := 33) (j := 2) 73 fd_Ch_26 sh_102 rfl (by decide +kernel) rfl ?_
    refine Gz.callVR (st := [.long v4, .int x3]) (b := 73) (pc' := 36) [] (g_Co_fitting w5) h ok_m_Co_fitting lk_Ch_36 sh_73 rfl rfl rfl (Nat.le_of_ble_eq_true rfl) (Nat.le_of_ble_eq_true rfl) (Nat.le_of_ble_eq_true rfl) (by decide +kernel) rfl (fun v6 w7 h => ?_)
    refine Gz.iload (i := 4) (pc' := 38) (by decide +kernel) rfl 4 rfl ?_
    refine Gz.callSJ (st := [.long v4, .int x3]) (pc' := 41) [.ref v6, .int x4] (g_Ro_word v6 x4 w7) h ok_m_Ro_word lk_Ch_40 rfl (Nat.le_of_ble_eq_true rfl) (Nat.le_of_ble_eq_true rfl) (Nat.le_of_ble_eq_true rfl) (by decide +kernel) rfl (fun v8 w9 h => ?_)
    refine Gz.land (pc' := 42) (by decide +kernel) rfl ?_
    refine Gz.callSI (st := [.int x3]) (pc' := 45) [.long (v4 &&& v8)] (g_Lng_bitCount (v4 &&& v8) w9) h ok_m_Lng_bitCount lk_Ch_149 rfl (Nat.le_of_ble_eq_true rfl) (Nat.le_of_ble_eq_true rfl) (Nat.le_of_ble_eq_true rfl) (by decide +kernel) rfl (fun v10 w11 h => ?_)
    refine Gz.iadd (pc' := 46) (by decide +kernel) rfl ?_
    refine Gz.nmI (fun v12 e13 => ?_)
    have h := zok_l e13 h
    refine Gz.istore_n (q := 3) (pc' := 47) (L' := [(3, .int v12), (0, .ref 102), (1, .int x1), (2, .int x2), (4, .int x4)]) (by decide +kernel) rfl (Nat.le_of_ble_eq_true rfl) rfl ?_
    obtain ⟨v14, e15⟩ : ∃ y : Int32, y = x4 + (1 : Int32) := ⟨_, rfl⟩
    have h := zok_l e15 h
    refine Gz.iinc (i := 4) (n := 1) (pc' := 50) (L' := [(4, .int v14), (3, .int v12), (0, .ref 102), (1, .int x1), (2, .int x2)]) v14 (by decide +kernel) rfl 4 rfl (by rw [e15]; rfl) (Nat.le_of_ble_eq_true rfl) rfl ?_
    refine Gz.goto (off := -45) (tgt := 5) (by decide +kernel) (by decide) ?_
    refine Gz.sub (L' := [(0, .ref 102), (1, .int x1), (2, .int x2), (3, .int v12), (4, .int v14)]) [2, 3, 4, 1, 0] rfl ?_
    exact hk5 x1 x2 v12 v14 w11 h
theorem g_Ch_countDone_b5 {l : Launch} {Q : Option Value → gW → Prop} (x1 : Int32) (x2 : Int32) (x3 : Int32) (x4 : Int32) (w : gW) (h : zok eI (f_Ch_countDone_b5 x1 x2 x3 x4 w) Q) : Gz l m_Ch_countDone 3 5 [(0, .ref 102), (1, .int x1), (2, .int x2), (3, .int x3), (4, .int x4)] [] w Q := by
  have key : ∀ (n : Nat) (x1 : Int32) (x2 : Int32) (x3 : Int32) (x4 : Int32) (w : gW), zok eI (zfx (fun _ _ _ _ _ => none) (f_Ch_countDone_b5_s) n x1 x2 x3 x4 w) Q → Gz l m_Ch_countDone 3 5 [(0, .ref 102), (1, .int x1), (2, .int x2), (3, .int x3), (4, .int x4)] [] w Q := by
    intro n
    induction n with
    | zero => intro x1 x2 x3 x4 w h; exact zok_n h
    | succ n ih => intro x1 x2 x3 x4 w h; exact g_Ch_countDone_b5_s _ ih x1 x2 x3 x4 w h
  exact key zFU x1 x2 x3 x4 w h
theorem g_Ch_countDone {l : Launch} (a1 : Int32) (a2 : Int32) (w : gW) : gCt l m_Ch_countDone 3 [.ref 102, .int a1, .int a2] w eI (f_Ch_countDone a1 a2 w) := by
  intro Q h
  unfold f_Ch_countDone at h
  show Gz l m_Ch_countDone 3 0 [(0, .ref 102), (1, .int a1), (2, .int a2)] [] w Q
  refine Gz.iconst (n := 0) (v := (0 : Int32)) (pc' := 1) (by decide +kernel) rfl rfl ?_
  refine Gz.istore_n (q := 3) (pc' := 2) (L' := [(3, .int (0 : Int32)), (0, .ref 102), (1, .int a1), (2, .int a2)]) (by decide +kernel) rfl (Nat.le_of_ble_eq_true rfl) rfl ?_
  refine Gz.iconst (n := 0) (v := (0 : Int32)) (pc' := 3) (by decide +kernel) rfl rfl ?_
  refine Gz.istore (i := 4) (pc' := 5) (L' := [(4, .int (0 : Int32)), (3, .int (0 : Int32)), (0, .ref 102), (1, .int a1), (2, .int a2)]) (by decide +kernel) rfl (Nat.le_of_ble_eq_true rfl) rfl ?_
  refine Gz.sub (L' := [(0, .ref 102), (1, .int a1), (2, .int a2), (3, .int (0 : Int32)), (4, .int (0 : Int32))]) [2, 3, 4, 1, 0] rfl ?_
  exact g_Ch_countDone_b5 a1 a2 (0 : Int32) (0 : Int32) w h
def f_Ch_bestQuestion_b96 (k26 : Int32 → Int32 → Int32 → Int32 → Int32 → gW → Option (Int32 × gW)) (k41 : Int32 → Int32 → Int32 → Int32 → Int32 → Int32 → gW → Option (Int32 × gW)) (x1 : Int32) (x2 : Int32) (x3 : Int32) (x4 : Int32) (x5 : Int32) (x6 : Int32) (w : gW) : Option (Int32 × gW) :=
zl (x6 + (1 : Int32)) (fun v1 =>
k41 x1 x2 x3 x4 x5 v1 w)
def f_Ch_bestQuestion_b41_s (k26 : Int32 → Int32 → Int32 → Int32 → Int32 → gW → Option (Int32 × gW)) (k41 : Int32 → Int32 → Int32 → Int32 → Int32 → Int32 → gW → Option (Int32 × gW)) (x1 : Int32) (x2 : Int32) (x3 : Int32) (x4 : Int32) (x5 : Int32) (x6 : Int32) (w : gW) : Option (Int32 × gW) :=
zb (f_La_dayCount w) (fun v1 w2 =>
if v1 ≤ x6 then
(zl (x5 + (1 : Int32)) (fun v4 =>
k26 x1 x2 x3 x4 v4 w2))
else
(zb (f_Ch_countDone x5 (x6 + (1 : Int32)) w2) (fun v6 w7 =>
zl (if v6 < (x2 - v6) then x2 - v6 else v6) (fun v8 =>
if x4 ≤ v8 then
(f_Ch_bestQuestion_b96 k26 k41 x1 x2 x3 x4 x5 x6 w7)
else
(zl (((10 : Int32) * x5) + x6) (fun v11 =>
f_Ch_bestQuestion_b96 k26 k41 x1 x2 v11 v8 x5 x6 w7))))))
def f_Ch_bestQuestion_b41 (k26 : Int32 → Int32 → Int32 → Int32 → Int32 → gW → Option (Int32 × gW)) : Int32 → Int32 → Int32 → Int32 → Int32 → Int32 → gW → Option (Int32 × gW) := zfx (fun _ _ _ _ _ _ _ => none) (f_Ch_bestQuestion_b41_s k26) zFU
def f_Ch_bestQuestion_b117 (x3 : Int32) (w : gW) : Option (Int32 × gW) :=
some (x3, w)
def f_Ch_bestQuestion_b26_s (k26 : Int32 → Int32 → Int32 → Int32 → Int32 → gW → Option (Int32 × gW)) (x1 : Int32) (x2 : Int32) (x3 : Int32) (x4 : Int32) (x5 : Int32) (w : gW) : Option (Int32 × gW) :=
zb (f_La_deedCount w) (fun v1 w2 =>
if v1 ≤ x5 then
(if x3 = (-1 : Int32) then
(f_Ch_bestQuestion_b117 x3 w2)
else
(if x1 = 0 then
(f_Ch_bestQuestion_b117 x3 w2)
else
(some (x4, w2))))
else
(f_Ch_bestQuestion_b41 k26 x1 x2 x3 x4 x5 (0 : Int32) w2))
def f_Ch_bestQuestion_b26 : Int32 → Int32 → Int32 → Int32 → Int32 → gW → Option (Int32 × gW) := zfx (fun _ _ _ _ _ _ => none) (f_Ch_bestQuestion_b26_s) zFU
def f_Ch_bestQuestion (a1 : Int32) (w : gW) : Option (Int32 × gW) :=
zb (f_Co_fitting w) (fun v1 w2 =>
zb (f_La_words w2) (fun v3 w4 =>
zb (f_Ro_size v1 v3 w4) (fun v5 w6 =>
f_Ch_bestQuestion_b26 a1 v5 (-1 : Int32) v5 (0 : Int32) w6)))
theorem g_Ch_bestQuestion_b96 {l : Launch} {Q : Option Value → gW → Prop} (k26 : Int32 → Int32 → Int32 → Int32 → Int32 → gW → Option (Int32 × gW)) (hk26 : ∀ (x1 : Int32) (x2 : Int32) (x3 : Int32) (x4 : Int32) (x5 : Int32) (w : gW), zok eI (k26 x1 x2 x3 x4 x5 w) Q → Gz l m_Ch_bestQuestion 4 26 [(0, .ref 102), (1, .int x1), (2, .int x2), (3, .int x3), (4, .int x4), (5, .int x5)] [] w Q) (k41 : Int32 → Int32 → Int32 → Int32 → Int32 → Int32 → gW → Option (Int32 × gW)) (hk41 : ∀ (x1 : Int32) (x2 : Int32) (x3 : Int32) (x4 : Int32) (x5 : Int32) (x6 : Int32) (w : gW), zok eI (k41 x1 x2 x3 x4 x5 x6 w) Q → Gz l m_Ch_bestQuestion 4 41 [(0, .ref 102), (1, .int x1), (2, .int x2), (3, .int x3), (4, .int x4), (5, .int x5), (6, .int x6)] [] w Q) (x1 : Int32) (x2 : Int32) (x3 : Int32) (x4 : Int32) (x5 : Int32) (x6 : Int32) (w : gW) (h : zok eI (f_Ch_bestQuestion_b96 k26 k41 x1 x2 x3 x4 x5 x6 w) Q) : Gz l m_Ch_bestQuestion 4 96 [(0, .ref 102), (1, .int x1), (2, .int x2), (3, .int x3), (4, .int x4), (5, .int x5), (6, .int x6)] [] w Q := by
  unfold f_Ch_bestQuestion_b96 at h
  obtain ⟨v1, e2⟩ : ∃ y : Int32, y = x6 + (1 : Int32) := ⟨_, rfl⟩
  have h := zok_l e2 h
  refine Gz.iinc (i := 6) (n := 1) (pc' := 99) (L' := [(6, .int v1), (0, .ref 102), (1, .int x1), (2, .int x2), (3, .int x3), (4, .int x4), (5, .int x5)]) v1 (by decide +kernel) rfl 6 rfl (by rw [e2]; rfl) (Nat.le_of_ble_eq_true rfl) rfl ?_
  refine Gz.goto (off := -58) (tgt := 41) (by decide +kernel) (by decide) ?_
  refine Gz.sub (L' := [(0, .ref 102), (1, .int x1), (2, .int x2), (3, .int x3), (4, .int x4), (5, .int x5), (6, .int v1)]) [1, 2, 3, 4, 5, 6, 0] rfl ?_
  exact hk41 x1 x2 x3 x4 x5 v1 w h
theorem g_Ch_bestQuestion_b41_s {l : Launch} {Q : Option Value → gW → Prop} (k26 : Int32 → Int32 → Int32 → Int32 → Int32 → gW → Option (Int32 × gW)) (hk26 : ∀ (x1 : Int32) (x2 : Int32) (x3 : Int32) (x4 : Int32) (x5 : Int32) (w : gW), zok eI (k26 x1 x2 x3 x4 x5 w) Q → Gz l m_Ch_bestQuestion 4 26 [(0, .ref 102), (1, .int x1), (2, .int x2), (3, .int x3), (4, .int x4), (5, .int x5)] [] w Q) (k41 : Int32 → Int32 → Int32 → Int32 → Int32 → Int32 → gW → Option (Int32 × gW)) (hk41 : ∀ (x1 : Int32) (x2 : Int32) (x3 : Int32) (x4 : Int32) (x5 : Int32) (x6 : Int32) (w : gW), zok eI (k41 x1 x2 x3 x4 x5 x6 w) Q → Gz l m_Ch_bestQuestion 4 41 [(0, .ref 102), (1, .int x1), (2, .int x2), (3, .int x3), (4, .int x4), (5, .int x5), (6, .int x6)] [] w Q) (x1 : Int32) (x2 : Int32) (x3 : Int32) (x4 : Int32) (x5 : Int32) (x6 : Int32) (w : gW) (h : zok eI (f_Ch_bestQuestion_b41_s k26 k41 x1 x2 x3 x4 x5 x6 w) Q) : Gz l m_Ch_bestQuestion 4 41 [(0, .ref 102), (1, .int x1), (2, .int x2), (3, .int x3), (4, .int x4), (5, .int x5), (6, .int x6)] [] w Q := by
  unfold f_Ch_bestQuestion_b41_s at h
  refine Gz.iload (i := 6) (pc' := 43) (by decide +kernel) rfl 6 rfl ?_
  refine Gz.aload_n (q := 0) (pc' := 44) (by decide +kernel) rfl 0 rfl ?_
  refine Gz.getR (pc' := 47) (j := 0) 19 fd_Ch_18 sh_102 rfl (by decide +kernel) rfl ?_
  refine Gz.callVI (st := [.int x6]) (b := 19) (pc' := 50) [] (g_La_dayCount w) h ok_m_La_dayCount lk_Ch_71 sh_19 rfl rfl rfl (Nat.le_of_ble_eq_true rfl) (Nat.le_of_ble_eq_true rfl) (Nat.le_of_ble_eq_true rfl) (by decide +kernel) rfl (fun v1 w2 h => ?_)
  refine Gz.icmp_ge (off := 52) (tgt := 102) (pc' := 53) (by decide +kernel) (by decide) rfl (fun c3 => ?_) (fun c3 => ?_)
  · have h := zok_t c3 h
    obtain ⟨v4, e5⟩ : ∃ y : Int32, y = x5 + (1 : Int32) := ⟨_, rfl⟩
    have h := zok_l e5 h
    refine Gz.iinc (i := 5) (n := 1) (pc' := 105) (L' := [(5, .int v4), (0, .ref 102), (1, .int x1), (2, .int x2), (3, .int x3), (4, .int x4), (6, .int x6)]) v4 (by decide +kernel) rfl 5 rfl (by rw [e5]; rfl) (Nat.le_of_ble_eq_true rfl) rfl ?_
    refine Gz.goto (off := -79) (tgt := 26) (by decide +kernel) (by decide) ?_
    refine Gz.sub (L' := [(0, .ref 102), (1, .int x1), (2, .int x2), (3, .int x3), (4, .int x4), (5, .int v4)]) [1, 2, 3, 4, 5, 0] rfl ?_
    exact hk26 x1 x2 x3 x4 v4 w2 h
  · have h := zok_f c3 h
    refine Gz.aload_n (q := 0) (pc' := 54) (by decide +kernel) rfl 0 rfl ?_
    refine Gz.iload (i := 5) (pc' := 56) (by decide +kernel) rfl 5 rfl ?_
    refine Gz.iload (i := 6) (pc' := 58) (by decide +kernel) rfl 6 rfl ?_
    refine Gz.iconst (n := 1) (v := (1 : Int32)) (pc' := 59) (by decide +kernel) rfl rfl ?_
    refine Gz.iadd (pc' := 60) (by decide +kernel) rfl ?_
    refine Gz.callVI (st := []) (b := 102) (pc' := 63) [.int x5, .int (x6 + (1 : Int32))] (g_Ch_countDone x5 (x6 + (1 : Int32)) w2) h ok_m_Ch_countDone lk_Ch_74 sh_102 rfl rfl rfl (Nat.le_of_ble_eq_true rfl) (Nat.le_of_ble_eq_true rfl) (Nat.le_of_ble_eq_true rfl) (by decide +kernel) rfl (fun v6 w7 h => ?_)
    refine Gz.istore (i := 7) (pc' := 65) (L' := [(7, .int v6), (0, .ref 102), (1, .int x1), (2, .int x2), (3, .int x3), (4, .int x4), (5, .int x5), (6, .int x6)]) (by decide +kernel) rfl (Nat.le_of_ble_eq_true rfl) rfl ?_
    refine Gz.iload (i := 7) (pc' := 67) (by decide +kernel) rfl 0 rfl ?_
    refine Gz.iload_n (q := 2) (pc' := 68) (by decide +kernel) rfl 3 rfl ?_
    refine Gz.iload (i := 7) (pc' := 70) (by decide +kernel) rfl 0 rfl ?_
    refine Gz.isub (pc' := 71) (by decide +kernel) rfl ?_
    refine Gz.mmax (pc' := 74) (by decide +kernel) rfl lk_Ch_78 mmax_s math_i mmax_c (Nat.le_of_ble_eq_true rfl) (Nat.le_of_ble_eq_true rfl) ?_
    refine Gz.nmI (fun v8 e9 => ?_)
    have h := zok_l e9 h
    refine Gz.istore (i := 8) (pc' := 76) (L' := [(8, .int v8), (7, .int v6), (0, .ref 102), (1, .int x1), (2, .int x2), (3, .int x3), (4, .int x4), (5, .int x5), (6, .int x6)]) (by decide +kernel) rfl (Nat.le_of_ble_eq_true rfl) rfl ?_
    refine Gz.iload (i := 8) (pc' := 78) (by decide +kernel) rfl 0 rfl ?_
    refine Gz.iload (i := 4) (pc' := 80) (by decide +kernel) rfl 6 rfl ?_
    refine Gz.icmp_ge (off := 16) (tgt := 96) (pc' := 83) (by decide +kernel) (by decide) rfl (fun c10 => ?_) (fun c10 => ?_)
    · have h := zok_t c10 h
      refine Gz.sub (L' := [(0, .ref 102), (1, .int x1), (2, .int x2), (3, .int x3), (4, .int x4), (5, .int x5), (6, .int x6)]) [2, 3, 4, 5, 6, 7, 8] rfl ?_
      exact g_Ch_bestQuestion_b96 k26 hk26 k41 hk41 x1 x2 x3 x4 x5 x6 w7 h
    · have h := zok_f c10 h
      refine Gz.bipush (n := 10) (v := (10 : Int32)) (pc' := 85) (by decide +kernel) rfl rfl ?_
      refine Gz.iload (i := 5) (pc' := 87) (by decide +kernel) rfl 7 rfl ?_
      refine Gz.imul (pc' := 88) (by decide +kernel) rfl ?_
      refine Gz.iload (i := 6) (pc' := 90) (by decide +kernel) rfl 8 rfl ?_
      refine Gz.iadd (pc' := 91) (by decide +kernel) rfl ?_
      refine Gz.nmI (fun v11 e12 => ?_)
      have h := zok_l e12 h
      refine Gz.istore_n (q := 3) (pc' := 92) (L' := [(3, .int v11), (8, .int v8), (7, .int v6), (0, .ref 102), (1, .int x1), (2, .int x2), (4, .int x4), (5, .int x5), (6, .int x6)]) (by decide +kernel) rfl (Nat.le_of_ble_eq_true rfl) rfl ?_
      refine Gz.iload (i := 8) (pc' := 94) (by decide +kernel) rfl 1 rfl ?_
      refine Gz.istore (i := 4) (pc' := 96) (L' := [(4, .int v8), (3, .int v11), (8, .int v8), (7, .int v6), (0, .ref 102), (1, .int x1), (2, .int x2), (5, .int x5), (6, .int x6)]) (by decide +kernel) rfl (Nat.le_of_ble_eq_true rfl) rfl ?_
      refine Gz.sub (L' := [(0, .ref 102), (1, .int x1), (2, .int x2), (3, .int v11), (4, .int v8), (5, .int x5), (6, .int x6)]) [4, 5, 6, 1, 0, 7, 8] rfl ?_
      exact g_Ch_bestQuestion_b96 k26 hk26 k41 hk41 x1 x2 v11 v8 x5 x6 w7 h
theorem g_Ch_bestQuestion_b41 {l : Launch} {Q : Option Value → gW → Prop} (k26 : Int32 → Int32 → Int32 → Int32 → Int32 → gW → Option (Int32 × gW)) (hk26 : ∀ (x1 : Int32) (x2 : Int32) (x3 : Int32) (x4 : Int32) (x5 : Int32) (w : gW), zok eI (k26 x1 x2 x3 x4 x5 w) Q → Gz l m_Ch_bestQuestion 4 26 [(0, .ref 102), (1, .int x1), (2, .int x2), (3, .int x3), (4, .int x4), (5, .int x5)] [] w Q) (x1 : Int32) (x2 : Int32) (x3 : Int32) (x4 : Int32) (x5 : Int32) (x6 : Int32) (w : gW) (h : zok eI (f_Ch_bestQuestion_b41 k26 x1 x2 x3 x4 x5 x6 w) Q) : Gz l m_Ch_bestQuestion 4 41 [(0, .ref 102), (1, .int x1), (2, .int x2), (3, .int x3), (4, .int x4), (5, .int x5), (6, .int x6)] [] w Q := by
  have key : ∀ (n : Nat) (x1 : Int32) (x2 : Int32) (x3 : Int32) (x4 : Int32) (x5 : Int32) (x6 : Int32) (w : gW), zok eI (zfx (fun _ _ _ _ _ _ _ => none) (f_Ch_bestQuestion_b41_s k26) n x1 x2 x3 x4 x5 x6 w) Q → Gz l m_Ch_bestQuestion 4 41 [(0, .ref 102), (1, .int x1), (2, .int x2), (3, .int x3), (4, .int x4), (5, .int x5), (6, .int x6)] [] w Q := by
    intro n
    induction n with
    | zero => intro x1 x2 x3 x4 x5 x6 w h; exact zok_n h
    | succ n ih => intro x1 x2 x3 x4 x5 x6 w h; exact g_Ch_bestQuestion_b41_s k26 hk26 _ ih x1 x2 x3 x4 x5 x6 w h
  exact key zFU x1 x2 x3 x4 x5 x6 w h
theorem g_Ch_bestQuestion_b117 {l : Launch} {Q : Option Value → gW → Prop} (x3 : Int32) (w : gW) (h : zok eI (f_Ch_bestQuestion_b117 x3 w) Q) : Gz l m_Ch_bestQuestion 4 117 [(3, .int x3)] [] w Q := by
  unfold f_Ch_bestQuestion_b117 at h
  refine Gz.iload_n (q := 3) (pc' := 118) (by decide +kernel) rfl 0 rfl ?_
  refine Gz.goto (off := 5) (tgt := 123) (by decide +kernel) (by decide) ?_
  exact Gz.ireturn (by decide +kernel) rfl (zok_sI h)
theorem g_Ch_bestQuestion_b26_s {l : Launch} {Q : Option Value → gW → Prop} (k26 : Int32 → Int32 → Int32 → Int32 → Int32 → gW → Option (Int32 × gW)) (hk26 : ∀ (x1 : Int32) (x2 : Int32) (x3 : Int32) (x4 : Int32) (x5 : Int32) (w : gW), zok eI (k26 x1 x2 x3 x4 x5 w) Q → Gz l m_Ch_bestQuestion 4 26 [(0, .ref 102), (1, .int x1), (2, .int x2), (3, .int x3), (4, .int x4), (5, .int x5)] [] w Q) (x1 : Int32) (x2 : Int32) (x3 : Int32) (x4 : Int32) (x5 : Int32) (w : gW) (h : zok eI (f_Ch_bestQuestion_b26_s k26 x1 x2 x3 x4 x5 w) Q) : Gz l m_Ch_bestQuestion 4 26 [(0, .ref 102), (1, .int x1), (2, .int x2), (3, .int x3), (4, .int x4), (5, .int x5)] [] w Q := by
  unfold f_Ch_bestQuestion_b26_s at h
  refine Gz.iload (i := 5) (pc' := 28) (by decide +kernel) rfl 5 rfl ?_
  refine Gz.aload_n (q := 0) (pc' := 29) (by decide +kernel) rfl 0 rfl ?_
  refine Gz.getR (pc' := 32) (j := 0) 19 fd_Ch_18 sh_102 rfl (by decide +kernel) rfl ?_
  refine Gz.callVI (st := [.int x5]) (b := 19) (pc' := 35) [] (g_La_deedCount w) h ok_m_La_deedCount lk_Ch_68 sh_19 rfl rfl rfl (Nat.le_of_ble_eq_true rfl) (Nat.le_of_ble_eq_true rfl) (Nat.le_of_ble_eq_true rfl) (by decide +kernel) rfl (fun v1 w2 h => ?_)
  refine Gz.icmp_ge (off := 73) (tgt := 108) (pc' := 38) (by decide +kernel) (by decide) rfl (fun c3 => ?_) (fun c3 => ?_)
  · have h := zok_t c3 h
    refine Gz.iload_n (q := 3) (pc' := 109) (by decide +kernel) rfl 3 rfl ?_
    refine Gz.iconst (n := -1) (v := (-1 : Int32)) (pc' := 110) (by decide +kernel) rfl rfl ?_
    refine Gz.icmp_eq (off := 7) (tgt := 117) (pc' := 113) (by decide +kernel) (by decide) rfl (fun c4 => ?_) (fun c4 => ?_)
    · have h := zok_t c4 h
      refine Gz.sub (L' := [(3, .int x3)]) [3] rfl ?_
      exact g_Ch_bestQuestion_b117 x3 w2 h
    · have h := zok_f c4 h
      refine Gz.iload_n (q := 1) (pc' := 114) (by decide +kernel) rfl 1 rfl ?_
      refine Gz.if_ne (off := 7) (tgt := 121) (pc' := 117) (by decide +kernel) (by decide) rfl (fun c5 => ?_) (fun c5 => ?_)
      · have h := zok_f c5 h
        refine Gz.iload (i := 4) (pc' := 123) (by decide +kernel) rfl 4 rfl ?_
        exact Gz.ireturn (by decide +kernel) rfl (zok_sI h)
      · have h := zok_t c5 h
        refine Gz.sub (L' := [(3, .int x3)]) [3] rfl ?_
        exact g_Ch_bestQuestion_b117 x3 w2 h
  · have h := zok_f c3 h
    refine Gz.iconst (n := 0) (v := (0 : Int32)) (pc' := 39) (by decide +kernel) rfl rfl ?_
    refine Gz.istore (i := 6) (pc' := 41) (L' := [(6, .int (0 : Int32)), (0, .ref 102), (1, .int x1), (2, .int x2), (3, .int x3), (4, .int x4), (5, .int x5)]) (by decide +kernel) rfl (Nat.le_of_ble_eq_true rfl) rfl ?_
    refine Gz.sub (L' := [(0, .ref 102), (1, .int x1), (2, .int x2), (3, .int x3), (4, .int x4), (5, .int x5), (6, .int (0 : Int32))]) [1, 2, 3, 4, 5, 6, 0] rfl ?_
    exact g_Ch_bestQuestion_b41 k26 hk26 x1 x2 x3 x4 x5 (0 : Int32) w2 h
theorem g_Ch_bestQuestion_b26 {l : Launch} {Q : Option Value → gW → Prop} (x1 : Int32) (x2 : Int32) (x3 : Int32) (x4 : Int32) (x5 : Int32) (w : gW) (h : zok eI (f_Ch_bestQuestion_b26 x1 x2 x3 x4 x5 w) Q) : Gz l m_Ch_bestQuestion 4 26 [(0, .ref 102), (1, .int x1), (2, .int x2), (3, .int x3), (4, .int x4), (5, .int x5)] [] w Q := by
  have key : ∀ (n : Nat) (x1 : Int32) (x2 : Int32) (x3 : Int32) (x4 : Int32) (x5 : Int32) (w : gW), zok eI (zfx (fun _ _ _ _ _ _ => none) (f_Ch_bestQuestion_b26_s) n x1 x2 x3 x4 x5 w) Q → Gz l m_Ch_bestQuestion 4 26 [(0, .ref 102), (1, .int x1), (2, .int x2), (3, .int x3), (4, .int x4), (5, .int x5)] [] w Q := by
    intro n
    induction n with
    | zero => intro x1 x2 x3 x4 x5 w h; exact zok_n h
    | succ n ih => intro x1 x2 x3 x4 x5 w h; exact g_Ch_bestQuestion_b26_s _ ih x1 x2 x3 x4 x5 w h
  exact key zFU x1 x2 x3 x4 x5 w h
theorem g_Ch_bestQuestion {l : Launch} (a1 : Int32) (w : gW) : gCt l m_Ch_bestQuestion 4 [.ref 102, .int a1] w eI (f_Ch_bestQuestion a1 w) := by
  intro Q h
  unfold f_Ch_bestQuestion at h
  show Gz l m_Ch_bestQuestion 4 0 [(0, .ref 102), (1, .int a1)] [] w Q
  refine Gz.aload_n (q := 0) (pc' := 1) (by decide +kernel) rfl 0 rfl ?_
  refine Gz.getR (pc' := 4) (j := 2) 73 fd_Ch_26 sh_102 rfl (by decide +kernel) rfl ?_
  refine Gz.callVR (st := []) (b := 73) (pc' := 7) [] (g_Co_fitting w) h ok_m_Co_fitting lk_Ch_36 sh_73 rfl rfl rfl (Nat.le_of_ble_eq_true rfl) (Nat.le_of_ble_eq_true rfl) (Nat.le_of_ble_eq_true rfl) (by decide +kernel) rfl (fun v1 w2 h => ?_)
  refine Gz.aload_n (q := 0) (pc' := 8) (by decide +kernel) rfl 0 rfl ?_
  refine Gz.getR (pc' := 11) (j := 0) 19 fd_Ch_18 sh_102 rfl (by decide +kernel) rfl ?_
  refine Gz.callVI (st := [.ref v1]) (b := 19) (pc' := 14) [] (g_La_words w2) h ok_m_La_words lk_Ch_58 sh_19 rfl rfl rfl (Nat.le_of_ble_eq_true rfl) (Nat.le_of_ble_eq_true rfl) (Nat.le_of_ble_eq_true rfl) (by decide +kernel) rfl (fun v3 w4 h => ?_)
  refine Gz.callSI (st := []) (pc' := 17) [.ref v1, .int v3] (g_Ro_size v1 v3 w4) h ok_m_Ro_size lk_Ch_64 rfl (Nat.le_of_ble_eq_true rfl) (Nat.le_of_ble_eq_true rfl) (Nat.le_of_ble_eq_true rfl) (by decide +kernel) rfl (fun v5 w6 h => ?_)
  refine Gz.istore_n (q := 2) (pc' := 18) (L' := [(2, .int v5), (0, .ref 102), (1, .int a1)]) (by decide +kernel) rfl (Nat.le_of_ble_eq_true rfl) rfl ?_
  refine Gz.iconst (n := -1) (v := (-1 : Int32)) (pc' := 19) (by decide +kernel) rfl rfl ?_
  refine Gz.istore_n (q := 3) (pc' := 20) (L' := [(3, .int (-1 : Int32)), (2, .int v5), (0, .ref 102), (1, .int a1)]) (by decide +kernel) rfl (Nat.le_of_ble_eq_true rfl) rfl ?_
  refine Gz.iload_n (q := 2) (pc' := 21) (by decide +kernel) rfl 1 rfl ?_
  refine Gz.istore (i := 4) (pc' := 23) (L' := [(4, .int v5), (3, .int (-1 : Int32)), (2, .int v5), (0, .ref 102), (1, .int a1)]) (by decide +kernel) rfl (Nat.le_of_ble_eq_true rfl) rfl ?_
  refine Gz.iconst (n := 0) (v := (0 : Int32)) (pc' := 24) (by decide +kernel) rfl rfl ?_
  refine Gz.istore (i := 5) (pc' := 26) (L' := [(5, .int (0 : Int32)), (4, .int v5), (3, .int (-1 : Int32)), (2, .int v5), (0, .ref 102), (1, .int a1)]) (by decide +kernel) rfl (Nat.le_of_ble_eq_true rfl) rfl ?_
  refine Gz.sub (L' := [(0, .ref 102), (1, .int a1), (2, .int v5), (3, .int (-1 : Int32)), (4, .int v5), (5, .int (0 : Int32))]) [4, 5, 3, 2, 1, 0] rfl ?_
  exact g_Ch_bestQuestion_b26 a1 v5 (-1 : Int32) v5 (0 : Int32) w6 h
def f_X_question (a1 : Int32) (w : gW) : Option (Int32 × gW) :=
zb (f_La_isThere w) (fun v1 w2 =>
if v1 = 0 then
(some ((-1 : Int32), w2))
else
(zb (f_X_isZeroOrOne a1 w2) (fun v4 w5 =>
if v4 = 0 then
(some ((-1 : Int32), w5))
else
(zb (f_Ch_bestQuestion a1 w5) (fun v7 w8 =>
some (v7, w8))))))
theorem g_X_question {l : Launch} (a1 : Int32) (w : gW) : gCt l m_X_question 5 [.ref 0, .int a1] w eI (f_X_question a1 w) := by
  intro Q h
  unfold f_X_question at h
  show Gz l m_X_question 5 0 [(0, .ref 0), (1, .int a1)] [] w Q
  refine Gz.aload_n (q := 0) (pc' := 1) (by decide +kernel) rfl 0 rfl ?_
  refine Gz.getR (pc' := 4) (j := 3) 19 fd_X_33 sh_0 rfl (by decide +kernel) rfl ?_
  refine Gz.callVI (st := []) (b := 19) (pc' := 7) [] (g_La_isThere w) h ok_m_La_isThere lk_X_176 sh_19 rfl rfl rfl (Nat.le_of_ble_eq_true rfl) (Nat.le_of_ble_eq_true rfl) (Nat.le_of_ble_eq_true rfl) (by decide +kernel) rfl (fun v1 w2 h => ?_)
  refine Gz.if_eq (off := 21) (tgt := 28) (pc' := 10) (by decide +kernel) (by decide) rfl (fun c3 => ?_) (fun c3 => ?_)
  · have h := zok_t c3 h
    refine Gz.iconst (n := -1) (v := (-1 : Int32)) (pc' := 29) (by decide +kernel) rfl rfl ?_
    exact Gz.ireturn (by decide +kernel) rfl (zok_sI h)
  · have h := zok_f c3 h
    refine Gz.iload_n (q := 1) (pc' := 11) (by decide +kernel) rfl 1 rfl ?_
    refine Gz.callSI (st := []) (pc' := 14) [.int a1] (g_X_isZeroOrOne a1 w2) h ok_m_X_isZeroOrOne lk_X_228 rfl (Nat.le_of_ble_eq_true rfl) (Nat.le_of_ble_eq_true rfl) (Nat.le_of_ble_eq_true rfl) (by decide +kernel) rfl (fun v4 w5 h => ?_)
    refine Gz.if_eq (off := 14) (tgt := 28) (pc' := 17) (by decide +kernel) (by decide) rfl (fun c6 => ?_) (fun c6 => ?_)
    · have h := zok_t c6 h
      refine Gz.iconst (n := -1) (v := (-1 : Int32)) (pc' := 29) (by decide +kernel) rfl rfl ?_
      exact Gz.ireturn (by decide +kernel) rfl (zok_sI h)
    · have h := zok_f c6 h
      refine Gz.aload_n (q := 0) (pc' := 18) (by decide +kernel) rfl 0 rfl ?_
      refine Gz.getR (pc' := 21) (j := 9) 102 fd_X_79 sh_0 rfl (by decide +kernel) rfl ?_
      refine Gz.iload_n (q := 1) (pc' := 22) (by decide +kernel) rfl 1 rfl ?_
      refine Gz.callVI (st := []) (b := 102) (pc' := 25) [.int a1] (g_Ch_bestQuestion a1 w5) h ok_m_Ch_bestQuestion lk_X_273 sh_102 rfl rfl rfl (Nat.le_of_ble_eq_true rfl) (Nat.le_of_ble_eq_true rfl) (Nat.le_of_ble_eq_true rfl) (by decide +kernel) rfl (fun v7 w8 h => ?_)
      refine Gz.goto (off := 4) (tgt := 29) (by decide +kernel) (by decide) ?_
      exact Gz.ireturn (by decide +kernel) rfl (zok_sI h)
