def f_M_doesImply_b58 (k3 : Int32 → Int32 → Int32 → Int32 → gW → Option (Int32 × gW)) (x1 : Int32) (x2 : Int32) (x3 : Int32) (x4 : Int32) (w : gW) : Option (Int32 × gW) :=
zl (x4 + (1 : Int32)) (fun v1 =>
k3 x1 x2 x3 v1 w)
def f_M_doesImply_b3_s (k3 : Int32 → Int32 → Int32 → Int32 → gW → Option (Int32 × gW)) (x1 : Int32) (x2 : Int32) (x3 : Int32) (x4 : Int32) (w : gW) : Option (Int32 × gW) :=
if (w.1 107 26) ≤ x4 then
(some ((1 : Int32), w))
else
(if inb x4 16807 then
zb (f_M_live (w.1 118 (ix x4)) w) (fun _ w3 =>
zb (f_M_isPossible w3) (fun v4 w5 =>
if v4 = 0 then
(f_M_doesImply_b58 k3 x1 x2 x3 x4 w5)
else
(zb (f_M_all w5) (fun v7 w8 =>
zb (f_M_keeps x1 x3 v7 w8) (fun v9 w10 =>
if v9 = 0 then
(f_M_doesImply_b58 k3 x1 x2 x3 x4 w10)
else
(zb (f_M_all w10) (fun v12 w13 =>
zb (f_M_keeps x2 x3 v12 w13) (fun v14 w15 =>
if v14 = 0 then
(some ((0 : Int32), w15))
else
(f_M_doesImply_b58 k3 x1 x2 x3 x4 w15)))))))))
else none)
def f_M_doesImply_b3 : Int32 → Int32 → Int32 → Int32 → gW → Option (Int32 × gW) := zfx (fun _ _ _ _ _ => none) (f_M_doesImply_b3_s) zFU
def f_M_doesImply (a1 : Int32) (a2 : Int32) (a3 : Int32) (w : gW) : Option (Int32 × gW) :=
f_M_doesImply_b3 a1 a2 a3 (0 : Int32) w
theorem g_M_doesImply_b58 {l : Launch} {Q : Option Value → gW → Prop} (k3 : Int32 → Int32 → Int32 → Int32 → gW → Option (Int32 × gW)) (hk3 : ∀ (x1 : Int32) (x2 : Int32) (x3 : Int32) (x4 : Int32) (w : gW), zok eI (k3 x1 x2 x3 x4 w) Q → Gz l m_M_doesImply 55 3 [(0, .ref 107), (1, .int x1), (2, .int x2), (3, .int x3), (4, .int x4)] [] w Q) (x1 : Int32) (x2 : Int32) (x3 : Int32) (x4 : Int32) (w : gW) (h : zok eI (f_M_doesImply_b58 k3 x1 x2 x3 x4 w) Q) : Gz l m_M_doesImply 55 58 [(0, .ref 107), (1, .int x1), (2, .int x2), (3, .int x3), (4, .int x4)] [] w Q := by
  unfold f_M_doesImply_b58 at h
  obtain ⟨v1, e2⟩ : ∃ y : Int32, y = x4 + (1 : Int32) := ⟨_, rfl⟩
  have h := zok_l e2 h
  refine Gz.iinc (i := 4) (n := 1) (pc' := 61) (L' := [(4, .int v1), (0, .ref 107), (1, .int x1), (2, .int x2), (3, .int x3)]) v1 (by decide +kernel) rfl 4 rfl (by rw [e2]; rfl) (Nat.le_of_ble_eq_true rfl) rfl ?_
  refine Gz.goto (off := -58) (tgt := 3) (by decide +kernel) (by decide) ?_
  refine Gz.sub (L' := [(0, .ref 107), (1, .int x1), (2, .int x2), (3, .int x3), (4, .int v1)]) [1, 2, 3, 4, 0] rfl ?_
  exact hk3 x1 x2 x3 v1 w h
theorem g_M_doesImply_b3_s {l : Launch} {Q : Option Value → gW → Prop} (k3 : Int32 → Int32 → Int32 → Int32 → gW → Option (Int32 × gW)) (hk3 : ∀ (x1 : Int32) (x2 : Int32) (x3 : Int32) (x4 : Int32) (w : gW), zok eI (k3 x1 x2 x3 x4 w) Q → Gz l m_M_doesImply 55 3 [(0, .ref 107), (1, .int x1), (2, .int x2), (3, .int x3), (4, .int x4)] [] w Q) (x1 : Int32) (x2 : Int32) (x3 : Int32) (x4 : Int32) (w : gW) (h : zok eI (f_M_doesImply_b3_s k3 x1 x2 x3 x4 w) Q) : Gz l m_M_doesImply 55 3 [(0, .ref 107), (1, .int x1), (2, .int x2), (3, .int x3), (4, .int x4)] [] w Q := by
  unfold f_M_doesImply_b3_s at h
  refine Gz.iload (i := 4) (pc' := 5) (by decide +kernel) rfl 4 rfl ?_
  refine Gz.aload_n (q := 0) (pc' := 6) (by decide +kernel) rfl 0 rfl ?_
  refine Gz.getI (pc' := 9) (j := 26) fd_M_224 sh_107 rfl (by decide +kernel) rfl ?_
  refine Gz.icmp_ge (off := 55) (tgt := 64) (pc' := 12) (by decide +kernel) (by decide) rfl (fun c1 => ?_) (fun c1 => ?_)
  · have h := zok_t c1 h
    refine Gz.iconst (n := 1) (v := (1 : Int32)) (pc' := 65) (by decide +kernel) rfl rfl ?_
    exact Gz.zreturn (by decide +kernel) rfl (by decide) (zok_sI h)
  · have h := zok_f c1 h
    refine Gz.aload_n (q := 0) (pc' := 13) (by decide +kernel) rfl 0 rfl ?_
    refine Gz.aload_n (q := 0) (pc' := 14) (by decide +kernel) rfl 0 rfl ?_
    refine Gz.getR (pc' := 17) (j := 25) 118 fd_M_44 sh_107 rfl (by decide +kernel) rfl ?_
    refine Gz.iload (i := 4) (pc' := 19) (by decide +kernel) rfl 4 rfl ?_
    obtain ⟨c2, h⟩ := zok_c h
    refine Gz.iald (pc' := 20) (n := 16807) (by decide +kernel) rfl rfl c2 ?_
    refine Gz.callVV (st := []) (b := 107) (pc' := 23) [.int (w.1 118 (ix x4))] (g_M_live (w.1 118 (ix x4)) w) h ok_m_M_live lk_M_231 sh_107 rfl rfl rfl (Nat.le_of_ble_eq_true rfl) (Nat.le_of_ble_eq_true rfl) (Nat.le_of_ble_eq_true rfl) (by decide +kernel) rfl (fun _ w3 h => ?_)
    refine Gz.aload_n (q := 0) (pc' := 24) (by decide +kernel) rfl 0 rfl ?_
    refine Gz.callVI (st := []) (b := 107) (pc' := 27) [] (g_M_isPossible w3) h ok_m_M_isPossible lk_M_258 sh_107 rfl rfl rfl (Nat.le_of_ble_eq_true rfl) (Nat.le_of_ble_eq_true rfl) (Nat.le_of_ble_eq_true rfl) (by decide +kernel) rfl (fun v4 w5 h => ?_)
    refine Gz.if_eq (off := 31) (tgt := 58) (pc' := 30) (by decide +kernel) (by decide) rfl (fun c6 => ?_) (fun c6 => ?_)
    · have h := zok_t c6 h
      exact g_M_doesImply_b58 k3 hk3 x1 x2 x3 x4 w5 h
    · have h := zok_f c6 h
      refine Gz.aload_n (q := 0) (pc' := 31) (by decide +kernel) rfl 0 rfl ?_
      refine Gz.iload_n (q := 1) (pc' := 32) (by decide +kernel) rfl 1 rfl ?_
      refine Gz.iload_n (q := 3) (pc' := 33) (by decide +kernel) rfl 3 rfl ?_
      refine Gz.aload_n (q := 0) (pc' := 34) (by decide +kernel) rfl 0 rfl ?_
      refine Gz.callVI (st := [.int x3, .int x1, .ref 107]) (b := 107) (pc' := 37) [] (g_M_all w5) h ok_m_M_all lk_M_261 sh_107 rfl rfl rfl (Nat.le_of_ble_eq_true rfl) (Nat.le_of_ble_eq_true rfl) (Nat.le_of_ble_eq_true rfl) (by decide +kernel) rfl (fun v7 w8 h => ?_)
      refine Gz.callVI (st := []) (b := 107) (pc' := 40) [.int x1, .int x3, .int v7] (g_M_keeps x1 x3 v7 w8) h ok_m_M_keeps lk_M_254 sh_107 rfl rfl rfl (Nat.le_of_ble_eq_true rfl) (Nat.le_of_ble_eq_true rfl) (Nat.le_of_ble_eq_true rfl) (by decide +kernel) rfl (fun v9 w10 h => ?_)
      refine Gz.if_eq (off := 18) (tgt := 58) (pc' := 43) (by decide +kernel) (by decide) rfl (fun c11 => ?_) (fun c11 => ?_)
      · have h := zok_t c11 h
        exact g_M_doesImply_b58 k3 hk3 x1 x2 x3 x4 w10 h
      · have h := zok_f c11 h
        refine Gz.aload_n (q := 0) (pc' := 44) (by decide +kernel) rfl 0 rfl ?_
        refine Gz.iload_n (q := 2) (pc' := 45) (by decide +kernel) rfl 2 rfl ?_
        refine Gz.iload_n (q := 3) (pc' := 46) (by decide +kernel) rfl 3 rfl ?_
        refine Gz.aload_n (q := 0) (pc' := 47) (by decide +kernel) rfl 0 rfl ?_
        refine Gz.callVI (st := [.int x3, .int x2, .ref 107]) (b := 107) (pc' := 50) [] (g_M_all w10) h ok_m_M_all lk_M_261 sh_107 rfl rfl rfl (Nat.le_of_ble_eq_true rfl) (Nat.le_of_ble_eq_true rfl) (Nat.le_of_ble_eq_true rfl) (by decide +kernel) rfl (fun v12 w13 h => ?_)
        refine Gz.callVI (st := []) (b := 107) (pc' := 53) [.int x2, .int x3, .int v12] (g_M_keeps x2 x3 v12 w13) h ok_m_M_keeps lk_M_254 sh_107 rfl rfl rfl (Nat.le_of_ble_eq_true rfl) (Nat.le_of_ble_eq_true rfl) (Nat.le_of_ble_eq_true rfl) (by decide +kernel) rfl (fun v14 w15 h => ?_)
        refine Gz.if_ne (off := 5) (tgt := 58) (pc' := 56) (by decide +kernel) (by decide) rfl (fun c16 => ?_) (fun c16 => ?_)
        · have h := zok_f c16 h
          exact g_M_doesImply_b58 k3 hk3 x1 x2 x3 x4 w15 h
        · have h := zok_t c16 h
          refine Gz.iconst (n := 0) (v := (0 : Int32)) (pc' := 57) (by decide +kernel) rfl rfl ?_
          exact Gz.zreturn (by decide +kernel) rfl (by decide) (zok_sI h)
theorem g_M_doesImply_b3 {l : Launch} {Q : Option Value → gW → Prop} (x1 : Int32) (x2 : Int32) (x3 : Int32) (x4 : Int32) (w : gW) (h : zok eI (f_M_doesImply_b3 x1 x2 x3 x4 w) Q) : Gz l m_M_doesImply 55 3 [(0, .ref 107), (1, .int x1), (2, .int x2), (3, .int x3), (4, .int x4)] [] w Q := by
  have key : ∀ (n : Nat) (x1 : Int32) (x2 : Int32) (x3 : Int32) (x4 : Int32) (w : gW), zok eI (zfx (fun _ _ _ _ _ => none) (f_M_doesImply_b3_s) n x1 x2 x3 x4 w) Q → Gz l m_M_doesImply 55 3 [(0, .ref 107), (1, .int x1), (2, .int x2), (3, .int x3), (4, .int x4)] [] w Q := by
    intro n
    induction n with
    | zero => intro x1 x2 x3 x4 w h; exact zok_n h
    | succ n ih => intro x1 x2 x3 x4 w h; exact g_M_doesImply_b3_s _ ih x1 x2 x3 x4 w h
  exact key zFU x1 x2 x3 x4 w h
theorem g_M_doesImply {l : Launch} (a1 : Int32) (a2 : Int32) (a3 : Int32) (w : gW) : gCt l m_M_doesImply 55 [.ref 107, .int a1, .int a2, .int a3] w eI (f_M_doesImply a1 a2 a3 w) := by
  intro Q h
  unfold f_M_doesImply at h
  show Gz l m_M_doesImply 55 0 [(0, .ref 107), (1, .int a1), (2, .int a2), (3, .int a3)] [] w Q
  refine Gz.iconst (n := 0) (v := (0 : Int32)) (pc' := 1) (by decide +kernel) rfl rfl ?_
  refine Gz.istore (i := 4) (pc' := 3) (L' := [(4, .int (0 : Int32)), (0, .ref 107), (1, .int a1), (2, .int a2), (3, .int a3)]) (by decide +kernel) rfl (Nat.le_of_ble_eq_true rfl) rfl ?_
  refine Gz.sub (L' := [(0, .ref 107), (1, .int a1), (2, .int a2), (3, .int a3), (4, .int (0 : Int32))]) [1, 2, 3, 4, 0] rfl ?_
  exact g_M_doesImply_b3 a1 a2 a3 (0 : Int32) w h
def f_M_implies_b29 (w : gW) : Option (Int32 × gW) :=
some ((-1 : Int32), w)
def f_M_implies (a1 : Int32) (a2 : Int32) (a3 : Int32) (w : gW) : Option (Int32 × gW) :=
zl (zsI w 107 0 (0 : Int32)) (fun w1 =>
zb (f_M_isOath a1 w1) (fun v3 w4 =>
if v3 = 0 then
(f_M_implies_b29 w4)
else
(zb (f_M_isOath a2 w4) (fun v6 w7 =>
if v6 = 0 then
(f_M_implies_b29 w7)
else
(zb (f_M_isSeenDay a3 w7) (fun v9 w10 =>
if v9 = 0 then
(f_M_implies_b29 w10)
else
(zb (f_M_doesImply a1 a2 a3 w10) (fun v12 w13 =>
if v12 = 0 then
(some ((0 : Int32), w13))
else
(some ((1 : Int32), w13))))))))))
theorem g_M_implies_b29 {l : Launch} {Q : Option Value → gW → Prop} (w : gW) (h : zok eI (f_M_implies_b29 w) Q) : Gz l m_M_implies 56 29 [] [] w Q := by
  unfold f_M_implies_b29 at h
  refine Gz.iconst (n := -1) (v := (-1 : Int32)) (pc' := 30) (by decide +kernel) rfl rfl ?_
  refine Gz.goto (off := 18) (tgt := 48) (by decide +kernel) (by decide) ?_
  exact Gz.ireturn (by decide +kernel) rfl (zok_sI h)
theorem g_M_implies {l : Launch} (a1 : Int32) (a2 : Int32) (a3 : Int32) (w : gW) : gCt l m_M_implies 56 [.ref 107, .int a1, .int a2, .int a3] w eI (f_M_implies a1 a2 a3 w) := by
  intro Q h
  unfold f_M_implies at h
  show Gz l m_M_implies 56 0 [(0, .ref 107), (1, .int a1), (2, .int a2), (3, .int a3)] [] w Q
  refine Gz.aload_n (q := 0) (pc' := 1) (by decide +kernel) rfl 0 rfl ?_
  refine Gz.iconst (n := 0) (v := (0 : Int32)) (pc' := 2) (by decide +kernel) rfl rfl ?_
  refine Gz.putI (pc' := 5) (j := 0) fd_M_96 sh_107 rfl (by decide +kernel) rfl ?_
  refine Gz.nmW (fun w1 e2 => ?_)
  have h := zok_l e2 h
  refine Gz.aload_n (q := 0) (pc' := 6) (by decide +kernel) rfl 0 rfl ?_
  refine Gz.iload_n (q := 1) (pc' := 7) (by decide +kernel) rfl 1 rfl ?_
  refine Gz.callVI (st := []) (b := 107) (pc' := 10) [.int a1] (g_M_isOath a1 w1) h ok_m_M_isOath lk_M_241 sh_107 rfl rfl rfl (Nat.le_of_ble_eq_true rfl) (Nat.le_of_ble_eq_true rfl) (Nat.le_of_ble_eq_true rfl) (by decide +kernel) rfl (fun v3 w4 h => ?_)
  refine Gz.if_eq (off := 19) (tgt := 29) (pc' := 13) (by decide +kernel) (by decide) rfl (fun c5 => ?_) (fun c5 => ?_)
  · have h := zok_t c5 h
    refine Gz.sub (L' := []) [] rfl ?_
    exact g_M_implies_b29 w4 h
  · have h := zok_f c5 h
    refine Gz.aload_n (q := 0) (pc' := 14) (by decide +kernel) rfl 0 rfl ?_
    refine Gz.iload_n (q := 2) (pc' := 15) (by decide +kernel) rfl 2 rfl ?_
    refine Gz.callVI (st := []) (b := 107) (pc' := 18) [.int a2] (g_M_isOath a2 w4) h ok_m_M_isOath lk_M_241 sh_107 rfl rfl rfl (Nat.le_of_ble_eq_true rfl) (Nat.le_of_ble_eq_true rfl) (Nat.le_of_ble_eq_true rfl) (by decide +kernel) rfl (fun v6 w7 h => ?_)
    refine Gz.if_eq (off := 11) (tgt := 29) (pc' := 21) (by decide +kernel) (by decide) rfl (fun c8 => ?_) (fun c8 => ?_)
    · have h := zok_t c8 h
      refine Gz.sub (L' := []) [] rfl ?_
      exact g_M_implies_b29 w7 h
    · have h := zok_f c8 h
      refine Gz.aload_n (q := 0) (pc' := 22) (by decide +kernel) rfl 0 rfl ?_
      refine Gz.iload_n (q := 3) (pc' := 23) (by decide +kernel) rfl 3 rfl ?_
      refine Gz.callVI (st := []) (b := 107) (pc' := 26) [.int a3] (g_M_isSeenDay a3 w7) h ok_m_M_isSeenDay lk_M_244 sh_107 rfl rfl rfl (Nat.le_of_ble_eq_true rfl) (Nat.le_of_ble_eq_true rfl) (Nat.le_of_ble_eq_true rfl) (by decide +kernel) rfl (fun v9 w10 h => ?_)
      refine Gz.if_ne (off := 7) (tgt := 33) (pc' := 29) (by decide +kernel) (by decide) rfl (fun c11 => ?_) (fun c11 => ?_)
      · have h := zok_f c11 h
        refine Gz.aload_n (q := 0) (pc' := 34) (by decide +kernel) rfl 0 rfl ?_
        refine Gz.iload_n (q := 1) (pc' := 35) (by decide +kernel) rfl 1 rfl ?_
        refine Gz.iload_n (q := 2) (pc' := 36) (by decide +kernel) rfl 2 rfl ?_
        refine Gz.iload_n (q := 3) (pc' := 37) (by decide +kernel) rfl 3 rfl ?_
        refine Gz.callVI (st := []) (b := 107) (pc' := 40) [.int a1, .int a2, .int a3] (g_M_doesImply a1 a2 a3 w10) h ok_m_M_doesImply lk_M_366 sh_107 rfl rfl rfl (Nat.le_of_ble_eq_true rfl) (Nat.le_of_ble_eq_true rfl) (Nat.le_of_ble_eq_true rfl) (by decide +kernel) rfl (fun v12 w13 h => ?_)
        refine Gz.if_eq (off := 7) (tgt := 47) (pc' := 43) (by decide +kernel) (by decide) rfl (fun c14 => ?_) (fun c14 => ?_)
        · have h := zok_t c14 h
          refine Gz.iconst (n := 0) (v := (0 : Int32)) (pc' := 48) (by decide +kernel) rfl rfl ?_
          exact Gz.ireturn (by decide +kernel) rfl (zok_sI h)
        · have h := zok_f c14 h
          refine Gz.iconst (n := 1) (v := (1 : Int32)) (pc' := 44) (by decide +kernel) rfl rfl ?_
          refine Gz.goto (off := 4) (tgt := 48) (by decide +kernel) (by decide) ?_
          exact Gz.ireturn (by decide +kernel) rfl (zok_sI h)
      · have h := zok_t c11 h
        refine Gz.sub (L' := []) [] rfl ?_
        exact g_M_implies_b29 w10 h
def f_M_same_b68 (k28 : Int32 → Int32 → Int32 → Int32 → gW → Option (Int32 × gW)) (x1 : Int32) (x2 : Int32) (x4 : Int32) (s0 : Int32) (s1 : Int32) (w : gW) : Option (Int32 × gW) :=
zl (s0 ||| s1) (fun v1 =>
zl (x4 + (1 : Int32)) (fun v3 =>
k28 x1 x2 v1 v3 w))
def f_M_same_b67 (k28 : Int32 → Int32 → Int32 → Int32 → gW → Option (Int32 × gW)) (x1 : Int32) (x2 : Int32) (x4 : Int32) (s0 : Int32) (w : gW) : Option (Int32 × gW) :=
f_M_same_b68 k28 x1 x2 x4 s0 (0 : Int32) w
def f_M_same_b28_s (k28 : Int32 → Int32 → Int32 → Int32 → gW → Option (Int32 × gW)) (x1 : Int32) (x2 : Int32) (x3 : Int32) (x4 : Int32) (w : gW) : Option (Int32 × gW) :=
if (w.1 107 6) ≤ x4 then
(some (x3, w))
else
(zb (f_M_doesImply x1 x4 x2 w) (fun v2 w3 =>
if v2 = 0 then
(f_M_same_b67 k28 x1 x2 x4 x3 w3)
else
(zb (f_M_doesImply x4 x1 x2 w3) (fun v5 w6 =>
if v5 = 0 then
(f_M_same_b67 k28 x1 x2 x4 x3 w6)
else
(f_M_same_b68 k28 x1 x2 x4 x3 ((1 : Int32) <<< (x4 &&& 31)) w6)))))
def f_M_same_b28 : Int32 → Int32 → Int32 → Int32 → gW → Option (Int32 × gW) := zfx (fun _ _ _ _ _ => none) (f_M_same_b28_s) zFU
def f_M_same (a1 : Int32) (a2 : Int32) (w : gW) : Option (Int32 × gW) :=
zl (zsI w 107 0 (0 : Int32)) (fun w1 =>
zb (f_M_isOath a1 w1) (fun v3 w4 =>
if v3 = 0 then
(some ((-1 : Int32), w4))
else
(zb (f_M_isSeenDay a2 w4) (fun v6 w7 =>
if v6 = 0 then
(some ((-1 : Int32), w7))
else
(f_M_same_b28 a1 a2 (0 : Int32) (0 : Int32) w7)))))
theorem g_M_same_b68 {l : Launch} {Q : Option Value → gW → Prop} (k28 : Int32 → Int32 → Int32 → Int32 → gW → Option (Int32 × gW)) (hk28 : ∀ (x1 : Int32) (x2 : Int32) (x3 : Int32) (x4 : Int32) (w : gW), zok eI (k28 x1 x2 x3 x4 w) Q → Gz l m_M_same 56 28 [(0, .ref 107), (1, .int x1), (2, .int x2), (3, .int x3), (4, .int x4)] [] w Q) (x1 : Int32) (x2 : Int32) (x4 : Int32) (s0 : Int32) (s1 : Int32) (w : gW) (h : zok eI (f_M_same_b68 k28 x1 x2 x4 s0 s1 w) Q) : Gz l m_M_same 56 68 [(0, .ref 107), (1, .int x1), (2, .int x2), (4, .int x4)] [.int s1, .int s0] w Q := by
  unfold f_M_same_b68 at h
  refine Gz.ior (pc' := 69) (by decide +kernel) rfl ?_
  refine Gz.nmI (fun v1 e2 => ?_)
  have h := zok_l e2 h
  refine Gz.istore_n (q := 3) (pc' := 70) (L' := [(3, .int v1), (0, .ref 107), (1, .int x1), (2, .int x2), (4, .int x4)]) (by decide +kernel) rfl (Nat.le_of_ble_eq_true rfl) rfl ?_
  obtain ⟨v3, e4⟩ : ∃ y : Int32, y = x4 + (1 : Int32) := ⟨_, rfl⟩
  have h := zok_l e4 h
  refine Gz.iinc (i := 4) (n := 1) (pc' := 73) (L' := [(4, .int v3), (3, .int v1), (0, .ref 107), (1, .int x1), (2, .int x2)]) v3 (by decide +kernel) rfl 4 rfl (by rw [e4]; rfl) (Nat.le_of_ble_eq_true rfl) rfl ?_
  refine Gz.goto (off := -45) (tgt := 28) (by decide +kernel) (by decide) ?_
  refine Gz.sub (L' := [(0, .ref 107), (1, .int x1), (2, .int x2), (3, .int v1), (4, .int v3)]) [2, 3, 4, 1, 0] rfl ?_
  exact hk28 x1 x2 v1 v3 w h
theorem g_M_same_b67 {l : Launch} {Q : Option Value → gW → Prop} (k28 : Int32 → Int32 → Int32 → Int32 → gW → Option (Int32 × gW)) (hk28 : ∀ (x1 : Int32) (x2 : Int32) (x3 : Int32) (x4 : Int32) (w : gW), zok eI (k28 x1 x2 x3 x4 w) Q → Gz l m_M_same 56 28 [(0, .ref 107), (1, .int x1), (2, .int x2), (3, .int x3), (4, .int x4)] [] w Q) (x1 : Int32) (x2 : Int32) (x4 : Int32) (s0 : Int32) (w : gW) (h : zok eI (f_M_same_b67 k28 x1 x2 x4 s0 w) Q) : Gz l m_M_same 56 67 [(0, .ref 107), (1, .int x1), (2, .int x2), (4, .int x4)] [.int s0] w Q := by
  unfold f_M_same_b67 at h
  refine Gz.iconst (n := 0) (v := (0 : Int32)) (pc' := 68) (by decide +kernel) rfl rfl ?_
  exact g_M_same_b68 k28 hk28 x1 x2 x4 s0 (0 : Int32) w h
theorem g_M_same_b28_s {l : Launch} {Q : Option Value → gW → Prop} (k28 : Int32 → Int32 → Int32 → Int32 → gW → Option (Int32 × gW)) (hk28 : ∀ (x1 : Int32) (x2 : Int32) (x3 : Int32) (x4 : Int32) (w : gW), zok eI (k28 x1 x2 x3 x4 w) Q → Gz l m_M_same 56 28 [(0, .ref 107), (1, .int x1), (2, .int x2), (3, .int x3), (4, .int x4)] [] w Q) (x1 : Int32) (x2 : Int32) (x3 : Int32) (x4 : Int32) (w : gW) (h : zok eI (f_M_same_b28_s k28 x1 x2 x3 x4 w) Q) : Gz l m_M_same 56 28 [(0, .ref 107), (1, .int x1), (2, .int x2), (3, .int x3), (4, .int x4)] [] w Q := by
  unfold f_M_same_b28_s at h
  refine Gz.iload (i := 4) (pc' := 30) (by decide +kernel) rfl 4 rfl ?_
  refine Gz.aload_n (q := 0) (pc' := 31) (by decide +kernel) rfl 0 rfl ?_
  refine Gz.getI (pc' := 34) (j := 6) fd_M_203 sh_107 rfl (by decide +kernel) rfl ?_
  refine Gz.icmp_ge (off := 42) (tgt := 76) (pc' := 37) (by decide +kernel) (by decide) rfl (fun c1 => ?_) (fun c1 => ?_)
  · have h := zok_t c1 h
    refine Gz.iload_n (q := 3) (pc' := 77) (by decide +kernel) rfl 3 rfl ?_
    exact Gz.ireturn (by decide +kernel) rfl (zok_sI h)
  · have h := zok_f c1 h
    refine Gz.iload_n (q := 3) (pc' := 38) (by decide +kernel) rfl 3 rfl ?_
    refine Gz.aload_n (q := 0) (pc' := 39) (by decide +kernel) rfl 0 rfl ?_
    refine Gz.iload_n (q := 1) (pc' := 40) (by decide +kernel) rfl 1 rfl ?_
    refine Gz.iload (i := 4) (pc' := 42) (by decide +kernel) rfl 4 rfl ?_
    refine Gz.iload_n (q := 2) (pc' := 43) (by decide +kernel) rfl 2 rfl ?_
    refine Gz.callVI (st := [.int x3]) (b := 107) (pc' := 46) [.int x1, .int x4, .int x2] (g_M_doesImply x1 x4 x2 w) h ok_m_M_doesImply lk_M_366 sh_107 rfl rfl rfl (Nat.le_of_ble_eq_true rfl) (Nat.le_of_ble_eq_true rfl) (Nat.le_of_ble_eq_true rfl) (by decide +kernel) rfl (fun v2 w3 h => ?_)
    refine Gz.if_eq (off := 21) (tgt := 67) (pc' := 49) (by decide +kernel) (by decide) rfl (fun c4 => ?_) (fun c4 => ?_)
    · have h := zok_t c4 h
      refine Gz.sub (L' := [(0, .ref 107), (1, .int x1), (2, .int x2), (4, .int x4)]) [0, 1, 2, 4] rfl ?_
      exact g_M_same_b67 k28 hk28 x1 x2 x4 x3 w3 h
    · have h := zok_f c4 h
      refine Gz.aload_n (q := 0) (pc' := 50) (by decide +kernel) rfl 0 rfl ?_
      refine Gz.iload (i := 4) (pc' := 52) (by decide +kernel) rfl 4 rfl ?_
      refine Gz.iload_n (q := 1) (pc' := 53) (by decide +kernel) rfl 1 rfl ?_
      refine Gz.iload_n (q := 2) (pc' := 54) (by decide +kernel) rfl 2 rfl ?_
      refine Gz.callVI (st := [.int x3]) (b := 107) (pc' := 57) [.int x4, .int x1, .int x2] (g_M_doesImply x4 x1 x2 w3) h ok_m_M_doesImply lk_M_366 sh_107 rfl rfl rfl (Nat.le_of_ble_eq_true rfl) (Nat.le_of_ble_eq_true rfl) (Nat.le_of_ble_eq_true rfl) (by decide +kernel) rfl (fun v5 w6 h => ?_)
      refine Gz.if_eq (off := 10) (tgt := 67) (pc' := 60) (by decide +kernel) (by decide) rfl (fun c7 => ?_) (fun c7 => ?_)
      · have h := zok_t c7 h
        refine Gz.sub (L' := [(0, .ref 107), (1, .int x1), (2, .int x2), (4, .int x4)]) [0, 1, 2, 4] rfl ?_
        exact g_M_same_b67 k28 hk28 x1 x2 x4 x3 w6 h
      · have h := zok_f c7 h
        refine Gz.iconst (n := 1) (v := (1 : Int32)) (pc' := 61) (by decide +kernel) rfl rfl ?_
        refine Gz.iload (i := 4) (pc' := 63) (by decide +kernel) rfl 4 rfl ?_
        refine Gz.ishl (pc' := 64) (by decide +kernel) rfl ?_
        refine Gz.goto (off := 4) (tgt := 68) (by decide +kernel) (by decide) ?_
        refine Gz.sub (L' := [(0, .ref 107), (1, .int x1), (2, .int x2), (4, .int x4)]) [0, 1, 2, 4] rfl ?_
        exact g_M_same_b68 k28 hk28 x1 x2 x4 x3 ((1 : Int32) <<< (x4 &&& 31)) w6 h
theorem g_M_same_b28 {l : Launch} {Q : Option Value → gW → Prop} (x1 : Int32) (x2 : Int32) (x3 : Int32) (x4 : Int32) (w : gW) (h : zok eI (f_M_same_b28 x1 x2 x3 x4 w) Q) : Gz l m_M_same 56 28 [(0, .ref 107), (1, .int x1), (2, .int x2), (3, .int x3), (4, .int x4)] [] w Q := by
  have key : ∀ (n : Nat) (x1 : Int32) (x2 : Int32) (x3 : Int32) (x4 : Int32) (w : gW), zok eI (zfx (fun _ _ _ _ _ => none) (f_M_same_b28_s) n x1 x2 x3 x4 w) Q → Gz l m_M_same 56 28 [(0, .ref 107), (1, .int x1), (2, .int x2), (3, .int x3), (4, .int x4)] [] w Q := by
    intro n
    induction n with
    | zero => intro x1 x2 x3 x4 w h; exact zok_n h
    | succ n ih => intro x1 x2 x3 x4 w h; exact g_M_same_b28_s _ ih x1 x2 x3 x4 w h
  exact key zFU x1 x2 x3 x4 w h
theorem g_M_same {l : Launch} (a1 : Int32) (a2 : Int32) (w : gW) : gCt l m_M_same 56 [.ref 107, .int a1, .int a2] w eI (f_M_same a1 a2 w) := by
  intro Q h
  unfold f_M_same at h
  show Gz l m_M_same 56 0 [(0, .ref 107), (1, .int a1), (2, .int a2)] [] w Q
  refine Gz.aload_n (q := 0) (pc' := 1) (by decide +kernel) rfl 0 rfl ?_
  refine Gz.iconst (n := 0) (v := (0 : Int32)) (pc' := 2) (by decide +kernel) rfl rfl ?_
  refine Gz.putI (pc' := 5) (j := 0) fd_M_96 sh_107 rfl (by decide +kernel) rfl ?_
  refine Gz.nmW (fun w1 e2 => ?_)
  have h := zok_l e2 h
  refine Gz.aload_n (q := 0) (pc' := 6) (by decide +kernel) rfl 0 rfl ?_
  refine Gz.iload_n (q := 1) (pc' := 7) (by decide +kernel) rfl 1 rfl ?_
  refine Gz.callVI (st := []) (b := 107) (pc' := 10) [.int a1] (g_M_isOath a1 w1) h ok_m_M_isOath lk_M_241 sh_107 rfl rfl rfl (Nat.le_of_ble_eq_true rfl) (Nat.le_of_ble_eq_true rfl) (Nat.le_of_ble_eq_true rfl) (by decide +kernel) rfl (fun v3 w4 h => ?_)
  refine Gz.if_eq (off := 11) (tgt := 21) (pc' := 13) (by decide +kernel) (by decide) rfl (fun c5 => ?_) (fun c5 => ?_)
  · have h := zok_t c5 h
    refine Gz.iconst (n := -1) (v := (-1 : Int32)) (pc' := 22) (by decide +kernel) rfl rfl ?_
    exact Gz.ireturn (by decide +kernel) rfl (zok_sI h)
  · have h := zok_f c5 h
    refine Gz.aload_n (q := 0) (pc' := 14) (by decide +kernel) rfl 0 rfl ?_
    refine Gz.iload_n (q := 2) (pc' := 15) (by decide +kernel) rfl 2 rfl ?_
    refine Gz.callVI (st := []) (b := 107) (pc' := 18) [.int a2] (g_M_isSeenDay a2 w4) h ok_m_M_isSeenDay lk_M_244 sh_107 rfl rfl rfl (Nat.le_of_ble_eq_true rfl) (Nat.le_of_ble_eq_true rfl) (Nat.le_of_ble_eq_true rfl) (by decide +kernel) rfl (fun v6 w7 h => ?_)
    refine Gz.if_ne (off := 5) (tgt := 23) (pc' := 21) (by decide +kernel) (by decide) rfl (fun c8 => ?_) (fun c8 => ?_)
    · have h := zok_f c8 h
      refine Gz.iconst (n := 0) (v := (0 : Int32)) (pc' := 24) (by decide +kernel) rfl rfl ?_
      refine Gz.istore_n (q := 3) (pc' := 25) (L' := [(3, .int (0 : Int32)), (0, .ref 107), (1, .int a1), (2, .int a2)]) (by decide +kernel) rfl (Nat.le_of_ble_eq_true rfl) rfl ?_
      refine Gz.iconst (n := 0) (v := (0 : Int32)) (pc' := 26) (by decide +kernel) rfl rfl ?_
      refine Gz.istore (i := 4) (pc' := 28) (L' := [(4, .int (0 : Int32)), (3, .int (0 : Int32)), (0, .ref 107), (1, .int a1), (2, .int a2)]) (by decide +kernel) rfl (Nat.le_of_ble_eq_true rfl) rfl ?_
      refine Gz.sub (L' := [(0, .ref 107), (1, .int a1), (2, .int a2), (3, .int (0 : Int32)), (4, .int (0 : Int32))]) [2, 3, 4, 1, 0] rfl ?_
      exact g_M_same_b28 a1 a2 (0 : Int32) (0 : Int32) w7 h
    · have h := zok_t c8 h
      refine Gz.iconst (n := -1) (v := (-1 : Int32)) (pc' := 22) (by decide +kernel) rfl rfl ?_
      exact Gz.ireturn (by decide +kernel) rfl (zok_sI h)
def f_M_days_b58 (k26 : Int32 → Int32 → Int32 → gW → Option (Int32 × gW)) (x1 : Int32) (x3 : Int32) (s0 : Int32) (s1 : Int32) (w : gW) : Option (Int32 × gW) :=
zl (s0 ||| s1) (fun v1 =>
zl (x3 + (1 : Int32)) (fun v3 =>
k26 x1 v1 v3 w))
def f_M_days_b26_s (k26 : Int32 → Int32 → Int32 → gW → Option (Int32 × gW)) (x1 : Int32) (x2 : Int32) (x3 : Int32) (w : gW) : Option (Int32 × gW) :=
if (w.1 107 22) < x3 then
(some (x2, w))
else
(zb (f_M_layDay x3 w) (fun _ w2 =>
zb (f_M_has (w2.1 107 40) x1 w2) (fun v3 w4 =>
if v3 = 0 then
(f_M_days_b58 k26 x1 x3 x2 (0 : Int32) w4)
else
(f_M_days_b58 k26 x1 x3 x2 ((1 : Int32) <<< (x3 &&& 31)) w4))))
def f_M_days_b26 : Int32 → Int32 → Int32 → gW → Option (Int32 × gW) := zfx (fun _ _ _ _ => none) (f_M_days_b26_s) zFU
def f_M_days (a1 : Int32) (w : gW) : Option (Int32 × gW) :=
zl (zsI w 107 0 (0 : Int32)) (fun w1 =>
zb (f_M_isOath a1 w1) (fun v3 w4 =>
if v3 = 0 then
(some ((-1 : Int32), w4))
else
(if (w4.1 107 21) = 0 then
(some ((-1 : Int32), w4))
else
(f_M_days_b26 a1 (0 : Int32) (0 : Int32) w4))))
theorem g_M_days_b58 {l : Launch} {Q : Option Value → gW → Prop} (k26 : Int32 → Int32 → Int32 → gW → Option (Int32 × gW)) (hk26 : ∀ (x1 : Int32) (x2 : Int32) (x3 : Int32) (w : gW), zok eI (k26 x1 x2 x3 w) Q → Gz l m_M_days 58 26 [(0, .ref 107), (1, .int x1), (2, .int x2), (3, .int x3)] [] w Q) (x1 : Int32) (x3 : Int32) (s0 : Int32) (s1 : Int32) (w : gW) (h : zok eI (f_M_days_b58 k26 x1 x3 s0 s1 w) Q) : Gz l m_M_days 58 58 [(0, .ref 107), (1, .int x1), (3, .int x3)] [.int s1, .int s0] w Q := by
  unfold f_M_days_b58 at h
  refine Gz.ior (pc' := 59) (by decide +kernel) rfl ?_
  refine Gz.nmI (fun v1 e2 => ?_)
  have h := zok_l e2 h
  refine Gz.istore_n (q := 2) (pc' := 60) (L' := [(2, .int v1), (0, .ref 107), (1, .int x1), (3, .int x3)]) (by decide +kernel) rfl (Nat.le_of_ble_eq_true rfl) rfl ?_
  obtain ⟨v3, e4⟩ : ∃ y : Int32, y = x3 + (1 : Int32) := ⟨_, rfl⟩
  have h := zok_l e4 h
  refine Gz.iinc (i := 3) (n := 1) (pc' := 63) (L' := [(3, .int v3), (2, .int v1), (0, .ref 107), (1, .int x1)]) v3 (by decide +kernel) rfl 3 rfl (by rw [e4]; rfl) (Nat.le_of_ble_eq_true rfl) rfl ?_
  refine Gz.goto (off := -37) (tgt := 26) (by decide +kernel) (by decide) ?_
  refine Gz.sub (L' := [(0, .ref 107), (1, .int x1), (2, .int v1), (3, .int v3)]) [2, 3, 1, 0] rfl ?_
  exact hk26 x1 v1 v3 w h
theorem g_M_days_b26_s {l : Launch} {Q : Option Value → gW → Prop} (k26 : Int32 → Int32 → Int32 → gW → Option (Int32 × gW)) (hk26 : ∀ (x1 : Int32) (x2 : Int32) (x3 : Int32) (w : gW), zok eI (k26 x1 x2 x3 w) Q → Gz l m_M_days 58 26 [(0, .ref 107), (1, .int x1), (2, .int x2), (3, .int x3)] [] w Q) (x1 : Int32) (x2 : Int32) (x3 : Int32) (w : gW) (h : zok eI (f_M_days_b26_s k26 x1 x2 x3 w) Q) : Gz l m_M_days 58 26 [(0, .ref 107), (1, .int x1), (2, .int x2), (3, .int x3)] [] w Q := by
  unfold f_M_days_b26_s at h
  refine Gz.iload_n (q := 3) (pc' := 27) (by decide +kernel) rfl 3 rfl ?_
  refine Gz.aload_n (q := 0) (pc' := 28) (by decide +kernel) rfl 0 rfl ?_
  refine Gz.getI (pc' := 31) (j := 22) fd_M_208 sh_107 rfl (by decide +kernel) rfl ?_
  refine Gz.icmp_gt (off := 35) (tgt := 66) (pc' := 34) (by decide +kernel) (by decide) rfl (fun c1 => ?_) (fun c1 => ?_)
  · have h := zok_t c1 h
    refine Gz.iload_n (q := 2) (pc' := 67) (by decide +kernel) rfl 2 rfl ?_
    exact Gz.ireturn (by decide +kernel) rfl (zok_sI h)
  · have h := zok_f c1 h
    refine Gz.aload_n (q := 0) (pc' := 35) (by decide +kernel) rfl 0 rfl ?_
    refine Gz.iload_n (q := 3) (pc' := 36) (by decide +kernel) rfl 3 rfl ?_
    refine Gz.callVV (st := []) (b := 107) (pc' := 39) [.int x3] (g_M_layDay x3 w) h ok_m_M_layDay lk_M_305 sh_107 rfl rfl rfl (Nat.le_of_ble_eq_true rfl) (Nat.le_of_ble_eq_true rfl) (Nat.le_of_ble_eq_true rfl) (by decide +kernel) rfl (fun _ w2 h => ?_)
    refine Gz.iload_n (q := 2) (pc' := 40) (by decide +kernel) rfl 2 rfl ?_
    refine Gz.aload_n (q := 0) (pc' := 41) (by decide +kernel) rfl 0 rfl ?_
    refine Gz.getI (pc' := 44) (j := 40) fd_M_282 sh_107 rfl (by decide +kernel) rfl ?_
    refine Gz.iload_n (q := 1) (pc' := 45) (by decide +kernel) rfl 1 rfl ?_
    refine Gz.callSI (st := [.int x2]) (pc' := 48) [.int (w2.1 107 40), .int x1] (g_M_has (w2.1 107 40) x1 w2) h ok_m_M_has lk_M_170 rfl (Nat.le_of_ble_eq_true rfl) (Nat.le_of_ble_eq_true rfl) (Nat.le_of_ble_eq_true rfl) (by decide +kernel) rfl (fun v3 w4 h => ?_)
    refine Gz.if_eq (off := 9) (tgt := 57) (pc' := 51) (by decide +kernel) (by decide) rfl (fun c5 => ?_) (fun c5 => ?_)
    · have h := zok_t c5 h
      refine Gz.iconst (n := 0) (v := (0 : Int32)) (pc' := 58) (by decide +kernel) rfl rfl ?_
      refine Gz.sub (L' := [(0, .ref 107), (1, .int x1), (3, .int x3)]) [0, 1, 3] rfl ?_
      exact g_M_days_b58 k26 hk26 x1 x3 x2 (0 : Int32) w4 h
    · have h := zok_f c5 h
      refine Gz.iconst (n := 1) (v := (1 : Int32)) (pc' := 52) (by decide +kernel) rfl rfl ?_
      refine Gz.iload_n (q := 3) (pc' := 53) (by decide +kernel) rfl 3 rfl ?_
      refine Gz.ishl (pc' := 54) (by decide +kernel) rfl ?_
      refine Gz.goto (off := 4) (tgt := 58) (by decide +kernel) (by decide) ?_
      refine Gz.sub (L' := [(0, .ref 107), (1, .int x1), (3, .int x3)]) [0, 1, 3] rfl ?_
      exact g_M_days_b58 k26 hk26 x1 x3 x2 ((1 : Int32) <<< (x3 &&& 31)) w4 h
theorem g_M_days_b26 {l : Launch} {Q : Option Value → gW → Prop} (x1 : Int32) (x2 : Int32) (x3 : Int32) (w : gW) (h : zok eI (f_M_days_b26 x1 x2 x3 w) Q) : Gz l m_M_days 58 26 [(0, .ref 107), (1, .int x1), (2, .int x2), (3, .int x3)] [] w Q := by
  have key : ∀ (n : Nat) (x1 : Int32) (x2 : Int32) (x3 : Int32) (w : gW), zok eI (zfx (fun _ _ _ _ => none) (f_M_days_b26_s) n x1 x2 x3 w) Q → Gz l m_M_days 58 26 [(0, .ref 107), (1, .int x1), (2, .int x2), (3, .int x3)] [] w Q := by
    intro n
    induction n with
    | zero => intro x1 x2 x3 w h; exact zok_n h
    | succ n ih => intro x1 x2 x3 w h; exact g_M_days_b26_s _ ih x1 x2 x3 w h
  exact key zFU x1 x2 x3 w h
theorem g_M_days {l : Launch} (a1 : Int32) (w : gW) : gCt l m_M_days 58 [.ref 107, .int a1] w eI (f_M_days a1 w) := by
  intro Q h
  unfold f_M_days at h
  show Gz l m_M_days 58 0 [(0, .ref 107), (1, .int a1)] [] w Q
  refine Gz.aload_n (q := 0) (pc' := 1) (by decide +kernel) rfl 0 rfl ?_
  refine Gz.iconst (n := 0) (v := (0 : Int32)) (pc' := 2) (by decide +kernel) rfl rfl ?_
  refine Gz.putI (pc' := 5) (j := 0) fd_M_96 sh_107 rfl (by decide +kernel) rfl ?_
  refine Gz.nmW (fun w1 e2 => ?_)
  have h := zok_l e2 h
  refine Gz.aload_n (q := 0) (pc' := 6) (by decide +kernel) rfl 0 rfl ?_
  refine Gz.iload_n (q := 1) (pc' := 7) (by decide +kernel) rfl 1 rfl ?_
  refine Gz.callVI (st := []) (b := 107) (pc' := 10) [.int a1] (g_M_isOath a1 w1) h ok_m_M_isOath lk_M_241 sh_107 rfl rfl rfl (Nat.le_of_ble_eq_true rfl) (Nat.le_of_ble_eq_true rfl) (Nat.le_of_ble_eq_true rfl) (by decide +kernel) rfl (fun v3 w4 h => ?_)
  refine Gz.if_eq (off := 10) (tgt := 20) (pc' := 13) (by decide +kernel) (by decide) rfl (fun c5 => ?_) (fun c5 => ?_)
  · have h := zok_t c5 h
    refine Gz.iconst (n := -1) (v := (-1 : Int32)) (pc' := 21) (by decide +kernel) rfl rfl ?_
    exact Gz.ireturn (by decide +kernel) rfl (zok_sI h)
  · have h := zok_f c5 h
    refine Gz.aload_n (q := 0) (pc' := 14) (by decide +kernel) rfl 0 rfl ?_
    refine Gz.getI (pc' := 17) (j := 21) fd_M_141 sh_107 rfl (by decide +kernel) rfl ?_
    refine Gz.if_ne (off := 5) (tgt := 22) (pc' := 20) (by decide +kernel) (by decide) rfl (fun c6 => ?_) (fun c6 => ?_)
    · have h := zok_f c6 h
      refine Gz.iconst (n := 0) (v := (0 : Int32)) (pc' := 23) (by decide +kernel) rfl rfl ?_
      refine Gz.istore_n (q := 2) (pc' := 24) (L' := [(2, .int (0 : Int32)), (0, .ref 107), (1, .int a1)]) (by decide +kernel) rfl (Nat.le_of_ble_eq_true rfl) rfl ?_
      refine Gz.iconst (n := 0) (v := (0 : Int32)) (pc' := 25) (by decide +kernel) rfl rfl ?_
      refine Gz.istore_n (q := 3) (pc' := 26) (L' := [(3, .int (0 : Int32)), (2, .int (0 : Int32)), (0, .ref 107), (1, .int a1)]) (by decide +kernel) rfl (Nat.le_of_ble_eq_true rfl) rfl ?_
      refine Gz.sub (L' := [(0, .ref 107), (1, .int a1), (2, .int (0 : Int32)), (3, .int (0 : Int32))]) [2, 3, 1, 0] rfl ?_
      exact g_M_days_b26 a1 (0 : Int32) (0 : Int32) w4 h
    · have h := zok_t c6 h
      refine Gz.iconst (n := -1) (v := (-1 : Int32)) (pc' := 21) (by decide +kernel) rfl rfl ?_
      exact Gz.ireturn (by decide +kernel) rfl (zok_sI h)
def f_M_near_b147 (k33 : Int32 → Int32 → Int32 → Int32 → Int32 → gW → Option (Int32 × gW)) (x1 : Int32) (x2 : Int32) (x3 : Int32) (x4 : Int32) (x5 : Int32) (w : gW) : Option (Int32 × gW) :=
zl (x5 + (1 : Int32)) (fun v1 =>
k33 x1 x2 x3 x4 v1 w)
def f_M_near_b104 (k33 : Int32 → Int32 → Int32 → Int32 → Int32 → gW → Option (Int32 × gW)) (k77 : Int32 → Int32 → Int32 → Int32 → Int32 → Int32 → Int32 → Int32 → gW → Option (Int32 × gW)) (x1 : Int32) (x2 : Int32) (x3 : Int32) (x4 : Int32) (x5 : Int32) (x7 : Int32) (x8 : Int32) (s0 : Int32) (s1 : Int32) (w : gW) : Option (Int32 × gW) :=
zl (s0 + s1) (fun v1 =>
zl (x7 / (10 : Int32)) (fun v3 =>
zl (x8 + (-1 : Int32)) (fun v5 =>
k77 x1 x2 x3 x4 x5 v1 v3 v5 w)))
def f_M_near_b135 (k33 : Int32 → Int32 → Int32 → Int32 → Int32 → gW → Option (Int32 × gW)) (x1 : Int32) (x2 : Int32) (x5 : Int32) (x6 : Int32) (w : gW) : Option (Int32 × gW) :=
if inb x5 16807 then
zl (w.1 118 (ix x5)) (fun v2 =>
f_M_near_b147 k33 x1 x2 v2 x6 x5 w)
else none
def f_M_near_b77_s (k33 : Int32 → Int32 → Int32 → Int32 → Int32 → gW → Option (Int32 × gW)) (k77 : Int32 → Int32 → Int32 → Int32 → Int32 → Int32 → Int32 → Int32 → gW → Option (Int32 × gW)) (x1 : Int32) (x2 : Int32) (x3 : Int32) (x4 : Int32) (x5 : Int32) (x6 : Int32) (x7 : Int32) (x8 : Int32) (w : gW) : Option (Int32 × gW) :=
if x8 < 0 then
(if x3 = (-1 : Int32) then
(f_M_near_b135 k33 x1 x2 x5 x6 w)
else
(if x6 < x4 then
(f_M_near_b135 k33 x1 x2 x5 x6 w)
else
(f_M_near_b147 k33 x1 x2 x3 x4 x5 w)))
else
(if inb x8 5 then
if (x7 - x7 / (10 : Int32) * (10 : Int32)) = (w.1 111 (ix x8)) then
(f_M_near_b104 k33 k77 x1 x2 x3 x4 x5 x7 x8 x6 (0 : Int32) w)
else
(f_M_near_b104 k33 k77 x1 x2 x3 x4 x5 x7 x8 x6 (1 : Int32) w)
else none)
def f_M_near_b77 (k33 : Int32 → Int32 → Int32 → Int32 → Int32 → gW → Option (Int32 × gW)) : Int32 → Int32 → Int32 → Int32 → Int32 → Int32 → Int32 → Int32 → gW → Option (Int32 × gW) := zfx (fun _ _ _ _ _ _ _ _ _ => none) (f_M_near_b77_s k33) zFU
def f_M_near_b33_s (k33 : Int32 → Int32 → Int32 → Int32 → Int32 → gW → Option (Int32 × gW)) (x1 : Int32) (x2 : Int32) (x3 : Int32) (x4 : Int32) (x5 : Int32) (w : gW) : Option (Int32 × gW) :=
if (w.1 107 26) ≤ x5 then
(if x3 = (-1 : Int32) then
(some ((-1 : Int32), w))
else
(if x2 = 0 then
(some (x4, w))
else
(some (x3, w))))
else
(if inb x5 16807 then
zb (f_M_live (w.1 118 (ix x5)) w) (fun _ w5 =>
zb (f_M_fits w5) (fun v6 w7 =>
if v6 = 0 then
(f_M_near_b147 k33 x1 x2 x3 x4 x5 w7)
else
(zl ((w7.1 107 21) - (1 : Int32)) (fun v9 =>
f_M_near_b77 k33 x1 x2 x3 x4 x5 (0 : Int32) x1 v9 w7))))
else none)
def f_M_near_b33 : Int32 → Int32 → Int32 → Int32 → Int32 → gW → Option (Int32 × gW) := zfx (fun _ _ _ _ _ _ => none) (f_M_near_b33_s) zFU
def f_M_near (a1 : Int32) (a2 : Int32) (w : gW) : Option (Int32 × gW) :=
zl (zsI w 107 0 (0 : Int32)) (fun w1 =>
zb (f_M_isIn (a2.toInt64) (0 : Int64) (1 : Int64) w1) (fun v3 w4 =>
if v3 = 0 then
(some ((-1 : Int32), w4))
else
(zb (f_M_isLife a1 w4) (fun v6 w7 =>
if v6 = 0 then
(some ((-1 : Int32), w7))
else
(f_M_near_b33 a1 a2 (-1 : Int32) (0 : Int32) (0 : Int32) w7)))))
theorem g_M_near_b147 {l : Launch} {Q : Option Value → gW → Prop} (k33 : Int32 → Int32 → Int32 → Int32 → Int32 → gW → Option (Int32 × gW)) (hk33 : ∀ (x1 : Int32) (x2 : Int32) (x3 : Int32) (x4 : Int32) (x5 : Int32) (w : gW), zok eI (k33 x1 x2 x3 x4 x5 w) Q → Gz l m_M_near 57 33 [(0, .ref 107), (1, .int x1), (2, .int x2), (3, .int x3), (4, .int x4), (5, .int x5)] [] w Q) (x1 : Int32) (x2 : Int32) (x3 : Int32) (x4 : Int32) (x5 : Int32) (w : gW) (h : zok eI (f_M_near_b147 k33 x1 x2 x3 x4 x5 w) Q) : Gz l m_M_near 57 147 [(0, .ref 107), (1, .int x1), (2, .int x2), (3, .int x3), (4, .int x4), (5, .int x5)] [] w Q := by
  unfold f_M_near_b147 at h
  obtain ⟨v1, e2⟩ : ∃ y : Int32, y = x5 + (1 : Int32) := ⟨_, rfl⟩
  have h := zok_l e2 h
  refine Gz.iinc (i := 5) (n := 1) (pc' := 150) (L' := [(5, .int v1), (0, .ref 107), (1, .int x1), (2, .int x2), (3, .int x3), (4, .int x4)]) v1 (by decide +kernel) rfl 5 rfl (by rw [e2]; rfl) (Nat.le_of_ble_eq_true rfl) rfl ?_
  refine Gz.goto (off := -117) (tgt := 33) (by decide +kernel) (by decide) ?_
  refine Gz.sub (L' := [(0, .ref 107), (1, .int x1), (2, .int x2), (3, .int x3), (4, .int x4), (5, .int v1)]) [1, 2, 3, 4, 5, 0] rfl ?_
  exact hk33 x1 x2 x3 x4 v1 w h
theorem g_M_near_b104 {l : Launch} {Q : Option Value → gW → Prop} (k33 : Int32 → Int32 → Int32 → Int32 → Int32 → gW → Option (Int32 × gW)) (hk33 : ∀ (x1 : Int32) (x2 : Int32) (x3 : Int32) (x4 : Int32) (x5 : Int32) (w : gW), zok eI (k33 x1 x2 x3 x4 x5 w) Q → Gz l m_M_near 57 33 [(0, .ref 107), (1, .int x1), (2, .int x2), (3, .int x3), (4, .int x4), (5, .int x5)] [] w Q) (k77 : Int32 → Int32 → Int32 → Int32 → Int32 → Int32 → Int32 → Int32 → gW → Option (Int32 × gW)) (hk77 : ∀ (x1 : Int32) (x2 : Int32) (x3 : Int32) (x4 : Int32) (x5 : Int32) (x6 : Int32) (x7 : Int32) (x8 : Int32) (w : gW), zok eI (k77 x1 x2 x3 x4 x5 x6 x7 x8 w) Q → Gz l m_M_near 57 77 [(0, .ref 107), (1, .int x1), (2, .int x2), (3, .int x3), (4, .int x4), (5, .int x5), (6, .int x6), (7, .int x7), (8, .int x8)] [] w Q) (x1 : Int32) (x2 : Int32) (x3 : Int32) (x4 : Int32) (x5 : Int32) (x7 : Int32) (x8 : Int32) (s0 : Int32) (s1 : Int32) (w : gW) (h : zok eI (f_M_near_b104 k33 k77 x1 x2 x3 x4 x5 x7 x8 s0 s1 w) Q) : Gz l m_M_near 57 104 [(0, .ref 107), (1, .int x1), (2, .int x2), (3, .int x3), (4, .int x4), (5, .int x5), (7, .int x7), (8, .int x8)] [.int s1, .int s0] w Q := by
  unfold f_M_near_b104 at h
  refine Gz.iadd (pc' := 105) (by decide +kernel) rfl ?_
  refine Gz.nmI (fun v1 e2 => ?_)
  have h := zok_l e2 h
  refine Gz.istore (i := 6) (pc' := 107) (L' := [(6, .int v1), (0, .ref 107), (1, .int x1), (2, .int x2), (3, .int x3), (4, .int x4), (5, .int x5), (7, .int x7), (8, .int x8)]) (by decide +kernel) rfl (Nat.le_of_ble_eq_true rfl) rfl ?_
  refine Gz.iload (i := 7) (pc' := 109) (by decide +kernel) rfl 7 rfl ?_
  refine Gz.bipush (n := 10) (v := (10 : Int32)) (pc' := 111) (by decide +kernel) rfl rfl ?_
  refine Gz.idiv (pc' := 112) (by decide +kernel) rfl (by decide) ?_
  refine Gz.nmI (fun v3 e4 => ?_)
  have h := zok_l e4 h
  refine Gz.istore (i := 7) (pc' := 114) (L' := [(7, .int v3), (6, .int v1), (0, .ref 107), (1, .int x1), (2, .int x2), (3, .int x3), (4, .int x4), (5, .int x5), (8, .int x8)]) (by decide +kernel) rfl (Nat.le_of_ble_eq_true rfl) rfl ?_
  obtain ⟨v5, e6⟩ : ∃ y : Int32, y = x8 + (-1 : Int32) := ⟨_, rfl⟩
  have h := zok_l e6 h
  refine Gz.iinc (i := 8) (n := -1) (pc' := 117) (L' := [(8, .int v5), (7, .int v3), (6, .int v1), (0, .ref 107), (1, .int x1), (2, .int x2), (3, .int x3), (4, .int x4), (5, .int x5)]) v5 (by decide +kernel) rfl 8 rfl (by rw [e6]; rfl) (Nat.le_of_ble_eq_true rfl) rfl ?_
  refine Gz.goto (off := -40) (tgt := 77) (by decide +kernel) (by decide) ?_
  refine Gz.sub (L' := [(0, .ref 107), (1, .int x1), (2, .int x2), (3, .int x3), (4, .int x4), (5, .int x5), (6, .int v1), (7, .int v3), (8, .int v5)]) [3, 4, 5, 6, 7, 8, 2, 1, 0] rfl ?_
  exact hk77 x1 x2 x3 x4 x5 v1 v3 v5 w h
theorem g_M_near_b135 {l : Launch} {Q : Option Value → gW → Prop} (k33 : Int32 → Int32 → Int32 → Int32 → Int32 → gW → Option (Int32 × gW)) (hk33 : ∀ (x1 : Int32) (x2 : Int32) (x3 : Int32) (x4 : Int32) (x5 : Int32) (w : gW), zok eI (k33 x1 x2 x3 x4 x5 w) Q → Gz l m_M_near 57 33 [(0, .ref 107), (1, .int x1), (2, .int x2), (3, .int x3), (4, .int x4), (5, .int x5)] [] w Q) (x1 : Int32) (x2 : Int32) (x5 : Int32) (x6 : Int32) (w : gW) (h : zok eI (f_M_near_b135 k33 x1 x2 x5 x6 w) Q) : Gz l m_M_near 57 135 [(0, .ref 107), (1, .int x1), (2, .int x2), (5, .int x5), (6, .int x6)] [] w Q := by
  unfold f_M_near_b135 at h
  refine Gz.aload_n (q := 0) (pc' := 136) (by decide +kernel) rfl 0 rfl ?_
  refine Gz.getR (pc' := 139) (j := 25) 118 fd_M_44 sh_107 rfl (by decide +kernel) rfl ?_
  refine Gz.iload (i := 5) (pc' := 141) (by decide +kernel) rfl 3 rfl ?_
  obtain ⟨c1, h⟩ := zok_c h
  refine Gz.iald (pc' := 142) (n := 16807) (by decide +kernel) rfl rfl c1 ?_
  refine Gz.nmI (fun v2 e3 => ?_)
  have h := zok_l e3 h
  refine Gz.istore_n (q := 3) (pc' := 143) (L' := [(3, .int v2), (0, .ref 107), (1, .int x1), (2, .int x2), (5, .int x5), (6, .int x6)]) (by decide +kernel) rfl (Nat.le_of_ble_eq_true rfl) rfl ?_
  refine Gz.iload (i := 6) (pc' := 145) (by decide +kernel) rfl 5 rfl ?_
  refine Gz.istore (i := 4) (pc' := 147) (L' := [(4, .int x6), (3, .int v2), (0, .ref 107), (1, .int x1), (2, .int x2), (5, .int x5), (6, .int x6)]) (by decide +kernel) rfl (Nat.le_of_ble_eq_true rfl) rfl ?_
  refine Gz.sub (L' := [(0, .ref 107), (1, .int x1), (2, .int x2), (3, .int v2), (4, .int x6), (5, .int x5)]) [2, 3, 4, 1, 0, 5] rfl ?_
  exact g_M_near_b147 k33 hk33 x1 x2 v2 x6 x5 w h
theorem g_M_near_b77_s {l : Launch} {Q : Option Value → gW → Prop} (k33 : Int32 → Int32 → Int32 → Int32 → Int32 → gW → Option (Int32 × gW)) (hk33 : ∀ (x1 : Int32) (x2 : Int32) (x3 : Int32) (x4 : Int32) (x5 : Int32) (w : gW), zok eI (k33 x1 x2 x3 x4 x5 w) Q → Gz l m_M_near 57 33 [(0, .ref 107), (1, .int x1), (2, .int x2), (3, .int x3), (4, .int x4), (5, .int x5)] [] w Q) (k77 : Int32 → Int32 → Int32 → Int32 → Int32 → Int32 → Int32 → Int32 → gW → Option (Int32 × gW)) (hk77 : ∀ (x1 : Int32) (x2 : Int32) (x3 : Int32) (x4 : Int32) (x5 : Int32) (x6 : Int32) (x7 : Int32) (x8 : Int32) (w : gW), zok eI (k77 x1 x2 x3 x4 x5 x6 x7 x8 w) Q → Gz l m_M_near 57 77 [(0, .ref 107), (1, .int x1), (2, .int x2), (3, .int x3), (4, .int x4), (5, .int x5), (6, .int x6), (7, .int x7), (8, .int x8)] [] w Q) (x1 : Int32) (x2 : Int32) (x3 : Int32) (x4 : Int32) (x5 : Int32) (x6 : Int32) (x7 : Int32) (x8 : Int32) (w : gW) (h : zok eI (f_M_near_b77_s k33 k77 x1 x2 x3 x4 x5 x6 x7 x8 w) Q) : Gz l m_M_near 57 77 [(0, .ref 107), (1, .int x1), (2, .int x2), (3, .int x3), (4, .int x4), (5, .int x5), (6, .int x6), (7, .int x7), (8, .int x8)] [] w Q := by
  unfold f_M_near_b77_s at h
  refine Gz.iload (i := 8) (pc' := 79) (by decide +kernel) rfl 8 rfl ?_
  refine Gz.if_lt (off := 41) (tgt := 120) (pc' := 82) (by decide +kernel) (by decide) rfl (fun c1 => ?_) (fun c1 => ?_)
  · have h := zok_t c1 h
    refine Gz.iload_n (q := 3) (pc' := 121) (by decide +kernel) rfl 3 rfl ?_
    refine Gz.iconst (n := -1) (v := (-1 : Int32)) (pc' := 122) (by decide +kernel) rfl rfl ?_
    refine Gz.icmp_eq (off := 13) (tgt := 135) (pc' := 125) (by decide +kernel) (by decide) rfl (fun c2 => ?_) (fun c2 => ?_)
    · have h := zok_t c2 h
      refine Gz.sub (L' := [(0, .ref 107), (1, .int x1), (2, .int x2), (5, .int x5), (6, .int x6)]) [0, 1, 2, 5, 6] rfl ?_
      exact g_M_near_b135 k33 hk33 x1 x2 x5 x6 w h
    · have h := zok_f c2 h
      refine Gz.iload (i := 6) (pc' := 127) (by decide +kernel) rfl 6 rfl ?_
      refine Gz.iload (i := 4) (pc' := 129) (by decide +kernel) rfl 4 rfl ?_
      refine Gz.icmp_lt (off := 6) (tgt := 135) (pc' := 132) (by decide +kernel) (by decide) rfl (fun c3 => ?_) (fun c3 => ?_)
      · have h := zok_t c3 h
        refine Gz.sub (L' := [(0, .ref 107), (1, .int x1), (2, .int x2), (5, .int x5), (6, .int x6)]) [0, 1, 2, 5, 6] rfl ?_
        exact g_M_near_b135 k33 hk33 x1 x2 x5 x6 w h
      · have h := zok_f c3 h
        refine Gz.goto (off := 15) (tgt := 147) (by decide +kernel) (by decide) ?_
        refine Gz.sub (L' := [(0, .ref 107), (1, .int x1), (2, .int x2), (3, .int x3), (4, .int x4), (5, .int x5)]) [0, 1, 2, 3, 4, 5] rfl ?_
        exact g_M_near_b147 k33 hk33 x1 x2 x3 x4 x5 w h
  · have h := zok_f c1 h
    refine Gz.iload (i := 6) (pc' := 84) (by decide +kernel) rfl 6 rfl ?_
    refine Gz.iload (i := 7) (pc' := 86) (by decide +kernel) rfl 7 rfl ?_
    refine Gz.bipush (n := 10) (v := (10 : Int32)) (pc' := 88) (by decide +kernel) rfl rfl ?_
    refine Gz.irem (pc' := 89) (by decide +kernel) rfl (by decide) ?_
    refine Gz.aload_n (q := 0) (pc' := 90) (by decide +kernel) rfl 0 rfl ?_
    refine Gz.getR (pc' := 93) (j := 12) 111 fd_M_23 sh_107 rfl (by decide +kernel) rfl ?_
    refine Gz.iload (i := 8) (pc' := 95) (by decide +kernel) rfl 8 rfl ?_
    obtain ⟨c4, h⟩ := zok_c h
    refine Gz.iald (pc' := 96) (n := 5) (by decide +kernel) rfl rfl c4 ?_
    refine Gz.icmp_eq (off := 7) (tgt := 103) (pc' := 99) (by decide +kernel) (by decide) rfl (fun c5 => ?_) (fun c5 => ?_)
    · have h := zok_t c5 h
      refine Gz.iconst (n := 0) (v := (0 : Int32)) (pc' := 104) (by decide +kernel) rfl rfl ?_
      refine Gz.sub (L' := [(0, .ref 107), (1, .int x1), (2, .int x2), (3, .int x3), (4, .int x4), (5, .int x5), (7, .int x7), (8, .int x8)]) [0, 1, 2, 3, 4, 5, 7, 8] rfl ?_
      exact g_M_near_b104 k33 hk33 k77 hk77 x1 x2 x3 x4 x5 x7 x8 x6 (0 : Int32) w h
    · have h := zok_f c5 h
      refine Gz.iconst (n := 1) (v := (1 : Int32)) (pc' := 100) (by decide +kernel) rfl rfl ?_
      refine Gz.goto (off := 4) (tgt := 104) (by decide +kernel) (by decide) ?_
      refine Gz.sub (L' := [(0, .ref 107), (1, .int x1), (2, .int x2), (3, .int x3), (4, .int x4), (5, .int x5), (7, .int x7), (8, .int x8)]) [0, 1, 2, 3, 4, 5, 7, 8] rfl ?_
      exact g_M_near_b104 k33 hk33 k77 hk77 x1 x2 x3 x4 x5 x7 x8 x6 (1 : Int32) w h
theorem g_M_near_b77 {l : Launch} {Q : Option Value → gW → Prop} (k33 : Int32 → Int32 → Int32 → Int32 → Int32 → gW → Option (Int32 × gW)) (hk33 : ∀ (x1 : Int32) (x2 : Int32) (x3 : Int32) (x4 : Int32) (x5 : Int32) (w : gW), zok eI (k33 x1 x2 x3 x4 x5 w) Q → Gz l m_M_near 57 33 [(0, .ref 107), (1, .int x1), (2, .int x2), (3, .int x3), (4, .int x4), (5, .int x5)] [] w Q) (x1 : Int32) (x2 : Int32) (x3 : Int32) (x4 : Int32) (x5 : Int32) (x6 : Int32) (x7 : Int32) (x8 : Int32) (w : gW) (h : zok eI (f_M_near_b77 k33 x1 x2 x3 x4 x5 x6 x7 x8 w) Q) : Gz l m_M_near 57 77 [(0, .ref 107), (1, .int x1), (2, .int x2), (3, .int x3), (4, .int x4), (5, .int x5), (6, .int x6), (7, .int x7), (8, .int x8)] [] w Q := by
  have key : ∀ (n : Nat) (x1 : Int32) (x2 : Int32) (x3 : Int32) (x4 : Int32) (x5 : Int32) (x6 : Int32) (x7 : Int32) (x8 : Int32) (w : gW), zok eI (zfx (fun _ _ _ _ _ _ _ _ _ => none) (f_M_near_b77_s k33) n x1 x2 x3 x4 x5 x6 x7 x8 w) Q → Gz l m_M_near 57 77 [(0, .ref 107), (1, .int x1), (2, .int x2), (3, .int x3), (4, .int x4), (5, .int x5), (6, .int x6), (7, .int x7), (8, .int x8)] [] w Q := by
    intro n
    induction n with
    | zero => intro x1 x2 x3 x4 x5 x6 x7 x8 w h; exact zok_n h
    | succ n ih => intro x1 x2 x3 x4 x5 x6 x7 x8 w h; exact g_M_near_b77_s k33 hk33 _ ih x1 x2 x3 x4 x5 x6 x7 x8 w h
  exact key zFU x1 x2 x3 x4 x5 x6 x7 x8 w h
theorem g_M_near_b33_s {l : Launch} {Q : Option Value → gW → Prop} (k33 : Int32 → Int32 → Int32 → Int32 → Int32 → gW → Option (Int32 × gW)) (hk33 : ∀ (x1 : Int32) (x2 : Int32) (x3 : Int32) (x4 : Int32) (x5 : Int32) (w : gW), zok eI (k33 x1 x2 x3 x4 x5 w) Q → Gz l m_M_near 57 33 [(0, .ref 107), (1, .int x1), (2, .int x2), (3, .int x3), (4, .int x4), (5, .int x5)] [] w Q) (x1 : Int32) (x2 : Int32) (x3 : Int32) (x4 : Int32) (x5 : Int32) (w : gW) (h : zok eI (f_M_near_b33_s k33 x1 x2 x3 x4 x5 w) Q) : Gz l m_M_near 57 33 [(0, .ref 107), (1, .int x1), (2, .int x2), (3, .int x3), (4, .int x4), (5, .int x5)] [] w Q := by
  unfold f_M_near_b33_s at h
  refine Gz.iload (i := 5) (pc' := 35) (by decide +kernel) rfl 5 rfl ?_
  refine Gz.aload_n (q := 0) (pc' := 36) (by decide +kernel) rfl 0 rfl ?_
  refine Gz.getI (pc' := 39) (j := 26) fd_M_224 sh_107 rfl (by decide +kernel) rfl ?_
  refine Gz.icmp_ge (off := 114) (tgt := 153) (pc' := 42) (by decide +kernel) (by decide) rfl (fun c1 => ?_) (fun c1 => ?_)
  · have h := zok_t c1 h
    refine Gz.iload_n (q := 3) (pc' := 154) (by decide +kernel) rfl 3 rfl ?_
    refine Gz.iconst (n := -1) (v := (-1 : Int32)) (pc' := 155) (by decide +kernel) rfl rfl ?_
    refine Gz.icmp_ne (off := 7) (tgt := 162) (pc' := 158) (by decide +kernel) (by decide) rfl (fun c2 => ?_) (fun c2 => ?_)
    · have h := zok_f c2 h
      refine Gz.iload_n (q := 2) (pc' := 163) (by decide +kernel) rfl 2 rfl ?_
      refine Gz.if_ne (off := 8) (tgt := 171) (pc' := 166) (by decide +kernel) (by decide) rfl (fun c3 => ?_) (fun c3 => ?_)
      · have h := zok_f c3 h
        refine Gz.iload_n (q := 3) (pc' := 172) (by decide +kernel) rfl 3 rfl ?_
        exact Gz.ireturn (by decide +kernel) rfl (zok_sI h)
      · have h := zok_t c3 h
        refine Gz.iload (i := 4) (pc' := 168) (by decide +kernel) rfl 4 rfl ?_
        refine Gz.goto (off := 4) (tgt := 172) (by decide +kernel) (by decide) ?_
        exact Gz.ireturn (by decide +kernel) rfl (zok_sI h)
    · have h := zok_t c2 h
      refine Gz.iconst (n := -1) (v := (-1 : Int32)) (pc' := 159) (by decide +kernel) rfl rfl ?_
      refine Gz.goto (off := 13) (tgt := 172) (by decide +kernel) (by decide) ?_
      exact Gz.ireturn (by decide +kernel) rfl (zok_sI h)
  · have h := zok_f c1 h
    refine Gz.aload_n (q := 0) (pc' := 43) (by decide +kernel) rfl 0 rfl ?_
    refine Gz.aload_n (q := 0) (pc' := 44) (by decide +kernel) rfl 0 rfl ?_
    refine Gz.getR (pc' := 47) (j := 25) 118 fd_M_44 sh_107 rfl (by decide +kernel) rfl ?_
    refine Gz.iload (i := 5) (pc' := 49) (by decide +kernel) rfl 5 rfl ?_
    obtain ⟨c4, h⟩ := zok_c h
    refine Gz.iald (pc' := 50) (n := 16807) (by decide +kernel) rfl rfl c4 ?_
    refine Gz.callVV (st := []) (b := 107) (pc' := 53) [.int (w.1 118 (ix x5))] (g_M_live (w.1 118 (ix x5)) w) h ok_m_M_live lk_M_231 sh_107 rfl rfl rfl (Nat.le_of_ble_eq_true rfl) (Nat.le_of_ble_eq_true rfl) (Nat.le_of_ble_eq_true rfl) (by decide +kernel) rfl (fun _ w5 h => ?_)
    refine Gz.aload_n (q := 0) (pc' := 54) (by decide +kernel) rfl 0 rfl ?_
    refine Gz.callVI (st := []) (b := 107) (pc' := 57) [] (g_M_fits w5) h ok_m_M_fits lk_M_267 sh_107 rfl rfl rfl (Nat.le_of_ble_eq_true rfl) (Nat.le_of_ble_eq_true rfl) (Nat.le_of_ble_eq_true rfl) (by decide +kernel) rfl (fun v6 w7 h => ?_)
    refine Gz.if_ne (off := 6) (tgt := 63) (pc' := 60) (by decide +kernel) (by decide) rfl (fun c8 => ?_) (fun c8 => ?_)
    · have h := zok_f c8 h
      refine Gz.iconst (n := 0) (v := (0 : Int32)) (pc' := 64) (by decide +kernel) rfl rfl ?_
      refine Gz.istore (i := 6) (pc' := 66) (L' := [(6, .int (0 : Int32)), (0, .ref 107), (1, .int x1), (2, .int x2), (3, .int x3), (4, .int x4), (5, .int x5)]) (by decide +kernel) rfl (Nat.le_of_ble_eq_true rfl) rfl ?_
      refine Gz.iload_n (q := 1) (pc' := 67) (by decide +kernel) rfl 2 rfl ?_
      refine Gz.istore (i := 7) (pc' := 69) (L' := [(7, .int x1), (6, .int (0 : Int32)), (0, .ref 107), (1, .int x1), (2, .int x2), (3, .int x3), (4, .int x4), (5, .int x5)]) (by decide +kernel) rfl (Nat.le_of_ble_eq_true rfl) rfl ?_
      refine Gz.aload_n (q := 0) (pc' := 70) (by decide +kernel) rfl 2 rfl ?_
      refine Gz.getI (pc' := 73) (j := 21) fd_M_141 sh_107 rfl (by decide +kernel) rfl ?_
      refine Gz.iconst (n := 1) (v := (1 : Int32)) (pc' := 74) (by decide +kernel) rfl rfl ?_
      refine Gz.isub (pc' := 75) (by decide +kernel) rfl ?_
      refine Gz.nmI (fun v9 e10 => ?_)
      have h := zok_l e10 h
      refine Gz.istore (i := 8) (pc' := 77) (L' := [(8, .int v9), (7, .int x1), (6, .int (0 : Int32)), (0, .ref 107), (1, .int x1), (2, .int x2), (3, .int x3), (4, .int x4), (5, .int x5)]) (by decide +kernel) rfl (Nat.le_of_ble_eq_true rfl) rfl ?_
      refine Gz.sub (L' := [(0, .ref 107), (1, .int x1), (2, .int x2), (3, .int x3), (4, .int x4), (5, .int x5), (6, .int (0 : Int32)), (7, .int x1), (8, .int v9)]) [3, 4, 5, 6, 7, 8, 2, 1, 0] rfl ?_
      exact g_M_near_b77 k33 hk33 x1 x2 x3 x4 x5 (0 : Int32) x1 v9 w7 h
    · have h := zok_t c8 h
      refine Gz.goto (off := 87) (tgt := 147) (by decide +kernel) (by decide) ?_
      exact g_M_near_b147 k33 hk33 x1 x2 x3 x4 x5 w7 h
theorem g_M_near_b33 {l : Launch} {Q : Option Value → gW → Prop} (x1 : Int32) (x2 : Int32) (x3 : Int32) (x4 : Int32) (x5 : Int32) (w : gW) (h : zok eI (f_M_near_b33 x1 x2 x3 x4 x5 w) Q) : Gz l m_M_near 57 33 [(0, .ref 107), (1, .int x1), (2, .int x2), (3, .int x3), (4, .int x4), (5, .int x5)] [] w Q := by
  have key : ∀ (n : Nat) (x1 : Int32) (x2 : Int32) (x3 : Int32) (x4 : Int32) (x5 : Int32) (w : gW), zok eI (zfx (fun _ _ _ _ _ _ => none) (f_M_near_b33_s) n x1 x2 x3 x4 x5 w) Q → Gz l m_M_near 57 33 [(0, .ref 107), (1, .int x1), (2, .int x2), (3, .int x3), (4, .int x4), (5, .int x5)] [] w Q := by
    intro n
    induction n with
    | zero => intro x1 x2 x3 x4 x5 w h; exact zok_n h
    | succ n ih => intro x1 x2 x3 x4 x5 w h; exact g_M_near_b33_s _ ih x1 x2 x3 x4 x5 w h
  exact key zFU x1 x2 x3 x4 x5 w h
theorem g_M_near {l : Launch} (a1 : Int32) (a2 : Int32) (w : gW) : gCt l m_M_near 57 [.ref 107, .int a1, .int a2] w eI (f_M_near a1 a2 w) := by
  intro Q h
  unfold f_M_near at h
  show Gz l m_M_near 57 0 [(0, .ref 107), (1, .int a1), (2, .int a2)] [] w Q
  refine Gz.aload_n (q := 0) (pc' := 1) (by decide +kernel) rfl 0 rfl ?_
  refine Gz.iconst (n := 0) (v := (0 : Int32)) (pc' := 2) (by decide +kernel) rfl rfl ?_
  refine Gz.putI (pc' := 5) (j := 0) fd_M_96 sh_107 rfl (by decide +kernel) rfl ?_
  refine Gz.nmW (fun w1 e2 => ?_)
  have h := zok_l e2 h
  refine Gz.iload_n (q := 2) (pc' := 6) (by decide +kernel) rfl 2 rfl ?_
  refine Gz.i2l (pc' := 7) (by decide +kernel) rfl ?_
  refine Gz.lconst (n := 0) (v := (0 : Int64)) (pc' := 8) (by decide +kernel) rfl rfl ?_
  refine Gz.lconst (n := 1) (v := (1 : Int64)) (pc' := 9) (by decide +kernel) rfl rfl ?_
  refine Gz.callSI (st := []) (pc' := 12) [.long (a2.toInt64), .long (0 : Int64), .long (1 : Int64)] (g_M_isIn (a2.toInt64) (0 : Int64) (1 : Int64) w1) h ok_m_M_isIn lk_M_137 rfl (Nat.le_of_ble_eq_true rfl) (Nat.le_of_ble_eq_true rfl) (Nat.le_of_ble_eq_true rfl) (by decide +kernel) rfl (fun v3 w4 h => ?_)
  refine Gz.if_eq (off := 11) (tgt := 23) (pc' := 15) (by decide +kernel) (by decide) rfl (fun c5 => ?_) (fun c5 => ?_)
  · have h := zok_t c5 h
    refine Gz.iconst (n := -1) (v := (-1 : Int32)) (pc' := 24) (by decide +kernel) rfl rfl ?_
    exact Gz.ireturn (by decide +kernel) rfl (zok_sI h)
  · have h := zok_f c5 h
    refine Gz.aload_n (q := 0) (pc' := 16) (by decide +kernel) rfl 0 rfl ?_
    refine Gz.iload_n (q := 1) (pc' := 17) (by decide +kernel) rfl 1 rfl ?_
    refine Gz.callVI (st := []) (b := 107) (pc' := 20) [.int a1] (g_M_isLife a1 w4) h ok_m_M_isLife lk_M_270 sh_107 rfl rfl rfl (Nat.le_of_ble_eq_true rfl) (Nat.le_of_ble_eq_true rfl) (Nat.le_of_ble_eq_true rfl) (by decide +kernel) rfl (fun v6 w7 h => ?_)
    refine Gz.if_ne (off := 5) (tgt := 25) (pc' := 23) (by decide +kernel) (by decide) rfl (fun c8 => ?_) (fun c8 => ?_)
    · have h := zok_f c8 h
      refine Gz.iconst (n := -1) (v := (-1 : Int32)) (pc' := 26) (by decide +kernel) rfl rfl ?_
      refine Gz.istore_n (q := 3) (pc' := 27) (L' := [(3, .int (-1 : Int32)), (0, .ref 107), (1, .int a1), (2, .int a2)]) (by decide +kernel) rfl (Nat.le_of_ble_eq_true rfl) rfl ?_
      refine Gz.iconst (n := 0) (v := (0 : Int32)) (pc' := 28) (by decide +kernel) rfl rfl ?_
      refine Gz.istore (i := 4) (pc' := 30) (L' := [(4, .int (0 : Int32)), (3, .int (-1 : Int32)), (0, .ref 107), (1, .int a1), (2, .int a2)]) (by decide +kernel) rfl (Nat.le_of_ble_eq_true rfl) rfl ?_
      refine Gz.iconst (n := 0) (v := (0 : Int32)) (pc' := 31) (by decide +kernel) rfl rfl ?_
      refine Gz.istore (i := 5) (pc' := 33) (L' := [(5, .int (0 : Int32)), (4, .int (0 : Int32)), (3, .int (-1 : Int32)), (0, .ref 107), (1, .int a1), (2, .int a2)]) (by decide +kernel) rfl (Nat.le_of_ble_eq_true rfl) rfl ?_
      refine Gz.sub (L' := [(0, .ref 107), (1, .int a1), (2, .int a2), (3, .int (-1 : Int32)), (4, .int (0 : Int32)), (5, .int (0 : Int32))]) [3, 4, 5, 2, 1, 0] rfl ?_
      exact g_M_near_b33 a1 a2 (-1 : Int32) (0 : Int32) (0 : Int32) w7 h
    · have h := zok_t c8 h
      refine Gz.iconst (n := -1) (v := (-1 : Int32)) (pc' := 24) (by decide +kernel) rfl rfl ?_
      exact Gz.ireturn (by decide +kernel) rfl (zok_sI h)
def f_M_alibi_b114 (k44 : Int32 → Int32 → Int32 → gW → Option (Int32 × gW)) (x1 : Int32) (x2 : Int32) (x3 : Int32) (w : gW) : Option (Int32 × gW) :=
zl (x3 + (1 : Int32)) (fun v1 =>
k44 x1 x2 v1 w)
def f_M_alibi_b108 (k44 : Int32 → Int32 → Int32 → gW → Option (Int32 × gW)) (k75 : Int32 → Int32 → Int32 → Int32 → gW → Option (Int32 × gW)) (x1 : Int32) (x2 : Int32) (x3 : Int32) (x4 : Int32) (w : gW) : Option (Int32 × gW) :=
zl (x4 + (1 : Int32)) (fun v1 =>
k75 x1 x2 x3 v1 w)
def f_M_alibi_b75_s (k44 : Int32 → Int32 → Int32 → gW → Option (Int32 × gW)) (k75 : Int32 → Int32 → Int32 → Int32 → gW → Option (Int32 × gW)) (x1 : Int32) (x2 : Int32) (x3 : Int32) (x4 : Int32) (w : gW) : Option (Int32 × gW) :=
if (w.1 107 21) ≤ x4 then
(f_M_alibi_b114 k44 x1 x2 x3 w)
else
(if inb x4 5 then
if (w.1 112 (ix x4)) = x1 then
(if inb x4 5 then
if (w.1 111 (ix x4)) = x2 then
(some ((0 : Int32), w))
else
(f_M_alibi_b108 k44 k75 x1 x2 x3 x4 w)
else none)
else
(f_M_alibi_b108 k44 k75 x1 x2 x3 x4 w)
else none)
def f_M_alibi_b75 (k44 : Int32 → Int32 → Int32 → gW → Option (Int32 × gW)) : Int32 → Int32 → Int32 → Int32 → gW → Option (Int32 × gW) := zfx (fun _ _ _ _ _ => none) (f_M_alibi_b75_s k44) zFU
def f_M_alibi_b44_s (k44 : Int32 → Int32 → Int32 → gW → Option (Int32 × gW)) (x1 : Int32) (x2 : Int32) (x3 : Int32) (w : gW) : Option (Int32 × gW) :=
if (w.1 107 26) ≤ x3 then
(some ((1 : Int32), w))
else
(if inb x3 16807 then
zb (f_M_live (w.1 118 (ix x3)) w) (fun _ w3 =>
zb (f_M_fits w3) (fun v4 w5 =>
if v4 = 0 then
(f_M_alibi_b114 k44 x1 x2 x3 w5)
else
(f_M_alibi_b75 k44 x1 x2 x3 (0 : Int32) w5)))
else none)
def f_M_alibi_b44 : Int32 → Int32 → Int32 → gW → Option (Int32 × gW) := zfx (fun _ _ _ _ => none) (f_M_alibi_b44_s) zFU
def f_M_alibi (a1 : Int32) (a2 : Int32) (w : gW) : Option (Int32 × gW) :=
zl (zsI w 107 0 (0 : Int32)) (fun w1 =>
if (w1.1 107 21) = 0 then
(some ((-1 : Int32), w1))
else
(zb (f_M_isIn (a1.toInt64) (0 : Int64) (5 : Int64) w1) (fun v4 w5 =>
if v4 = 0 then
(some ((-1 : Int32), w5))
else
(zb (f_M_isIn (a2.toInt64) (0 : Int64) (((w5.1 107 22) - (1 : Int32)).toInt64) w5) (fun v7 w8 =>
if v7 = 0 then
(some ((-1 : Int32), w8))
else
(f_M_alibi_b44 a1 a2 (0 : Int32) w8))))))
theorem g_M_alibi_b114 {l : Launch} {Q : Option Value → gW → Prop} (k44 : Int32 → Int32 → Int32 → gW → Option (Int32 × gW)) (hk44 : ∀ (x1 : Int32) (x2 : Int32) (x3 : Int32) (w : gW), zok eI (k44 x1 x2 x3 w) Q → Gz l m_M_alibi 57 44 [(0, .ref 107), (1, .int x1), (2, .int x2), (3, .int x3)] [] w Q) (x1 : Int32) (x2 : Int32) (x3 : Int32) (w : gW) (h : zok eI (f_M_alibi_b114 k44 x1 x2 x3 w) Q) : Gz l m_M_alibi 57 114 [(0, .ref 107), (1, .int x1), (2, .int x2), (3, .int x3)] [] w Q := by
  unfold f_M_alibi_b114 at h
  obtain ⟨v1, e2⟩ : ∃ y : Int32, y = x3 + (1 : Int32) := ⟨_, rfl⟩
  have h := zok_l e2 h
  refine Gz.iinc (i := 3) (n := 1) (pc' := 117) (L' := [(3, .int v1), (0, .ref 107), (1, .int x1), (2, .int x2)]) v1 (by decide +kernel) rfl 3 rfl (by rw [e2]; rfl) (Nat.le_of_ble_eq_true rfl) rfl ?_
  refine Gz.goto (off := -73) (tgt := 44) (by decide +kernel) (by decide) ?_
  refine Gz.sub (L' := [(0, .ref 107), (1, .int x1), (2, .int x2), (3, .int v1)]) [1, 2, 3, 0] rfl ?_
  exact hk44 x1 x2 v1 w h
theorem g_M_alibi_b108 {l : Launch} {Q : Option Value → gW → Prop} (k44 : Int32 → Int32 → Int32 → gW → Option (Int32 × gW)) (hk44 : ∀ (x1 : Int32) (x2 : Int32) (x3 : Int32) (w : gW), zok eI (k44 x1 x2 x3 w) Q → Gz l m_M_alibi 57 44 [(0, .ref 107), (1, .int x1), (2, .int x2), (3, .int x3)] [] w Q) (k75 : Int32 → Int32 → Int32 → Int32 → gW → Option (Int32 × gW)) (hk75 : ∀ (x1 : Int32) (x2 : Int32) (x3 : Int32) (x4 : Int32) (w : gW), zok eI (k75 x1 x2 x3 x4 w) Q → Gz l m_M_alibi 57 75 [(0, .ref 107), (1, .int x1), (2, .int x2), (3, .int x3), (4, .int x4)] [] w Q) (x1 : Int32) (x2 : Int32) (x3 : Int32) (x4 : Int32) (w : gW) (h : zok eI (f_M_alibi_b108 k44 k75 x1 x2 x3 x4 w) Q) : Gz l m_M_alibi 57 108 [(0, .ref 107), (1, .int x1), (2, .int x2), (3, .int x3), (4, .int x4)] [] w Q := by
  unfold f_M_alibi_b108 at h
  obtain ⟨v1, e2⟩ : ∃ y : Int32, y = x4 + (1 : Int32) := ⟨_, rfl⟩
  have h := zok_l e2 h
  refine Gz.iinc (i := 4) (n := 1) (pc' := 111) (L' := [(4, .int v1), (0, .ref 107), (1, .int x1), (2, .int x2), (3, .int x3)]) v1 (by decide +kernel) rfl 4 rfl (by rw [e2]; rfl) (Nat.le_of_ble_eq_true rfl) rfl ?_
  refine Gz.goto (off := -36) (tgt := 75) (by decide +kernel) (by decide) ?_
  refine Gz.sub (L' := [(0, .ref 107), (1, .int x1), (2, .int x2), (3, .int x3), (4, .int v1)]) [1, 2, 3, 4, 0] rfl ?_
  exact hk75 x1 x2 x3 v1 w h
theorem g_M_alibi_b75_s {l : Launch} {Q : Option Value → gW → Prop} (k44 : Int32 → Int32 → Int32 → gW → Option (Int32 × gW)) (hk44 : ∀ (x1 : Int32) (x2 : Int32) (x3 : Int32) (w : gW), zok eI (k44 x1 x2 x3 w) Q → Gz l m_M_alibi 57 44 [(0, .ref 107), (1, .int x1), (2, .int x2), (3, .int x3)] [] w Q) (k75 : Int32 → Int32 → Int32 → Int32 → gW → Option (Int32 × gW)) (hk75 : ∀ (x1 : Int32) (x2 : Int32) (x3 : Int32) (x4 : Int32) (w : gW), zok eI (k75 x1 x2 x3 x4 w) Q → Gz l m_M_alibi 57 75 [(0, .ref 107), (1, .int x1), (2, .int x2), (3, .int x3), (4, .int x4)] [] w Q) (x1 : Int32) (x2 : Int32) (x3 : Int32) (x4 : Int32) (w : gW) (h : zok eI (f_M_alibi_b75_s k44 k75 x1 x2 x3 x4 w) Q) : Gz l m_M_alibi 57 75 [(0, .ref 107), (1, .int x1), (2, .int x2), (3, .int x3), (4, .int x4)] [] w Q := by
  unfold f_M_alibi_b75_s at h
  refine Gz.iload (i := 4) (pc' := 77) (by decide +kernel) rfl 4 rfl ?_
  refine Gz.aload_n (q := 0) (pc' := 78) (by decide +kernel) rfl 0 rfl ?_
  refine Gz.getI (pc' := 81) (j := 21) fd_M_141 sh_107 rfl (by decide +kernel) rfl ?_
  refine Gz.icmp_ge (off := 33) (tgt := 114) (pc' := 84) (by decide +kernel) (by decide) rfl (fun c1 => ?_) (fun c1 => ?_)
  · have h := zok_t c1 h
    refine Gz.sub (L' := [(0, .ref 107), (1, .int x1), (2, .int x2), (3, .int x3)]) [0, 1, 2, 3] rfl ?_
    exact g_M_alibi_b114 k44 hk44 x1 x2 x3 w h
  · have h := zok_f c1 h
    refine Gz.aload_n (q := 0) (pc' := 85) (by decide +kernel) rfl 0 rfl ?_
    refine Gz.getR (pc' := 88) (j := 15) 112 fd_M_26 sh_107 rfl (by decide +kernel) rfl ?_
    refine Gz.iload (i := 4) (pc' := 90) (by decide +kernel) rfl 4 rfl ?_
    obtain ⟨c2, h⟩ := zok_c h
    refine Gz.iald (pc' := 91) (n := 5) (by decide +kernel) rfl rfl c2 ?_
    refine Gz.iload_n (q := 1) (pc' := 92) (by decide +kernel) rfl 1 rfl ?_
    refine Gz.icmp_ne (off := 16) (tgt := 108) (pc' := 95) (by decide +kernel) (by decide) rfl (fun c3 => ?_) (fun c3 => ?_)
    · have h := zok_f c3 h
      exact g_M_alibi_b108 k44 hk44 k75 hk75 x1 x2 x3 x4 w h
    · have h := zok_t c3 h
      refine Gz.aload_n (q := 0) (pc' := 96) (by decide +kernel) rfl 0 rfl ?_
      refine Gz.getR (pc' := 99) (j := 12) 111 fd_M_23 sh_107 rfl (by decide +kernel) rfl ?_
      refine Gz.iload (i := 4) (pc' := 101) (by decide +kernel) rfl 4 rfl ?_
      obtain ⟨c4, h⟩ := zok_c h
      refine Gz.iald (pc' := 102) (n := 5) (by decide +kernel) rfl rfl c4 ?_
      refine Gz.iload_n (q := 2) (pc' := 103) (by decide +kernel) rfl 2 rfl ?_
      refine Gz.icmp_ne (off := 5) (tgt := 108) (pc' := 106) (by decide +kernel) (by decide) rfl (fun c5 => ?_) (fun c5 => ?_)
      · have h := zok_f c5 h
        exact g_M_alibi_b108 k44 hk44 k75 hk75 x1 x2 x3 x4 w h
      · have h := zok_t c5 h
        refine Gz.iconst (n := 0) (v := (0 : Int32)) (pc' := 107) (by decide +kernel) rfl rfl ?_
        exact Gz.ireturn (by decide +kernel) rfl (zok_sI h)
theorem g_M_alibi_b75 {l : Launch} {Q : Option Value → gW → Prop} (k44 : Int32 → Int32 → Int32 → gW → Option (Int32 × gW)) (hk44 : ∀ (x1 : Int32) (x2 : Int32) (x3 : Int32) (w : gW), zok eI (k44 x1 x2 x3 w) Q → Gz l m_M_alibi 57 44 [(0, .ref 107), (1, .int x1), (2, .int x2), (3, .int x3)] [] w Q) (x1 : Int32) (x2 : Int32) (x3 : Int32) (x4 : Int32) (w : gW) (h : zok eI (f_M_alibi_b75 k44 x1 x2 x3 x4 w) Q) : Gz l m_M_alibi 57 75 [(0, .ref 107), (1, .int x1), (2, .int x2), (3, .int x3), (4, .int x4)] [] w Q := by
  have key : ∀ (n : Nat) (x1 : Int32) (x2 : Int32) (x3 : Int32) (x4 : Int32) (w : gW), zok eI (zfx (fun _ _ _ _ _ => none) (f_M_alibi_b75_s k44) n x1 x2 x3 x4 w) Q → Gz l m_M_alibi 57 75 [(0, .ref 107), (1, .int x1), (2, .int x2), (3, .int x3), (4, .int x4)] [] w Q := by
    intro n
    induction n with
    | zero => intro x1 x2 x3 x4 w h; exact zok_n h
    | succ n ih => intro x1 x2 x3 x4 w h; exact g_M_alibi_b75_s k44 hk44 _ ih x1 x2 x3 x4 w h
  exact key zFU x1 x2 x3 x4 w h
theorem g_M_alibi_b44_s {l : Launch} {Q : Option Value → gW → Prop} (k44 : Int32 → Int32 → Int32 → gW → Option (Int32 × gW)) (hk44 : ∀ (x1 : Int32) (x2 : Int32) (x3 : Int32) (w : gW), zok eI (k44 x1 x2 x3 w) Q → Gz l m_M_alibi 57 44 [(0, .ref 107), (1, .int x1), (2, .int x2), (3, .int x3)] [] w Q) (x1 : Int32) (x2 : Int32) (x3 : Int32) (w : gW) (h : zok eI (f_M_alibi_b44_s k44 x1 x2 x3 w) Q) : Gz l m_M_alibi 57 44 [(0, .ref 107), (1, .int x1), (2, .int x2), (3, .int x3)] [] w Q := by
  unfold f_M_alibi_b44_s at h
  refine Gz.iload_n (q := 3) (pc' := 45) (by decide +kernel) rfl 3 rfl ?_
  refine Gz.aload_n (q := 0) (pc' := 46) (by decide +kernel) rfl 0 rfl ?_
  refine Gz.getI (pc' := 49) (j := 26) fd_M_224 sh_107 rfl (by decide +kernel) rfl ?_
  refine Gz.icmp_ge (off := 71) (tgt := 120) (pc' := 52) (by decide +kernel) (by decide) rfl (fun c1 => ?_) (fun c1 => ?_)
  · have h := zok_t c1 h
    refine Gz.iconst (n := 1) (v := (1 : Int32)) (pc' := 121) (by decide +kernel) rfl rfl ?_
    exact Gz.ireturn (by decide +kernel) rfl (zok_sI h)
  · have h := zok_f c1 h
    refine Gz.aload_n (q := 0) (pc' := 53) (by decide +kernel) rfl 0 rfl ?_
    refine Gz.aload_n (q := 0) (pc' := 54) (by decide +kernel) rfl 0 rfl ?_
    refine Gz.getR (pc' := 57) (j := 25) 118 fd_M_44 sh_107 rfl (by decide +kernel) rfl ?_
    refine Gz.iload_n (q := 3) (pc' := 58) (by decide +kernel) rfl 3 rfl ?_
    obtain ⟨c2, h⟩ := zok_c h
    refine Gz.iald (pc' := 59) (n := 16807) (by decide +kernel) rfl rfl c2 ?_
    refine Gz.callVV (st := []) (b := 107) (pc' := 62) [.int (w.1 118 (ix x3))] (g_M_live (w.1 118 (ix x3)) w) h ok_m_M_live lk_M_231 sh_107 rfl rfl rfl (Nat.le_of_ble_eq_true rfl) (Nat.le_of_ble_eq_true rfl) (Nat.le_of_ble_eq_true rfl) (by decide +kernel) rfl (fun _ w3 h => ?_)
    refine Gz.aload_n (q := 0) (pc' := 63) (by decide +kernel) rfl 0 rfl ?_
    refine Gz.callVI (st := []) (b := 107) (pc' := 66) [] (g_M_fits w3) h ok_m_M_fits lk_M_267 sh_107 rfl rfl rfl (Nat.le_of_ble_eq_true rfl) (Nat.le_of_ble_eq_true rfl) (Nat.le_of_ble_eq_true rfl) (by decide +kernel) rfl (fun v4 w5 h => ?_)
    refine Gz.if_ne (off := 6) (tgt := 72) (pc' := 69) (by decide +kernel) (by decide) rfl (fun c6 => ?_) (fun c6 => ?_)
    · have h := zok_f c6 h
      refine Gz.iconst (n := 0) (v := (0 : Int32)) (pc' := 73) (by decide +kernel) rfl rfl ?_
      refine Gz.istore (i := 4) (pc' := 75) (L' := [(4, .int (0 : Int32)), (0, .ref 107), (1, .int x1), (2, .int x2), (3, .int x3)]) (by decide +kernel) rfl (Nat.le_of_ble_eq_true rfl) rfl ?_
      refine Gz.sub (L' := [(0, .ref 107), (1, .int x1), (2, .int x2), (3, .int x3), (4, .int (0 : Int32))]) [1, 2, 3, 4, 0] rfl ?_
      exact g_M_alibi_b75 k44 hk44 x1 x2 x3 (0 : Int32) w5 h
    · have h := zok_t c6 h
      refine Gz.goto (off := 45) (tgt := 114) (by decide +kernel) (by decide) ?_
      exact g_M_alibi_b114 k44 hk44 x1 x2 x3 w5 h
theorem g_M_alibi_b44 {l : Launch} {Q : Option Value → gW → Prop} (x1 : Int32) (x2 : Int32) (x3 : Int32) (w : gW) (h : zok eI (f_M_alibi_b44 x1 x2 x3 w) Q) : Gz l m_M_alibi 57 44 [(0, .ref 107), (1, .int x1), (2, .int x2), (3, .int x3)] [] w Q := by
  have key : ∀ (n : Nat) (x1 : Int32) (x2 : Int32) (x3 : Int32) (w : gW), zok eI (zfx (fun _ _ _ _ => none) (f_M_alibi_b44_s) n x1 x2 x3 w) Q → Gz l m_M_alibi 57 44 [(0, .ref 107), (1, .int x1), (2, .int x2), (3, .int x3)] [] w Q := by
    intro n
    induction n with
    | zero => intro x1 x2 x3 w h; exact zok_n h
    | succ n ih => intro x1 x2 x3 w h; exact g_M_alibi_b44_s _ ih x1 x2 x3 w h
  exact key zFU x1 x2 x3 w h
theorem g_M_alibi {l : Launch} (a1 : Int32) (a2 : Int32) (w : gW) : gCt l m_M_alibi 57 [.ref 107, .int a1, .int a2] w eI (f_M_alibi a1 a2 w) := by
  intro Q h
  unfold f_M_alibi at h
  show Gz l m_M_alibi 57 0 [(0, .ref 107), (1, .int a1), (2, .int a2)] [] w Q
  refine Gz.aload_n (q := 0) (pc' := 1) (by decide +kernel) rfl 0 rfl ?_
  refine Gz.iconst (n := 0) (v := (0 : Int32)) (pc' := 2) (by decide +kernel) rfl rfl ?_
  refine Gz.putI (pc' := 5) (j := 0) fd_M_96 sh_107 rfl (by decide +kernel) rfl ?_
  refine Gz.nmW (fun w1 e2 => ?_)
  have h := zok_l e2 h
  refine Gz.aload_n (q := 0) (pc' := 6) (by decide +kernel) rfl 0 rfl ?_
  refine Gz.getI (pc' := 9) (j := 21) fd_M_141 sh_107 rfl (by decide +kernel) rfl ?_
  refine Gz.if_eq (off := 31) (tgt := 40) (pc' := 12) (by decide +kernel) (by decide) rfl (fun c3 => ?_) (fun c3 => ?_)
  · have h := zok_t c3 h
    refine Gz.iconst (n := -1) (v := (-1 : Int32)) (pc' := 41) (by decide +kernel) rfl rfl ?_
    exact Gz.ireturn (by decide +kernel) rfl (zok_sI h)
  · have h := zok_f c3 h
    refine Gz.iload_n (q := 1) (pc' := 13) (by decide +kernel) rfl 1 rfl ?_
    refine Gz.i2l (pc' := 14) (by decide +kernel) rfl ?_
    refine Gz.lconst (n := 0) (v := (0 : Int64)) (pc' := 15) (by decide +kernel) rfl rfl ?_
    refine Gz.ldc2 (idx := 239) (v := (5 : Int64)) (pc' := 18) (by decide +kernel) rfl kc_M_239 ?_
    refine Gz.callSI (st := []) (pc' := 21) [.long (a1.toInt64), .long (0 : Int64), .long (5 : Int64)] (g_M_isIn (a1.toInt64) (0 : Int64) (5 : Int64) w1) h ok_m_M_isIn lk_M_137 rfl (Nat.le_of_ble_eq_true rfl) (Nat.le_of_ble_eq_true rfl) (Nat.le_of_ble_eq_true rfl) (by decide +kernel) rfl (fun v4 w5 h => ?_)
    refine Gz.if_eq (off := 19) (tgt := 40) (pc' := 24) (by decide +kernel) (by decide) rfl (fun c6 => ?_) (fun c6 => ?_)
    · have h := zok_t c6 h
      refine Gz.iconst (n := -1) (v := (-1 : Int32)) (pc' := 41) (by decide +kernel) rfl rfl ?_
      exact Gz.ireturn (by decide +kernel) rfl (zok_sI h)
    · have h := zok_f c6 h
      refine Gz.iload_n (q := 2) (pc' := 25) (by decide +kernel) rfl 2 rfl ?_
      refine Gz.i2l (pc' := 26) (by decide +kernel) rfl ?_
      refine Gz.lconst (n := 0) (v := (0 : Int64)) (pc' := 27) (by decide +kernel) rfl rfl ?_
      refine Gz.aload_n (q := 0) (pc' := 28) (by decide +kernel) rfl 0 rfl ?_
      refine Gz.getI (pc' := 31) (j := 22) fd_M_208 sh_107 rfl (by decide +kernel) rfl ?_
      refine Gz.iconst (n := 1) (v := (1 : Int32)) (pc' := 32) (by decide +kernel) rfl rfl ?_
      refine Gz.isub (pc' := 33) (by decide +kernel) rfl ?_
      refine Gz.i2l (pc' := 34) (by decide +kernel) rfl ?_
      refine Gz.callSI (st := []) (pc' := 37) [.long (a2.toInt64), .long (0 : Int64), .long (((w5.1 107 22) - (1 : Int32)).toInt64)] (g_M_isIn (a2.toInt64) (0 : Int64) (((w5.1 107 22) - (1 : Int32)).toInt64) w5) h ok_m_M_isIn lk_M_137 rfl (Nat.le_of_ble_eq_true rfl) (Nat.le_of_ble_eq_true rfl) (Nat.le_of_ble_eq_true rfl) (by decide +kernel) rfl (fun v7 w8 h => ?_)
      refine Gz.if_ne (off := 5) (tgt := 42) (pc' := 40) (by decide +kernel) (by decide) rfl (fun c9 => ?_) (fun c9 => ?_)
      · have h := zok_f c9 h
        refine Gz.iconst (n := 0) (v := (0 : Int32)) (pc' := 43) (by decide +kernel) rfl rfl ?_
        refine Gz.istore_n (q := 3) (pc' := 44) (L' := [(3, .int (0 : Int32)), (0, .ref 107), (1, .int a1), (2, .int a2)]) (by decide +kernel) rfl (Nat.le_of_ble_eq_true rfl) rfl ?_
        refine Gz.sub (L' := [(0, .ref 107), (1, .int a1), (2, .int a2), (3, .int (0 : Int32))]) [1, 2, 3, 0] rfl ?_
        exact g_M_alibi_b44 a1 a2 (0 : Int32) w8 h
      · have h := zok_t c9 h
        refine Gz.iconst (n := -1) (v := (-1 : Int32)) (pc' := 41) (by decide +kernel) rfl rfl ?_
        exact Gz.ireturn (by decide +kernel) rfl (zok_sI h)
def f_M_hands_b99 (k19 : Int32 → Int32 → gW → Option (Int32 × gW)) (x1 : Int32) (x2 : Int32) (w : gW) : Option (Int32 × gW) :=
zl (x2 + (1 : Int32)) (fun v1 =>
k19 x1 v1 w)
def f_M_hands_b87 (k19 : Int32 → Int32 → gW → Option (Int32 × gW)) (k52 : Int32 → Int32 → Int32 → Int32 → gW → Option (Int32 × gW)) (x1 : Int32) (x2 : Int32) (x4 : Int32) (s0 : Int32) (s1 : Int32) (w : gW) : Option (Int32 × gW) :=
zl (s0 ||| s1) (fun v1 =>
zl (x4 + (1 : Int32)) (fun v3 =>
k52 x1 x2 v1 v3 w))
def f_M_hands_b52_s (k19 : Int32 → Int32 → gW → Option (Int32 × gW)) (k52 : Int32 → Int32 → Int32 → Int32 → gW → Option (Int32 × gW)) (x1 : Int32) (x2 : Int32) (x3 : Int32) (x4 : Int32) (w : gW) : Option (Int32 × gW) :=
if (w.1 107 21) ≤ x4 then
(zl (x1 &&& x3) (fun v2 =>
f_M_hands_b99 k19 v2 x2 w))
else
(if inb x4 5 then
if (w.1 111 (ix x4)) = (9 : Int32) then
(f_M_hands_b87 k19 k52 x1 x2 x4 x3 (0 : Int32) w)
else
(if inb x4 5 then
f_M_hands_b87 k19 k52 x1 x2 x4 x3 ((1 : Int32) <<< ((w.1 112 (ix x4)) &&& 31)) w
else none)
else none)
def f_M_hands_b52 (k19 : Int32 → Int32 → gW → Option (Int32 × gW)) : Int32 → Int32 → Int32 → Int32 → gW → Option (Int32 × gW) := zfx (fun _ _ _ _ _ => none) (f_M_hands_b52_s k19) zFU
def f_M_hands_b19_s (k19 : Int32 → Int32 → gW → Option (Int32 × gW)) (x1 : Int32) (x2 : Int32) (w : gW) : Option (Int32 × gW) :=
if (w.1 107 26) ≤ x2 then
(some (x1, w))
else
(if inb x2 16807 then
zb (f_M_live (w.1 118 (ix x2)) w) (fun _ w3 =>
zb (f_M_fits w3) (fun v4 w5 =>
if v4 = 0 then
(f_M_hands_b99 k19 x1 x2 w5)
else
(f_M_hands_b52 k19 x1 x2 (0 : Int32) (0 : Int32) w5)))
else none)
def f_M_hands_b19 : Int32 → Int32 → gW → Option (Int32 × gW) := zfx (fun _ _ _ => none) (f_M_hands_b19_s) zFU
def f_M_hands (w : gW) : Option (Int32 × gW) :=
zl (zsI w 107 0 (0 : Int32)) (fun w1 =>
if (w1.1 107 21) = 0 then
(some ((-1 : Int32), w1))
else
(f_M_hands_b19 (63 : Int32) (0 : Int32) w1))
theorem g_M_hands_b99 {l : Launch} {Q : Option Value → gW → Prop} (k19 : Int32 → Int32 → gW → Option (Int32 × gW)) (hk19 : ∀ (x1 : Int32) (x2 : Int32) (w : gW), zok eI (k19 x1 x2 w) Q → Gz l m_M_hands 57 19 [(0, .ref 107), (1, .int x1), (2, .int x2)] [] w Q) (x1 : Int32) (x2 : Int32) (w : gW) (h : zok eI (f_M_hands_b99 k19 x1 x2 w) Q) : Gz l m_M_hands 57 99 [(0, .ref 107), (1, .int x1), (2, .int x2)] [] w Q := by
  unfold f_M_hands_b99 at h
  obtain ⟨v1, e2⟩ : ∃ y : Int32, y = x2 + (1 : Int32) := ⟨_, rfl⟩
  have h := zok_l e2 h
  refine Gz.iinc (i := 2) (n := 1) (pc' := 102) (L' := [(2, .int v1), (0, .ref 107), (1, .int x1)]) v1 (by decide +kernel) rfl 2 rfl (by rw [e2]; rfl) (Nat.le_of_ble_eq_true rfl) rfl ?_
  refine Gz.goto (off := -83) (tgt := 19) (by decide +kernel) (by decide) ?_
  refine Gz.sub (L' := [(0, .ref 107), (1, .int x1), (2, .int v1)]) [1, 2, 0] rfl ?_
  exact hk19 x1 v1 w h
theorem g_M_hands_b87 {l : Launch} {Q : Option Value → gW → Prop} (k19 : Int32 → Int32 → gW → Option (Int32 × gW)) (hk19 : ∀ (x1 : Int32) (x2 : Int32) (w : gW), zok eI (k19 x1 x2 w) Q → Gz l m_M_hands 57 19 [(0, .ref 107), (1, .int x1), (2, .int x2)] [] w Q) (k52 : Int32 → Int32 → Int32 → Int32 → gW → Option (Int32 × gW)) (hk52 : ∀ (x1 : Int32) (x2 : Int32) (x3 : Int32) (x4 : Int32) (w : gW), zok eI (k52 x1 x2 x3 x4 w) Q → Gz l m_M_hands 57 52 [(0, .ref 107), (1, .int x1), (2, .int x2), (3, .int x3), (4, .int x4)] [] w Q) (x1 : Int32) (x2 : Int32) (x4 : Int32) (s0 : Int32) (s1 : Int32) (w : gW) (h : zok eI (f_M_hands_b87 k19 k52 x1 x2 x4 s0 s1 w) Q) : Gz l m_M_hands 57 87 [(0, .ref 107), (1, .int x1), (2, .int x2), (4, .int x4)] [.int s1, .int s0] w Q := by
  unfold f_M_hands_b87 at h
  refine Gz.ior (pc' := 88) (by decide +kernel) rfl ?_
  refine Gz.nmI (fun v1 e2 => ?_)
  have h := zok_l e2 h
  refine Gz.istore_n (q := 3) (pc' := 89) (L' := [(3, .int v1), (0, .ref 107), (1, .int x1), (2, .int x2), (4, .int x4)]) (by decide +kernel) rfl (Nat.le_of_ble_eq_true rfl) rfl ?_
  obtain ⟨v3, e4⟩ : ∃ y : Int32, y = x4 + (1 : Int32) := ⟨_, rfl⟩
  have h := zok_l e4 h
  refine Gz.iinc (i := 4) (n := 1) (pc' := 92) (L' := [(4, .int v3), (3, .int v1), (0, .ref 107), (1, .int x1), (2, .int x2)]) v3 (by decide +kernel) rfl 4 rfl (by rw [e4]; rfl) (Nat.le_of_ble_eq_true rfl) rfl ?_
  refine Gz.goto (off := -40) (tgt := 52) (by decide +kernel) (by decide) ?_
  refine Gz.sub (L' := [(0, .ref 107), (1, .int x1), (2, .int x2), (3, .int v1), (4, .int v3)]) [2, 3, 4, 1, 0] rfl ?_
  exact hk52 x1 x2 v1 v3 w h
theorem g_M_hands_b52_s {l : Launch} {Q : Option Value → gW → Prop} (k19 : Int32 → Int32 → gW → Option (Int32 × gW)) (hk19 : ∀ (x1 : Int32) (x2 : Int32) (w : gW), zok eI (k19 x1 x2 w) Q → Gz l m_M_hands 57 19 [(0, .ref 107), (1, .int x1), (2, .int x2)] [] w Q) (k52 : Int32 → Int32 → Int32 → Int32 → gW → Option (Int32 × gW)) (hk52 : ∀ (x1 : Int32) (x2 : Int32) (x3 : Int32) (x4 : Int32) (w : gW), zok eI (k52 x1 x2 x3 x4 w) Q → Gz l m_M_hands 57 52 [(0, .ref 107), (1, .int x1), (2, .int x2), (3, .int x3), (4, .int x4)] [] w Q) (x1 : Int32) (x2 : Int32) (x3 : Int32) (x4 : Int32) (w : gW) (h : zok eI (f_M_hands_b52_s k19 k52 x1 x2 x3 x4 w) Q) : Gz l m_M_hands 57 52 [(0, .ref 107), (1, .int x1), (2, .int x2), (3, .int x3), (4, .int x4)] [] w Q := by
  unfold f_M_hands_b52_s at h
  refine Gz.iload (i := 4) (pc' := 54) (by decide +kernel) rfl 4 rfl ?_
  refine Gz.aload_n (q := 0) (pc' := 55) (by decide +kernel) rfl 0 rfl ?_
  refine Gz.getI (pc' := 58) (j := 21) fd_M_141 sh_107 rfl (by decide +kernel) rfl ?_
  refine Gz.icmp_ge (off := 37) (tgt := 95) (pc' := 61) (by decide +kernel) (by decide) rfl (fun c1 => ?_) (fun c1 => ?_)
  · have h := zok_t c1 h
    refine Gz.iload_n (q := 1) (pc' := 96) (by decide +kernel) rfl 1 rfl ?_
    refine Gz.iload_n (q := 3) (pc' := 97) (by decide +kernel) rfl 3 rfl ?_
    refine Gz.iand (pc' := 98) (by decide +kernel) rfl ?_
    refine Gz.nmI (fun v2 e3 => ?_)
    have h := zok_l e3 h
    refine Gz.istore_n (q := 1) (pc' := 99) (L' := [(1, .int v2), (0, .ref 107), (2, .int x2), (3, .int x3), (4, .int x4)]) (by decide +kernel) rfl (Nat.le_of_ble_eq_true rfl) rfl ?_
    refine Gz.sub (L' := [(0, .ref 107), (1, .int v2), (2, .int x2)]) [1, 0, 2] rfl ?_
    exact g_M_hands_b99 k19 hk19 v2 x2 w h
  · have h := zok_f c1 h
    refine Gz.iload_n (q := 3) (pc' := 62) (by decide +kernel) rfl 3 rfl ?_
    refine Gz.aload_n (q := 0) (pc' := 63) (by decide +kernel) rfl 0 rfl ?_
    refine Gz.getR (pc' := 66) (j := 12) 111 fd_M_23 sh_107 rfl (by decide +kernel) rfl ?_
    refine Gz.iload (i := 4) (pc' := 68) (by decide +kernel) rfl 4 rfl ?_
    obtain ⟨c4, h⟩ := zok_c h
    refine Gz.iald (pc' := 69) (n := 5) (by decide +kernel) rfl rfl c4 ?_
    refine Gz.bipush (n := 9) (v := (9 : Int32)) (pc' := 71) (by decide +kernel) rfl rfl ?_
    refine Gz.icmp_ne (off := 7) (tgt := 78) (pc' := 74) (by decide +kernel) (by decide) rfl (fun c5 => ?_) (fun c5 => ?_)
    · have h := zok_f c5 h
      refine Gz.iconst (n := 1) (v := (1 : Int32)) (pc' := 79) (by decide +kernel) rfl rfl ?_
      refine Gz.aload_n (q := 0) (pc' := 80) (by decide +kernel) rfl 0 rfl ?_
      refine Gz.getR (pc' := 83) (j := 15) 112 fd_M_26 sh_107 rfl (by decide +kernel) rfl ?_
      refine Gz.iload (i := 4) (pc' := 85) (by decide +kernel) rfl 4 rfl ?_
      obtain ⟨c6, h⟩ := zok_c h
      refine Gz.iald (pc' := 86) (n := 5) (by decide +kernel) rfl rfl c6 ?_
      refine Gz.ishl (pc' := 87) (by decide +kernel) rfl ?_
      refine Gz.sub (L' := [(0, .ref 107), (1, .int x1), (2, .int x2), (4, .int x4)]) [0, 1, 2, 4] rfl ?_
      exact g_M_hands_b87 k19 hk19 k52 hk52 x1 x2 x4 x3 ((1 : Int32) <<< ((w.1 112 (ix x4)) &&& 31)) w h
    · have h := zok_t c5 h
      refine Gz.iconst (n := 0) (v := (0 : Int32)) (pc' := 75) (by decide +kernel) rfl rfl ?_
      refine Gz.goto (off := 12) (tgt := 87) (by decide +kernel) (by decide) ?_
      refine Gz.sub (L' := [(0, .ref 107), (1, .int x1), (2, .int x2), (4, .int x4)]) [0, 1, 2, 4] rfl ?_
      exact g_M_hands_b87 k19 hk19 k52 hk52 x1 x2 x4 x3 (0 : Int32) w h
theorem g_M_hands_b52 {l : Launch} {Q : Option Value → gW → Prop} (k19 : Int32 → Int32 → gW → Option (Int32 × gW)) (hk19 : ∀ (x1 : Int32) (x2 : Int32) (w : gW), zok eI (k19 x1 x2 w) Q → Gz l m_M_hands 57 19 [(0, .ref 107), (1, .int x1), (2, .int x2)] [] w Q) (x1 : Int32) (x2 : Int32) (x3 : Int32) (x4 : Int32) (w : gW) (h : zok eI (f_M_hands_b52 k19 x1 x2 x3 x4 w) Q) : Gz l m_M_hands 57 52 [(0, .ref 107), (1, .int x1), (2, .int x2), (3, .int x3), (4, .int x4)] [] w Q := by
  have key : ∀ (n : Nat) (x1 : Int32) (x2 : Int32) (x3 : Int32) (x4 : Int32) (w : gW), zok eI (zfx (fun _ _ _ _ _ => none) (f_M_hands_b52_s k19) n x1 x2 x3 x4 w) Q → Gz l m_M_hands 57 52 [(0, .ref 107), (1, .int x1), (2, .int x2), (3, .int x3), (4, .int x4)] [] w Q := by
    intro n
    induction n with
    | zero => intro x1 x2 x3 x4 w h; exact zok_n h
    | succ n ih => intro x1 x2 x3 x4 w h; exact g_M_hands_b52_s k19 hk19 _ ih x1 x2 x3 x4 w h
  exact key zFU x1 x2 x3 x4 w h
theorem g_M_hands_b19_s {l : Launch} {Q : Option Value → gW → Prop} (k19 : Int32 → Int32 → gW → Option (Int32 × gW)) (hk19 : ∀ (x1 : Int32) (x2 : Int32) (w : gW), zok eI (k19 x1 x2 w) Q → Gz l m_M_hands 57 19 [(0, .ref 107), (1, .int x1), (2, .int x2)] [] w Q) (x1 : Int32) (x2 : Int32) (w : gW) (h : zok eI (f_M_hands_b19_s k19 x1 x2 w) Q) : Gz l m_M_hands 57 19 [(0, .ref 107), (1, .int x1), (2, .int x2)] [] w Q := by
  unfold f_M_hands_b19_s at h
  refine Gz.iload_n (q := 2) (pc' := 20) (by decide +kernel) rfl 2 rfl ?_
  refine Gz.aload_n (q := 0) (pc' := 21) (by decide +kernel) rfl 0 rfl ?_
  refine Gz.getI (pc' := 24) (j := 26) fd_M_224 sh_107 rfl (by decide +kernel) rfl ?_
  refine Gz.icmp_ge (off := 81) (tgt := 105) (pc' := 27) (by decide +kernel) (by decide) rfl (fun c1 => ?_) (fun c1 => ?_)
  · have h := zok_t c1 h
    refine Gz.iload_n (q := 1) (pc' := 106) (by decide +kernel) rfl 1 rfl ?_
    exact Gz.ireturn (by decide +kernel) rfl (zok_sI h)
  · have h := zok_f c1 h
    refine Gz.aload_n (q := 0) (pc' := 28) (by decide +kernel) rfl 0 rfl ?_
    refine Gz.aload_n (q := 0) (pc' := 29) (by decide +kernel) rfl 0 rfl ?_
    refine Gz.getR (pc' := 32) (j := 25) 118 fd_M_44 sh_107 rfl (by decide +kernel) rfl ?_
    refine Gz.iload_n (q := 2) (pc' := 33) (by decide +kernel) rfl 2 rfl ?_
    obtain ⟨c2, h⟩ := zok_c h
    refine Gz.iald (pc' := 34) (n := 16807) (by decide +kernel) rfl rfl c2 ?_
    refine Gz.callVV (st := []) (b := 107) (pc' := 37) [.int (w.1 118 (ix x2))] (g_M_live (w.1 118 (ix x2)) w) h ok_m_M_live lk_M_231 sh_107 rfl rfl rfl (Nat.le_of_ble_eq_true rfl) (Nat.le_of_ble_eq_true rfl) (Nat.le_of_ble_eq_true rfl) (by decide +kernel) rfl (fun _ w3 h => ?_)
    refine Gz.aload_n (q := 0) (pc' := 38) (by decide +kernel) rfl 0 rfl ?_
    refine Gz.callVI (st := []) (b := 107) (pc' := 41) [] (g_M_fits w3) h ok_m_M_fits lk_M_267 sh_107 rfl rfl rfl (Nat.le_of_ble_eq_true rfl) (Nat.le_of_ble_eq_true rfl) (Nat.le_of_ble_eq_true rfl) (by decide +kernel) rfl (fun v4 w5 h => ?_)
    refine Gz.if_ne (off := 6) (tgt := 47) (pc' := 44) (by decide +kernel) (by decide) rfl (fun c6 => ?_) (fun c6 => ?_)
    · have h := zok_f c6 h
      refine Gz.iconst (n := 0) (v := (0 : Int32)) (pc' := 48) (by decide +kernel) rfl rfl ?_
      refine Gz.istore_n (q := 3) (pc' := 49) (L' := [(3, .int (0 : Int32)), (0, .ref 107), (1, .int x1), (2, .int x2)]) (by decide +kernel) rfl (Nat.le_of_ble_eq_true rfl) rfl ?_
      refine Gz.iconst (n := 0) (v := (0 : Int32)) (pc' := 50) (by decide +kernel) rfl rfl ?_
      refine Gz.istore (i := 4) (pc' := 52) (L' := [(4, .int (0 : Int32)), (3, .int (0 : Int32)), (0, .ref 107), (1, .int x1), (2, .int x2)]) (by decide +kernel) rfl (Nat.le_of_ble_eq_true rfl) rfl ?_
      refine Gz.sub (L' := [(0, .ref 107), (1, .int x1), (2, .int x2), (3, .int (0 : Int32)), (4, .int (0 : Int32))]) [2, 3, 4, 1, 0] rfl ?_
      exact g_M_hands_b52 k19 hk19 x1 x2 (0 : Int32) (0 : Int32) w5 h
    · have h := zok_t c6 h
      refine Gz.goto (off := 55) (tgt := 99) (by decide +kernel) (by decide) ?_
      exact g_M_hands_b99 k19 hk19 x1 x2 w5 h
theorem g_M_hands_b19 {l : Launch} {Q : Option Value → gW → Prop} (x1 : Int32) (x2 : Int32) (w : gW) (h : zok eI (f_M_hands_b19 x1 x2 w) Q) : Gz l m_M_hands 57 19 [(0, .ref 107), (1, .int x1), (2, .int x2)] [] w Q := by
  have key : ∀ (n : Nat) (x1 : Int32) (x2 : Int32) (w : gW), zok eI (zfx (fun _ _ _ => none) (f_M_hands_b19_s) n x1 x2 w) Q → Gz l m_M_hands 57 19 [(0, .ref 107), (1, .int x1), (2, .int x2)] [] w Q := by
    intro n
    induction n with
    | zero => intro x1 x2 w h; exact zok_n h
    | succ n ih => intro x1 x2 w h; exact g_M_hands_b19_s _ ih x1 x2 w h
  exact key zFU x1 x2 w h
theorem g_M_hands {l : Launch} (w : gW) : gCt l m_M_hands 57 [.ref 107] w eI (f_M_hands w) := by
  intro Q h
  unfold f_M_hands at h
  show Gz l m_M_hands 57 0 [(0, .ref 107)] [] w Q
  refine Gz.aload_n (q := 0) (pc' := 1) (by decide +kernel) rfl 0 rfl ?_
  refine Gz.iconst (n := 0) (v := (0 : Int32)) (pc' := 2) (by decide +kernel) rfl rfl ?_
  refine Gz.putI (pc' := 5) (j := 0) fd_M_96 sh_107 rfl (by decide +kernel) rfl ?_
  refine Gz.nmW (fun w1 e2 => ?_)
  have h := zok_l e2 h
  refine Gz.aload_n (q := 0) (pc' := 6) (by decide +kernel) rfl 0 rfl ?_
  refine Gz.getI (pc' := 9) (j := 21) fd_M_141 sh_107 rfl (by decide +kernel) rfl ?_
  refine Gz.if_ne (off := 5) (tgt := 14) (pc' := 12) (by decide +kernel) (by decide) rfl (fun c3 => ?_) (fun c3 => ?_)
  · have h := zok_f c3 h
    refine Gz.bipush (n := 63) (v := (63 : Int32)) (pc' := 16) (by decide +kernel) rfl rfl ?_
    refine Gz.istore_n (q := 1) (pc' := 17) (L' := [(1, .int (63 : Int32)), (0, .ref 107)]) (by decide +kernel) rfl (Nat.le_of_ble_eq_true rfl) rfl ?_
    refine Gz.iconst (n := 0) (v := (0 : Int32)) (pc' := 18) (by decide +kernel) rfl rfl ?_
    refine Gz.istore_n (q := 2) (pc' := 19) (L' := [(2, .int (0 : Int32)), (1, .int (63 : Int32)), (0, .ref 107)]) (by decide +kernel) rfl (Nat.le_of_ble_eq_true rfl) rfl ?_
    refine Gz.sub (L' := [(0, .ref 107), (1, .int (63 : Int32)), (2, .int (0 : Int32))]) [2, 1, 0] rfl ?_
    exact g_M_hands_b19 (63 : Int32) (0 : Int32) w1 h
  · have h := zok_t c3 h
    refine Gz.iconst (n := -1) (v := (-1 : Int32)) (pc' := 13) (by decide +kernel) rfl rfl ?_
    exact Gz.ireturn (by decide +kernel) rfl (zok_sI h)
def f_M_doneMany_b29 (k4 : Int32 → Int32 → gW → Option (Int32 × gW)) (x2 : Int32) (s0 : Int32) (s1 : Int32) (w : gW) : Option (Int32 × gW) :=
zl (s0 + s1) (fun v1 =>
zl (x2 + (1 : Int32)) (fun v3 =>
k4 v1 v3 w))
def f_M_doneMany_b4_s (k4 : Int32 → Int32 → gW → Option (Int32 × gW)) (x1 : Int32) (x2 : Int32) (w : gW) : Option (Int32 × gW) :=
if (w.1 107 21) ≤ x2 then
(some (x1, w))
else
(if inb x2 5 then
if (w.1 111 (ix x2)) = (9 : Int32) then
(f_M_doneMany_b29 k4 x2 x1 (0 : Int32) w)
else
(f_M_doneMany_b29 k4 x2 x1 (1 : Int32) w)
else none)
def f_M_doneMany_b4 : Int32 → Int32 → gW → Option (Int32 × gW) := zfx (fun _ _ _ => none) (f_M_doneMany_b4_s) zFU
def f_M_doneMany (w : gW) : Option (Int32 × gW) :=
f_M_doneMany_b4 (0 : Int32) (0 : Int32) w
theorem g_M_doneMany_b29 {l : Launch} {Q : Option Value → gW → Prop} (k4 : Int32 → Int32 → gW → Option (Int32 × gW)) (hk4 : ∀ (x1 : Int32) (x2 : Int32) (w : gW), zok eI (k4 x1 x2 w) Q → Gz l m_M_doneMany 1 4 [(0, .ref 107), (1, .int x1), (2, .int x2)] [] w Q) (x2 : Int32) (s0 : Int32) (s1 : Int32) (w : gW) (h : zok eI (f_M_doneMany_b29 k4 x2 s0 s1 w) Q) : Gz l m_M_doneMany 1 29 [(0, .ref 107), (2, .int x2)] [.int s1, .int s0] w Q := by
  unfold f_M_doneMany_b29 at h
  refine Gz.iadd (pc' := 30) (by decide +kernel) rfl ?_
  refine Gz.nmI (fun v1 e2 => ?_)
  have h := zok_l e2 h
  refine Gz.istore_n (q := 1) (pc' := 31) (L' := [(1, .int v1), (0, .ref 107), (2, .int x2)]) (by decide +kernel) rfl (Nat.le_of_ble_eq_true rfl) rfl ?_
  obtain ⟨v3, e4⟩ : ∃ y : Int32, y = x2 + (1 : Int32) := ⟨_, rfl⟩
  have h := zok_l e4 h
  refine Gz.iinc (i := 2) (n := 1) (pc' := 34) (L' := [(2, .int v3), (1, .int v1), (0, .ref 107)]) v3 (by decide +kernel) rfl 2 rfl (by rw [e4]; rfl) (Nat.le_of_ble_eq_true rfl) rfl ?_
  refine Gz.goto (off := -30) (tgt := 4) (by decide +kernel) (by decide) ?_
  refine Gz.sub (L' := [(0, .ref 107), (1, .int v1), (2, .int v3)]) [2, 1, 0] rfl ?_
  exact hk4 v1 v3 w h
theorem g_M_doneMany_b4_s {l : Launch} {Q : Option Value → gW → Prop} (k4 : Int32 → Int32 → gW → Option (Int32 × gW)) (hk4 : ∀ (x1 : Int32) (x2 : Int32) (w : gW), zok eI (k4 x1 x2 w) Q → Gz l m_M_doneMany 1 4 [(0, .ref 107), (1, .int x1), (2, .int x2)] [] w Q) (x1 : Int32) (x2 : Int32) (w : gW) (h : zok eI (f_M_doneMany_b4_s k4 x1 x2 w) Q) : Gz l m_M_doneMany 1 4 [(0, .ref 107), (1, .int x1), (2, .int x2)] [] w Q := by
  unfold f_M_doneMany_b4_s at h
  refine Gz.iload_n (q := 2) (pc' := 5) (by decide +kernel) rfl 2 rfl ?_
  refine Gz.aload_n (q := 0) (pc' := 6) (by decide +kernel) rfl 0 rfl ?_
  refine Gz.getI (pc' := 9) (j := 21) fd_M_141 sh_107 rfl (by decide +kernel) rfl ?_
  refine Gz.icmp_ge (off := 28) (tgt := 37) (pc' := 12) (by decide +kernel) (by decide) rfl (fun c1 => ?_) (fun c1 => ?_)
  · have h := zok_t c1 h
    refine Gz.iload_n (q := 1) (pc' := 38) (by decide +kernel) rfl 1 rfl ?_
    exact Gz.ireturn (by decide +kernel) rfl (zok_sI h)
  · have h := zok_f c1 h
    refine Gz.iload_n (q := 1) (pc' := 13) (by decide +kernel) rfl 1 rfl ?_
    refine Gz.aload_n (q := 0) (pc' := 14) (by decide +kernel) rfl 0 rfl ?_
    refine Gz.getR (pc' := 17) (j := 12) 111 fd_M_23 sh_107 rfl (by decide +kernel) rfl ?_
    refine Gz.iload_n (q := 2) (pc' := 18) (by decide +kernel) rfl 2 rfl ?_
    obtain ⟨c2, h⟩ := zok_c h
    refine Gz.iald (pc' := 19) (n := 5) (by decide +kernel) rfl rfl c2 ?_
    refine Gz.bipush (n := 9) (v := (9 : Int32)) (pc' := 21) (by decide +kernel) rfl rfl ?_
    refine Gz.icmp_ne (off := 7) (tgt := 28) (pc' := 24) (by decide +kernel) (by decide) rfl (fun c3 => ?_) (fun c3 => ?_)
    · have h := zok_f c3 h
      refine Gz.iconst (n := 1) (v := (1 : Int32)) (pc' := 29) (by decide +kernel) rfl rfl ?_
      refine Gz.sub (L' := [(0, .ref 107), (2, .int x2)]) [0, 2] rfl ?_
      exact g_M_doneMany_b29 k4 hk4 x2 x1 (1 : Int32) w h
    · have h := zok_t c3 h
      refine Gz.iconst (n := 0) (v := (0 : Int32)) (pc' := 25) (by decide +kernel) rfl rfl ?_
      refine Gz.goto (off := 4) (tgt := 29) (by decide +kernel) (by decide) ?_
      refine Gz.sub (L' := [(0, .ref 107), (2, .int x2)]) [0, 2] rfl ?_
      exact g_M_doneMany_b29 k4 hk4 x2 x1 (0 : Int32) w h
theorem g_M_doneMany_b4 {l : Launch} {Q : Option Value → gW → Prop} (x1 : Int32) (x2 : Int32) (w : gW) (h : zok eI (f_M_doneMany_b4 x1 x2 w) Q) : Gz l m_M_doneMany 1 4 [(0, .ref 107), (1, .int x1), (2, .int x2)] [] w Q := by
  have key : ∀ (n : Nat) (x1 : Int32) (x2 : Int32) (w : gW), zok eI (zfx (fun _ _ _ => none) (f_M_doneMany_b4_s) n x1 x2 w) Q → Gz l m_M_doneMany 1 4 [(0, .ref 107), (1, .int x1), (2, .int x2)] [] w Q := by
    intro n
    induction n with
    | zero => intro x1 x2 w h; exact zok_n h
    | succ n ih => intro x1 x2 w h; exact g_M_doneMany_b4_s _ ih x1 x2 w h
  exact key zFU x1 x2 w h
theorem g_M_doneMany {l : Launch} (w : gW) : gCt l m_M_doneMany 1 [.ref 107] w eI (f_M_doneMany w) := by
  intro Q h
  unfold f_M_doneMany at h
  show Gz l m_M_doneMany 1 0 [(0, .ref 107)] [] w Q
  refine Gz.iconst (n := 0) (v := (0 : Int32)) (pc' := 1) (by decide +kernel) rfl rfl ?_
  refine Gz.istore_n (q := 1) (pc' := 2) (L' := [(1, .int (0 : Int32)), (0, .ref 107)]) (by decide +kernel) rfl (Nat.le_of_ble_eq_true rfl) rfl ?_
  refine Gz.iconst (n := 0) (v := (0 : Int32)) (pc' := 3) (by decide +kernel) rfl rfl ?_
  refine Gz.istore_n (q := 2) (pc' := 4) (L' := [(2, .int (0 : Int32)), (1, .int (0 : Int32)), (0, .ref 107)]) (by decide +kernel) rfl (Nat.le_of_ble_eq_true rfl) rfl ?_
  refine Gz.sub (L' := [(0, .ref 107), (1, .int (0 : Int32)), (2, .int (0 : Int32))]) [2, 1, 0] rfl ?_
  exact g_M_doneMany_b4 (0 : Int32) (0 : Int32) w h
