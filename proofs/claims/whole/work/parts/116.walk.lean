def f_M_isLife_b2_s (k2 : Int32 → Int32 → gW → Option (Int32 × gW)) (x1 : Int32) (x2 : Int32) (w : gW) : Option (Int32 × gW) :=
if (w.1 107 26) ≤ x2 then
(some ((0 : Int32), w))
else
(if inb x2 16807 then
if (w.1 118 (ix x2)) = x1 then
(zb (f_M_live x1 w) (fun _ w4 =>
some ((1 : Int32), w4)))
else
(zl (x2 + (1 : Int32)) (fun v5 =>
k2 x1 v5 w))
else none)
def f_M_isLife_b2 : Int32 → Int32 → gW → Option (Int32 × gW) := zfx (fun _ _ _ => none) (f_M_isLife_b2_s) zFU
def f_M_isLife (a1 : Int32) (w : gW) : Option (Int32 × gW) :=
f_M_isLife_b2 a1 (0 : Int32) w
theorem g_M_isLife_b2_s {l : Launch} {Q : Option Value → gW → Prop} (k2 : Int32 → Int32 → gW → Option (Int32 × gW)) (hk2 : ∀ (x1 : Int32) (x2 : Int32) (w : gW), zok eI (k2 x1 x2 w) Q → Gz l m_M_isLife 2 2 [(0, .ref 107), (1, .int x1), (2, .int x2)] [] w Q) (x1 : Int32) (x2 : Int32) (w : gW) (h : zok eI (f_M_isLife_b2_s k2 x1 x2 w) Q) : Gz l m_M_isLife 2 2 [(0, .ref 107), (1, .int x1), (2, .int x2)] [] w Q := by
  unfold f_M_isLife_b2_s at h
  refine Gz.iload_n (q := 2) (pc' := 3) (by decide +kernel) rfl 2 rfl ?_
  refine Gz.aload_n (q := 0) (pc' := 4) (by decide +kernel) rfl 0 rfl ?_
  refine Gz.getI (pc' := 7) (j := 26) fd_M_224 sh_107 rfl (by decide +kernel) rfl ?_
  refine Gz.icmp_ge (off := 29) (tgt := 36) (pc' := 10) (by decide +kernel) (by decide) rfl (fun c1 => ?_) (fun c1 => ?_)
  · have h := zok_t c1 h
    refine Gz.iconst (n := 0) (v := (0 : Int32)) (pc' := 37) (by decide +kernel) rfl rfl ?_
    exact Gz.zreturn (by decide +kernel) rfl (by decide) (zok_sI h)
  · have h := zok_f c1 h
    refine Gz.aload_n (q := 0) (pc' := 11) (by decide +kernel) rfl 0 rfl ?_
    refine Gz.getR (pc' := 14) (j := 25) 118 fd_M_44 sh_107 rfl (by decide +kernel) rfl ?_
    refine Gz.iload_n (q := 2) (pc' := 15) (by decide +kernel) rfl 2 rfl ?_
    obtain ⟨c2, h⟩ := zok_c h
    refine Gz.iald (pc' := 16) (n := 16807) (by decide +kernel) rfl rfl c2 ?_
    refine Gz.iload_n (q := 1) (pc' := 17) (by decide +kernel) rfl 1 rfl ?_
    refine Gz.icmp_eq (off := 6) (tgt := 23) (pc' := 20) (by decide +kernel) (by decide) rfl (fun c3 => ?_) (fun c3 => ?_)
    · have h := zok_t c3 h
      refine Gz.aload_n (q := 0) (pc' := 24) (by decide +kernel) rfl 0 rfl ?_
      refine Gz.iload_n (q := 1) (pc' := 25) (by decide +kernel) rfl 1 rfl ?_
      refine Gz.callVV (st := []) (b := 107) (pc' := 28) [.int x1] (g_M_live x1 w) h ok_m_M_live lk_M_231 sh_107 rfl rfl rfl (Nat.le_of_ble_eq_true rfl) (Nat.le_of_ble_eq_true rfl) (Nat.le_of_ble_eq_true rfl) (by decide +kernel) rfl (fun _ w4 h => ?_)
      refine Gz.iconst (n := 1) (v := (1 : Int32)) (pc' := 29) (by decide +kernel) rfl rfl ?_
      exact Gz.zreturn (by decide +kernel) rfl (by decide) (zok_sI h)
    · have h := zok_f c3 h
      refine Gz.goto (off := 10) (tgt := 30) (by decide +kernel) (by decide) ?_
      obtain ⟨v5, e6⟩ : ∃ y : Int32, y = x2 + (1 : Int32) := ⟨_, rfl⟩
      have h := zok_l e6 h
      refine Gz.iinc (i := 2) (n := 1) (pc' := 33) (L' := [(2, .int v5), (0, .ref 107), (1, .int x1)]) v5 (by decide +kernel) rfl 2 rfl (by rw [e6]; rfl) (Nat.le_of_ble_eq_true rfl) rfl ?_
      refine Gz.goto (off := -31) (tgt := 2) (by decide +kernel) (by decide) ?_
      refine Gz.sub (L' := [(0, .ref 107), (1, .int x1), (2, .int v5)]) [1, 2, 0] rfl ?_
      exact hk2 x1 v5 w h
theorem g_M_isLife_b2 {l : Launch} {Q : Option Value → gW → Prop} (x1 : Int32) (x2 : Int32) (w : gW) (h : zok eI (f_M_isLife_b2 x1 x2 w) Q) : Gz l m_M_isLife 2 2 [(0, .ref 107), (1, .int x1), (2, .int x2)] [] w Q := by
  have key : ∀ (n : Nat) (x1 : Int32) (x2 : Int32) (w : gW), zok eI (zfx (fun _ _ _ => none) (f_M_isLife_b2_s) n x1 x2 w) Q → Gz l m_M_isLife 2 2 [(0, .ref 107), (1, .int x1), (2, .int x2)] [] w Q := by
    intro n
    induction n with
    | zero => intro x1 x2 w h; exact zok_n h
    | succ n ih => intro x1 x2 w h; exact g_M_isLife_b2_s _ ih x1 x2 w h
  exact key zFU x1 x2 w h
theorem g_M_isLife {l : Launch} (a1 : Int32) (w : gW) : gCt l m_M_isLife 2 [.ref 107, .int a1] w eI (f_M_isLife a1 w) := by
  intro Q h
  unfold f_M_isLife at h
  show Gz l m_M_isLife 2 0 [(0, .ref 107), (1, .int a1)] [] w Q
  refine Gz.iconst (n := 0) (v := (0 : Int32)) (pc' := 1) (by decide +kernel) rfl rfl ?_
  refine Gz.istore_n (q := 2) (pc' := 2) (L' := [(2, .int (0 : Int32)), (0, .ref 107), (1, .int a1)]) (by decide +kernel) rfl (Nat.le_of_ble_eq_true rfl) rfl ?_
  refine Gz.sub (L' := [(0, .ref 107), (1, .int a1), (2, .int (0 : Int32))]) [1, 2, 0] rfl ?_
  exact g_M_isLife_b2 a1 (0 : Int32) w h
def f_M_holds (a1 : Int32) (a2 : Int32) (a3 : Int32) (w : gW) : Option (Int32 × gW) :=
zl (zsI w 107 0 (0 : Int32)) (fun w1 =>
zb (f_M_isOath a1 w1) (fun v3 w4 =>
if v3 = 0 then
(some ((-1 : Int32), w4))
else
(zb (f_M_isSeenDay a2 w4) (fun v6 w7 =>
if v6 = 0 then
(some ((-1 : Int32), w7))
else
(zb (f_M_isLife a3 w7) (fun v9 w10 =>
if v9 = 0 then
(some ((-1 : Int32), w10))
else
(zb (f_M_all w10) (fun v12 w13 =>
zb (f_M_keeps a1 a2 v12 w13) (fun v14 w15 =>
if v14 = 0 then
(some ((0 : Int32), w15))
else
(some ((1 : Int32), w15)))))))))))
theorem g_M_holds {l : Launch} (a1 : Int32) (a2 : Int32) (a3 : Int32) (w : gW) : gCt l m_M_holds 55 [.ref 107, .int a1, .int a2, .int a3] w eI (f_M_holds a1 a2 a3 w) := by
  intro Q h
  unfold f_M_holds at h
  show Gz l m_M_holds 55 0 [(0, .ref 107), (1, .int a1), (2, .int a2), (3, .int a3)] [] w Q
  refine Gz.aload_n (q := 0) (pc' := 1) (by decide +kernel) rfl 0 rfl ?_
  refine Gz.iconst (n := 0) (v := (0 : Int32)) (pc' := 2) (by decide +kernel) rfl rfl ?_
  refine Gz.putI (pc' := 5) (j := 0) fd_M_96 sh_107 rfl (by decide +kernel) rfl ?_
  refine Gz.nmW (fun w1 e2 => ?_)
  have h := zok_l e2 h
  refine Gz.aload_n (q := 0) (pc' := 6) (by decide +kernel) rfl 0 rfl ?_
  refine Gz.iload_n (q := 1) (pc' := 7) (by decide +kernel) rfl 1 rfl ?_
  refine Gz.callVI (st := []) (b := 107) (pc' := 10) [.int a1] (g_M_isOath a1 w1) h ok_m_M_isOath lk_M_241 sh_107 rfl rfl rfl (Nat.le_of_ble_eq_true rfl) (Nat.le_of_ble_eq_true rfl) (Nat.le_of_ble_eq_true rfl) (by decide +kernel) rfl (fun v3 w4 h => ?_)
  refine Gz.if_eq (off := 40) (tgt := 50) (pc' := 13) (by decide +kernel) (by decide) rfl (fun c5 => ?_) (fun c5 => ?_)
  · have h := zok_t c5 h
    refine Gz.iconst (n := -1) (v := (-1 : Int32)) (pc' := 51) (by decide +kernel) rfl rfl ?_
    exact Gz.ireturn (by decide +kernel) rfl (zok_sI h)
  · have h := zok_f c5 h
    refine Gz.aload_n (q := 0) (pc' := 14) (by decide +kernel) rfl 0 rfl ?_
    refine Gz.iload_n (q := 2) (pc' := 15) (by decide +kernel) rfl 2 rfl ?_
    refine Gz.callVI (st := []) (b := 107) (pc' := 18) [.int a2] (g_M_isSeenDay a2 w4) h ok_m_M_isSeenDay lk_M_244 sh_107 rfl rfl rfl (Nat.le_of_ble_eq_true rfl) (Nat.le_of_ble_eq_true rfl) (Nat.le_of_ble_eq_true rfl) (by decide +kernel) rfl (fun v6 w7 h => ?_)
    refine Gz.if_eq (off := 32) (tgt := 50) (pc' := 21) (by decide +kernel) (by decide) rfl (fun c8 => ?_) (fun c8 => ?_)
    · have h := zok_t c8 h
      refine Gz.iconst (n := -1) (v := (-1 : Int32)) (pc' := 51) (by decide +kernel) rfl rfl ?_
      exact Gz.ireturn (by decide +kernel) rfl (zok_sI h)
    · have h := zok_f c8 h
      refine Gz.aload_n (q := 0) (pc' := 22) (by decide +kernel) rfl 0 rfl ?_
      refine Gz.iload_n (q := 3) (pc' := 23) (by decide +kernel) rfl 3 rfl ?_
      refine Gz.callVI (st := []) (b := 107) (pc' := 26) [.int a3] (g_M_isLife a3 w7) h ok_m_M_isLife lk_M_270 sh_107 rfl rfl rfl (Nat.le_of_ble_eq_true rfl) (Nat.le_of_ble_eq_true rfl) (Nat.le_of_ble_eq_true rfl) (by decide +kernel) rfl (fun v9 w10 h => ?_)
      refine Gz.if_eq (off := 24) (tgt := 50) (pc' := 29) (by decide +kernel) (by decide) rfl (fun c11 => ?_) (fun c11 => ?_)
      · have h := zok_t c11 h
        refine Gz.iconst (n := -1) (v := (-1 : Int32)) (pc' := 51) (by decide +kernel) rfl rfl ?_
        exact Gz.ireturn (by decide +kernel) rfl (zok_sI h)
      · have h := zok_f c11 h
        refine Gz.aload_n (q := 0) (pc' := 30) (by decide +kernel) rfl 0 rfl ?_
        refine Gz.iload_n (q := 1) (pc' := 31) (by decide +kernel) rfl 1 rfl ?_
        refine Gz.iload_n (q := 2) (pc' := 32) (by decide +kernel) rfl 2 rfl ?_
        refine Gz.aload_n (q := 0) (pc' := 33) (by decide +kernel) rfl 0 rfl ?_
        refine Gz.callVI (st := [.int a2, .int a1, .ref 107]) (b := 107) (pc' := 36) [] (g_M_all w10) h ok_m_M_all lk_M_261 sh_107 rfl rfl rfl (Nat.le_of_ble_eq_true rfl) (Nat.le_of_ble_eq_true rfl) (Nat.le_of_ble_eq_true rfl) (by decide +kernel) rfl (fun v12 w13 h => ?_)
        refine Gz.callVI (st := []) (b := 107) (pc' := 39) [.int a1, .int a2, .int v12] (g_M_keeps a1 a2 v12 w13) h ok_m_M_keeps lk_M_254 sh_107 rfl rfl rfl (Nat.le_of_ble_eq_true rfl) (Nat.le_of_ble_eq_true rfl) (Nat.le_of_ble_eq_true rfl) (by decide +kernel) rfl (fun v14 w15 h => ?_)
        refine Gz.if_eq (off := 7) (tgt := 46) (pc' := 42) (by decide +kernel) (by decide) rfl (fun c16 => ?_) (fun c16 => ?_)
        · have h := zok_t c16 h
          refine Gz.iconst (n := 0) (v := (0 : Int32)) (pc' := 47) (by decide +kernel) rfl rfl ?_
          refine Gz.goto (off := 4) (tgt := 51) (by decide +kernel) (by decide) ?_
          exact Gz.ireturn (by decide +kernel) rfl (zok_sI h)
        · have h := zok_f c16 h
          refine Gz.iconst (n := 1) (v := (1 : Int32)) (pc' := 43) (by decide +kernel) rfl rfl ?_
          refine Gz.goto (off := 8) (tgt := 51) (by decide +kernel) (by decide) ?_
          exact Gz.ireturn (by decide +kernel) rfl (zok_sI h)
def f_M_when_b55 (k19 : Int32 → Int32 → Int32 → gW → Option (Int32 × gW)) (x1 : Int32) (x2 : Int32) (x3 : Int32) (w : gW) : Option (Int32 × gW) :=
zl (x3 + (1 : Int32)) (fun v1 =>
k19 x1 x2 v1 w)
def f_M_when_b19_s (k19 : Int32 → Int32 → Int32 → gW → Option (Int32 × gW)) (x1 : Int32) (x2 : Int32) (x3 : Int32) (w : gW) : Option (Int32 × gW) :=
if (w.1 107 26) ≤ x3 then
(some (x2, w))
else
(if inb x3 16807 then
zb (f_M_live (w.1 118 (ix x3)) w) (fun _ w3 =>
zb (f_M_fits w3) (fun v4 w5 =>
if v4 = 0 then
(f_M_when_b55 k19 x1 x2 x3 w5)
else
(if inb x1 5 then
zl (x2 ||| ((1 : Int32) <<< ((w5.1 111 (ix x1)) &&& 31))) (fun v8 =>
f_M_when_b55 k19 x1 v8 x3 w5)
else none)))
else none)
def f_M_when_b19 : Int32 → Int32 → Int32 → gW → Option (Int32 × gW) := zfx (fun _ _ _ _ => none) (f_M_when_b19_s) zFU
def f_M_when (a1 : Int32) (w : gW) : Option (Int32 × gW) :=
zl (zsI w 107 0 (0 : Int32)) (fun w1 =>
zb (f_M_isDeed a1 w1) (fun v3 w4 =>
if v3 = 0 then
(some ((-1 : Int32), w4))
else
(f_M_when_b19 a1 (0 : Int32) (0 : Int32) w4)))
theorem g_M_when_b55 {l : Launch} {Q : Option Value → gW → Prop} (k19 : Int32 → Int32 → Int32 → gW → Option (Int32 × gW)) (hk19 : ∀ (x1 : Int32) (x2 : Int32) (x3 : Int32) (w : gW), zok eI (k19 x1 x2 x3 w) Q → Gz l m_M_when 57 19 [(0, .ref 107), (1, .int x1), (2, .int x2), (3, .int x3)] [] w Q) (x1 : Int32) (x2 : Int32) (x3 : Int32) (w : gW) (h : zok eI (f_M_when_b55 k19 x1 x2 x3 w) Q) : Gz l m_M_when 57 55 [(0, .ref 107), (1, .int x1), (2, .int x2), (3, .int x3)] [] w Q := by
  unfold f_M_when_b55 at h
  obtain ⟨v1, e2⟩ : ∃ y : Int32, y = x3 + (1 : Int32) := ⟨_, rfl⟩
  have h := zok_l e2 h
  refine Gz.iinc (i := 3) (n := 1) (pc' := 58) (L' := [(3, .int v1), (0, .ref 107), (1, .int x1), (2, .int x2)]) v1 (by decide +kernel) rfl 3 rfl (by rw [e2]; rfl) (Nat.le_of_ble_eq_true rfl) rfl ?_
  refine Gz.goto (off := -39) (tgt := 19) (by decide +kernel) (by decide) ?_
  refine Gz.sub (L' := [(0, .ref 107), (1, .int x1), (2, .int x2), (3, .int v1)]) [1, 2, 3, 0] rfl ?_
  exact hk19 x1 x2 v1 w h
theorem g_M_when_b19_s {l : Launch} {Q : Option Value → gW → Prop} (k19 : Int32 → Int32 → Int32 → gW → Option (Int32 × gW)) (hk19 : ∀ (x1 : Int32) (x2 : Int32) (x3 : Int32) (w : gW), zok eI (k19 x1 x2 x3 w) Q → Gz l m_M_when 57 19 [(0, .ref 107), (1, .int x1), (2, .int x2), (3, .int x3)] [] w Q) (x1 : Int32) (x2 : Int32) (x3 : Int32) (w : gW) (h : zok eI (f_M_when_b19_s k19 x1 x2 x3 w) Q) : Gz l m_M_when 57 19 [(0, .ref 107), (1, .int x1), (2, .int x2), (3, .int x3)] [] w Q := by
  unfold f_M_when_b19_s at h
  refine Gz.iload_n (q := 3) (pc' := 20) (by decide +kernel) rfl 3 rfl ?_
  refine Gz.aload_n (q := 0) (pc' := 21) (by decide +kernel) rfl 0 rfl ?_
  refine Gz.getI (pc' := 24) (j := 26) fd_M_224 sh_107 rfl (by decide +kernel) rfl ?_
  refine Gz.icmp_ge (off := 37) (tgt := 61) (pc' := 27) (by decide +kernel) (by decide) rfl (fun c1 => ?_) (fun c1 => ?_)
  · have h := zok_t c1 h
    refine Gz.iload_n (q := 2) (pc' := 62) (by decide +kernel) rfl 2 rfl ?_
    exact Gz.ireturn (by decide +kernel) rfl (zok_sI h)
  · have h := zok_f c1 h
    refine Gz.aload_n (q := 0) (pc' := 28) (by decide +kernel) rfl 0 rfl ?_
    refine Gz.aload_n (q := 0) (pc' := 29) (by decide +kernel) rfl 0 rfl ?_
    refine Gz.getR (pc' := 32) (j := 25) 118 fd_M_44 sh_107 rfl (by decide +kernel) rfl ?_
    refine Gz.iload_n (q := 3) (pc' := 33) (by decide +kernel) rfl 3 rfl ?_
    obtain ⟨c2, h⟩ := zok_c h
    refine Gz.iald (pc' := 34) (n := 16807) (by decide +kernel) rfl rfl c2 ?_
    refine Gz.callVV (st := []) (b := 107) (pc' := 37) [.int (w.1 118 (ix x3))] (g_M_live (w.1 118 (ix x3)) w) h ok_m_M_live lk_M_231 sh_107 rfl rfl rfl (Nat.le_of_ble_eq_true rfl) (Nat.le_of_ble_eq_true rfl) (Nat.le_of_ble_eq_true rfl) (by decide +kernel) rfl (fun _ w3 h => ?_)
    refine Gz.aload_n (q := 0) (pc' := 38) (by decide +kernel) rfl 0 rfl ?_
    refine Gz.callVI (st := []) (b := 107) (pc' := 41) [] (g_M_fits w3) h ok_m_M_fits lk_M_267 sh_107 rfl rfl rfl (Nat.le_of_ble_eq_true rfl) (Nat.le_of_ble_eq_true rfl) (Nat.le_of_ble_eq_true rfl) (by decide +kernel) rfl (fun v4 w5 h => ?_)
    refine Gz.if_eq (off := 14) (tgt := 55) (pc' := 44) (by decide +kernel) (by decide) rfl (fun c6 => ?_) (fun c6 => ?_)
    · have h := zok_t c6 h
      exact g_M_when_b55 k19 hk19 x1 x2 x3 w5 h
    · have h := zok_f c6 h
      refine Gz.iload_n (q := 2) (pc' := 45) (by decide +kernel) rfl 2 rfl ?_
      refine Gz.iconst (n := 1) (v := (1 : Int32)) (pc' := 46) (by decide +kernel) rfl rfl ?_
      refine Gz.aload_n (q := 0) (pc' := 47) (by decide +kernel) rfl 0 rfl ?_
      refine Gz.getR (pc' := 50) (j := 12) 111 fd_M_23 sh_107 rfl (by decide +kernel) rfl ?_
      refine Gz.iload_n (q := 1) (pc' := 51) (by decide +kernel) rfl 1 rfl ?_
      obtain ⟨c7, h⟩ := zok_c h
      refine Gz.iald (pc' := 52) (n := 5) (by decide +kernel) rfl rfl c7 ?_
      refine Gz.ishl (pc' := 53) (by decide +kernel) rfl ?_
      refine Gz.ior (pc' := 54) (by decide +kernel) rfl ?_
      refine Gz.nmI (fun v8 e9 => ?_)
      have h := zok_l e9 h
      refine Gz.istore_n (q := 2) (pc' := 55) (L' := [(2, .int v8), (0, .ref 107), (1, .int x1), (3, .int x3)]) (by decide +kernel) rfl (Nat.le_of_ble_eq_true rfl) rfl ?_
      refine Gz.sub (L' := [(0, .ref 107), (1, .int x1), (2, .int v8), (3, .int x3)]) [1, 2, 0, 3] rfl ?_
      exact g_M_when_b55 k19 hk19 x1 v8 x3 w5 h
theorem g_M_when_b19 {l : Launch} {Q : Option Value → gW → Prop} (x1 : Int32) (x2 : Int32) (x3 : Int32) (w : gW) (h : zok eI (f_M_when_b19 x1 x2 x3 w) Q) : Gz l m_M_when 57 19 [(0, .ref 107), (1, .int x1), (2, .int x2), (3, .int x3)] [] w Q := by
  have key : ∀ (n : Nat) (x1 : Int32) (x2 : Int32) (x3 : Int32) (w : gW), zok eI (zfx (fun _ _ _ _ => none) (f_M_when_b19_s) n x1 x2 x3 w) Q → Gz l m_M_when 57 19 [(0, .ref 107), (1, .int x1), (2, .int x2), (3, .int x3)] [] w Q := by
    intro n
    induction n with
    | zero => intro x1 x2 x3 w h; exact zok_n h
    | succ n ih => intro x1 x2 x3 w h; exact g_M_when_b19_s _ ih x1 x2 x3 w h
  exact key zFU x1 x2 x3 w h
theorem g_M_when {l : Launch} (a1 : Int32) (w : gW) : gCt l m_M_when 57 [.ref 107, .int a1] w eI (f_M_when a1 w) := by
  intro Q h
  unfold f_M_when at h
  show Gz l m_M_when 57 0 [(0, .ref 107), (1, .int a1)] [] w Q
  refine Gz.aload_n (q := 0) (pc' := 1) (by decide +kernel) rfl 0 rfl ?_
  refine Gz.iconst (n := 0) (v := (0 : Int32)) (pc' := 2) (by decide +kernel) rfl rfl ?_
  refine Gz.putI (pc' := 5) (j := 0) fd_M_96 sh_107 rfl (by decide +kernel) rfl ?_
  refine Gz.nmW (fun w1 e2 => ?_)
  have h := zok_l e2 h
  refine Gz.aload_n (q := 0) (pc' := 6) (by decide +kernel) rfl 0 rfl ?_
  refine Gz.iload_n (q := 1) (pc' := 7) (by decide +kernel) rfl 1 rfl ?_
  refine Gz.callVI (st := []) (b := 107) (pc' := 10) [.int a1] (g_M_isDeed a1 w1) h ok_m_M_isDeed lk_M_234 sh_107 rfl rfl rfl (Nat.le_of_ble_eq_true rfl) (Nat.le_of_ble_eq_true rfl) (Nat.le_of_ble_eq_true rfl) (by decide +kernel) rfl (fun v3 w4 h => ?_)
  refine Gz.if_ne (off := 5) (tgt := 15) (pc' := 13) (by decide +kernel) (by decide) rfl (fun c5 => ?_) (fun c5 => ?_)
  · have h := zok_f c5 h
    refine Gz.iconst (n := 0) (v := (0 : Int32)) (pc' := 16) (by decide +kernel) rfl rfl ?_
    refine Gz.istore_n (q := 2) (pc' := 17) (L' := [(2, .int (0 : Int32)), (0, .ref 107), (1, .int a1)]) (by decide +kernel) rfl (Nat.le_of_ble_eq_true rfl) rfl ?_
    refine Gz.iconst (n := 0) (v := (0 : Int32)) (pc' := 18) (by decide +kernel) rfl rfl ?_
    refine Gz.istore_n (q := 3) (pc' := 19) (L' := [(3, .int (0 : Int32)), (2, .int (0 : Int32)), (0, .ref 107), (1, .int a1)]) (by decide +kernel) rfl (Nat.le_of_ble_eq_true rfl) rfl ?_
    refine Gz.sub (L' := [(0, .ref 107), (1, .int a1), (2, .int (0 : Int32)), (3, .int (0 : Int32))]) [2, 3, 1, 0] rfl ?_
    exact g_M_when_b19 a1 (0 : Int32) (0 : Int32) w4 h
  · have h := zok_t c5 h
    refine Gz.iconst (n := -1) (v := (-1 : Int32)) (pc' := 14) (by decide +kernel) rfl rfl ?_
    exact Gz.ireturn (by decide +kernel) rfl (zok_sI h)
def f_M_layPlain_b65 (k7 : Int32 → gW → Option (Unit × gW)) (k17 : Int32 → Int32 → gW → Option (Unit × gW)) (x1 : Int32) (x2 : Int32) (s1 : Int32) (s2 : Int32) (w : gW) : Option (Unit × gW) :=
zl (zsI w 107 39 (s1 ||| s2)) (fun w1 =>
zl (x2 + (1 : Int32)) (fun v3 =>
k17 x1 v3 w1))
def f_M_layPlain_b17_s (k7 : Int32 → gW → Option (Unit × gW)) (k17 : Int32 → Int32 → gW → Option (Unit × gW)) (x1 : Int32) (x2 : Int32) (w : gW) : Option (Unit × gW) :=
if inb x1 10 then
if inb (w.1 120 (ix x1)) 8 then
if (w.1 110 (ix (w.1 120 (ix x1)))) ≤ x2 then
(zl (x1 + (1 : Int32)) (fun v4 =>
k7 v4 w))
else
(if inb x1 10 then
if inb (((120 : Int32) * (w.1 120 (ix x1))) + x2) 960 then
if (w.1 109 (ix (((120 : Int32) * (w.1 120 (ix x1))) + x2))) = (35 : Int32) then
(f_M_layPlain_b65 k7 k17 x1 x2 (w.1 107 39) ((1 : Int32) <<< (x1 &&& 31)) w)
else
(f_M_layPlain_b65 k7 k17 x1 x2 (w.1 107 39) (0 : Int32) w)
else none
else none)
else none
else none
def f_M_layPlain_b17 (k7 : Int32 → gW → Option (Unit × gW)) : Int32 → Int32 → gW → Option (Unit × gW) := zfx (fun _ _ _ => none) (f_M_layPlain_b17_s k7) zFU
def f_M_layPlain_b177 (k83 : Int32 → gW → Option (Unit × gW)) (x1 : Int32) (w : gW) : Option (Unit × gW) :=
zl (x1 + (1 : Int32)) (fun v1 =>
k83 v1 w)
def f_M_layPlain_b169 (k83 : Int32 → gW → Option (Unit × gW)) (k127 : Int32 → Int32 → gW → Option (Unit × gW)) (x1 : Int32) (x2 : Int32) (s1 : Int32) (s2 : Int32) (s3 : Int32) (w : gW) : Option (Unit × gW) :=
if inb s1 16807 then
zl (zsI w 127 (ix s1) (s2 ||| s3)) (fun w2 =>
zl (x2 + (1 : Int32)) (fun v4 =>
k127 x1 v4 w2))
else none
def f_M_layPlain_b168 (k83 : Int32 → gW → Option (Unit × gW)) (k127 : Int32 → Int32 → gW → Option (Unit × gW)) (x1 : Int32) (x2 : Int32) (s1 : Int32) (s2 : Int32) (w : gW) : Option (Unit × gW) :=
f_M_layPlain_b169 k83 k127 x1 x2 s1 s2 (0 : Int32) w
def f_M_layPlain_b127_s (k83 : Int32 → gW → Option (Unit × gW)) (k127 : Int32 → Int32 → gW → Option (Unit × gW)) (x1 : Int32) (x2 : Int32) (w : gW) : Option (Unit × gW) :=
if (w.1 107 35) ≤ x2 then
(f_M_layPlain_b177 k83 x1 w)
else
(if inb x1 16807 then
zb (f_M_has (w.1 107 39) x2 w) (fun v3 w4 =>
if v3 = 0 then
(zb (f_M_holdsSworn x2 (0 : Int32) w4) (fun v6 w7 =>
if v6 = 0 then
(f_M_layPlain_b168 k83 k127 x1 x2 x1 (w.1 127 (ix x1)) w7)
else
(f_M_layPlain_b169 k83 k127 x1 x2 x1 (w.1 127 (ix x1)) ((1 : Int32) <<< (x2 &&& 31)) w7)))
else
(f_M_layPlain_b168 k83 k127 x1 x2 x1 (w.1 127 (ix x1)) w4))
else none)
def f_M_layPlain_b127 (k83 : Int32 → gW → Option (Unit × gW)) : Int32 → Int32 → gW → Option (Unit × gW) := zfx (fun _ _ _ => none) (f_M_layPlain_b127_s k83) zFU
def f_M_layPlain_b83_s (k83 : Int32 → gW → Option (Unit × gW)) (x1 : Int32) (w : gW) : Option (Unit × gW) :=
if (w.1 107 26) ≤ x1 then
(some ((), w))
else
(if inb x1 16807 then
zb (f_M_live (w.1 118 (ix x1)) w) (fun _ w3 =>
if inb x1 16807 then
zl (zsI w3 127 (ix x1) (-1 : Int32)) (fun w5 =>
zb (f_M_isPossible w5) (fun v7 w8 =>
if v7 = 0 then
(f_M_layPlain_b177 k83 x1 w8)
else
(if inb x1 16807 then
zl (zsI w8 127 (ix x1) (0 : Int32)) (fun w11 =>
f_M_layPlain_b127 k83 x1 (0 : Int32) w11)
else none)))
else none)
else none)
def f_M_layPlain_b83 : Int32 → gW → Option (Unit × gW) := zfx (fun _ _ => none) (f_M_layPlain_b83_s) zFU
def f_M_layPlain_b7_s (k7 : Int32 → gW → Option (Unit × gW)) (x1 : Int32) (w : gW) : Option (Unit × gW) :=
if (w.1 107 35) ≤ x1 then
(f_M_layPlain_b83 (0 : Int32) w)
else
(f_M_layPlain_b17 k7 x1 (0 : Int32) w)
def f_M_layPlain_b7 : Int32 → gW → Option (Unit × gW) := zfx (fun _ _ => none) (f_M_layPlain_b7_s) zFU
def f_M_layPlain (w : gW) : Option (Unit × gW) :=
zl (zsI w 107 39 (0 : Int32)) (fun w1 =>
f_M_layPlain_b7 (0 : Int32) w1)
theorem g_M_layPlain_b65 {l : Launch} {Q : Option Value → gW → Prop} (k7 : Int32 → gW → Option (Unit × gW)) (hk7 : ∀ (x1 : Int32) (w : gW), zok eV (k7 x1 w) Q → Gz l m_M_layPlain 56 7 [(0, .ref 107), (1, .int x1)] [] w Q) (k17 : Int32 → Int32 → gW → Option (Unit × gW)) (hk17 : ∀ (x1 : Int32) (x2 : Int32) (w : gW), zok eV (k17 x1 x2 w) Q → Gz l m_M_layPlain 56 17 [(0, .ref 107), (1, .int x1), (2, .int x2)] [] w Q) (x1 : Int32) (x2 : Int32) (s1 : Int32) (s2 : Int32) (w : gW) (h : zok eV (f_M_layPlain_b65 k7 k17 x1 x2 s1 s2 w) Q) : Gz l m_M_layPlain 56 65 [(0, .ref 107), (1, .int x1), (2, .int x2)] [.int s2, .int s1, .ref 107] w Q := by
  unfold f_M_layPlain_b65 at h
  refine Gz.ior (pc' := 66) (by decide +kernel) rfl ?_
  refine Gz.putI (pc' := 69) (j := 39) fd_M_273 sh_107 rfl (by decide +kernel) rfl ?_
  refine Gz.nmW (fun w1 e2 => ?_)
  have h := zok_l e2 h
  obtain ⟨v3, e4⟩ : ∃ y : Int32, y = x2 + (1 : Int32) := ⟨_, rfl⟩
  have h := zok_l e4 h
  refine Gz.iinc (i := 2) (n := 1) (pc' := 72) (L' := [(2, .int v3), (0, .ref 107), (1, .int x1)]) v3 (by decide +kernel) rfl 2 rfl (by rw [e4]; rfl) (Nat.le_of_ble_eq_true rfl) rfl ?_
  refine Gz.goto (off := -55) (tgt := 17) (by decide +kernel) (by decide) ?_
  refine Gz.sub (L' := [(0, .ref 107), (1, .int x1), (2, .int v3)]) [1, 2, 0] rfl ?_
  exact hk17 x1 v3 w1 h
theorem g_M_layPlain_b17_s {l : Launch} {Q : Option Value → gW → Prop} (k7 : Int32 → gW → Option (Unit × gW)) (hk7 : ∀ (x1 : Int32) (w : gW), zok eV (k7 x1 w) Q → Gz l m_M_layPlain 56 7 [(0, .ref 107), (1, .int x1)] [] w Q) (k17 : Int32 → Int32 → gW → Option (Unit × gW)) (hk17 : ∀ (x1 : Int32) (x2 : Int32) (w : gW), zok eV (k17 x1 x2 w) Q → Gz l m_M_layPlain 56 17 [(0, .ref 107), (1, .int x1), (2, .int x2)] [] w Q) (x1 : Int32) (x2 : Int32) (w : gW) (h : zok eV (f_M_layPlain_b17_s k7 k17 x1 x2 w) Q) : Gz l m_M_layPlain 56 17 [(0, .ref 107), (1, .int x1), (2, .int x2)] [] w Q := by
  unfold f_M_layPlain_b17_s at h
  refine Gz.iload_n (q := 2) (pc' := 18) (by decide +kernel) rfl 2 rfl ?_
  refine Gz.aload_n (q := 0) (pc' := 19) (by decide +kernel) rfl 0 rfl ?_
  refine Gz.getR (pc' := 22) (j := 3) 110 fd_M_16 sh_107 rfl (by decide +kernel) rfl ?_
  refine Gz.aload_n (q := 0) (pc' := 23) (by decide +kernel) rfl 0 rfl ?_
  refine Gz.getR (pc' := 26) (j := 28) 120 fd_M_50 sh_107 rfl (by decide +kernel) rfl ?_
  refine Gz.iload_n (q := 1) (pc' := 27) (by decide +kernel) rfl 1 rfl ?_
  obtain ⟨c1, h⟩ := zok_c h
  refine Gz.iald (pc' := 28) (n := 10) (by decide +kernel) rfl rfl c1 ?_
  obtain ⟨c2, h⟩ := zok_c h
  refine Gz.iald (pc' := 29) (n := 8) (by decide +kernel) rfl rfl c2 ?_
  refine Gz.icmp_ge (off := 46) (tgt := 75) (pc' := 32) (by decide +kernel) (by decide) rfl (fun c3 => ?_) (fun c3 => ?_)
  · have h := zok_t c3 h
    obtain ⟨v4, e5⟩ : ∃ y : Int32, y = x1 + (1 : Int32) := ⟨_, rfl⟩
    have h := zok_l e5 h
    refine Gz.iinc (i := 1) (n := 1) (pc' := 78) (L' := [(1, .int v4), (0, .ref 107), (2, .int x2)]) v4 (by decide +kernel) rfl 1 rfl (by rw [e5]; rfl) (Nat.le_of_ble_eq_true rfl) rfl ?_
    refine Gz.goto (off := -71) (tgt := 7) (by decide +kernel) (by decide) ?_
    refine Gz.sub (L' := [(0, .ref 107), (1, .int v4)]) [1, 0] rfl ?_
    exact hk7 v4 w h
  · have h := zok_f c3 h
    refine Gz.aload_n (q := 0) (pc' := 33) (by decide +kernel) rfl 0 rfl ?_
    refine Gz.dup (pc' := 34) (by decide +kernel) rfl rfl ?_
    refine Gz.getI (pc' := 37) (j := 39) fd_M_273 sh_107 rfl (by decide +kernel) rfl ?_
    refine Gz.aload_n (q := 0) (pc' := 38) (by decide +kernel) rfl 0 rfl ?_
    refine Gz.getR (pc' := 41) (j := 2) 109 fd_M_13 sh_107 rfl (by decide +kernel) rfl ?_
    refine Gz.bipush (n := 120) (v := (120 : Int32)) (pc' := 43) (by decide +kernel) rfl rfl ?_
    refine Gz.aload_n (q := 0) (pc' := 44) (by decide +kernel) rfl 0 rfl ?_
    refine Gz.getR (pc' := 47) (j := 28) 120 fd_M_50 sh_107 rfl (by decide +kernel) rfl ?_
    refine Gz.iload_n (q := 1) (pc' := 48) (by decide +kernel) rfl 1 rfl ?_
    obtain ⟨c6, h⟩ := zok_c h
    refine Gz.iald (pc' := 49) (n := 10) (by decide +kernel) rfl rfl c6 ?_
    refine Gz.imul (pc' := 50) (by decide +kernel) rfl ?_
    refine Gz.iload_n (q := 2) (pc' := 51) (by decide +kernel) rfl 2 rfl ?_
    refine Gz.iadd (pc' := 52) (by decide +kernel) rfl ?_
    obtain ⟨c7, h⟩ := zok_c h
    refine Gz.bald (pc' := 53) (n := 960) (by decide +kernel) rfl rfl c7 ?_
    refine Gz.bipush (n := 35) (v := (35 : Int32)) (pc' := 55) (by decide +kernel) rfl rfl ?_
    refine Gz.icmp_ne (off := 9) (tgt := 64) (pc' := 58) (by decide +kernel) (by decide) rfl (fun c8 => ?_) (fun c8 => ?_)
    · have h := zok_f c8 h
      refine Gz.iconst (n := 0) (v := (0 : Int32)) (pc' := 65) (by decide +kernel) rfl rfl ?_
      exact g_M_layPlain_b65 k7 hk7 k17 hk17 x1 x2 (w.1 107 39) (0 : Int32) w h
    · have h := zok_t c8 h
      refine Gz.iconst (n := 1) (v := (1 : Int32)) (pc' := 59) (by decide +kernel) rfl rfl ?_
      refine Gz.iload_n (q := 1) (pc' := 60) (by decide +kernel) rfl 1 rfl ?_
      refine Gz.ishl (pc' := 61) (by decide +kernel) rfl ?_
      refine Gz.goto (off := 4) (tgt := 65) (by decide +kernel) (by decide) ?_
      exact g_M_layPlain_b65 k7 hk7 k17 hk17 x1 x2 (w.1 107 39) ((1 : Int32) <<< (x1 &&& 31)) w h
theorem g_M_layPlain_b17 {l : Launch} {Q : Option Value → gW → Prop} (k7 : Int32 → gW → Option (Unit × gW)) (hk7 : ∀ (x1 : Int32) (w : gW), zok eV (k7 x1 w) Q → Gz l m_M_layPlain 56 7 [(0, .ref 107), (1, .int x1)] [] w Q) (x1 : Int32) (x2 : Int32) (w : gW) (h : zok eV (f_M_layPlain_b17 k7 x1 x2 w) Q) : Gz l m_M_layPlain 56 17 [(0, .ref 107), (1, .int x1), (2, .int x2)] [] w Q := by
  have key : ∀ (n : Nat) (x1 : Int32) (x2 : Int32) (w : gW), zok eV (zfx (fun _ _ _ => none) (f_M_layPlain_b17_s k7) n x1 x2 w) Q → Gz l m_M_layPlain 56 17 [(0, .ref 107), (1, .int x1), (2, .int x2)] [] w Q := by
    intro n
    induction n with
    | zero => intro x1 x2 w h; exact zok_n h
    | succ n ih => intro x1 x2 w h; exact g_M_layPlain_b17_s k7 hk7 _ ih x1 x2 w h
  exact key zFU x1 x2 w h
theorem g_M_layPlain_b177 {l : Launch} {Q : Option Value → gW → Prop} (k83 : Int32 → gW → Option (Unit × gW)) (hk83 : ∀ (x1 : Int32) (w : gW), zok eV (k83 x1 w) Q → Gz l m_M_layPlain 56 83 [(0, .ref 107), (1, .int x1)] [] w Q) (x1 : Int32) (w : gW) (h : zok eV (f_M_layPlain_b177 k83 x1 w) Q) : Gz l m_M_layPlain 56 177 [(0, .ref 107), (1, .int x1)] [] w Q := by
  unfold f_M_layPlain_b177 at h
  obtain ⟨v1, e2⟩ : ∃ y : Int32, y = x1 + (1 : Int32) := ⟨_, rfl⟩
  have h := zok_l e2 h
  refine Gz.iinc (i := 1) (n := 1) (pc' := 180) (L' := [(1, .int v1), (0, .ref 107)]) v1 (by decide +kernel) rfl 1 rfl (by rw [e2]; rfl) (Nat.le_of_ble_eq_true rfl) rfl ?_
  refine Gz.goto (off := -97) (tgt := 83) (by decide +kernel) (by decide) ?_
  refine Gz.sub (L' := [(0, .ref 107), (1, .int v1)]) [1, 0] rfl ?_
  exact hk83 v1 w h
theorem g_M_layPlain_b169 {l : Launch} {Q : Option Value → gW → Prop} (k83 : Int32 → gW → Option (Unit × gW)) (hk83 : ∀ (x1 : Int32) (w : gW), zok eV (k83 x1 w) Q → Gz l m_M_layPlain 56 83 [(0, .ref 107), (1, .int x1)] [] w Q) (k127 : Int32 → Int32 → gW → Option (Unit × gW)) (hk127 : ∀ (x1 : Int32) (x2 : Int32) (w : gW), zok eV (k127 x1 x2 w) Q → Gz l m_M_layPlain 56 127 [(0, .ref 107), (1, .int x1), (2, .int x2)] [] w Q) (x1 : Int32) (x2 : Int32) (s1 : Int32) (s2 : Int32) (s3 : Int32) (w : gW) (h : zok eV (f_M_layPlain_b169 k83 k127 x1 x2 s1 s2 s3 w) Q) : Gz l m_M_layPlain 56 169 [(0, .ref 107), (1, .int x1), (2, .int x2)] [.int s3, .int s2, .int s1, .ref 127] w Q := by
  unfold f_M_layPlain_b169 at h
  refine Gz.ior (pc' := 170) (by decide +kernel) rfl ?_
  obtain ⟨c1, h⟩ := zok_c h
  refine Gz.iast (pc' := 171) (n := 16807) (by decide +kernel) rfl rfl c1 ?_
  refine Gz.nmW (fun w2 e3 => ?_)
  have h := zok_l e3 h
  obtain ⟨v4, e5⟩ : ∃ y : Int32, y = x2 + (1 : Int32) := ⟨_, rfl⟩
  have h := zok_l e5 h
  refine Gz.iinc (i := 2) (n := 1) (pc' := 174) (L' := [(2, .int v4), (0, .ref 107), (1, .int x1)]) v4 (by decide +kernel) rfl 2 rfl (by rw [e5]; rfl) (Nat.le_of_ble_eq_true rfl) rfl ?_
  refine Gz.goto (off := -47) (tgt := 127) (by decide +kernel) (by decide) ?_
  refine Gz.sub (L' := [(0, .ref 107), (1, .int x1), (2, .int v4)]) [1, 2, 0] rfl ?_
  exact hk127 x1 v4 w2 h
theorem g_M_layPlain_b168 {l : Launch} {Q : Option Value → gW → Prop} (k83 : Int32 → gW → Option (Unit × gW)) (hk83 : ∀ (x1 : Int32) (w : gW), zok eV (k83 x1 w) Q → Gz l m_M_layPlain 56 83 [(0, .ref 107), (1, .int x1)] [] w Q) (k127 : Int32 → Int32 → gW → Option (Unit × gW)) (hk127 : ∀ (x1 : Int32) (x2 : Int32) (w : gW), zok eV (k127 x1 x2 w) Q → Gz l m_M_layPlain 56 127 [(0, .ref 107), (1, .int x1), (2, .int x2)] [] w Q) (x1 : Int32) (x2 : Int32) (s1 : Int32) (s2 : Int32) (w : gW) (h : zok eV (f_M_layPlain_b168 k83 k127 x1 x2 s1 s2 w) Q) : Gz l m_M_layPlain 56 168 [(0, .ref 107), (1, .int x1), (2, .int x2)] [.int s2, .int s1, .ref 127] w Q := by
  unfold f_M_layPlain_b168 at h
  refine Gz.iconst (n := 0) (v := (0 : Int32)) (pc' := 169) (by decide +kernel) rfl rfl ?_
  exact g_M_layPlain_b169 k83 hk83 k127 hk127 x1 x2 s1 s2 (0 : Int32) w h
theorem g_M_layPlain_b127_s {l : Launch} {Q : Option Value → gW → Prop} (k83 : Int32 → gW → Option (Unit × gW)) (hk83 : ∀ (x1 : Int32) (w : gW), zok eV (k83 x1 w) Q → Gz l m_M_layPlain 56 83 [(0, .ref 107), (1, .int x1)] [] w Q) (k127 : Int32 → Int32 → gW → Option (Unit × gW)) (hk127 : ∀ (x1 : Int32) (x2 : Int32) (w : gW), zok eV (k127 x1 x2 w) Q → Gz l m_M_layPlain 56 127 [(0, .ref 107), (1, .int x1), (2, .int x2)] [] w Q) (x1 : Int32) (x2 : Int32) (w : gW) (h : zok eV (f_M_layPlain_b127_s k83 k127 x1 x2 w) Q) : Gz l m_M_layPlain 56 127 [(0, .ref 107), (1, .int x1), (2, .int x2)] [] w Q := by
  unfold f_M_layPlain_b127_s at h
  refine Gz.iload_n (q := 2) (pc' := 128) (by decide +kernel) rfl 2 rfl ?_
  refine Gz.aload_n (q := 0) (pc' := 129) (by decide +kernel) rfl 0 rfl ?_
  refine Gz.getI (pc' := 132) (j := 35) fd_M_211 sh_107 rfl (by decide +kernel) rfl ?_
  refine Gz.icmp_ge (off := 45) (tgt := 177) (pc' := 135) (by decide +kernel) (by decide) rfl (fun c1 => ?_) (fun c1 => ?_)
  · have h := zok_t c1 h
    refine Gz.sub (L' := [(0, .ref 107), (1, .int x1)]) [0, 1] rfl ?_
    exact g_M_layPlain_b177 k83 hk83 x1 w h
  · have h := zok_f c1 h
    refine Gz.aload_n (q := 0) (pc' := 136) (by decide +kernel) rfl 0 rfl ?_
    refine Gz.getR (pc' := 139) (j := 38) 127 fd_M_72 sh_107 rfl (by decide +kernel) rfl ?_
    refine Gz.iload_n (q := 1) (pc' := 140) (by decide +kernel) rfl 1 rfl ?_
    refine Gz.dup2 (pc' := 141) (by decide +kernel) rfl rfl rfl ?_
    obtain ⟨c2, h⟩ := zok_c h
    refine Gz.iald (pc' := 142) (n := 16807) (by decide +kernel) rfl rfl c2 ?_
    refine Gz.aload_n (q := 0) (pc' := 143) (by decide +kernel) rfl 0 rfl ?_
    refine Gz.getI (pc' := 146) (j := 39) fd_M_273 sh_107 rfl (by decide +kernel) rfl ?_
    refine Gz.iload_n (q := 2) (pc' := 147) (by decide +kernel) rfl 2 rfl ?_
    refine Gz.callSI (st := [.int (w.1 127 (ix x1)), .int x1, .ref 127]) (pc' := 150) [.int (w.1 107 39), .int x2] (g_M_has (w.1 107 39) x2 w) h ok_m_M_has lk_M_170 rfl (Nat.le_of_ble_eq_true rfl) (Nat.le_of_ble_eq_true rfl) (Nat.le_of_ble_eq_true rfl) (by decide +kernel) rfl (fun v3 w4 h => ?_)
    refine Gz.if_ne (off := 18) (tgt := 168) (pc' := 153) (by decide +kernel) (by decide) rfl (fun c5 => ?_) (fun c5 => ?_)
    · have h := zok_f c5 h
      exact g_M_layPlain_b168 k83 hk83 k127 hk127 x1 x2 x1 (w.1 127 (ix x1)) w4 h
    · have h := zok_t c5 h
      refine Gz.aload_n (q := 0) (pc' := 154) (by decide +kernel) rfl 0 rfl ?_
      refine Gz.iload_n (q := 2) (pc' := 155) (by decide +kernel) rfl 2 rfl ?_
      refine Gz.iconst (n := 0) (v := (0 : Int32)) (pc' := 156) (by decide +kernel) rfl rfl ?_
      refine Gz.callVI (st := [.int (w.1 127 (ix x1)), .int x1, .ref 127]) (b := 107) (pc' := 159) [.int x2, .int (0 : Int32)] (g_M_holdsSworn x2 (0 : Int32) w4) h ok_m_M_holdsSworn lk_M_264 sh_107 rfl rfl rfl (Nat.le_of_ble_eq_true rfl) (Nat.le_of_ble_eq_true rfl) (Nat.le_of_ble_eq_true rfl) (by decide +kernel) rfl (fun v6 w7 h => ?_)
      refine Gz.if_eq (off := 9) (tgt := 168) (pc' := 162) (by decide +kernel) (by decide) rfl (fun c8 => ?_) (fun c8 => ?_)
      · have h := zok_t c8 h
        exact g_M_layPlain_b168 k83 hk83 k127 hk127 x1 x2 x1 (w.1 127 (ix x1)) w7 h
      · have h := zok_f c8 h
        refine Gz.iconst (n := 1) (v := (1 : Int32)) (pc' := 163) (by decide +kernel) rfl rfl ?_
        refine Gz.iload_n (q := 2) (pc' := 164) (by decide +kernel) rfl 2 rfl ?_
        refine Gz.ishl (pc' := 165) (by decide +kernel) rfl ?_
        refine Gz.goto (off := 4) (tgt := 169) (by decide +kernel) (by decide) ?_
        exact g_M_layPlain_b169 k83 hk83 k127 hk127 x1 x2 x1 (w.1 127 (ix x1)) ((1 : Int32) <<< (x2 &&& 31)) w7 h
theorem g_M_layPlain_b127 {l : Launch} {Q : Option Value → gW → Prop} (k83 : Int32 → gW → Option (Unit × gW)) (hk83 : ∀ (x1 : Int32) (w : gW), zok eV (k83 x1 w) Q → Gz l m_M_layPlain 56 83 [(0, .ref 107), (1, .int x1)] [] w Q) (x1 : Int32) (x2 : Int32) (w : gW) (h : zok eV (f_M_layPlain_b127 k83 x1 x2 w) Q) : Gz l m_M_layPlain 56 127 [(0, .ref 107), (1, .int x1), (2, .int x2)] [] w Q := by
  have key : ∀ (n : Nat) (x1 : Int32) (x2 : Int32) (w : gW), zok eV (zfx (fun _ _ _ => none) (f_M_layPlain_b127_s k83) n x1 x2 w) Q → Gz l m_M_layPlain 56 127 [(0, .ref 107), (1, .int x1), (2, .int x2)] [] w Q := by
    intro n
    induction n with
    | zero => intro x1 x2 w h; exact zok_n h
    | succ n ih => intro x1 x2 w h; exact g_M_layPlain_b127_s k83 hk83 _ ih x1 x2 w h
  exact key zFU x1 x2 w h
theorem g_M_layPlain_b83_s {l : Launch} {Q : Option Value → gW → Prop} (k83 : Int32 → gW → Option (Unit × gW)) (hk83 : ∀ (x1 : Int32) (w : gW), zok eV (k83 x1 w) Q → Gz l m_M_layPlain 56 83 [(0, .ref 107), (1, .int x1)] [] w Q) (x1 : Int32) (w : gW) (h : zok eV (f_M_layPlain_b83_s k83 x1 w) Q) : Gz l m_M_layPlain 56 83 [(0, .ref 107), (1, .int x1)] [] w Q := by
  unfold f_M_layPlain_b83_s at h
  refine Gz.iload_n (q := 1) (pc' := 84) (by decide +kernel) rfl 1 rfl ?_
  refine Gz.aload_n (q := 0) (pc' := 85) (by decide +kernel) rfl 0 rfl ?_
  refine Gz.getI (pc' := 88) (j := 26) fd_M_224 sh_107 rfl (by decide +kernel) rfl ?_
  refine Gz.icmp_ge (off := 95) (tgt := 183) (pc' := 91) (by decide +kernel) (by decide) rfl (fun c1 => ?_) (fun c1 => ?_)
  · have h := zok_t c1 h
    exact Gz.return_ (by decide +kernel) rfl (zok_sV h)
  · have h := zok_f c1 h
    refine Gz.aload_n (q := 0) (pc' := 92) (by decide +kernel) rfl 0 rfl ?_
    refine Gz.aload_n (q := 0) (pc' := 93) (by decide +kernel) rfl 0 rfl ?_
    refine Gz.getR (pc' := 96) (j := 25) 118 fd_M_44 sh_107 rfl (by decide +kernel) rfl ?_
    refine Gz.iload_n (q := 1) (pc' := 97) (by decide +kernel) rfl 1 rfl ?_
    obtain ⟨c2, h⟩ := zok_c h
    refine Gz.iald (pc' := 98) (n := 16807) (by decide +kernel) rfl rfl c2 ?_
    refine Gz.callVV (st := []) (b := 107) (pc' := 101) [.int (w.1 118 (ix x1))] (g_M_live (w.1 118 (ix x1)) w) h ok_m_M_live lk_M_231 sh_107 rfl rfl rfl (Nat.le_of_ble_eq_true rfl) (Nat.le_of_ble_eq_true rfl) (Nat.le_of_ble_eq_true rfl) (by decide +kernel) rfl (fun _ w3 h => ?_)
    refine Gz.aload_n (q := 0) (pc' := 102) (by decide +kernel) rfl 0 rfl ?_
    refine Gz.getR (pc' := 105) (j := 38) 127 fd_M_72 sh_107 rfl (by decide +kernel) rfl ?_
    refine Gz.iload_n (q := 1) (pc' := 106) (by decide +kernel) rfl 1 rfl ?_
    refine Gz.iconst (n := -1) (v := (-1 : Int32)) (pc' := 107) (by decide +kernel) rfl rfl ?_
    obtain ⟨c4, h⟩ := zok_c h
    refine Gz.iast (pc' := 108) (n := 16807) (by decide +kernel) rfl rfl c4 ?_
    refine Gz.nmW (fun w5 e6 => ?_)
    have h := zok_l e6 h
    refine Gz.aload_n (q := 0) (pc' := 109) (by decide +kernel) rfl 0 rfl ?_
    refine Gz.callVI (st := []) (b := 107) (pc' := 112) [] (g_M_isPossible w5) h ok_m_M_isPossible lk_M_258 sh_107 rfl rfl rfl (Nat.le_of_ble_eq_true rfl) (Nat.le_of_ble_eq_true rfl) (Nat.le_of_ble_eq_true rfl) (by decide +kernel) rfl (fun v7 w8 h => ?_)
    refine Gz.if_ne (off := 6) (tgt := 118) (pc' := 115) (by decide +kernel) (by decide) rfl (fun c9 => ?_) (fun c9 => ?_)
    · have h := zok_f c9 h
      refine Gz.aload_n (q := 0) (pc' := 119) (by decide +kernel) rfl 0 rfl ?_
      refine Gz.getR (pc' := 122) (j := 38) 127 fd_M_72 sh_107 rfl (by decide +kernel) rfl ?_
      refine Gz.iload_n (q := 1) (pc' := 123) (by decide +kernel) rfl 1 rfl ?_
      refine Gz.iconst (n := 0) (v := (0 : Int32)) (pc' := 124) (by decide +kernel) rfl rfl ?_
      obtain ⟨c10, h⟩ := zok_c h
      refine Gz.iast (pc' := 125) (n := 16807) (by decide +kernel) rfl rfl c10 ?_
      refine Gz.nmW (fun w11 e12 => ?_)
      have h := zok_l e12 h
      refine Gz.iconst (n := 0) (v := (0 : Int32)) (pc' := 126) (by decide +kernel) rfl rfl ?_
      refine Gz.istore_n (q := 2) (pc' := 127) (L' := [(2, .int (0 : Int32)), (0, .ref 107), (1, .int x1)]) (by decide +kernel) rfl (Nat.le_of_ble_eq_true rfl) rfl ?_
      refine Gz.sub (L' := [(0, .ref 107), (1, .int x1), (2, .int (0 : Int32))]) [1, 2, 0] rfl ?_
      exact g_M_layPlain_b127 k83 hk83 x1 (0 : Int32) w11 h
    · have h := zok_t c9 h
      refine Gz.goto (off := 62) (tgt := 177) (by decide +kernel) (by decide) ?_
      exact g_M_layPlain_b177 k83 hk83 x1 w8 h
theorem g_M_layPlain_b83 {l : Launch} {Q : Option Value → gW → Prop} (x1 : Int32) (w : gW) (h : zok eV (f_M_layPlain_b83 x1 w) Q) : Gz l m_M_layPlain 56 83 [(0, .ref 107), (1, .int x1)] [] w Q := by
  have key : ∀ (n : Nat) (x1 : Int32) (w : gW), zok eV (zfx (fun _ _ => none) (f_M_layPlain_b83_s) n x1 w) Q → Gz l m_M_layPlain 56 83 [(0, .ref 107), (1, .int x1)] [] w Q := by
    intro n
    induction n with
    | zero => intro x1 w h; exact zok_n h
    | succ n ih => intro x1 w h; exact g_M_layPlain_b83_s _ ih x1 w h
  exact key zFU x1 w h
theorem g_M_layPlain_b7_s {l : Launch} {Q : Option Value → gW → Prop} (k7 : Int32 → gW → Option (Unit × gW)) (hk7 : ∀ (x1 : Int32) (w : gW), zok eV (k7 x1 w) Q → Gz l m_M_layPlain 56 7 [(0, .ref 107), (1, .int x1)] [] w Q) (x1 : Int32) (w : gW) (h : zok eV (f_M_layPlain_b7_s k7 x1 w) Q) : Gz l m_M_layPlain 56 7 [(0, .ref 107), (1, .int x1)] [] w Q := by
  unfold f_M_layPlain_b7_s at h
  refine Gz.iload_n (q := 1) (pc' := 8) (by decide +kernel) rfl 1 rfl ?_
  refine Gz.aload_n (q := 0) (pc' := 9) (by decide +kernel) rfl 0 rfl ?_
  refine Gz.getI (pc' := 12) (j := 35) fd_M_211 sh_107 rfl (by decide +kernel) rfl ?_
  refine Gz.icmp_ge (off := 69) (tgt := 81) (pc' := 15) (by decide +kernel) (by decide) rfl (fun c1 => ?_) (fun c1 => ?_)
  · have h := zok_t c1 h
    refine Gz.iconst (n := 0) (v := (0 : Int32)) (pc' := 82) (by decide +kernel) rfl rfl ?_
    refine Gz.istore_n (q := 1) (pc' := 83) (L' := [(1, .int (0 : Int32)), (0, .ref 107)]) (by decide +kernel) rfl (Nat.le_of_ble_eq_true rfl) rfl ?_
    refine Gz.sub (L' := [(0, .ref 107), (1, .int (0 : Int32))]) [1, 0] rfl ?_
    exact g_M_layPlain_b83 (0 : Int32) w h
  · have h := zok_f c1 h
    refine Gz.iconst (n := 0) (v := (0 : Int32)) (pc' := 16) (by decide +kernel) rfl rfl ?_
    refine Gz.istore_n (q := 2) (pc' := 17) (L' := [(2, .int (0 : Int32)), (0, .ref 107), (1, .int x1)]) (by decide +kernel) rfl (Nat.le_of_ble_eq_true rfl) rfl ?_
    refine Gz.sub (L' := [(0, .ref 107), (1, .int x1), (2, .int (0 : Int32))]) [1, 2, 0] rfl ?_
    exact g_M_layPlain_b17 k7 hk7 x1 (0 : Int32) w h
theorem g_M_layPlain_b7 {l : Launch} {Q : Option Value → gW → Prop} (x1 : Int32) (w : gW) (h : zok eV (f_M_layPlain_b7 x1 w) Q) : Gz l m_M_layPlain 56 7 [(0, .ref 107), (1, .int x1)] [] w Q := by
  have key : ∀ (n : Nat) (x1 : Int32) (w : gW), zok eV (zfx (fun _ _ => none) (f_M_layPlain_b7_s) n x1 w) Q → Gz l m_M_layPlain 56 7 [(0, .ref 107), (1, .int x1)] [] w Q := by
    intro n
    induction n with
    | zero => intro x1 w h; exact zok_n h
    | succ n ih => intro x1 w h; exact g_M_layPlain_b7_s _ ih x1 w h
  exact key zFU x1 w h
theorem g_M_layPlain {l : Launch} (w : gW) : gCt l m_M_layPlain 56 [.ref 107] w eV (f_M_layPlain w) := by
  intro Q h
  unfold f_M_layPlain at h
  show Gz l m_M_layPlain 56 0 [(0, .ref 107)] [] w Q
  refine Gz.aload_n (q := 0) (pc' := 1) (by decide +kernel) rfl 0 rfl ?_
  refine Gz.iconst (n := 0) (v := (0 : Int32)) (pc' := 2) (by decide +kernel) rfl rfl ?_
  refine Gz.putI (pc' := 5) (j := 39) fd_M_273 sh_107 rfl (by decide +kernel) rfl ?_
  refine Gz.nmW (fun w1 e2 => ?_)
  have h := zok_l e2 h
  refine Gz.iconst (n := 0) (v := (0 : Int32)) (pc' := 6) (by decide +kernel) rfl rfl ?_
  refine Gz.istore_n (q := 1) (pc' := 7) (L' := [(1, .int (0 : Int32)), (0, .ref 107)]) (by decide +kernel) rfl (Nat.le_of_ble_eq_true rfl) rfl ?_
  refine Gz.sub (L' := [(0, .ref 107), (1, .int (0 : Int32))]) [1, 0] rfl ?_
  exact g_M_layPlain_b7 (0 : Int32) w1 h
def f_M_canHold_b126 (k2 : Int32 → Int32 → Int32 → gW → Option (Int32 × gW)) (x1 : Int32) (x2 : Int32) (x3 : Int32) (w : gW) : Option (Int32 × gW) :=
zl (x3 + (1 : Int32)) (fun v1 =>
k2 x1 x2 v1 w)
def f_M_canHold_b119 (k2 : Int32 → Int32 → Int32 → gW → Option (Int32 × gW)) (x1 : Int32) (x2 : Int32) (x3 : Int32) (x4 : Int32) (w : gW) : Option (Int32 × gW) :=
if x4 = 0 then
(f_M_canHold_b126 k2 x1 x2 x3 w)
else
(some ((1 : Int32), w))
def f_M_canHold_b111 (k2 : Int32 → Int32 → Int32 → gW → Option (Int32 × gW)) (k68 : Int32 → Int32 → Int32 → Int32 → Int32 → gW → Option (Int32 × gW)) (x1 : Int32) (x2 : Int32) (x3 : Int32) (x5 : Int32) (s0 : Int32) (w : gW) : Option (Int32 × gW) :=
zl (x5 + (1 : Int32)) (fun v1 =>
k68 x1 x2 x3 s0 v1 w)
def f_M_canHold_b106 (k2 : Int32 → Int32 → Int32 → gW → Option (Int32 × gW)) (k68 : Int32 → Int32 → Int32 → Int32 → Int32 → gW → Option (Int32 × gW)) (x1 : Int32) (x2 : Int32) (x3 : Int32) (x5 : Int32) (w : gW) : Option (Int32 × gW) :=
f_M_canHold_b111 k2 k68 x1 x2 x3 x5 (1 : Int32) w
def f_M_canHold_b68_s (k2 : Int32 → Int32 → Int32 → gW → Option (Int32 × gW)) (k68 : Int32 → Int32 → Int32 → Int32 → Int32 → gW → Option (Int32 × gW)) (x1 : Int32) (x2 : Int32) (x3 : Int32) (x4 : Int32) (x5 : Int32) (w : gW) : Option (Int32 × gW) :=
if (w.1 107 35) ≤ x5 then
(f_M_canHold_b119 k2 x1 x2 x3 x4 w)
else
(if x4 = 0 then
(f_M_canHold_b119 k2 x1 x2 x3 x4 w)
else
(zb (f_M_has (x1 &&& (w.1 107 39)) x5 w) (fun v3 w4 =>
if v3 = 0 then
(f_M_canHold_b106 k2 k68 x1 x2 x3 x5 w4)
else
(zb (f_M_holdsSworn x5 x2 w4) (fun v6 w7 =>
if v6 = 0 then
(f_M_canHold_b111 k2 k68 x1 x2 x3 x5 (0 : Int32) w7)
else
(f_M_canHold_b106 k2 k68 x1 x2 x3 x5 w7))))))
def f_M_canHold_b68 (k2 : Int32 → Int32 → Int32 → gW → Option (Int32 × gW)) : Int32 → Int32 → Int32 → Int32 → Int32 → gW → Option (Int32 × gW) := zfx (fun _ _ _ _ _ _ => none) (f_M_canHold_b68_s k2) zFU
def f_M_canHold_b65 (k2 : Int32 → Int32 → Int32 → gW → Option (Int32 × gW)) (x1 : Int32) (x2 : Int32) (x3 : Int32) (x4 : Int32) (w : gW) : Option (Int32 × gW) :=
f_M_canHold_b68 k2 x1 x2 x3 x4 (0 : Int32) w
def f_M_canHold_b2_s (k2 : Int32 → Int32 → Int32 → gW → Option (Int32 × gW)) (x1 : Int32) (x2 : Int32) (x3 : Int32) (w : gW) : Option (Int32 × gW) :=
if (w.1 107 26) ≤ x3 then
(some ((0 : Int32), w))
else
(if inb x3 16807 then
if (w.1 127 (ix x3)) = (-1 : Int32) then
(f_M_canHold_b126 k2 x1 x2 x3 w)
else
(if inb x3 16807 then
if ((x1 &&& ((w.1 107 39) ^^^ (-1 : Int32))) &&& ((w.1 127 (ix x3)) ^^^ (-1 : Int32))) = 0 then
(if (x1 &&& (w.1 107 39)) = 0 then
(f_M_canHold_b65 k2 x1 x2 x3 (1 : Int32) w)
else
(if inb x3 16807 then
zb (f_M_live (w.1 118 (ix x3)) w) (fun _ w8 =>
f_M_canHold_b65 k2 x1 x2 x3 (1 : Int32) w8)
else none))
else
(f_M_canHold_b126 k2 x1 x2 x3 w)
else none)
else none)
def f_M_canHold_b2 : Int32 → Int32 → Int32 → gW → Option (Int32 × gW) := zfx (fun _ _ _ _ => none) (f_M_canHold_b2_s) zFU
def f_M_canHold (a1 : Int32) (a2 : Int32) (w : gW) : Option (Int32 × gW) :=
f_M_canHold_b2 a1 a2 (0 : Int32) w
theorem g_M_canHold_b126 {l : Launch} {Q : Option Value → gW → Prop} (k2 : Int32 → Int32 → Int32 → gW → Option (Int32 × gW)) (hk2 : ∀ (x1 : Int32) (x2 : Int32) (x3 : Int32) (w : gW), zok eI (k2 x1 x2 x3 w) Q → Gz l m_M_canHold 56 2 [(0, .ref 107), (1, .int x1), (2, .int x2), (3, .int x3)] [] w Q) (x1 : Int32) (x2 : Int32) (x3 : Int32) (w : gW) (h : zok eI (f_M_canHold_b126 k2 x1 x2 x3 w) Q) : Gz l m_M_canHold 56 126 [(0, .ref 107), (1, .int x1), (2, .int x2), (3, .int x3)] [] w Q := by
  unfold f_M_canHold_b126 at h
  obtain ⟨v1, e2⟩ : ∃ y : Int32, y = x3 + (1 : Int32) := ⟨_, rfl⟩
  have h := zok_l e2 h
  refine Gz.iinc (i := 3) (n := 1) (pc' := 129) (L' := [(3, .int v1), (0, .ref 107), (1, .int x1), (2, .int x2)]) v1 (by decide +kernel) rfl 3 rfl (by rw [e2]; rfl) (Nat.le_of_ble_eq_true rfl) rfl ?_
  refine Gz.goto (off := -127) (tgt := 2) (by decide +kernel) (by decide) ?_
  refine Gz.sub (L' := [(0, .ref 107), (1, .int x1), (2, .int x2), (3, .int v1)]) [1, 2, 3, 0] rfl ?_
  exact hk2 x1 x2 v1 w h
theorem g_M_canHold_b119 {l : Launch} {Q : Option Value → gW → Prop} (k2 : Int32 → Int32 → Int32 → gW → Option (Int32 × gW)) (hk2 : ∀ (x1 : Int32) (x2 : Int32) (x3 : Int32) (w : gW), zok eI (k2 x1 x2 x3 w) Q → Gz l m_M_canHold 56 2 [(0, .ref 107), (1, .int x1), (2, .int x2), (3, .int x3)] [] w Q) (x1 : Int32) (x2 : Int32) (x3 : Int32) (x4 : Int32) (w : gW) (h : zok eI (f_M_canHold_b119 k2 x1 x2 x3 x4 w) Q) : Gz l m_M_canHold 56 119 [(0, .ref 107), (1, .int x1), (2, .int x2), (3, .int x3), (4, .int x4)] [] w Q := by
  unfold f_M_canHold_b119 at h
  refine Gz.iload (i := 4) (pc' := 121) (by decide +kernel) rfl 4 rfl ?_
  refine Gz.if_eq (off := 5) (tgt := 126) (pc' := 124) (by decide +kernel) (by decide) rfl (fun c1 => ?_) (fun c1 => ?_)
  · have h := zok_t c1 h
    refine Gz.sub (L' := [(0, .ref 107), (1, .int x1), (2, .int x2), (3, .int x3)]) [0, 1, 2, 3] rfl ?_
    exact g_M_canHold_b126 k2 hk2 x1 x2 x3 w h
  · have h := zok_f c1 h
    refine Gz.iconst (n := 1) (v := (1 : Int32)) (pc' := 125) (by decide +kernel) rfl rfl ?_
    exact Gz.zreturn (by decide +kernel) rfl (by decide) (zok_sI h)
theorem g_M_canHold_b111 {l : Launch} {Q : Option Value → gW → Prop} (k2 : Int32 → Int32 → Int32 → gW → Option (Int32 × gW)) (hk2 : ∀ (x1 : Int32) (x2 : Int32) (x3 : Int32) (w : gW), zok eI (k2 x1 x2 x3 w) Q → Gz l m_M_canHold 56 2 [(0, .ref 107), (1, .int x1), (2, .int x2), (3, .int x3)] [] w Q) (k68 : Int32 → Int32 → Int32 → Int32 → Int32 → gW → Option (Int32 × gW)) (hk68 : ∀ (x1 : Int32) (x2 : Int32) (x3 : Int32) (x4 : Int32) (x5 : Int32) (w : gW), zok eI (k68 x1 x2 x3 x4 x5 w) Q → Gz l m_M_canHold 56 68 [(0, .ref 107), (1, .int x1), (2, .int x2), (3, .int x3), (4, .int x4), (5, .int x5)] [] w Q) (x1 : Int32) (x2 : Int32) (x3 : Int32) (x5 : Int32) (s0 : Int32) (w : gW) (h : zok eI (f_M_canHold_b111 k2 k68 x1 x2 x3 x5 s0 w) Q) : Gz l m_M_canHold 56 111 [(0, .ref 107), (1, .int x1), (2, .int x2), (3, .int x3), (5, .int x5)] [.int s0] w Q := by
  unfold f_M_canHold_b111 at h
  refine Gz.istore (i := 4) (pc' := 113) (L' := [(4, .int s0), (0, .ref 107), (1, .int x1), (2, .int x2), (3, .int x3), (5, .int x5)]) (by decide +kernel) rfl (Nat.le_of_ble_eq_true rfl) rfl ?_
  obtain ⟨v1, e2⟩ : ∃ y : Int32, y = x5 + (1 : Int32) := ⟨_, rfl⟩
  have h := zok_l e2 h
  refine Gz.iinc (i := 5) (n := 1) (pc' := 116) (L' := [(5, .int v1), (4, .int s0), (0, .ref 107), (1, .int x1), (2, .int x2), (3, .int x3)]) v1 (by decide +kernel) rfl 5 rfl (by rw [e2]; rfl) (Nat.le_of_ble_eq_true rfl) rfl ?_
  refine Gz.goto (off := -48) (tgt := 68) (by decide +kernel) (by decide) ?_
  refine Gz.sub (L' := [(0, .ref 107), (1, .int x1), (2, .int x2), (3, .int x3), (4, .int s0), (5, .int v1)]) [2, 3, 4, 5, 1, 0] rfl ?_
  exact hk68 x1 x2 x3 s0 v1 w h
theorem g_M_canHold_b106 {l : Launch} {Q : Option Value → gW → Prop} (k2 : Int32 → Int32 → Int32 → gW → Option (Int32 × gW)) (hk2 : ∀ (x1 : Int32) (x2 : Int32) (x3 : Int32) (w : gW), zok eI (k2 x1 x2 x3 w) Q → Gz l m_M_canHold 56 2 [(0, .ref 107), (1, .int x1), (2, .int x2), (3, .int x3)] [] w Q) (k68 : Int32 → Int32 → Int32 → Int32 → Int32 → gW → Option (Int32 × gW)) (hk68 : ∀ (x1 : Int32) (x2 : Int32) (x3 : Int32) (x4 : Int32) (x5 : Int32) (w : gW), zok eI (k68 x1 x2 x3 x4 x5 w) Q → Gz l m_M_canHold 56 68 [(0, .ref 107), (1, .int x1), (2, .int x2), (3, .int x3), (4, .int x4), (5, .int x5)] [] w Q) (x1 : Int32) (x2 : Int32) (x3 : Int32) (x5 : Int32) (w : gW) (h : zok eI (f_M_canHold_b106 k2 k68 x1 x2 x3 x5 w) Q) : Gz l m_M_canHold 56 106 [(0, .ref 107), (1, .int x1), (2, .int x2), (3, .int x3), (5, .int x5)] [] w Q := by
  unfold f_M_canHold_b106 at h
  refine Gz.iconst (n := 1) (v := (1 : Int32)) (pc' := 107) (by decide +kernel) rfl rfl ?_
  refine Gz.goto (off := 4) (tgt := 111) (by decide +kernel) (by decide) ?_
  exact g_M_canHold_b111 k2 hk2 k68 hk68 x1 x2 x3 x5 (1 : Int32) w h
theorem g_M_canHold_b68_s {l : Launch} {Q : Option Value → gW → Prop} (k2 : Int32 → Int32 → Int32 → gW → Option (Int32 × gW)) (hk2 : ∀ (x1 : Int32) (x2 : Int32) (x3 : Int32) (w : gW), zok eI (k2 x1 x2 x3 w) Q → Gz l m_M_canHold 56 2 [(0, .ref 107), (1, .int x1), (2, .int x2), (3, .int x3)] [] w Q) (k68 : Int32 → Int32 → Int32 → Int32 → Int32 → gW → Option (Int32 × gW)) (hk68 : ∀ (x1 : Int32) (x2 : Int32) (x3 : Int32) (x4 : Int32) (x5 : Int32) (w : gW), zok eI (k68 x1 x2 x3 x4 x5 w) Q → Gz l m_M_canHold 56 68 [(0, .ref 107), (1, .int x1), (2, .int x2), (3, .int x3), (4, .int x4), (5, .int x5)] [] w Q) (x1 : Int32) (x2 : Int32) (x3 : Int32) (x4 : Int32) (x5 : Int32) (w : gW) (h : zok eI (f_M_canHold_b68_s k2 k68 x1 x2 x3 x4 x5 w) Q) : Gz l m_M_canHold 56 68 [(0, .ref 107), (1, .int x1), (2, .int x2), (3, .int x3), (4, .int x4), (5, .int x5)] [] w Q := by
  unfold f_M_canHold_b68_s at h
  refine Gz.iload (i := 5) (pc' := 70) (by decide +kernel) rfl 5 rfl ?_
  refine Gz.aload_n (q := 0) (pc' := 71) (by decide +kernel) rfl 0 rfl ?_
  refine Gz.getI (pc' := 74) (j := 35) fd_M_211 sh_107 rfl (by decide +kernel) rfl ?_
  refine Gz.icmp_ge (off := 45) (tgt := 119) (pc' := 77) (by decide +kernel) (by decide) rfl (fun c1 => ?_) (fun c1 => ?_)
  · have h := zok_t c1 h
    refine Gz.sub (L' := [(0, .ref 107), (1, .int x1), (2, .int x2), (3, .int x3), (4, .int x4)]) [0, 1, 2, 3, 4] rfl ?_
    exact g_M_canHold_b119 k2 hk2 x1 x2 x3 x4 w h
  · have h := zok_f c1 h
    refine Gz.iload (i := 4) (pc' := 79) (by decide +kernel) rfl 4 rfl ?_
    refine Gz.if_eq (off := 40) (tgt := 119) (pc' := 82) (by decide +kernel) (by decide) rfl (fun c2 => ?_) (fun c2 => ?_)
    · have h := zok_t c2 h
      refine Gz.sub (L' := [(0, .ref 107), (1, .int x1), (2, .int x2), (3, .int x3), (4, .int x4)]) [0, 1, 2, 3, 4] rfl ?_
      exact g_M_canHold_b119 k2 hk2 x1 x2 x3 x4 w h
    · have h := zok_f c2 h
      refine Gz.iload_n (q := 1) (pc' := 83) (by decide +kernel) rfl 1 rfl ?_
      refine Gz.aload_n (q := 0) (pc' := 84) (by decide +kernel) rfl 0 rfl ?_
      refine Gz.getI (pc' := 87) (j := 39) fd_M_273 sh_107 rfl (by decide +kernel) rfl ?_
      refine Gz.iand (pc' := 88) (by decide +kernel) rfl ?_
      refine Gz.iload (i := 5) (pc' := 90) (by decide +kernel) rfl 5 rfl ?_
      refine Gz.callSI (st := []) (pc' := 93) [.int (x1 &&& (w.1 107 39)), .int x5] (g_M_has (x1 &&& (w.1 107 39)) x5 w) h ok_m_M_has lk_M_170 rfl (Nat.le_of_ble_eq_true rfl) (Nat.le_of_ble_eq_true rfl) (Nat.le_of_ble_eq_true rfl) (by decide +kernel) rfl (fun v3 w4 h => ?_)
      refine Gz.if_eq (off := 13) (tgt := 106) (pc' := 96) (by decide +kernel) (by decide) rfl (fun c5 => ?_) (fun c5 => ?_)
      · have h := zok_t c5 h
        refine Gz.sub (L' := [(0, .ref 107), (1, .int x1), (2, .int x2), (3, .int x3), (5, .int x5)]) [0, 1, 2, 3, 5] rfl ?_
        exact g_M_canHold_b106 k2 hk2 k68 hk68 x1 x2 x3 x5 w4 h
      · have h := zok_f c5 h
        refine Gz.aload_n (q := 0) (pc' := 97) (by decide +kernel) rfl 0 rfl ?_
        refine Gz.iload (i := 5) (pc' := 99) (by decide +kernel) rfl 5 rfl ?_
        refine Gz.iload_n (q := 2) (pc' := 100) (by decide +kernel) rfl 2 rfl ?_
        refine Gz.callVI (st := []) (b := 107) (pc' := 103) [.int x5, .int x2] (g_M_holdsSworn x5 x2 w4) h ok_m_M_holdsSworn lk_M_264 sh_107 rfl rfl rfl (Nat.le_of_ble_eq_true rfl) (Nat.le_of_ble_eq_true rfl) (Nat.le_of_ble_eq_true rfl) (by decide +kernel) rfl (fun v6 w7 h => ?_)
        refine Gz.if_eq (off := 7) (tgt := 110) (pc' := 106) (by decide +kernel) (by decide) rfl (fun c8 => ?_) (fun c8 => ?_)
        · have h := zok_t c8 h
          refine Gz.iconst (n := 0) (v := (0 : Int32)) (pc' := 111) (by decide +kernel) rfl rfl ?_
          refine Gz.sub (L' := [(0, .ref 107), (1, .int x1), (2, .int x2), (3, .int x3), (5, .int x5)]) [0, 1, 2, 3, 5] rfl ?_
          exact g_M_canHold_b111 k2 hk2 k68 hk68 x1 x2 x3 x5 (0 : Int32) w7 h
        · have h := zok_f c8 h
          refine Gz.sub (L' := [(0, .ref 107), (1, .int x1), (2, .int x2), (3, .int x3), (5, .int x5)]) [0, 1, 2, 3, 5] rfl ?_
          exact g_M_canHold_b106 k2 hk2 k68 hk68 x1 x2 x3 x5 w7 h
theorem g_M_canHold_b68 {l : Launch} {Q : Option Value → gW → Prop} (k2 : Int32 → Int32 → Int32 → gW → Option (Int32 × gW)) (hk2 : ∀ (x1 : Int32) (x2 : Int32) (x3 : Int32) (w : gW), zok eI (k2 x1 x2 x3 w) Q → Gz l m_M_canHold 56 2 [(0, .ref 107), (1, .int x1), (2, .int x2), (3, .int x3)] [] w Q) (x1 : Int32) (x2 : Int32) (x3 : Int32) (x4 : Int32) (x5 : Int32) (w : gW) (h : zok eI (f_M_canHold_b68 k2 x1 x2 x3 x4 x5 w) Q) : Gz l m_M_canHold 56 68 [(0, .ref 107), (1, .int x1), (2, .int x2), (3, .int x3), (4, .int x4), (5, .int x5)] [] w Q := by
  have key : ∀ (n : Nat) (x1 : Int32) (x2 : Int32) (x3 : Int32) (x4 : Int32) (x5 : Int32) (w : gW), zok eI (zfx (fun _ _ _ _ _ _ => none) (f_M_canHold_b68_s k2) n x1 x2 x3 x4 x5 w) Q → Gz l m_M_canHold 56 68 [(0, .ref 107), (1, .int x1), (2, .int x2), (3, .int x3), (4, .int x4), (5, .int x5)] [] w Q := by
    intro n
    induction n with
    | zero => intro x1 x2 x3 x4 x5 w h; exact zok_n h
    | succ n ih => intro x1 x2 x3 x4 x5 w h; exact g_M_canHold_b68_s k2 hk2 _ ih x1 x2 x3 x4 x5 w h
  exact key zFU x1 x2 x3 x4 x5 w h
theorem g_M_canHold_b65 {l : Launch} {Q : Option Value → gW → Prop} (k2 : Int32 → Int32 → Int32 → gW → Option (Int32 × gW)) (hk2 : ∀ (x1 : Int32) (x2 : Int32) (x3 : Int32) (w : gW), zok eI (k2 x1 x2 x3 w) Q → Gz l m_M_canHold 56 2 [(0, .ref 107), (1, .int x1), (2, .int x2), (3, .int x3)] [] w Q) (x1 : Int32) (x2 : Int32) (x3 : Int32) (x4 : Int32) (w : gW) (h : zok eI (f_M_canHold_b65 k2 x1 x2 x3 x4 w) Q) : Gz l m_M_canHold 56 65 [(0, .ref 107), (1, .int x1), (2, .int x2), (3, .int x3), (4, .int x4)] [] w Q := by
  unfold f_M_canHold_b65 at h
  refine Gz.iconst (n := 0) (v := (0 : Int32)) (pc' := 66) (by decide +kernel) rfl rfl ?_
  refine Gz.istore (i := 5) (pc' := 68) (L' := [(5, .int (0 : Int32)), (0, .ref 107), (1, .int x1), (2, .int x2), (3, .int x3), (4, .int x4)]) (by decide +kernel) rfl (Nat.le_of_ble_eq_true rfl) rfl ?_
  refine Gz.sub (L' := [(0, .ref 107), (1, .int x1), (2, .int x2), (3, .int x3), (4, .int x4), (5, .int (0 : Int32))]) [1, 2, 3, 4, 5, 0] rfl ?_
  exact g_M_canHold_b68 k2 hk2 x1 x2 x3 x4 (0 : Int32) w h
theorem g_M_canHold_b2_s {l : Launch} {Q : Option Value → gW → Prop} (k2 : Int32 → Int32 → Int32 → gW → Option (Int32 × gW)) (hk2 : ∀ (x1 : Int32) (x2 : Int32) (x3 : Int32) (w : gW), zok eI (k2 x1 x2 x3 w) Q → Gz l m_M_canHold 56 2 [(0, .ref 107), (1, .int x1), (2, .int x2), (3, .int x3)] [] w Q) (x1 : Int32) (x2 : Int32) (x3 : Int32) (w : gW) (h : zok eI (f_M_canHold_b2_s k2 x1 x2 x3 w) Q) : Gz l m_M_canHold 56 2 [(0, .ref 107), (1, .int x1), (2, .int x2), (3, .int x3)] [] w Q := by
  unfold f_M_canHold_b2_s at h
  refine Gz.iload_n (q := 3) (pc' := 3) (by decide +kernel) rfl 3 rfl ?_
  refine Gz.aload_n (q := 0) (pc' := 4) (by decide +kernel) rfl 0 rfl ?_
  refine Gz.getI (pc' := 7) (j := 26) fd_M_224 sh_107 rfl (by decide +kernel) rfl ?_
  refine Gz.icmp_ge (off := 125) (tgt := 132) (pc' := 10) (by decide +kernel) (by decide) rfl (fun c1 => ?_) (fun c1 => ?_)
  · have h := zok_t c1 h
    refine Gz.iconst (n := 0) (v := (0 : Int32)) (pc' := 133) (by decide +kernel) rfl rfl ?_
    exact Gz.zreturn (by decide +kernel) rfl (by decide) (zok_sI h)
  · have h := zok_f c1 h
    refine Gz.aload_n (q := 0) (pc' := 11) (by decide +kernel) rfl 0 rfl ?_
    refine Gz.getR (pc' := 14) (j := 38) 127 fd_M_72 sh_107 rfl (by decide +kernel) rfl ?_
    refine Gz.iload_n (q := 3) (pc' := 15) (by decide +kernel) rfl 3 rfl ?_
    obtain ⟨c2, h⟩ := zok_c h
    refine Gz.iald (pc' := 16) (n := 16807) (by decide +kernel) rfl rfl c2 ?_
    refine Gz.iconst (n := -1) (v := (-1 : Int32)) (pc' := 17) (by decide +kernel) rfl rfl ?_
    refine Gz.icmp_eq (off := 109) (tgt := 126) (pc' := 20) (by decide +kernel) (by decide) rfl (fun c3 => ?_) (fun c3 => ?_)
    · have h := zok_t c3 h
      exact g_M_canHold_b126 k2 hk2 x1 x2 x3 w h
    · have h := zok_f c3 h
      refine Gz.iload_n (q := 1) (pc' := 21) (by decide +kernel) rfl 1 rfl ?_
      refine Gz.aload_n (q := 0) (pc' := 22) (by decide +kernel) rfl 0 rfl ?_
      refine Gz.getI (pc' := 25) (j := 39) fd_M_273 sh_107 rfl (by decide +kernel) rfl ?_
      refine Gz.iconst (n := -1) (v := (-1 : Int32)) (pc' := 26) (by decide +kernel) rfl rfl ?_
      refine Gz.ixor (pc' := 27) (by decide +kernel) rfl ?_
      refine Gz.iand (pc' := 28) (by decide +kernel) rfl ?_
      refine Gz.aload_n (q := 0) (pc' := 29) (by decide +kernel) rfl 0 rfl ?_
      refine Gz.getR (pc' := 32) (j := 38) 127 fd_M_72 sh_107 rfl (by decide +kernel) rfl ?_
      refine Gz.iload_n (q := 3) (pc' := 33) (by decide +kernel) rfl 3 rfl ?_
      obtain ⟨c4, h⟩ := zok_c h
      refine Gz.iald (pc' := 34) (n := 16807) (by decide +kernel) rfl rfl c4 ?_
      refine Gz.iconst (n := -1) (v := (-1 : Int32)) (pc' := 35) (by decide +kernel) rfl rfl ?_
      refine Gz.ixor (pc' := 36) (by decide +kernel) rfl ?_
      refine Gz.iand (pc' := 37) (by decide +kernel) rfl ?_
      refine Gz.if_eq (off := 6) (tgt := 43) (pc' := 40) (by decide +kernel) (by decide) rfl (fun c5 => ?_) (fun c5 => ?_)
      · have h := zok_t c5 h
        refine Gz.iconst (n := 1) (v := (1 : Int32)) (pc' := 44) (by decide +kernel) rfl rfl ?_
        refine Gz.istore (i := 4) (pc' := 46) (L' := [(4, .int (1 : Int32)), (0, .ref 107), (1, .int x1), (2, .int x2), (3, .int x3)]) (by decide +kernel) rfl (Nat.le_of_ble_eq_true rfl) rfl ?_
        refine Gz.iload_n (q := 1) (pc' := 47) (by decide +kernel) rfl 2 rfl ?_
        refine Gz.aload_n (q := 0) (pc' := 48) (by decide +kernel) rfl 1 rfl ?_
        refine Gz.getI (pc' := 51) (j := 39) fd_M_273 sh_107 rfl (by decide +kernel) rfl ?_
        refine Gz.iand (pc' := 52) (by decide +kernel) rfl ?_
        refine Gz.if_eq (off := 13) (tgt := 65) (pc' := 55) (by decide +kernel) (by decide) rfl (fun c6 => ?_) (fun c6 => ?_)
        · have h := zok_t c6 h
          refine Gz.sub (L' := [(0, .ref 107), (1, .int x1), (2, .int x2), (3, .int x3), (4, .int (1 : Int32))]) [1, 2, 3, 4, 0] rfl ?_
          exact g_M_canHold_b65 k2 hk2 x1 x2 x3 (1 : Int32) w h
        · have h := zok_f c6 h
          refine Gz.aload_n (q := 0) (pc' := 56) (by decide +kernel) rfl 1 rfl ?_
          refine Gz.aload_n (q := 0) (pc' := 57) (by decide +kernel) rfl 1 rfl ?_
          refine Gz.getR (pc' := 60) (j := 25) 118 fd_M_44 sh_107 rfl (by decide +kernel) rfl ?_
          refine Gz.iload_n (q := 3) (pc' := 61) (by decide +kernel) rfl 4 rfl ?_
          obtain ⟨c7, h⟩ := zok_c h
          refine Gz.iald (pc' := 62) (n := 16807) (by decide +kernel) rfl rfl c7 ?_
          refine Gz.callVV (st := []) (b := 107) (pc' := 65) [.int (w.1 118 (ix x3))] (g_M_live (w.1 118 (ix x3)) w) h ok_m_M_live lk_M_231 sh_107 rfl rfl rfl (Nat.le_of_ble_eq_true rfl) (Nat.le_of_ble_eq_true rfl) (Nat.le_of_ble_eq_true rfl) (by decide +kernel) rfl (fun _ w8 h => ?_)
          refine Gz.sub (L' := [(0, .ref 107), (1, .int x1), (2, .int x2), (3, .int x3), (4, .int (1 : Int32))]) [1, 2, 3, 4, 0] rfl ?_
          exact g_M_canHold_b65 k2 hk2 x1 x2 x3 (1 : Int32) w8 h
      · have h := zok_f c5 h
        refine Gz.goto (off := 86) (tgt := 126) (by decide +kernel) (by decide) ?_
        exact g_M_canHold_b126 k2 hk2 x1 x2 x3 w h
theorem g_M_canHold_b2 {l : Launch} {Q : Option Value → gW → Prop} (x1 : Int32) (x2 : Int32) (x3 : Int32) (w : gW) (h : zok eI (f_M_canHold_b2 x1 x2 x3 w) Q) : Gz l m_M_canHold 56 2 [(0, .ref 107), (1, .int x1), (2, .int x2), (3, .int x3)] [] w Q := by
  have key : ∀ (n : Nat) (x1 : Int32) (x2 : Int32) (x3 : Int32) (w : gW), zok eI (zfx (fun _ _ _ _ => none) (f_M_canHold_b2_s) n x1 x2 x3 w) Q → Gz l m_M_canHold 56 2 [(0, .ref 107), (1, .int x1), (2, .int x2), (3, .int x3)] [] w Q := by
    intro n
    induction n with
    | zero => intro x1 x2 x3 w h; exact zok_n h
    | succ n ih => intro x1 x2 x3 w h; exact g_M_canHold_b2_s _ ih x1 x2 x3 w h
  exact key zFU x1 x2 x3 w h
theorem g_M_canHold {l : Launch} (a1 : Int32) (a2 : Int32) (w : gW) : gCt l m_M_canHold 56 [.ref 107, .int a1, .int a2] w eI (f_M_canHold a1 a2 w) := by
  intro Q h
  unfold f_M_canHold at h
  show Gz l m_M_canHold 56 0 [(0, .ref 107), (1, .int a1), (2, .int a2)] [] w Q
  refine Gz.iconst (n := 0) (v := (0 : Int32)) (pc' := 1) (by decide +kernel) rfl rfl ?_
  refine Gz.istore_n (q := 3) (pc' := 2) (L' := [(3, .int (0 : Int32)), (0, .ref 107), (1, .int a1), (2, .int a2)]) (by decide +kernel) rfl (Nat.le_of_ble_eq_true rfl) rfl ?_
  refine Gz.sub (L' := [(0, .ref 107), (1, .int a1), (2, .int a2), (3, .int (0 : Int32))]) [1, 2, 3, 0] rfl ?_
  exact g_M_canHold_b2 a1 a2 (0 : Int32) w h
def f_M_breaks_b20_s (k20 : Int32 → gW → Option (Int32 × gW)) (x1 : Int32) (w : gW) : Option (Int32 × gW) :=
if (w.1 107 35) ≤ x1 then
(some ((-1 : Int32), w))
else
(zb (f_M_all w) (fun v2 w3 =>
zb (f_M_canHold (((1 : Int32) <<< ((x1 + (1 : Int32)) &&& 31)) - (1 : Int32)) v2 w3) (fun v4 w5 =>
if v4 = 0 then
(some (x1, w5))
else
(zl (x1 + (1 : Int32)) (fun v7 =>
k20 v7 w5)))))
def f_M_breaks_b20 : Int32 → gW → Option (Int32 × gW) := zfx (fun _ _ => none) (f_M_breaks_b20_s) zFU
def f_M_breaks (w : gW) : Option (Int32 × gW) :=
zl (zsI w 107 0 (0 : Int32)) (fun w1 =>
if (w1.1 107 21) = 0 then
(some ((-1 : Int32), w1))
else
(zb (f_M_layPlain w1) (fun _ w4 =>
f_M_breaks_b20 (0 : Int32) w4)))
theorem g_M_breaks_b20_s {l : Launch} {Q : Option Value → gW → Prop} (k20 : Int32 → gW → Option (Int32 × gW)) (hk20 : ∀ (x1 : Int32) (w : gW), zok eI (k20 x1 w) Q → Gz l m_M_breaks 57 20 [(0, .ref 107), (1, .int x1)] [] w Q) (x1 : Int32) (w : gW) (h : zok eI (f_M_breaks_b20_s k20 x1 w) Q) : Gz l m_M_breaks 57 20 [(0, .ref 107), (1, .int x1)] [] w Q := by
  unfold f_M_breaks_b20_s at h
  refine Gz.iload_n (q := 1) (pc' := 21) (by decide +kernel) rfl 1 rfl ?_
  refine Gz.aload_n (q := 0) (pc' := 22) (by decide +kernel) rfl 0 rfl ?_
  refine Gz.getI (pc' := 25) (j := 35) fd_M_211 sh_107 rfl (by decide +kernel) rfl ?_
  refine Gz.icmp_ge (off := 29) (tgt := 54) (pc' := 28) (by decide +kernel) (by decide) rfl (fun c1 => ?_) (fun c1 => ?_)
  · have h := zok_t c1 h
    refine Gz.iconst (n := -1) (v := (-1 : Int32)) (pc' := 55) (by decide +kernel) rfl rfl ?_
    exact Gz.ireturn (by decide +kernel) rfl (zok_sI h)
  · have h := zok_f c1 h
    refine Gz.aload_n (q := 0) (pc' := 29) (by decide +kernel) rfl 0 rfl ?_
    refine Gz.iconst (n := 1) (v := (1 : Int32)) (pc' := 30) (by decide +kernel) rfl rfl ?_
    refine Gz.iload_n (q := 1) (pc' := 31) (by decide +kernel) rfl 1 rfl ?_
    refine Gz.iconst (n := 1) (v := (1 : Int32)) (pc' := 32) (by decide +kernel) rfl rfl ?_
    refine Gz.iadd (pc' := 33) (by decide +kernel) rfl ?_
    refine Gz.ishl (pc' := 34) (by decide +kernel) rfl ?_
    refine Gz.iconst (n := 1) (v := (1 : Int32)) (pc' := 35) (by decide +kernel) rfl rfl ?_
    refine Gz.isub (pc' := 36) (by decide +kernel) rfl ?_
    refine Gz.aload_n (q := 0) (pc' := 37) (by decide +kernel) rfl 0 rfl ?_
    refine Gz.callVI (st := [.int (((1 : Int32) <<< ((x1 + (1 : Int32)) &&& 31)) - (1 : Int32)), .ref 107]) (b := 107) (pc' := 40) [] (g_M_all w) h ok_m_M_all lk_M_261 sh_107 rfl rfl rfl (Nat.le_of_ble_eq_true rfl) (Nat.le_of_ble_eq_true rfl) (Nat.le_of_ble_eq_true rfl) (by decide +kernel) rfl (fun v2 w3 h => ?_)
    refine Gz.callVI (st := []) (b := 107) (pc' := 43) [.int (((1 : Int32) <<< ((x1 + (1 : Int32)) &&& 31)) - (1 : Int32)), .int v2] (g_M_canHold (((1 : Int32) <<< ((x1 + (1 : Int32)) &&& 31)) - (1 : Int32)) v2 w3) h ok_m_M_canHold lk_M_279 sh_107 rfl rfl rfl (Nat.le_of_ble_eq_true rfl) (Nat.le_of_ble_eq_true rfl) (Nat.le_of_ble_eq_true rfl) (by decide +kernel) rfl (fun v4 w5 h => ?_)
    refine Gz.if_ne (off := 5) (tgt := 48) (pc' := 46) (by decide +kernel) (by decide) rfl (fun c6 => ?_) (fun c6 => ?_)
    · have h := zok_f c6 h
      obtain ⟨v7, e8⟩ : ∃ y : Int32, y = x1 + (1 : Int32) := ⟨_, rfl⟩
      have h := zok_l e8 h
      refine Gz.iinc (i := 1) (n := 1) (pc' := 51) (L' := [(1, .int v7), (0, .ref 107)]) v7 (by decide +kernel) rfl 1 rfl (by rw [e8]; rfl) (Nat.le_of_ble_eq_true rfl) rfl ?_
      refine Gz.goto (off := -31) (tgt := 20) (by decide +kernel) (by decide) ?_
      refine Gz.sub (L' := [(0, .ref 107), (1, .int v7)]) [1, 0] rfl ?_
      exact hk20 v7 w5 h
    · have h := zok_t c6 h
      refine Gz.iload_n (q := 1) (pc' := 47) (by decide +kernel) rfl 1 rfl ?_
      exact Gz.ireturn (by decide +kernel) rfl (zok_sI h)
theorem g_M_breaks_b20 {l : Launch} {Q : Option Value → gW → Prop} (x1 : Int32) (w : gW) (h : zok eI (f_M_breaks_b20 x1 w) Q) : Gz l m_M_breaks 57 20 [(0, .ref 107), (1, .int x1)] [] w Q := by
  have key : ∀ (n : Nat) (x1 : Int32) (w : gW), zok eI (zfx (fun _ _ => none) (f_M_breaks_b20_s) n x1 w) Q → Gz l m_M_breaks 57 20 [(0, .ref 107), (1, .int x1)] [] w Q := by
    intro n
    induction n with
    | zero => intro x1 w h; exact zok_n h
    | succ n ih => intro x1 w h; exact g_M_breaks_b20_s _ ih x1 w h
  exact key zFU x1 w h
theorem g_M_breaks {l : Launch} (w : gW) : gCt l m_M_breaks 57 [.ref 107] w eI (f_M_breaks w) := by
  intro Q h
  unfold f_M_breaks at h
  show Gz l m_M_breaks 57 0 [(0, .ref 107)] [] w Q
  refine Gz.aload_n (q := 0) (pc' := 1) (by decide +kernel) rfl 0 rfl ?_
  refine Gz.iconst (n := 0) (v := (0 : Int32)) (pc' := 2) (by decide +kernel) rfl rfl ?_
  refine Gz.putI (pc' := 5) (j := 0) fd_M_96 sh_107 rfl (by decide +kernel) rfl ?_
  refine Gz.nmW (fun w1 e2 => ?_)
  have h := zok_l e2 h
  refine Gz.aload_n (q := 0) (pc' := 6) (by decide +kernel) rfl 0 rfl ?_
  refine Gz.getI (pc' := 9) (j := 21) fd_M_141 sh_107 rfl (by decide +kernel) rfl ?_
  refine Gz.if_ne (off := 5) (tgt := 14) (pc' := 12) (by decide +kernel) (by decide) rfl (fun c3 => ?_) (fun c3 => ?_)
  · have h := zok_f c3 h
    refine Gz.aload_n (q := 0) (pc' := 15) (by decide +kernel) rfl 0 rfl ?_
    refine Gz.callVV (st := []) (b := 107) (pc' := 18) [] (g_M_layPlain w1) h ok_m_M_layPlain lk_M_276 sh_107 rfl rfl rfl (Nat.le_of_ble_eq_true rfl) (Nat.le_of_ble_eq_true rfl) (Nat.le_of_ble_eq_true rfl) (by decide +kernel) rfl (fun _ w4 h => ?_)
    refine Gz.iconst (n := 0) (v := (0 : Int32)) (pc' := 19) (by decide +kernel) rfl rfl ?_
    refine Gz.istore_n (q := 1) (pc' := 20) (L' := [(1, .int (0 : Int32)), (0, .ref 107)]) (by decide +kernel) rfl (Nat.le_of_ble_eq_true rfl) rfl ?_
    refine Gz.sub (L' := [(0, .ref 107), (1, .int (0 : Int32))]) [1, 0] rfl ?_
    exact g_M_breaks_b20 (0 : Int32) w4 h
  · have h := zok_t c3 h
    refine Gz.iconst (n := -1) (v := (-1 : Int32)) (pc' := 13) (by decide +kernel) rfl rfl ?_
    exact Gz.ireturn (by decide +kernel) rfl (zok_sI h)
def f_M_clash_b93 (k20 : Int32 → gW → Option (Int32 × gW)) (k32 : Int32 → Int32 → gW → Option (Int32 × gW)) (x1 : Int32) (x2 : Int32) (w : gW) : Option (Int32 × gW) :=
zl (x2 + (1 : Int32)) (fun v1 =>
k32 x1 v1 w)
def f_M_clash_b32_s (k20 : Int32 → gW → Option (Int32 × gW)) (k32 : Int32 → Int32 → gW → Option (Int32 × gW)) (x1 : Int32) (x2 : Int32) (w : gW) : Option (Int32 × gW) :=
if (w.1 107 35) ≤ x2 then
(zl (x1 + (1 : Int32)) (fun v2 =>
k20 v2 w))
else
(zb (f_M_all w) (fun v4 w5 =>
zb (f_M_canHold ((1 : Int32) <<< (x1 &&& 31)) v4 w5) (fun v6 w7 =>
if v6 = 0 then
(f_M_clash_b93 k20 k32 x1 x2 w7)
else
(zb (f_M_all w7) (fun v9 w10 =>
zb (f_M_canHold ((1 : Int32) <<< (x2 &&& 31)) v9 w10) (fun v11 w12 =>
if v11 = 0 then
(f_M_clash_b93 k20 k32 x1 x2 w12)
else
(zb (f_M_all w12) (fun v14 w15 =>
zb (f_M_canHold (((1 : Int32) <<< (x1 &&& 31)) ||| ((1 : Int32) <<< (x2 &&& 31))) v14 w15) (fun v16 w17 =>
if v16 = 0 then
(some (((10 : Int32) * x1) + x2, w17))
else
(f_M_clash_b93 k20 k32 x1 x2 w17))))))))))
def f_M_clash_b32 (k20 : Int32 → gW → Option (Int32 × gW)) : Int32 → Int32 → gW → Option (Int32 × gW) := zfx (fun _ _ _ => none) (f_M_clash_b32_s k20) zFU
def f_M_clash_b20_s (k20 : Int32 → gW → Option (Int32 × gW)) (x1 : Int32) (w : gW) : Option (Int32 × gW) :=
if (w.1 107 35) ≤ x1 then
(some ((-1 : Int32), w))
else
(zl (x1 + (1 : Int32)) (fun v2 =>
f_M_clash_b32 k20 x1 v2 w))
def f_M_clash_b20 : Int32 → gW → Option (Int32 × gW) := zfx (fun _ _ => none) (f_M_clash_b20_s) zFU
def f_M_clash (w : gW) : Option (Int32 × gW) :=
zl (zsI w 107 0 (0 : Int32)) (fun w1 =>
if (w1.1 107 21) = 0 then
(some ((-1 : Int32), w1))
else
(zb (f_M_layPlain w1) (fun _ w4 =>
f_M_clash_b20 (0 : Int32) w4)))
theorem g_M_clash_b93 {l : Launch} {Q : Option Value → gW → Prop} (k20 : Int32 → gW → Option (Int32 × gW)) (hk20 : ∀ (x1 : Int32) (w : gW), zok eI (k20 x1 w) Q → Gz l m_M_clash 57 20 [(0, .ref 107), (1, .int x1)] [] w Q) (k32 : Int32 → Int32 → gW → Option (Int32 × gW)) (hk32 : ∀ (x1 : Int32) (x2 : Int32) (w : gW), zok eI (k32 x1 x2 w) Q → Gz l m_M_clash 57 32 [(0, .ref 107), (1, .int x1), (2, .int x2)] [] w Q) (x1 : Int32) (x2 : Int32) (w : gW) (h : zok eI (f_M_clash_b93 k20 k32 x1 x2 w) Q) : Gz l m_M_clash 57 93 [(0, .ref 107), (1, .int x1), (2, .int x2)] [] w Q := by
  unfold f_M_clash_b93 at h
  obtain ⟨v1, e2⟩ : ∃ y : Int32, y = x2 + (1 : Int32) := ⟨_, rfl⟩
  have h := zok_l e2 h
  refine Gz.iinc (i := 2) (n := 1) (pc' := 96) (L' := [(2, .int v1), (0, .ref 107), (1, .int x1)]) v1 (by decide +kernel) rfl 2 rfl (by rw [e2]; rfl) (Nat.le_of_ble_eq_true rfl) rfl ?_
  refine Gz.goto (off := -64) (tgt := 32) (by decide +kernel) (by decide) ?_
  refine Gz.sub (L' := [(0, .ref 107), (1, .int x1), (2, .int v1)]) [1, 2, 0] rfl ?_
  exact hk32 x1 v1 w h
theorem g_M_clash_b32_s {l : Launch} {Q : Option Value → gW → Prop} (k20 : Int32 → gW → Option (Int32 × gW)) (hk20 : ∀ (x1 : Int32) (w : gW), zok eI (k20 x1 w) Q → Gz l m_M_clash 57 20 [(0, .ref 107), (1, .int x1)] [] w Q) (k32 : Int32 → Int32 → gW → Option (Int32 × gW)) (hk32 : ∀ (x1 : Int32) (x2 : Int32) (w : gW), zok eI (k32 x1 x2 w) Q → Gz l m_M_clash 57 32 [(0, .ref 107), (1, .int x1), (2, .int x2)] [] w Q) (x1 : Int32) (x2 : Int32) (w : gW) (h : zok eI (f_M_clash_b32_s k20 k32 x1 x2 w) Q) : Gz l m_M_clash 57 32 [(0, .ref 107), (1, .int x1), (2, .int x2)] [] w Q := by
  unfold f_M_clash_b32_s at h
  refine Gz.iload_n (q := 2) (pc' := 33) (by decide +kernel) rfl 2 rfl ?_
  refine Gz.aload_n (q := 0) (pc' := 34) (by decide +kernel) rfl 0 rfl ?_
  refine Gz.getI (pc' := 37) (j := 35) fd_M_211 sh_107 rfl (by decide +kernel) rfl ?_
  refine Gz.icmp_ge (off := 62) (tgt := 99) (pc' := 40) (by decide +kernel) (by decide) rfl (fun c1 => ?_) (fun c1 => ?_)
  · have h := zok_t c1 h
    obtain ⟨v2, e3⟩ : ∃ y : Int32, y = x1 + (1 : Int32) := ⟨_, rfl⟩
    have h := zok_l e3 h
    refine Gz.iinc (i := 1) (n := 1) (pc' := 102) (L' := [(1, .int v2), (0, .ref 107), (2, .int x2)]) v2 (by decide +kernel) rfl 1 rfl (by rw [e3]; rfl) (Nat.le_of_ble_eq_true rfl) rfl ?_
    refine Gz.goto (off := -82) (tgt := 20) (by decide +kernel) (by decide) ?_
    refine Gz.sub (L' := [(0, .ref 107), (1, .int v2)]) [1, 0] rfl ?_
    exact hk20 v2 w h
  · have h := zok_f c1 h
    refine Gz.aload_n (q := 0) (pc' := 41) (by decide +kernel) rfl 0 rfl ?_
    refine Gz.iconst (n := 1) (v := (1 : Int32)) (pc' := 42) (by decide +kernel) rfl rfl ?_
    refine Gz.iload_n (q := 1) (pc' := 43) (by decide +kernel) rfl 1 rfl ?_
    refine Gz.ishl (pc' := 44) (by decide +kernel) rfl ?_
    refine Gz.aload_n (q := 0) (pc' := 45) (by decide +kernel) rfl 0 rfl ?_
    refine Gz.callVI (st := [.int ((1 : Int32) <<< (x1 &&& 31)), .ref 107]) (b := 107) (pc' := 48) [] (g_M_all w) h ok_m_M_all lk_M_261 sh_107 rfl rfl rfl (Nat.le_of_ble_eq_true rfl) (Nat.le_of_ble_eq_true rfl) (Nat.le_of_ble_eq_true rfl) (by decide +kernel) rfl (fun v4 w5 h => ?_)
    refine Gz.callVI (st := []) (b := 107) (pc' := 51) [.int ((1 : Int32) <<< (x1 &&& 31)), .int v4] (g_M_canHold ((1 : Int32) <<< (x1 &&& 31)) v4 w5) h ok_m_M_canHold lk_M_279 sh_107 rfl rfl rfl (Nat.le_of_ble_eq_true rfl) (Nat.le_of_ble_eq_true rfl) (Nat.le_of_ble_eq_true rfl) (by decide +kernel) rfl (fun v6 w7 h => ?_)
    refine Gz.if_eq (off := 42) (tgt := 93) (pc' := 54) (by decide +kernel) (by decide) rfl (fun c8 => ?_) (fun c8 => ?_)
    · have h := zok_t c8 h
      exact g_M_clash_b93 k20 hk20 k32 hk32 x1 x2 w7 h
    · have h := zok_f c8 h
      refine Gz.aload_n (q := 0) (pc' := 55) (by decide +kernel) rfl 0 rfl ?_
      refine Gz.iconst (n := 1) (v := (1 : Int32)) (pc' := 56) (by decide +kernel) rfl rfl ?_
      refine Gz.iload_n (q := 2) (pc' := 57) (by decide +kernel) rfl 2 rfl ?_
      refine Gz.ishl (pc' := 58) (by decide +kernel) rfl ?_
      refine Gz.aload_n (q := 0) (pc' := 59) (by decide +kernel) rfl 0 rfl ?_
      refine Gz.callVI (st := [.int ((1 : Int32) <<< (x2 &&& 31)), .ref 107]) (b := 107) (pc' := 62) [] (g_M_all w7) h ok_m_M_all lk_M_261 sh_107 rfl rfl rfl (Nat.le_of_ble_eq_true rfl) (Nat.le_of_ble_eq_true rfl) (Nat.le_of_ble_eq_true rfl) (by decide +kernel) rfl (fun v9 w10 h => ?_)
      refine Gz.callVI (st := []) (b := 107) (pc' := 65) [.int ((1 : Int32) <<< (x2 &&& 31)), .int v9] (g_M_canHold ((1 : Int32) <<< (x2 &&& 31)) v9 w10) h ok_m_M_canHold lk_M_279 sh_107 rfl rfl rfl (Nat.le_of_ble_eq_true rfl) (Nat.le_of_ble_eq_true rfl) (Nat.le_of_ble_eq_true rfl) (by decide +kernel) rfl (fun v11 w12 h => ?_)
      refine Gz.if_eq (off := 28) (tgt := 93) (pc' := 68) (by decide +kernel) (by decide) rfl (fun c13 => ?_) (fun c13 => ?_)
      · have h := zok_t c13 h
        exact g_M_clash_b93 k20 hk20 k32 hk32 x1 x2 w12 h
      · have h := zok_f c13 h
        refine Gz.aload_n (q := 0) (pc' := 69) (by decide +kernel) rfl 0 rfl ?_
        refine Gz.iconst (n := 1) (v := (1 : Int32)) (pc' := 70) (by decide +kernel) rfl rfl ?_
        refine Gz.iload_n (q := 1) (pc' := 71) (by decide +kernel) rfl 1 rfl ?_
        refine Gz.ishl (pc' := 72) (by decide +kernel) rfl ?_
        refine Gz.iconst (n := 1) (v := (1 : Int32)) (pc' := 73) (by decide +kernel) rfl rfl ?_
        refine Gz.iload_n (q := 2) (pc' := 74) (by decide +kernel) rfl 2 rfl ?_
        refine Gz.ishl (pc' := 75) (by decide +kernel) rfl ?_
        refine Gz.ior (pc' := 76) (by decide +kernel) rfl ?_
        refine Gz.aload_n (q := 0) (pc' := 77) (by decide +kernel) rfl 0 rfl ?_
        refine Gz.callVI (st := [.int (((1 : Int32) <<< (x1 &&& 31)) ||| ((1 : Int32) <<< (x2 &&& 31))), .ref 107]) (b := 107) (pc' := 80) [] (g_M_all w12) h ok_m_M_all lk_M_261 sh_107 rfl rfl rfl (Nat.le_of_ble_eq_true rfl) (Nat.le_of_ble_eq_true rfl) (Nat.le_of_ble_eq_true rfl) (by decide +kernel) rfl (fun v14 w15 h => ?_)
        refine Gz.callVI (st := []) (b := 107) (pc' := 83) [.int (((1 : Int32) <<< (x1 &&& 31)) ||| ((1 : Int32) <<< (x2 &&& 31))), .int v14] (g_M_canHold (((1 : Int32) <<< (x1 &&& 31)) ||| ((1 : Int32) <<< (x2 &&& 31))) v14 w15) h ok_m_M_canHold lk_M_279 sh_107 rfl rfl rfl (Nat.le_of_ble_eq_true rfl) (Nat.le_of_ble_eq_true rfl) (Nat.le_of_ble_eq_true rfl) (by decide +kernel) rfl (fun v16 w17 h => ?_)
        refine Gz.if_ne (off := 10) (tgt := 93) (pc' := 86) (by decide +kernel) (by decide) rfl (fun c18 => ?_) (fun c18 => ?_)
        · have h := zok_f c18 h
          exact g_M_clash_b93 k20 hk20 k32 hk32 x1 x2 w17 h
        · have h := zok_t c18 h
          refine Gz.bipush (n := 10) (v := (10 : Int32)) (pc' := 88) (by decide +kernel) rfl rfl ?_
          refine Gz.iload_n (q := 1) (pc' := 89) (by decide +kernel) rfl 1 rfl ?_
          refine Gz.imul (pc' := 90) (by decide +kernel) rfl ?_
          refine Gz.iload_n (q := 2) (pc' := 91) (by decide +kernel) rfl 2 rfl ?_
          refine Gz.iadd (pc' := 92) (by decide +kernel) rfl ?_
          exact Gz.ireturn (by decide +kernel) rfl (zok_sI h)
theorem g_M_clash_b32 {l : Launch} {Q : Option Value → gW → Prop} (k20 : Int32 → gW → Option (Int32 × gW)) (hk20 : ∀ (x1 : Int32) (w : gW), zok eI (k20 x1 w) Q → Gz l m_M_clash 57 20 [(0, .ref 107), (1, .int x1)] [] w Q) (x1 : Int32) (x2 : Int32) (w : gW) (h : zok eI (f_M_clash_b32 k20 x1 x2 w) Q) : Gz l m_M_clash 57 32 [(0, .ref 107), (1, .int x1), (2, .int x2)] [] w Q := by
  have key : ∀ (n : Nat) (x1 : Int32) (x2 : Int32) (w : gW), zok eI (zfx (fun _ _ _ => none) (f_M_clash_b32_s k20) n x1 x2 w) Q → Gz l m_M_clash 57 32 [(0, .ref 107), (1, .int x1), (2, .int x2)] [] w Q := by
    intro n
    induction n with
    | zero => intro x1 x2 w h; exact zok_n h
    | succ n ih => intro x1 x2 w h; exact g_M_clash_b32_s k20 hk20 _ ih x1 x2 w h
  exact key zFU x1 x2 w h
theorem g_M_clash_b20_s {l : Launch} {Q : Option Value → gW → Prop} (k20 : Int32 → gW → Option (Int32 × gW)) (hk20 : ∀ (x1 : Int32) (w : gW), zok eI (k20 x1 w) Q → Gz l m_M_clash 57 20 [(0, .ref 107), (1, .int x1)] [] w Q) (x1 : Int32) (w : gW) (h : zok eI (f_M_clash_b20_s k20 x1 w) Q) : Gz l m_M_clash 57 20 [(0, .ref 107), (1, .int x1)] [] w Q := by
  unfold f_M_clash_b20_s at h
  refine Gz.iload_n (q := 1) (pc' := 21) (by decide +kernel) rfl 1 rfl ?_
  refine Gz.aload_n (q := 0) (pc' := 22) (by decide +kernel) rfl 0 rfl ?_
  refine Gz.getI (pc' := 25) (j := 35) fd_M_211 sh_107 rfl (by decide +kernel) rfl ?_
  refine Gz.icmp_ge (off := 80) (tgt := 105) (pc' := 28) (by decide +kernel) (by decide) rfl (fun c1 => ?_) (fun c1 => ?_)
  · have h := zok_t c1 h
    refine Gz.iconst (n := -1) (v := (-1 : Int32)) (pc' := 106) (by decide +kernel) rfl rfl ?_
    exact Gz.ireturn (by decide +kernel) rfl (zok_sI h)
  · have h := zok_f c1 h
    refine Gz.iload_n (q := 1) (pc' := 29) (by decide +kernel) rfl 1 rfl ?_
    refine Gz.iconst (n := 1) (v := (1 : Int32)) (pc' := 30) (by decide +kernel) rfl rfl ?_
    refine Gz.iadd (pc' := 31) (by decide +kernel) rfl ?_
    refine Gz.nmI (fun v2 e3 => ?_)
    have h := zok_l e3 h
    refine Gz.istore_n (q := 2) (pc' := 32) (L' := [(2, .int v2), (0, .ref 107), (1, .int x1)]) (by decide +kernel) rfl (Nat.le_of_ble_eq_true rfl) rfl ?_
    refine Gz.sub (L' := [(0, .ref 107), (1, .int x1), (2, .int v2)]) [1, 2, 0] rfl ?_
    exact g_M_clash_b32 k20 hk20 x1 v2 w h
theorem g_M_clash_b20 {l : Launch} {Q : Option Value → gW → Prop} (x1 : Int32) (w : gW) (h : zok eI (f_M_clash_b20 x1 w) Q) : Gz l m_M_clash 57 20 [(0, .ref 107), (1, .int x1)] [] w Q := by
  have key : ∀ (n : Nat) (x1 : Int32) (w : gW), zok eI (zfx (fun _ _ => none) (f_M_clash_b20_s) n x1 w) Q → Gz l m_M_clash 57 20 [(0, .ref 107), (1, .int x1)] [] w Q := by
    intro n
    induction n with
    | zero => intro x1 w h; exact zok_n h
    | succ n ih => intro x1 w h; exact g_M_clash_b20_s _ ih x1 w h
  exact key zFU x1 w h
theorem g_M_clash {l : Launch} (w : gW) : gCt l m_M_clash 57 [.ref 107] w eI (f_M_clash w) := by
  intro Q h
  unfold f_M_clash at h
  show Gz l m_M_clash 57 0 [(0, .ref 107)] [] w Q
  refine Gz.aload_n (q := 0) (pc' := 1) (by decide +kernel) rfl 0 rfl ?_
  refine Gz.iconst (n := 0) (v := (0 : Int32)) (pc' := 2) (by decide +kernel) rfl rfl ?_
  refine Gz.putI (pc' := 5) (j := 0) fd_M_96 sh_107 rfl (by decide +kernel) rfl ?_
  refine Gz.nmW (fun w1 e2 => ?_)
  have h := zok_l e2 h
  refine Gz.aload_n (q := 0) (pc' := 6) (by decide +kernel) rfl 0 rfl ?_
  refine Gz.getI (pc' := 9) (j := 21) fd_M_141 sh_107 rfl (by decide +kernel) rfl ?_
  refine Gz.if_ne (off := 5) (tgt := 14) (pc' := 12) (by decide +kernel) (by decide) rfl (fun c3 => ?_) (fun c3 => ?_)
  · have h := zok_f c3 h
    refine Gz.aload_n (q := 0) (pc' := 15) (by decide +kernel) rfl 0 rfl ?_
    refine Gz.callVV (st := []) (b := 107) (pc' := 18) [] (g_M_layPlain w1) h ok_m_M_layPlain lk_M_276 sh_107 rfl rfl rfl (Nat.le_of_ble_eq_true rfl) (Nat.le_of_ble_eq_true rfl) (Nat.le_of_ble_eq_true rfl) (by decide +kernel) rfl (fun _ w4 h => ?_)
    refine Gz.iconst (n := 0) (v := (0 : Int32)) (pc' := 19) (by decide +kernel) rfl rfl ?_
    refine Gz.istore_n (q := 1) (pc' := 20) (L' := [(1, .int (0 : Int32)), (0, .ref 107)]) (by decide +kernel) rfl (Nat.le_of_ble_eq_true rfl) rfl ?_
    refine Gz.sub (L' := [(0, .ref 107), (1, .int (0 : Int32))]) [1, 0] rfl ?_
    exact g_M_clash_b20 (0 : Int32) w4 h
  · have h := zok_t c3 h
    refine Gz.iconst (n := -1) (v := (-1 : Int32)) (pc' := 13) (by decide +kernel) rfl rfl ?_
    exact Gz.ireturn (by decide +kernel) rfl (zok_sI h)
def f_M_holding_b33 (k4 : Int32 → Int32 → Int32 → gW → Option (Int32 × gW)) (x1 : Int32) (x3 : Int32) (s0 : Int32) (s1 : Int32) (w : gW) : Option (Int32 × gW) :=
zl (s0 ||| s1) (fun v1 =>
zl (x3 + (1 : Int32)) (fun v3 =>
k4 x1 v1 v3 w))
def f_M_holding_b4_s (k4 : Int32 → Int32 → Int32 → gW → Option (Int32 × gW)) (x1 : Int32) (x2 : Int32) (x3 : Int32) (w : gW) : Option (Int32 × gW) :=
if (w.1 107 6) ≤ x3 then
(some (x2, w))
else
(zb (f_M_all w) (fun v2 w3 =>
zb (f_M_keeps x3 x1 v2 w3) (fun v4 w5 =>
if v4 = 0 then
(f_M_holding_b33 k4 x1 x3 x2 (0 : Int32) w5)
else
(f_M_holding_b33 k4 x1 x3 x2 ((1 : Int32) <<< (x3 &&& 31)) w5))))
def f_M_holding_b4 : Int32 → Int32 → Int32 → gW → Option (Int32 × gW) := zfx (fun _ _ _ _ => none) (f_M_holding_b4_s) zFU
def f_M_holding (a1 : Int32) (w : gW) : Option (Int32 × gW) :=
f_M_holding_b4 a1 (0 : Int32) (0 : Int32) w
theorem g_M_holding_b33 {l : Launch} {Q : Option Value → gW → Prop} (k4 : Int32 → Int32 → Int32 → gW → Option (Int32 × gW)) (hk4 : ∀ (x1 : Int32) (x2 : Int32) (x3 : Int32) (w : gW), zok eI (k4 x1 x2 x3 w) Q → Gz l m_M_holding 55 4 [(0, .ref 107), (1, .int x1), (2, .int x2), (3, .int x3)] [] w Q) (x1 : Int32) (x3 : Int32) (s0 : Int32) (s1 : Int32) (w : gW) (h : zok eI (f_M_holding_b33 k4 x1 x3 s0 s1 w) Q) : Gz l m_M_holding 55 33 [(0, .ref 107), (1, .int x1), (3, .int x3)] [.int s1, .int s0] w Q := by
  unfold f_M_holding_b33 at h
  refine Gz.ior (pc' := 34) (by decide +kernel) rfl ?_
  refine Gz.nmI (fun v1 e2 => ?_)
  have h := zok_l e2 h
  refine Gz.istore_n (q := 2) (pc' := 35) (L' := [(2, .int v1), (0, .ref 107), (1, .int x1), (3, .int x3)]) (by decide +kernel) rfl (Nat.le_of_ble_eq_true rfl) rfl ?_
  obtain ⟨v3, e4⟩ : ∃ y : Int32, y = x3 + (1 : Int32) := ⟨_, rfl⟩
  have h := zok_l e4 h
  refine Gz.iinc (i := 3) (n := 1) (pc' := 38) (L' := [(3, .int v3), (2, .int v1), (0, .ref 107), (1, .int x1)]) v3 (by decide +kernel) rfl 3 rfl (by rw [e4]; rfl) (Nat.le_of_ble_eq_true rfl) rfl ?_
  refine Gz.goto (off := -34) (tgt := 4) (by decide +kernel) (by decide) ?_
  refine Gz.sub (L' := [(0, .ref 107), (1, .int x1), (2, .int v1), (3, .int v3)]) [2, 3, 1, 0] rfl ?_
  exact hk4 x1 v1 v3 w h
theorem g_M_holding_b4_s {l : Launch} {Q : Option Value → gW → Prop} (k4 : Int32 → Int32 → Int32 → gW → Option (Int32 × gW)) (hk4 : ∀ (x1 : Int32) (x2 : Int32) (x3 : Int32) (w : gW), zok eI (k4 x1 x2 x3 w) Q → Gz l m_M_holding 55 4 [(0, .ref 107), (1, .int x1), (2, .int x2), (3, .int x3)] [] w Q) (x1 : Int32) (x2 : Int32) (x3 : Int32) (w : gW) (h : zok eI (f_M_holding_b4_s k4 x1 x2 x3 w) Q) : Gz l m_M_holding 55 4 [(0, .ref 107), (1, .int x1), (2, .int x2), (3, .int x3)] [] w Q := by
  unfold f_M_holding_b4_s at h
  refine Gz.iload_n (q := 3) (pc' := 5) (by decide +kernel) rfl 3 rfl ?_
  refine Gz.aload_n (q := 0) (pc' := 6) (by decide +kernel) rfl 0 rfl ?_
  refine Gz.getI (pc' := 9) (j := 6) fd_M_203 sh_107 rfl (by decide +kernel) rfl ?_
  refine Gz.icmp_ge (off := 32) (tgt := 41) (pc' := 12) (by decide +kernel) (by decide) rfl (fun c1 => ?_) (fun c1 => ?_)
  · have h := zok_t c1 h
    refine Gz.iload_n (q := 2) (pc' := 42) (by decide +kernel) rfl 2 rfl ?_
    exact Gz.ireturn (by decide +kernel) rfl (zok_sI h)
  · have h := zok_f c1 h
    refine Gz.iload_n (q := 2) (pc' := 13) (by decide +kernel) rfl 2 rfl ?_
    refine Gz.aload_n (q := 0) (pc' := 14) (by decide +kernel) rfl 0 rfl ?_
    refine Gz.iload_n (q := 3) (pc' := 15) (by decide +kernel) rfl 3 rfl ?_
    refine Gz.iload_n (q := 1) (pc' := 16) (by decide +kernel) rfl 1 rfl ?_
    refine Gz.aload_n (q := 0) (pc' := 17) (by decide +kernel) rfl 0 rfl ?_
    refine Gz.callVI (st := [.int x1, .int x3, .ref 107, .int x2]) (b := 107) (pc' := 20) [] (g_M_all w) h ok_m_M_all lk_M_261 sh_107 rfl rfl rfl (Nat.le_of_ble_eq_true rfl) (Nat.le_of_ble_eq_true rfl) (Nat.le_of_ble_eq_true rfl) (by decide +kernel) rfl (fun v2 w3 h => ?_)
    refine Gz.callVI (st := [.int x2]) (b := 107) (pc' := 23) [.int x3, .int x1, .int v2] (g_M_keeps x3 x1 v2 w3) h ok_m_M_keeps lk_M_254 sh_107 rfl rfl rfl (Nat.le_of_ble_eq_true rfl) (Nat.le_of_ble_eq_true rfl) (Nat.le_of_ble_eq_true rfl) (by decide +kernel) rfl (fun v4 w5 h => ?_)
    refine Gz.if_eq (off := 9) (tgt := 32) (pc' := 26) (by decide +kernel) (by decide) rfl (fun c6 => ?_) (fun c6 => ?_)
    · have h := zok_t c6 h
      refine Gz.iconst (n := 0) (v := (0 : Int32)) (pc' := 33) (by decide +kernel) rfl rfl ?_
      refine Gz.sub (L' := [(0, .ref 107), (1, .int x1), (3, .int x3)]) [0, 1, 3] rfl ?_
      exact g_M_holding_b33 k4 hk4 x1 x3 x2 (0 : Int32) w5 h
    · have h := zok_f c6 h
      refine Gz.iconst (n := 1) (v := (1 : Int32)) (pc' := 27) (by decide +kernel) rfl rfl ?_
      refine Gz.iload_n (q := 3) (pc' := 28) (by decide +kernel) rfl 3 rfl ?_
      refine Gz.ishl (pc' := 29) (by decide +kernel) rfl ?_
      refine Gz.goto (off := 4) (tgt := 33) (by decide +kernel) (by decide) ?_
      refine Gz.sub (L' := [(0, .ref 107), (1, .int x1), (3, .int x3)]) [0, 1, 3] rfl ?_
      exact g_M_holding_b33 k4 hk4 x1 x3 x2 ((1 : Int32) <<< (x3 &&& 31)) w5 h
theorem g_M_holding_b4 {l : Launch} {Q : Option Value → gW → Prop} (x1 : Int32) (x2 : Int32) (x3 : Int32) (w : gW) (h : zok eI (f_M_holding_b4 x1 x2 x3 w) Q) : Gz l m_M_holding 55 4 [(0, .ref 107), (1, .int x1), (2, .int x2), (3, .int x3)] [] w Q := by
  have key : ∀ (n : Nat) (x1 : Int32) (x2 : Int32) (x3 : Int32) (w : gW), zok eI (zfx (fun _ _ _ _ => none) (f_M_holding_b4_s) n x1 x2 x3 w) Q → Gz l m_M_holding 55 4 [(0, .ref 107), (1, .int x1), (2, .int x2), (3, .int x3)] [] w Q := by
    intro n
    induction n with
    | zero => intro x1 x2 x3 w h; exact zok_n h
    | succ n ih => intro x1 x2 x3 w h; exact g_M_holding_b4_s _ ih x1 x2 x3 w h
  exact key zFU x1 x2 x3 w h
theorem g_M_holding {l : Launch} (a1 : Int32) (w : gW) : gCt l m_M_holding 55 [.ref 107, .int a1] w eI (f_M_holding a1 w) := by
  intro Q h
  unfold f_M_holding at h
  show Gz l m_M_holding 55 0 [(0, .ref 107), (1, .int a1)] [] w Q
  refine Gz.iconst (n := 0) (v := (0 : Int32)) (pc' := 1) (by decide +kernel) rfl rfl ?_
  refine Gz.istore_n (q := 2) (pc' := 2) (L' := [(2, .int (0 : Int32)), (0, .ref 107), (1, .int a1)]) (by decide +kernel) rfl (Nat.le_of_ble_eq_true rfl) rfl ?_
  refine Gz.iconst (n := 0) (v := (0 : Int32)) (pc' := 3) (by decide +kernel) rfl rfl ?_
  refine Gz.istore_n (q := 3) (pc' := 4) (L' := [(3, .int (0 : Int32)), (2, .int (0 : Int32)), (0, .ref 107), (1, .int a1)]) (by decide +kernel) rfl (Nat.le_of_ble_eq_true rfl) rfl ?_
  refine Gz.sub (L' := [(0, .ref 107), (1, .int a1), (2, .int (0 : Int32)), (3, .int (0 : Int32))]) [2, 3, 1, 0] rfl ?_
  exact g_M_holding_b4 a1 (0 : Int32) (0 : Int32) w h
