def f_Tp_signsIn_b25 (k5 : Int32 → Int32 → Int32 → gW → Option (Int32 × gW)) (x0 : Int32) (x2 : Int32) (s0 : Int32) (s1 : Int32) (w : gW) : Option (Int32 × gW) :=
zl (s0 + s1) (fun v1 =>
zl (x2 + (-8 : Int32)) (fun v3 =>
k5 x0 v1 v3 w))
def f_Tp_signsIn_b5_s (k5 : Int32 → Int32 → Int32 → gW → Option (Int32 × gW)) (x0 : Int32) (x1 : Int32) (x2 : Int32) (w : gW) : Option (Int32 × gW) :=
if x2 < 0 then
(some (x1, w))
else
(if ((zusI x0 x2) &&& (255 : Int32)) = 0 then
(f_Tp_signsIn_b25 k5 x0 x2 x1 (0 : Int32) w)
else
(f_Tp_signsIn_b25 k5 x0 x2 x1 (1 : Int32) w))
def f_Tp_signsIn_b5 : Int32 → Int32 → Int32 → gW → Option (Int32 × gW) := zfx (fun _ _ _ _ => none) (f_Tp_signsIn_b5_s) zFU
def f_Tp_signsIn (a0 : Int32) (w : gW) : Option (Int32 × gW) :=
f_Tp_signsIn_b5 a0 (0 : Int32) (24 : Int32) w
theorem g_Tp_signsIn_b25 {l : Launch} {Q : Option Value → gW → Prop} (k5 : Int32 → Int32 → Int32 → gW → Option (Int32 × gW)) (hk5 : ∀ (x0 : Int32) (x1 : Int32) (x2 : Int32) (w : gW), zok eI (k5 x0 x1 x2 w) Q → Gz l m_Tp_signsIn 1 5 [(0, .int x0), (1, .int x1), (2, .int x2)] [] w Q) (x0 : Int32) (x2 : Int32) (s0 : Int32) (s1 : Int32) (w : gW) (h : zok eI (f_Tp_signsIn_b25 k5 x0 x2 s0 s1 w) Q) : Gz l m_Tp_signsIn 1 25 [(0, .int x0), (2, .int x2)] [.int s1, .int s0] w Q := by
  unfold f_Tp_signsIn_b25 at h
  refine Gz.iadd (pc' := 26) (by decide +kernel) rfl ?_
  refine Gz.nmI (fun v1 e2 => ?_)
  have h := zok_l e2 h
  refine Gz.istore_n (q := 1) (pc' := 27) (L' := [(1, .int v1), (0, .int x0), (2, .int x2)]) (by decide +kernel) rfl (Nat.le_of_ble_eq_true rfl) rfl ?_
  obtain ⟨v3, e4⟩ : ∃ y : Int32, y = x2 + (-8 : Int32) := ⟨_, rfl⟩
  have h := zok_l e4 h
  refine Gz.iinc (i := 2) (n := -8) (pc' := 30) (L' := [(2, .int v3), (1, .int v1), (0, .int x0)]) v3 (by decide +kernel) rfl 2 rfl (by rw [e4]; rfl) (Nat.le_of_ble_eq_true rfl) rfl ?_
  refine Gz.goto (off := -25) (tgt := 5) (by decide +kernel) (by decide) ?_
  refine Gz.sub (L' := [(0, .int x0), (1, .int v1), (2, .int v3)]) [2, 1, 0] rfl ?_
  exact hk5 x0 v1 v3 w h
theorem g_Tp_signsIn_b5_s {l : Launch} {Q : Option Value → gW → Prop} (k5 : Int32 → Int32 → Int32 → gW → Option (Int32 × gW)) (hk5 : ∀ (x0 : Int32) (x1 : Int32) (x2 : Int32) (w : gW), zok eI (k5 x0 x1 x2 w) Q → Gz l m_Tp_signsIn 1 5 [(0, .int x0), (1, .int x1), (2, .int x2)] [] w Q) (x0 : Int32) (x1 : Int32) (x2 : Int32) (w : gW) (h : zok eI (f_Tp_signsIn_b5_s k5 x0 x1 x2 w) Q) : Gz l m_Tp_signsIn 1 5 [(0, .int x0), (1, .int x1), (2, .int x2)] [] w Q := by
  unfold f_Tp_signsIn_b5_s at h
  refine Gz.iload_n (q := 2) (pc' := 6) (by decide +kernel) rfl 2 rfl ?_
  refine Gz.if_lt (off := 27) (tgt := 33) (pc' := 9) (by decide +kernel) (by decide) rfl (fun c1 => ?_) (fun c1 => ?_)
  · have h := zok_t c1 h
    refine Gz.iload_n (q := 1) (pc' := 34) (by decide +kernel) rfl 1 rfl ?_
    exact Gz.ireturn (by decide +kernel) rfl (zok_sI h)
  · have h := zok_f c1 h
    refine Gz.iload_n (q := 1) (pc' := 10) (by decide +kernel) rfl 1 rfl ?_
    refine Gz.iload_n (q := 0) (pc' := 11) (by decide +kernel) rfl 0 rfl ?_
    refine Gz.iload_n (q := 2) (pc' := 12) (by decide +kernel) rfl 2 rfl ?_
    refine Gz.iushr (pc' := 13) (by decide +kernel) rfl ?_
    refine Gz.sipush (n := 255) (v := (255 : Int32)) (pc' := 16) (by decide +kernel) rfl rfl ?_
    refine Gz.iand (pc' := 17) (by decide +kernel) rfl ?_
    refine Gz.if_ne (off := 7) (tgt := 24) (pc' := 20) (by decide +kernel) (by decide) rfl (fun c2 => ?_) (fun c2 => ?_)
    · have h := zok_f c2 h
      refine Gz.iconst (n := 1) (v := (1 : Int32)) (pc' := 25) (by decide +kernel) rfl rfl ?_
      refine Gz.sub (L' := [(0, .int x0), (2, .int x2)]) [0, 2] rfl ?_
      exact g_Tp_signsIn_b25 k5 hk5 x0 x2 x1 (1 : Int32) w h
    · have h := zok_t c2 h
      refine Gz.iconst (n := 0) (v := (0 : Int32)) (pc' := 21) (by decide +kernel) rfl rfl ?_
      refine Gz.goto (off := 4) (tgt := 25) (by decide +kernel) (by decide) ?_
      refine Gz.sub (L' := [(0, .int x0), (2, .int x2)]) [0, 2] rfl ?_
      exact g_Tp_signsIn_b25 k5 hk5 x0 x2 x1 (0 : Int32) w h
theorem g_Tp_signsIn_b5 {l : Launch} {Q : Option Value → gW → Prop} (x0 : Int32) (x1 : Int32) (x2 : Int32) (w : gW) (h : zok eI (f_Tp_signsIn_b5 x0 x1 x2 w) Q) : Gz l m_Tp_signsIn 1 5 [(0, .int x0), (1, .int x1), (2, .int x2)] [] w Q := by
  have key : ∀ (n : Nat) (x0 : Int32) (x1 : Int32) (x2 : Int32) (w : gW), zok eI (zfx (fun _ _ _ _ => none) (f_Tp_signsIn_b5_s) n x0 x1 x2 w) Q → Gz l m_Tp_signsIn 1 5 [(0, .int x0), (1, .int x1), (2, .int x2)] [] w Q := by
    intro n
    induction n with
    | zero => intro x0 x1 x2 w h; exact zok_n h
    | succ n ih => intro x0 x1 x2 w h; exact g_Tp_signsIn_b5_s _ ih x0 x1 x2 w h
  exact key zFU x0 x1 x2 w h
theorem g_Tp_signsIn {l : Launch} (a0 : Int32) (w : gW) : gCt l m_Tp_signsIn 1 [.int a0] w eI (f_Tp_signsIn a0 w) := by
  intro Q h
  unfold f_Tp_signsIn at h
  show Gz l m_Tp_signsIn 1 0 [(0, .int a0)] [] w Q
  refine Gz.iconst (n := 0) (v := (0 : Int32)) (pc' := 1) (by decide +kernel) rfl rfl ?_
  refine Gz.istore_n (q := 1) (pc' := 2) (L' := [(1, .int (0 : Int32)), (0, .int a0)]) (by decide +kernel) rfl (Nat.le_of_ble_eq_true rfl) rfl ?_
  refine Gz.bipush (n := 24) (v := (24 : Int32)) (pc' := 4) (by decide +kernel) rfl rfl ?_
  refine Gz.istore_n (q := 2) (pc' := 5) (L' := [(2, .int (24 : Int32)), (1, .int (0 : Int32)), (0, .int a0)]) (by decide +kernel) rfl (Nat.le_of_ble_eq_true rfl) rfl ?_
  refine Gz.sub (L' := [(0, .int a0), (1, .int (0 : Int32)), (2, .int (24 : Int32))]) [2, 1, 0] rfl ?_
  exact g_Tp_signsIn_b5 a0 (0 : Int32) (24 : Int32) w h
def f_Tp_put_b55 (k3 : Int32 → Int32 → gW → Option (Unit × gW)) (x1 : Int32) (x2 : Int32) (w : gW) : Option (Unit × gW) :=
zl (x2 + (-8 : Int32)) (fun v1 =>
k3 x1 v1 w)
def f_Tp_put_b3_s (k3 : Int32 → Int32 → gW → Option (Unit × gW)) (x1 : Int32) (x2 : Int32) (w : gW) : Option (Unit × gW) :=
if x2 < 0 then
(some ((), w))
else
(zl ((zusI x1 x2) &&& (255 : Int32)) (fun v2 =>
if v2 = 0 then
(f_Tp_put_b55 k3 x1 x2 w)
else
(if (w.1 1 1) < 0 then
(f_Tp_put_b55 k3 x1 x2 w)
else
(if (120 : Int32) ≤ (w.1 1 1) then
(f_Tp_put_b55 k3 x1 x2 w)
else
(if inb (w.1 1 1) 120 then
zl (zsI w 2 (ix (w.1 1 1)) v2) (fun w8 =>
zl (zsI w8 1 1 ((w8.1 1 1) + (1 : Int32))) (fun w10 =>
f_Tp_put_b55 k3 x1 x2 w10))
else none)))))
def f_Tp_put_b3 : Int32 → Int32 → gW → Option (Unit × gW) := zfx (fun _ _ _ => none) (f_Tp_put_b3_s) zFU
def f_Tp_put (a1 : Int32) (w : gW) : Option (Unit × gW) :=
f_Tp_put_b3 a1 (24 : Int32) w
theorem g_Tp_put_b55 {l : Launch} {Q : Option Value → gW → Prop} (k3 : Int32 → Int32 → gW → Option (Unit × gW)) (hk3 : ∀ (x1 : Int32) (x2 : Int32) (w : gW), zok eV (k3 x1 x2 w) Q → Gz l m_Tp_put 1 3 [(0, .ref 1), (1, .int x1), (2, .int x2)] [] w Q) (x1 : Int32) (x2 : Int32) (w : gW) (h : zok eV (f_Tp_put_b55 k3 x1 x2 w) Q) : Gz l m_Tp_put 1 55 [(0, .ref 1), (1, .int x1), (2, .int x2)] [] w Q := by
  unfold f_Tp_put_b55 at h
  obtain ⟨v1, e2⟩ : ∃ y : Int32, y = x2 + (-8 : Int32) := ⟨_, rfl⟩
  have h := zok_l e2 h
  refine Gz.iinc (i := 2) (n := -8) (pc' := 58) (L' := [(2, .int v1), (0, .ref 1), (1, .int x1)]) v1 (by decide +kernel) rfl 2 rfl (by rw [e2]; rfl) (Nat.le_of_ble_eq_true rfl) rfl ?_
  refine Gz.goto (off := -55) (tgt := 3) (by decide +kernel) (by decide) ?_
  refine Gz.sub (L' := [(0, .ref 1), (1, .int x1), (2, .int v1)]) [1, 2, 0] rfl ?_
  exact hk3 x1 v1 w h
theorem g_Tp_put_b3_s {l : Launch} {Q : Option Value → gW → Prop} (k3 : Int32 → Int32 → gW → Option (Unit × gW)) (hk3 : ∀ (x1 : Int32) (x2 : Int32) (w : gW), zok eV (k3 x1 x2 w) Q → Gz l m_Tp_put 1 3 [(0, .ref 1), (1, .int x1), (2, .int x2)] [] w Q) (x1 : Int32) (x2 : Int32) (w : gW) (h : zok eV (f_Tp_put_b3_s k3 x1 x2 w) Q) : Gz l m_Tp_put 1 3 [(0, .ref 1), (1, .int x1), (2, .int x2)] [] w Q := by
  unfold f_Tp_put_b3_s at h
  refine Gz.iload_n (q := 2) (pc' := 4) (by decide +kernel) rfl 2 rfl ?_
  refine Gz.if_lt (off := 57) (tgt := 61) (pc' := 7) (by decide +kernel) (by decide) rfl (fun c1 => ?_) (fun c1 => ?_)
  · have h := zok_t c1 h
    exact Gz.return_ (by decide +kernel) rfl (zok_sV h)
  · have h := zok_f c1 h
    refine Gz.iload_n (q := 1) (pc' := 8) (by decide +kernel) rfl 1 rfl ?_
    refine Gz.iload_n (q := 2) (pc' := 9) (by decide +kernel) rfl 2 rfl ?_
    refine Gz.iushr (pc' := 10) (by decide +kernel) rfl ?_
    refine Gz.sipush (n := 255) (v := (255 : Int32)) (pc' := 13) (by decide +kernel) rfl rfl ?_
    refine Gz.iand (pc' := 14) (by decide +kernel) rfl ?_
    refine Gz.nmI (fun v2 e3 => ?_)
    have h := zok_l e3 h
    refine Gz.istore_n (q := 3) (pc' := 15) (L' := [(3, .int v2), (0, .ref 1), (1, .int x1), (2, .int x2)]) (by decide +kernel) rfl (Nat.le_of_ble_eq_true rfl) rfl ?_
    refine Gz.iload_n (q := 3) (pc' := 16) (by decide +kernel) rfl 0 rfl ?_
    refine Gz.if_eq (off := 39) (tgt := 55) (pc' := 19) (by decide +kernel) (by decide) rfl (fun c4 => ?_) (fun c4 => ?_)
    · have h := zok_t c4 h
      refine Gz.sub (L' := [(0, .ref 1), (1, .int x1), (2, .int x2)]) [1, 2, 3] rfl ?_
      exact g_Tp_put_b55 k3 hk3 x1 x2 w h
    · have h := zok_f c4 h
      refine Gz.aload_n (q := 0) (pc' := 20) (by decide +kernel) rfl 1 rfl ?_
      refine Gz.getI (pc' := 23) (j := 1) fd_Tp_15 sh_1 rfl (by decide +kernel) rfl ?_
      refine Gz.if_lt (off := 32) (tgt := 55) (pc' := 26) (by decide +kernel) (by decide) rfl (fun c5 => ?_) (fun c5 => ?_)
      · have h := zok_t c5 h
        refine Gz.sub (L' := [(0, .ref 1), (1, .int x1), (2, .int x2)]) [1, 2, 3] rfl ?_
        exact g_Tp_put_b55 k3 hk3 x1 x2 w h
      · have h := zok_f c5 h
        refine Gz.aload_n (q := 0) (pc' := 27) (by decide +kernel) rfl 1 rfl ?_
        refine Gz.getI (pc' := 30) (j := 1) fd_Tp_15 sh_1 rfl (by decide +kernel) rfl ?_
        refine Gz.bipush (n := 120) (v := (120 : Int32)) (pc' := 32) (by decide +kernel) rfl rfl ?_
        refine Gz.icmp_ge (off := 23) (tgt := 55) (pc' := 35) (by decide +kernel) (by decide) rfl (fun c6 => ?_) (fun c6 => ?_)
        · have h := zok_t c6 h
          refine Gz.sub (L' := [(0, .ref 1), (1, .int x1), (2, .int x2)]) [1, 2, 3] rfl ?_
          exact g_Tp_put_b55 k3 hk3 x1 x2 w h
        · have h := zok_f c6 h
          refine Gz.aload_n (q := 0) (pc' := 36) (by decide +kernel) rfl 1 rfl ?_
          refine Gz.getR (pc' := 39) (j := 0) 2 fd_Tp_9 sh_1 rfl (by decide +kernel) rfl ?_
          refine Gz.aload_n (q := 0) (pc' := 40) (by decide +kernel) rfl 1 rfl ?_
          refine Gz.getI (pc' := 43) (j := 1) fd_Tp_15 sh_1 rfl (by decide +kernel) rfl ?_
          refine Gz.iload_n (q := 3) (pc' := 44) (by decide +kernel) rfl 0 rfl ?_
          obtain ⟨c7, h⟩ := zok_c h
          refine Gz.iast (pc' := 45) (n := 120) (by decide +kernel) rfl rfl c7 ?_
          refine Gz.nmW (fun w8 e9 => ?_)
          have h := zok_l e9 h
          refine Gz.aload_n (q := 0) (pc' := 46) (by decide +kernel) rfl 1 rfl ?_
          refine Gz.dup (pc' := 47) (by decide +kernel) rfl rfl ?_
          refine Gz.getI (pc' := 50) (j := 1) fd_Tp_15 sh_1 rfl (by decide +kernel) rfl ?_
          refine Gz.iconst (n := 1) (v := (1 : Int32)) (pc' := 51) (by decide +kernel) rfl rfl ?_
          refine Gz.iadd (pc' := 52) (by decide +kernel) rfl ?_
          refine Gz.putI (pc' := 55) (j := 1) fd_Tp_15 sh_1 rfl (by decide +kernel) rfl ?_
          refine Gz.nmW (fun w10 e11 => ?_)
          have h := zok_l e11 h
          refine Gz.sub (L' := [(0, .ref 1), (1, .int x1), (2, .int x2)]) [1, 2, 3] rfl ?_
          exact g_Tp_put_b55 k3 hk3 x1 x2 w10 h
theorem g_Tp_put_b3 {l : Launch} {Q : Option Value → gW → Prop} (x1 : Int32) (x2 : Int32) (w : gW) (h : zok eV (f_Tp_put_b3 x1 x2 w) Q) : Gz l m_Tp_put 1 3 [(0, .ref 1), (1, .int x1), (2, .int x2)] [] w Q := by
  have key : ∀ (n : Nat) (x1 : Int32) (x2 : Int32) (w : gW), zok eV (zfx (fun _ _ _ => none) (f_Tp_put_b3_s) n x1 x2 w) Q → Gz l m_Tp_put 1 3 [(0, .ref 1), (1, .int x1), (2, .int x2)] [] w Q := by
    intro n
    induction n with
    | zero => intro x1 x2 w h; exact zok_n h
    | succ n ih => intro x1 x2 w h; exact g_Tp_put_b3_s _ ih x1 x2 w h
  exact key zFU x1 x2 w h
theorem g_Tp_put {l : Launch} (a1 : Int32) (w : gW) : gCt l m_Tp_put 1 [.ref 1, .int a1] w eV (f_Tp_put a1 w) := by
  intro Q h
  unfold f_Tp_put at h
  show Gz l m_Tp_put 1 0 [(0, .ref 1), (1, .int a1)] [] w Q
  refine Gz.bipush (n := 24) (v := (24 : Int32)) (pc' := 2) (by decide +kernel) rfl rfl ?_
  refine Gz.istore_n (q := 2) (pc' := 3) (L' := [(2, .int (24 : Int32)), (0, .ref 1), (1, .int a1)]) (by decide +kernel) rfl (Nat.le_of_ble_eq_true rfl) rfl ?_
  refine Gz.sub (L' := [(0, .ref 1), (1, .int a1), (2, .int (24 : Int32))]) [1, 2, 0] rfl ?_
  exact g_Tp_put_b3 a1 (24 : Int32) w h
def f_Tp_take (a1 : Int32) (a2 : Int32) (a3 : Int32) (a4 : Int32) (a5 : Int32) (w : gW) : Option (Int32 × gW) :=
zb (f_Tp_signsIn a1 w) (fun v1 w2 =>
zb (f_Tp_signsIn a2 w2) (fun v3 w4 =>
zb (f_Tp_signsIn a3 w4) (fun v5 w6 =>
zb (f_Tp_signsIn a4 w6) (fun v7 w8 =>
zb (f_Tp_signsIn a5 w8) (fun v9 w10 =>
zl ((((v1 + v3) + v5) + v7) + v9) (fun v11 =>
if ((w10.1 1 1) + v11) ≤ (120 : Int32) then
(zb (f_Tp_put a1 w10) (fun _ w14 =>
zb (f_Tp_put a2 w14) (fun _ w15 =>
zb (f_Tp_put a3 w15) (fun _ w16 =>
zb (f_Tp_put a4 w16) (fun _ w17 =>
zb (f_Tp_put a5 w17) (fun _ w18 =>
some (w18.1 1 1, w18)))))))
else
(some ((-1 : Int32), w10))))))))
theorem g_Tp_take {l : Launch} (a1 : Int32) (a2 : Int32) (a3 : Int32) (a4 : Int32) (a5 : Int32) (w : gW) : gCt l m_Tp_take 2 [.ref 1, .int a1, .int a2, .int a3, .int a4, .int a5] w eI (f_Tp_take a1 a2 a3 a4 a5 w) := by
  intro Q h
  unfold f_Tp_take at h
  show Gz l m_Tp_take 2 0 [(0, .ref 1), (1, .int a1), (2, .int a2), (3, .int a3), (4, .int a4), (5, .int a5)] [] w Q
  refine Gz.iload_n (q := 1) (pc' := 1) (by decide +kernel) rfl 1 rfl ?_
  refine Gz.callSI (st := []) (pc' := 4) [.int a1] (g_Tp_signsIn a1 w) h ok_m_Tp_signsIn lk_Tp_19 rfl (Nat.le_of_ble_eq_true rfl) (Nat.le_of_ble_eq_true rfl) (Nat.le_of_ble_eq_true rfl) (by decide +kernel) rfl (fun v1 w2 h => ?_)
  refine Gz.iload_n (q := 2) (pc' := 5) (by decide +kernel) rfl 2 rfl ?_
  refine Gz.callSI (st := [.int v1]) (pc' := 8) [.int a2] (g_Tp_signsIn a2 w2) h ok_m_Tp_signsIn lk_Tp_19 rfl (Nat.le_of_ble_eq_true rfl) (Nat.le_of_ble_eq_true rfl) (Nat.le_of_ble_eq_true rfl) (by decide +kernel) rfl (fun v3 w4 h => ?_)
  refine Gz.iadd (pc' := 9) (by decide +kernel) rfl ?_
  refine Gz.iload_n (q := 3) (pc' := 10) (by decide +kernel) rfl 3 rfl ?_
  refine Gz.callSI (st := [.int (v1 + v3)]) (pc' := 13) [.int a3] (g_Tp_signsIn a3 w4) h ok_m_Tp_signsIn lk_Tp_19 rfl (Nat.le_of_ble_eq_true rfl) (Nat.le_of_ble_eq_true rfl) (Nat.le_of_ble_eq_true rfl) (by decide +kernel) rfl (fun v5 w6 h => ?_)
  refine Gz.iadd (pc' := 14) (by decide +kernel) rfl ?_
  refine Gz.iload (i := 4) (pc' := 16) (by decide +kernel) rfl 4 rfl ?_
  refine Gz.callSI (st := [.int ((v1 + v3) + v5)]) (pc' := 19) [.int a4] (g_Tp_signsIn a4 w6) h ok_m_Tp_signsIn lk_Tp_19 rfl (Nat.le_of_ble_eq_true rfl) (Nat.le_of_ble_eq_true rfl) (Nat.le_of_ble_eq_true rfl) (by decide +kernel) rfl (fun v7 w8 h => ?_)
  refine Gz.iadd (pc' := 20) (by decide +kernel) rfl ?_
  refine Gz.iload (i := 5) (pc' := 22) (by decide +kernel) rfl 5 rfl ?_
  refine Gz.callSI (st := [.int (((v1 + v3) + v5) + v7)]) (pc' := 25) [.int a5] (g_Tp_signsIn a5 w8) h ok_m_Tp_signsIn lk_Tp_19 rfl (Nat.le_of_ble_eq_true rfl) (Nat.le_of_ble_eq_true rfl) (Nat.le_of_ble_eq_true rfl) (by decide +kernel) rfl (fun v9 w10 h => ?_)
  refine Gz.iadd (pc' := 26) (by decide +kernel) rfl ?_
  refine Gz.nmI (fun v11 e12 => ?_)
  have h := zok_l e12 h
  refine Gz.istore (i := 6) (pc' := 28) (L' := [(6, .int v11), (0, .ref 1), (1, .int a1), (2, .int a2), (3, .int a3), (4, .int a4), (5, .int a5)]) (by decide +kernel) rfl (Nat.le_of_ble_eq_true rfl) rfl ?_
  refine Gz.aload_n (q := 0) (pc' := 29) (by decide +kernel) rfl 1 rfl ?_
  refine Gz.getI (pc' := 32) (j := 1) fd_Tp_15 sh_1 rfl (by decide +kernel) rfl ?_
  refine Gz.iload (i := 6) (pc' := 34) (by decide +kernel) rfl 0 rfl ?_
  refine Gz.iadd (pc' := 35) (by decide +kernel) rfl ?_
  refine Gz.bipush (n := 120) (v := (120 : Int32)) (pc' := 37) (by decide +kernel) rfl rfl ?_
  refine Gz.icmp_le (off := 5) (tgt := 42) (pc' := 40) (by decide +kernel) (by decide) rfl (fun c13 => ?_) (fun c13 => ?_)
  · have h := zok_t c13 h
    refine Gz.aload_n (q := 0) (pc' := 43) (by decide +kernel) rfl 1 rfl ?_
    refine Gz.iload_n (q := 1) (pc' := 44) (by decide +kernel) rfl 2 rfl ?_
    refine Gz.callVV (st := []) (b := 1) (pc' := 47) [.int a1] (g_Tp_put a1 w10) h ok_m_Tp_put lk_Tp_23 sh_1 rfl rfl rfl (Nat.le_of_ble_eq_true rfl) (Nat.le_of_ble_eq_true rfl) (Nat.le_of_ble_eq_true rfl) (by decide +kernel) rfl (fun _ w14 h => ?_)
    refine Gz.aload_n (q := 0) (pc' := 48) (by decide +kernel) rfl 1 rfl ?_
    refine Gz.iload_n (q := 2) (pc' := 49) (by decide +kernel) rfl 3 rfl ?_
    refine Gz.callVV (st := []) (b := 1) (pc' := 52) [.int a2] (g_Tp_put a2 w14) h ok_m_Tp_put lk_Tp_23 sh_1 rfl rfl rfl (Nat.le_of_ble_eq_true rfl) (Nat.le_of_ble_eq_true rfl) (Nat.le_of_ble_eq_true rfl) (by decide +kernel) rfl (fun _ w15 h => ?_)
    refine Gz.aload_n (q := 0) (pc' := 53) (by decide +kernel) rfl 1 rfl ?_
    refine Gz.iload_n (q := 3) (pc' := 54) (by decide +kernel) rfl 4 rfl ?_
    refine Gz.callVV (st := []) (b := 1) (pc' := 57) [.int a3] (g_Tp_put a3 w15) h ok_m_Tp_put lk_Tp_23 sh_1 rfl rfl rfl (Nat.le_of_ble_eq_true rfl) (Nat.le_of_ble_eq_true rfl) (Nat.le_of_ble_eq_true rfl) (by decide +kernel) rfl (fun _ w16 h => ?_)
    refine Gz.aload_n (q := 0) (pc' := 58) (by decide +kernel) rfl 1 rfl ?_
    refine Gz.iload (i := 4) (pc' := 60) (by decide +kernel) rfl 5 rfl ?_
    refine Gz.callVV (st := []) (b := 1) (pc' := 63) [.int a4] (g_Tp_put a4 w16) h ok_m_Tp_put lk_Tp_23 sh_1 rfl rfl rfl (Nat.le_of_ble_eq_true rfl) (Nat.le_of_ble_eq_true rfl) (Nat.le_of_ble_eq_true rfl) (by decide +kernel) rfl (fun _ w17 h => ?_)
    refine Gz.aload_n (q := 0) (pc' := 64) (by decide +kernel) rfl 1 rfl ?_
    refine Gz.iload (i := 5) (pc' := 66) (by decide +kernel) rfl 6 rfl ?_
    refine Gz.callVV (st := []) (b := 1) (pc' := 69) [.int a5] (g_Tp_put a5 w17) h ok_m_Tp_put lk_Tp_23 sh_1 rfl rfl rfl (Nat.le_of_ble_eq_true rfl) (Nat.le_of_ble_eq_true rfl) (Nat.le_of_ble_eq_true rfl) (by decide +kernel) rfl (fun _ w18 h => ?_)
    refine Gz.aload_n (q := 0) (pc' := 70) (by decide +kernel) rfl 1 rfl ?_
    refine Gz.getI (pc' := 73) (j := 1) fd_Tp_15 sh_1 rfl (by decide +kernel) rfl ?_
    exact Gz.ireturn (by decide +kernel) rfl (zok_sI h)
  · have h := zok_f c13 h
    refine Gz.iconst (n := -1) (v := (-1 : Int32)) (pc' := 41) (by decide +kernel) rfl rfl ?_
    exact Gz.ireturn (by decide +kernel) rfl (zok_sI h)
def f_X_feed (a1 : Int32) (a2 : Int32) (a3 : Int32) (a4 : Int32) (a5 : Int32) (w : gW) : Option (Int32 × gW) :=
zb (f_Tp_take a1 a2 a3 a4 a5 w) (fun v1 w2 =>
some (v1, w2))
theorem g_X_feed {l : Launch} (a1 : Int32) (a2 : Int32) (a3 : Int32) (a4 : Int32) (a5 : Int32) (w : gW) : gCt l m_X_feed 3 [.ref 0, .int a1, .int a2, .int a3, .int a4, .int a5] w eI (f_X_feed a1 a2 a3 a4 a5 w) := by
  intro Q h
  unfold f_X_feed at h
  show Gz l m_X_feed 3 0 [(0, .ref 0), (1, .int a1), (2, .int a2), (3, .int a3), (4, .int a4), (5, .int a5)] [] w Q
  refine Gz.aload_n (q := 0) (pc' := 1) (by decide +kernel) rfl 0 rfl ?_
  refine Gz.getR (pc' := 4) (j := 0) 1 fd_X_12 sh_0 rfl (by decide +kernel) rfl ?_
  refine Gz.iload_n (q := 1) (pc' := 5) (by decide +kernel) rfl 1 rfl ?_
  refine Gz.iload_n (q := 2) (pc' := 6) (by decide +kernel) rfl 2 rfl ?_
  refine Gz.iload_n (q := 3) (pc' := 7) (by decide +kernel) rfl 3 rfl ?_
  refine Gz.iload (i := 4) (pc' := 9) (by decide +kernel) rfl 4 rfl ?_
  refine Gz.iload (i := 5) (pc' := 11) (by decide +kernel) rfl 5 rfl ?_
  refine Gz.callVI (st := []) (b := 1) (pc' := 14) [.int a1, .int a2, .int a3, .int a4, .int a5] (g_Tp_take a1 a2 a3 a4 a5 w) h ok_m_Tp_take lk_X_96 sh_1 rfl rfl rfl (Nat.le_of_ble_eq_true rfl) (Nat.le_of_ble_eq_true rfl) (Nat.le_of_ble_eq_true rfl) (by decide +kernel) rfl (fun v1 w2 h => ?_)
  exact Gz.ireturn (by decide +kernel) rfl (zok_sI h)
def f_Tp_cut (a1 : Int32) (w : gW) : Option (Int32 × gW) :=
if a1 < 0 then
(some ((0 : Int32), w))
else
(if a1 ≤ (w.1 1 1) then
(zl (zsI w 1 1 a1) (fun w3 =>
some ((1 : Int32), w3)))
else
(some ((0 : Int32), w)))
theorem g_Tp_cut {l : Launch} (a1 : Int32) (w : gW) : gCt l m_Tp_cut 1 [.ref 1, .int a1] w eI (f_Tp_cut a1 w) := by
  intro Q h
  unfold f_Tp_cut at h
  show Gz l m_Tp_cut 1 0 [(0, .ref 1), (1, .int a1)] [] w Q
  refine Gz.iload_n (q := 1) (pc' := 1) (by decide +kernel) rfl 1 rfl ?_
  refine Gz.if_lt (off := 11) (tgt := 12) (pc' := 4) (by decide +kernel) (by decide) rfl (fun c1 => ?_) (fun c1 => ?_)
  · have h := zok_t c1 h
    refine Gz.iconst (n := 0) (v := (0 : Int32)) (pc' := 13) (by decide +kernel) rfl rfl ?_
    exact Gz.zreturn (by decide +kernel) rfl (by decide) (zok_sI h)
  · have h := zok_f c1 h
    refine Gz.iload_n (q := 1) (pc' := 5) (by decide +kernel) rfl 1 rfl ?_
    refine Gz.aload_n (q := 0) (pc' := 6) (by decide +kernel) rfl 0 rfl ?_
    refine Gz.getI (pc' := 9) (j := 1) fd_Tp_15 sh_1 rfl (by decide +kernel) rfl ?_
    refine Gz.icmp_le (off := 5) (tgt := 14) (pc' := 12) (by decide +kernel) (by decide) rfl (fun c2 => ?_) (fun c2 => ?_)
    · have h := zok_t c2 h
      refine Gz.aload_n (q := 0) (pc' := 15) (by decide +kernel) rfl 0 rfl ?_
      refine Gz.iload_n (q := 1) (pc' := 16) (by decide +kernel) rfl 1 rfl ?_
      refine Gz.putI (pc' := 19) (j := 1) fd_Tp_15 sh_1 rfl (by decide +kernel) rfl ?_
      refine Gz.nmW (fun w3 e4 => ?_)
      have h := zok_l e4 h
      refine Gz.iconst (n := 1) (v := (1 : Int32)) (pc' := 20) (by decide +kernel) rfl rfl ?_
      exact Gz.zreturn (by decide +kernel) rfl (by decide) (zok_sI h)
    · have h := zok_f c2 h
      refine Gz.iconst (n := 0) (v := (0 : Int32)) (pc' := 13) (by decide +kernel) rfl rfl ?_
      exact Gz.zreturn (by decide +kernel) rfl (by decide) (zok_sI h)
def f_X_end (a1 : Int32) (w : gW) : Option (Int32 × gW) :=
zb (f_Tp_cut a1 w) (fun v1 w2 =>
if v1 &&& 1 = v1 then some (v1, w2) else none)
theorem g_X_end {l : Launch} (a1 : Int32) (w : gW) : gCt l m_X_end 2 [.ref 0, .int a1] w eI (f_X_end a1 w) := by
  intro Q h
  unfold f_X_end at h
  show Gz l m_X_end 2 0 [(0, .ref 0), (1, .int a1)] [] w Q
  refine Gz.aload_n (q := 0) (pc' := 1) (by decide +kernel) rfl 0 rfl ?_
  refine Gz.getR (pc' := 4) (j := 0) 1 fd_X_12 sh_0 rfl (by decide +kernel) rfl ?_
  refine Gz.iload_n (q := 1) (pc' := 5) (by decide +kernel) rfl 1 rfl ?_
  refine Gz.callVI (st := []) (b := 1) (pc' := 8) [.int a1] (g_Tp_cut a1 w) h ok_m_Tp_cut lk_X_100 sh_1 rfl rfl rfl (Nat.le_of_ble_eq_true rfl) (Nat.le_of_ble_eq_true rfl) (Nat.le_of_ble_eq_true rfl) (by decide +kernel) rfl (fun v1 w2 h => ?_)
  obtain ⟨c3, h⟩ := zok_c h
  exact Gz.zreturn (by decide +kernel) rfl c3 (zok_sI h)
def f_Tp_rewind (w : gW) : Option (Unit × gW) :=
zl (zsI w 1 2 (0 : Int32)) (fun w1 =>
some ((), w1))
theorem g_Tp_rewind {l : Launch} (w : gW) : gCt l m_Tp_rewind 1 [.ref 1] w eV (f_Tp_rewind w) := by
  intro Q h
  unfold f_Tp_rewind at h
  show Gz l m_Tp_rewind 1 0 [(0, .ref 1)] [] w Q
  refine Gz.aload_n (q := 0) (pc' := 1) (by decide +kernel) rfl 0 rfl ?_
  refine Gz.iconst (n := 0) (v := (0 : Int32)) (pc' := 2) (by decide +kernel) rfl rfl ?_
  refine Gz.putI (pc' := 5) (j := 2) fd_Tp_27 sh_1 rfl (by decide +kernel) rfl ?_
  refine Gz.nmW (fun w1 e2 => ?_)
  have h := zok_l e2 h
  exact Gz.return_ (by decide +kernel) rfl (zok_sV h)
def f_Tp_sign_b54 (w : gW) : Option (Int32 × gW) :=
if (w.1 1 2) < 0 then
(some ((0 : Int32), w))
else
(if (w.1 1 1) ≤ (w.1 1 2) then
(some ((0 : Int32), w))
else
(if (120 : Int32) ≤ (w.1 1 2) then
(some ((0 : Int32), w))
else
(if inb (w.1 1 2) 120 then
some (w.1 2 (ix (w.1 1 2)), w)
else none)))
def f_Tp_sign_b0_s (k0 : gW → Option (Int32 × gW)) (w : gW) : Option (Int32 × gW) :=
if (w.1 1 2) < 0 then
(f_Tp_sign_b54 w)
else
(if (w.1 1 1) ≤ (w.1 1 2) then
(f_Tp_sign_b54 w)
else
(if (120 : Int32) ≤ (w.1 1 2) then
(f_Tp_sign_b54 w)
else
(if inb (w.1 1 2) 120 then
if (w.1 2 (ix (w.1 1 2))) = (32 : Int32) then
(zl (zsI w 1 2 ((w.1 1 2) + (1 : Int32))) (fun w6 =>
k0 w6))
else
(f_Tp_sign_b54 w)
else none)))
def f_Tp_sign_b0 : gW → Option (Int32 × gW) := zfx (fun _ => none) (f_Tp_sign_b0_s) zFU
def f_Tp_sign (w : gW) : Option (Int32 × gW) :=
f_Tp_sign_b0 w
theorem g_Tp_sign_b54 {l : Launch} {Q : Option Value → gW → Prop} (w : gW) (h : zok eI (f_Tp_sign_b54 w) Q) : Gz l m_Tp_sign 1 54 [(0, .ref 1)] [] w Q := by
  unfold f_Tp_sign_b54 at h
  refine Gz.aload_n (q := 0) (pc' := 55) (by decide +kernel) rfl 0 rfl ?_
  refine Gz.getI (pc' := 58) (j := 2) fd_Tp_27 sh_1 rfl (by decide +kernel) rfl ?_
  refine Gz.if_lt (off := 35) (tgt := 93) (pc' := 61) (by decide +kernel) (by decide) rfl (fun c1 => ?_) (fun c1 => ?_)
  · have h := zok_t c1 h
    refine Gz.iconst (n := 0) (v := (0 : Int32)) (pc' := 94) (by decide +kernel) rfl rfl ?_
    exact Gz.ireturn (by decide +kernel) rfl (zok_sI h)
  · have h := zok_f c1 h
    refine Gz.aload_n (q := 0) (pc' := 62) (by decide +kernel) rfl 0 rfl ?_
    refine Gz.getI (pc' := 65) (j := 2) fd_Tp_27 sh_1 rfl (by decide +kernel) rfl ?_
    refine Gz.aload_n (q := 0) (pc' := 66) (by decide +kernel) rfl 0 rfl ?_
    refine Gz.getI (pc' := 69) (j := 1) fd_Tp_15 sh_1 rfl (by decide +kernel) rfl ?_
    refine Gz.icmp_ge (off := 24) (tgt := 93) (pc' := 72) (by decide +kernel) (by decide) rfl (fun c2 => ?_) (fun c2 => ?_)
    · have h := zok_t c2 h
      refine Gz.iconst (n := 0) (v := (0 : Int32)) (pc' := 94) (by decide +kernel) rfl rfl ?_
      exact Gz.ireturn (by decide +kernel) rfl (zok_sI h)
    · have h := zok_f c2 h
      refine Gz.aload_n (q := 0) (pc' := 73) (by decide +kernel) rfl 0 rfl ?_
      refine Gz.getI (pc' := 76) (j := 2) fd_Tp_27 sh_1 rfl (by decide +kernel) rfl ?_
      refine Gz.bipush (n := 120) (v := (120 : Int32)) (pc' := 78) (by decide +kernel) rfl rfl ?_
      refine Gz.icmp_ge (off := 15) (tgt := 93) (pc' := 81) (by decide +kernel) (by decide) rfl (fun c3 => ?_) (fun c3 => ?_)
      · have h := zok_t c3 h
        refine Gz.iconst (n := 0) (v := (0 : Int32)) (pc' := 94) (by decide +kernel) rfl rfl ?_
        exact Gz.ireturn (by decide +kernel) rfl (zok_sI h)
      · have h := zok_f c3 h
        refine Gz.aload_n (q := 0) (pc' := 82) (by decide +kernel) rfl 0 rfl ?_
        refine Gz.getR (pc' := 85) (j := 0) 2 fd_Tp_9 sh_1 rfl (by decide +kernel) rfl ?_
        refine Gz.aload_n (q := 0) (pc' := 86) (by decide +kernel) rfl 0 rfl ?_
        refine Gz.getI (pc' := 89) (j := 2) fd_Tp_27 sh_1 rfl (by decide +kernel) rfl ?_
        obtain ⟨c4, h⟩ := zok_c h
        refine Gz.iald (pc' := 90) (n := 120) (by decide +kernel) rfl rfl c4 ?_
        refine Gz.goto (off := 4) (tgt := 94) (by decide +kernel) (by decide) ?_
        exact Gz.ireturn (by decide +kernel) rfl (zok_sI h)
theorem g_Tp_sign_b0_s {l : Launch} {Q : Option Value → gW → Prop} (k0 : gW → Option (Int32 × gW)) (hk0 : ∀  (w : gW), zok eI (k0  w) Q → Gz l m_Tp_sign 1 0 [(0, .ref 1)] [] w Q) (w : gW) (h : zok eI (f_Tp_sign_b0_s k0 w) Q) : Gz l m_Tp_sign 1 0 [(0, .ref 1)] [] w Q := by
  unfold f_Tp_sign_b0_s at h
  refine Gz.aload_n (q := 0) (pc' := 1) (by decide +kernel) rfl 0 rfl ?_
  refine Gz.getI (pc' := 4) (j := 2) fd_Tp_27 sh_1 rfl (by decide +kernel) rfl ?_
  refine Gz.if_lt (off := 50) (tgt := 54) (pc' := 7) (by decide +kernel) (by decide) rfl (fun c1 => ?_) (fun c1 => ?_)
  · have h := zok_t c1 h
    exact g_Tp_sign_b54 w h
  · have h := zok_f c1 h
    refine Gz.aload_n (q := 0) (pc' := 8) (by decide +kernel) rfl 0 rfl ?_
    refine Gz.getI (pc' := 11) (j := 2) fd_Tp_27 sh_1 rfl (by decide +kernel) rfl ?_
    refine Gz.aload_n (q := 0) (pc' := 12) (by decide +kernel) rfl 0 rfl ?_
    refine Gz.getI (pc' := 15) (j := 1) fd_Tp_15 sh_1 rfl (by decide +kernel) rfl ?_
    refine Gz.icmp_ge (off := 39) (tgt := 54) (pc' := 18) (by decide +kernel) (by decide) rfl (fun c2 => ?_) (fun c2 => ?_)
    · have h := zok_t c2 h
      exact g_Tp_sign_b54 w h
    · have h := zok_f c2 h
      refine Gz.aload_n (q := 0) (pc' := 19) (by decide +kernel) rfl 0 rfl ?_
      refine Gz.getI (pc' := 22) (j := 2) fd_Tp_27 sh_1 rfl (by decide +kernel) rfl ?_
      refine Gz.bipush (n := 120) (v := (120 : Int32)) (pc' := 24) (by decide +kernel) rfl rfl ?_
      refine Gz.icmp_ge (off := 30) (tgt := 54) (pc' := 27) (by decide +kernel) (by decide) rfl (fun c3 => ?_) (fun c3 => ?_)
      · have h := zok_t c3 h
        exact g_Tp_sign_b54 w h
      · have h := zok_f c3 h
        refine Gz.aload_n (q := 0) (pc' := 28) (by decide +kernel) rfl 0 rfl ?_
        refine Gz.getR (pc' := 31) (j := 0) 2 fd_Tp_9 sh_1 rfl (by decide +kernel) rfl ?_
        refine Gz.aload_n (q := 0) (pc' := 32) (by decide +kernel) rfl 0 rfl ?_
        refine Gz.getI (pc' := 35) (j := 2) fd_Tp_27 sh_1 rfl (by decide +kernel) rfl ?_
        obtain ⟨c4, h⟩ := zok_c h
        refine Gz.iald (pc' := 36) (n := 120) (by decide +kernel) rfl rfl c4 ?_
        refine Gz.bipush (n := 32) (v := (32 : Int32)) (pc' := 38) (by decide +kernel) rfl rfl ?_
        refine Gz.icmp_ne (off := 16) (tgt := 54) (pc' := 41) (by decide +kernel) (by decide) rfl (fun c5 => ?_) (fun c5 => ?_)
        · have h := zok_f c5 h
          exact g_Tp_sign_b54 w h
        · have h := zok_t c5 h
          refine Gz.aload_n (q := 0) (pc' := 42) (by decide +kernel) rfl 0 rfl ?_
          refine Gz.dup (pc' := 43) (by decide +kernel) rfl rfl ?_
          refine Gz.getI (pc' := 46) (j := 2) fd_Tp_27 sh_1 rfl (by decide +kernel) rfl ?_
          refine Gz.iconst (n := 1) (v := (1 : Int32)) (pc' := 47) (by decide +kernel) rfl rfl ?_
          refine Gz.iadd (pc' := 48) (by decide +kernel) rfl ?_
          refine Gz.putI (pc' := 51) (j := 2) fd_Tp_27 sh_1 rfl (by decide +kernel) rfl ?_
          refine Gz.nmW (fun w6 e7 => ?_)
          have h := zok_l e7 h
          refine Gz.goto (off := -51) (tgt := 0) (by decide +kernel) (by decide) ?_
          exact hk0 w6 h
theorem g_Tp_sign_b0 {l : Launch} {Q : Option Value → gW → Prop} (w : gW) (h : zok eI (f_Tp_sign_b0 w) Q) : Gz l m_Tp_sign 1 0 [(0, .ref 1)] [] w Q := by
  have key : ∀ (n : Nat)  (w : gW), zok eI (zfx (fun _ => none) (f_Tp_sign_b0_s) n w) Q → Gz l m_Tp_sign 1 0 [(0, .ref 1)] [] w Q := by
    intro n
    induction n with
    | zero => intro w h; exact zok_n h
    | succ n ih => intro w h; exact g_Tp_sign_b0_s _ ih w h
  exact key zFU w h
theorem g_Tp_sign {l : Launch} (w : gW) : gCt l m_Tp_sign 1 [.ref 1] w eI (f_Tp_sign w) := by
  intro Q h
  unfold f_Tp_sign at h
  show Gz l m_Tp_sign 1 0 [(0, .ref 1)] [] w Q
  exact g_Tp_sign_b0 w h
def f_Tp_step (w : gW) : Option (Unit × gW) :=
if (w.1 1 1) ≤ (w.1 1 2) then
(some ((), w))
else
(zl (zsI w 1 2 ((w.1 1 2) + (1 : Int32))) (fun w2 =>
some ((), w2)))
theorem g_Tp_step {l : Launch} (w : gW) : gCt l m_Tp_step 1 [.ref 1] w eV (f_Tp_step w) := by
  intro Q h
  unfold f_Tp_step at h
  show Gz l m_Tp_step 1 0 [(0, .ref 1)] [] w Q
  refine Gz.aload_n (q := 0) (pc' := 1) (by decide +kernel) rfl 0 rfl ?_
  refine Gz.getI (pc' := 4) (j := 2) fd_Tp_27 sh_1 rfl (by decide +kernel) rfl ?_
  refine Gz.aload_n (q := 0) (pc' := 5) (by decide +kernel) rfl 0 rfl ?_
  refine Gz.getI (pc' := 8) (j := 1) fd_Tp_15 sh_1 rfl (by decide +kernel) rfl ?_
  refine Gz.icmp_ge (off := 13) (tgt := 21) (pc' := 11) (by decide +kernel) (by decide) rfl (fun c1 => ?_) (fun c1 => ?_)
  · have h := zok_t c1 h
    exact Gz.return_ (by decide +kernel) rfl (zok_sV h)
  · have h := zok_f c1 h
    refine Gz.aload_n (q := 0) (pc' := 12) (by decide +kernel) rfl 0 rfl ?_
    refine Gz.dup (pc' := 13) (by decide +kernel) rfl rfl ?_
    refine Gz.getI (pc' := 16) (j := 2) fd_Tp_27 sh_1 rfl (by decide +kernel) rfl ?_
    refine Gz.iconst (n := 1) (v := (1 : Int32)) (pc' := 17) (by decide +kernel) rfl rfl ?_
    refine Gz.iadd (pc' := 18) (by decide +kernel) rfl ?_
    refine Gz.putI (pc' := 21) (j := 2) fd_Tp_27 sh_1 rfl (by decide +kernel) rfl ?_
    refine Gz.nmW (fun w2 e3 => ?_)
    have h := zok_l e3 h
    exact Gz.return_ (by decide +kernel) rfl (zok_sV h)
def f_Tp_passes (a1 : Int32) (w : gW) : Option (Int32 × gW) :=
zb (f_Tp_sign w) (fun v1 w2 =>
if v1 = a1 then
(zb (f_Tp_step w2) (fun _ w4 =>
some ((1 : Int32), w4)))
else
(some ((0 : Int32), w2)))
theorem g_Tp_passes {l : Launch} (a1 : Int32) (w : gW) : gCt l m_Tp_passes 2 [.ref 1, .int a1] w eI (f_Tp_passes a1 w) := by
  intro Q h
  unfold f_Tp_passes at h
  show Gz l m_Tp_passes 2 0 [(0, .ref 1), (1, .int a1)] [] w Q
  refine Gz.aload_n (q := 0) (pc' := 1) (by decide +kernel) rfl 0 rfl ?_
  refine Gz.callVI (st := []) (b := 1) (pc' := 4) [] (g_Tp_sign w) h ok_m_Tp_sign lk_Tp_30 sh_1 rfl rfl rfl (Nat.le_of_ble_eq_true rfl) (Nat.le_of_ble_eq_true rfl) (Nat.le_of_ble_eq_true rfl) (by decide +kernel) rfl (fun v1 w2 h => ?_)
  refine Gz.iload_n (q := 1) (pc' := 5) (by decide +kernel) rfl 1 rfl ?_
  refine Gz.icmp_eq (off := 5) (tgt := 10) (pc' := 8) (by decide +kernel) (by decide) rfl (fun c3 => ?_) (fun c3 => ?_)
  · have h := zok_t c3 h
    refine Gz.aload_n (q := 0) (pc' := 11) (by decide +kernel) rfl 0 rfl ?_
    refine Gz.callVV (st := []) (b := 1) (pc' := 14) [] (g_Tp_step w2) h ok_m_Tp_step lk_Tp_34 sh_1 rfl rfl rfl (Nat.le_of_ble_eq_true rfl) (Nat.le_of_ble_eq_true rfl) (Nat.le_of_ble_eq_true rfl) (by decide +kernel) rfl (fun _ w4 h => ?_)
    refine Gz.iconst (n := 1) (v := (1 : Int32)) (pc' := 15) (by decide +kernel) rfl rfl ?_
    exact Gz.zreturn (by decide +kernel) rfl (by decide) (zok_sI h)
  · have h := zok_f c3 h
    refine Gz.iconst (n := 0) (v := (0 : Int32)) (pc' := 9) (by decide +kernel) rfl rfl ?_
    exact Gz.zreturn (by decide +kernel) rfl (by decide) (zok_sI h)
def f_Tp_spot (w : gW) : Option (Int32 × gW) :=
zb (f_Tp_sign w) (fun v1 w2 =>
if v1 = 0 then
(some (w2.1 1 1, w2))
else
(some (w2.1 1 2, w2)))
theorem g_Tp_spot {l : Launch} (w : gW) : gCt l m_Tp_spot 2 [.ref 1] w eI (f_Tp_spot w) := by
  intro Q h
  unfold f_Tp_spot at h
  show Gz l m_Tp_spot 2 0 [(0, .ref 1)] [] w Q
  refine Gz.aload_n (q := 0) (pc' := 1) (by decide +kernel) rfl 0 rfl ?_
  refine Gz.callVI (st := []) (b := 1) (pc' := 4) [] (g_Tp_sign w) h ok_m_Tp_sign lk_Tp_30 sh_1 rfl rfl rfl (Nat.le_of_ble_eq_true rfl) (Nat.le_of_ble_eq_true rfl) (Nat.le_of_ble_eq_true rfl) (by decide +kernel) rfl (fun v1 w2 h => ?_)
  refine Gz.if_ne (off := 10) (tgt := 14) (pc' := 7) (by decide +kernel) (by decide) rfl (fun c3 => ?_) (fun c3 => ?_)
  · have h := zok_f c3 h
    refine Gz.aload_n (q := 0) (pc' := 15) (by decide +kernel) rfl 0 rfl ?_
    refine Gz.getI (pc' := 18) (j := 2) fd_Tp_27 sh_1 rfl (by decide +kernel) rfl ?_
    exact Gz.ireturn (by decide +kernel) rfl (zok_sI h)
  · have h := zok_t c3 h
    refine Gz.aload_n (q := 0) (pc' := 8) (by decide +kernel) rfl 0 rfl ?_
    refine Gz.getI (pc' := 11) (j := 1) fd_Tp_15 sh_1 rfl (by decide +kernel) rfl ?_
    refine Gz.goto (off := 7) (tgt := 18) (by decide +kernel) (by decide) ?_
    exact Gz.ireturn (by decide +kernel) rfl (zok_sI h)
def f_Tp_digit (a1 : Int32) (a2 : Int32) (w : gW) : Option (Int32 × gW) :=
zb (f_Tp_sign w) (fun v1 w2 =>
zl (v1 - (48 : Int32)) (fun v3 =>
if v3 < a1 then
(some ((-1 : Int32), w2))
else
(if v3 ≤ a2 then
(zb (f_Tp_step w2) (fun _ w7 =>
some (v3, w7)))
else
(some ((-1 : Int32), w2)))))
theorem g_Tp_digit {l : Launch} (a1 : Int32) (a2 : Int32) (w : gW) : gCt l m_Tp_digit 2 [.ref 1, .int a1, .int a2] w eI (f_Tp_digit a1 a2 w) := by
  intro Q h
  unfold f_Tp_digit at h
  show Gz l m_Tp_digit 2 0 [(0, .ref 1), (1, .int a1), (2, .int a2)] [] w Q
  refine Gz.aload_n (q := 0) (pc' := 1) (by decide +kernel) rfl 0 rfl ?_
  refine Gz.callVI (st := []) (b := 1) (pc' := 4) [] (g_Tp_sign w) h ok_m_Tp_sign lk_Tp_30 sh_1 rfl rfl rfl (Nat.le_of_ble_eq_true rfl) (Nat.le_of_ble_eq_true rfl) (Nat.le_of_ble_eq_true rfl) (by decide +kernel) rfl (fun v1 w2 h => ?_)
  refine Gz.bipush (n := 48) (v := (48 : Int32)) (pc' := 6) (by decide +kernel) rfl rfl ?_
  refine Gz.isub (pc' := 7) (by decide +kernel) rfl ?_
  refine Gz.nmI (fun v3 e4 => ?_)
  have h := zok_l e4 h
  refine Gz.istore_n (q := 3) (pc' := 8) (L' := [(3, .int v3), (0, .ref 1), (1, .int a1), (2, .int a2)]) (by decide +kernel) rfl (Nat.le_of_ble_eq_true rfl) rfl ?_
  refine Gz.iload_n (q := 3) (pc' := 9) (by decide +kernel) rfl 0 rfl ?_
  refine Gz.iload_n (q := 1) (pc' := 10) (by decide +kernel) rfl 2 rfl ?_
  refine Gz.icmp_lt (off := 8) (tgt := 18) (pc' := 13) (by decide +kernel) (by decide) rfl (fun c5 => ?_) (fun c5 => ?_)
  · have h := zok_t c5 h
    refine Gz.iconst (n := -1) (v := (-1 : Int32)) (pc' := 19) (by decide +kernel) rfl rfl ?_
    exact Gz.ireturn (by decide +kernel) rfl (zok_sI h)
  · have h := zok_f c5 h
    refine Gz.iload_n (q := 3) (pc' := 14) (by decide +kernel) rfl 0 rfl ?_
    refine Gz.iload_n (q := 2) (pc' := 15) (by decide +kernel) rfl 3 rfl ?_
    refine Gz.icmp_le (off := 5) (tgt := 20) (pc' := 18) (by decide +kernel) (by decide) rfl (fun c6 => ?_) (fun c6 => ?_)
    · have h := zok_t c6 h
      refine Gz.aload_n (q := 0) (pc' := 21) (by decide +kernel) rfl 1 rfl ?_
      refine Gz.callVV (st := []) (b := 1) (pc' := 24) [] (g_Tp_step w2) h ok_m_Tp_step lk_Tp_34 sh_1 rfl rfl rfl (Nat.le_of_ble_eq_true rfl) (Nat.le_of_ble_eq_true rfl) (Nat.le_of_ble_eq_true rfl) (by decide +kernel) rfl (fun _ w7 h => ?_)
      refine Gz.iload_n (q := 3) (pc' := 25) (by decide +kernel) rfl 0 rfl ?_
      exact Gz.ireturn (by decide +kernel) rfl (zok_sI h)
    · have h := zok_f c6 h
      refine Gz.iconst (n := -1) (v := (-1 : Int32)) (pc' := 19) (by decide +kernel) rfl rfl ?_
      exact Gz.ireturn (by decide +kernel) rfl (zok_sI h)
def f_Rd_set (a1 : Int32) (a2 : Int32) (a3 : Int32) (w : gW) : Option (Unit × gW) :=
zl ((a1 * (3 : Int32)) + a2) (fun v1 =>
if v1 < 0 then
(some ((), w))
else
(if (nI 15) ≤ v1 then
(some ((), w))
else
(if inb v1 15 then
zl (zsI w 4 (ix v1) a3) (fun w6 =>
some ((), w6))
else none)))
theorem g_Rd_set {l : Launch} (a1 : Int32) (a2 : Int32) (a3 : Int32) (w : gW) : gCt l m_Rd_set 1 [.ref 3, .int a1, .int a2, .int a3] w eV (f_Rd_set a1 a2 a3 w) := by
  intro Q h
  unfold f_Rd_set at h
  show Gz l m_Rd_set 1 0 [(0, .ref 3), (1, .int a1), (2, .int a2), (3, .int a3)] [] w Q
  refine Gz.iload_n (q := 1) (pc' := 1) (by decide +kernel) rfl 1 rfl ?_
  refine Gz.iconst (n := 3) (v := (3 : Int32)) (pc' := 2) (by decide +kernel) rfl rfl ?_
  refine Gz.imul (pc' := 3) (by decide +kernel) rfl ?_
  refine Gz.iload_n (q := 2) (pc' := 4) (by decide +kernel) rfl 2 rfl ?_
  refine Gz.iadd (pc' := 5) (by decide +kernel) rfl ?_
  refine Gz.nmI (fun v1 e2 => ?_)
  have h := zok_l e2 h
  refine Gz.istore (i := 4) (pc' := 7) (L' := [(4, .int v1), (0, .ref 3), (1, .int a1), (2, .int a2), (3, .int a3)]) (by decide +kernel) rfl (Nat.le_of_ble_eq_true rfl) rfl ?_
  refine Gz.iload (i := 4) (pc' := 9) (by decide +kernel) rfl 0 rfl ?_
  refine Gz.if_lt (off := 21) (tgt := 30) (pc' := 12) (by decide +kernel) (by decide) rfl (fun c3 => ?_) (fun c3 => ?_)
  · have h := zok_t c3 h
    exact Gz.return_ (by decide +kernel) rfl (zok_sV h)
  · have h := zok_f c3 h
    refine Gz.iload (i := 4) (pc' := 14) (by decide +kernel) rfl 0 rfl ?_
    refine Gz.aload_n (q := 0) (pc' := 15) (by decide +kernel) rfl 1 rfl ?_
    refine Gz.getR (pc' := 18) (j := 0) 4 fd_Rd_11 sh_3 rfl (by decide +kernel) rfl ?_
    refine Gz.alen (pc' := 19) (n := 15) (kd := 1) (by decide +kernel) rfl (Or.inl rfl) rfl rfl ?_
    refine Gz.icmp_ge (off := 11) (tgt := 30) (pc' := 22) (by decide +kernel) (by decide) rfl (fun c4 => ?_) (fun c4 => ?_)
    · have h := zok_t c4 h
      exact Gz.return_ (by decide +kernel) rfl (zok_sV h)
    · have h := zok_f c4 h
      refine Gz.aload_n (q := 0) (pc' := 23) (by decide +kernel) rfl 1 rfl ?_
      refine Gz.getR (pc' := 26) (j := 0) 4 fd_Rd_11 sh_3 rfl (by decide +kernel) rfl ?_
      refine Gz.iload (i := 4) (pc' := 28) (by decide +kernel) rfl 0 rfl ?_
      refine Gz.iload_n (q := 3) (pc' := 29) (by decide +kernel) rfl 4 rfl ?_
      obtain ⟨c5, h⟩ := zok_c h
      refine Gz.iast (pc' := 30) (n := 15) (by decide +kernel) rfl rfl c5 ?_
      refine Gz.nmW (fun w6 e7 => ?_)
      have h := zok_l e7 h
      exact Gz.return_ (by decide +kernel) rfl (zok_sV h)
def f_Rd_traitOf (a0 : Int32) (w : gW) : Option (Int32 × gW) :=
if a0 = nI 102 then
(some ((1 : Int32), w))
else
(if a0 = nI 108 then
(some ((2 : Int32), w))
else
(if a0 = nI 112 then
(some ((0 : Int32), w))
else
(some ((-1 : Int32), w))))
theorem g_Rd_traitOf {l : Launch} (a0 : Int32) (w : gW) : gCt l m_Rd_traitOf 1 [.int a0] w eI (f_Rd_traitOf a0 w) := by
  intro Q h
  unfold f_Rd_traitOf at h
  show Gz l m_Rd_traitOf 1 0 [(0, .int a0)] [] w Q
  refine Gz.iload_n (q := 0) (pc' := 1) (by decide +kernel) rfl 0 rfl ?_
  by_cases c1 : a0 = nI 102
  · have h := zok_t c1 h
    refine Gz.look (dflt := 41) (ps := #[(102, 37), (108, 39), (112, 35)]) (len := 35) (off := 37) (tgt := 38) (by decide +kernel) (by decide +kernel) (by rw [c1]; decide +kernel) (by decide) ?_
    refine Gz.iconst (n := 1) (v := (1 : Int32)) (pc' := 39) (by decide +kernel) rfl rfl ?_
    exact Gz.ireturn (by decide +kernel) rfl (zok_sI h)
  have h := zok_f c1 h
  by_cases c2 : a0 = nI 108
  · have h := zok_t c2 h
    refine Gz.look (dflt := 41) (ps := #[(102, 37), (108, 39), (112, 35)]) (len := 35) (off := 39) (tgt := 40) (by decide +kernel) (by decide +kernel) (by rw [c2]; decide +kernel) (by decide) ?_
    refine Gz.iconst (n := 2) (v := (2 : Int32)) (pc' := 41) (by decide +kernel) rfl rfl ?_
    exact Gz.ireturn (by decide +kernel) rfl (zok_sI h)
  have h := zok_f c2 h
  by_cases c3 : a0 = nI 112
  · have h := zok_t c3 h
    refine Gz.look (dflt := 41) (ps := #[(102, 37), (108, 39), (112, 35)]) (len := 35) (off := 35) (tgt := 36) (by decide +kernel) (by decide +kernel) (by rw [c3]; decide +kernel) (by decide) ?_
    refine Gz.iconst (n := 0) (v := (0 : Int32)) (pc' := 37) (by decide +kernel) rfl rfl ?_
    exact Gz.ireturn (by decide +kernel) rfl (zok_sI h)
  have h := zok_f c3 h
  refine Gz.look (dflt := 41) (ps := #[(102, 37), (108, 39), (112, 35)]) (len := 35) (off := 41) (tgt := 42) (by decide +kernel) (by decide +kernel) (z_look3 c1 c2 c3) (by decide) ?_
  refine Gz.iconst (n := -1) (v := (-1 : Int32)) (pc' := 43) (by decide +kernel) rfl rfl ?_
  exact Gz.ireturn (by decide +kernel) rfl (zok_sI h)
def f_Rd_trait (a1 : Int32) (a2 : Int32) (w : gW) : Option (Int32 × gW) :=
zl ((a1 * (3 : Int32)) + a2) (fun v1 =>
if v1 < 0 then
(some ((0 : Int32), w))
else
(if (nI 15) ≤ v1 then
(some ((0 : Int32), w))
else
(if inb v1 15 then
some (w.1 4 (ix v1), w)
else none)))
theorem g_Rd_trait {l : Launch} (a1 : Int32) (a2 : Int32) (w : gW) : gCt l m_Rd_trait 1 [.ref 3, .int a1, .int a2] w eI (f_Rd_trait a1 a2 w) := by
  intro Q h
  unfold f_Rd_trait at h
  show Gz l m_Rd_trait 1 0 [(0, .ref 3), (1, .int a1), (2, .int a2)] [] w Q
  refine Gz.iload_n (q := 1) (pc' := 1) (by decide +kernel) rfl 1 rfl ?_
  refine Gz.iconst (n := 3) (v := (3 : Int32)) (pc' := 2) (by decide +kernel) rfl rfl ?_
  refine Gz.imul (pc' := 3) (by decide +kernel) rfl ?_
  refine Gz.iload_n (q := 2) (pc' := 4) (by decide +kernel) rfl 2 rfl ?_
  refine Gz.iadd (pc' := 5) (by decide +kernel) rfl ?_
  refine Gz.nmI (fun v1 e2 => ?_)
  have h := zok_l e2 h
  refine Gz.istore_n (q := 3) (pc' := 6) (L' := [(3, .int v1), (0, .ref 3), (1, .int a1), (2, .int a2)]) (by decide +kernel) rfl (Nat.le_of_ble_eq_true rfl) rfl ?_
  refine Gz.iload_n (q := 3) (pc' := 7) (by decide +kernel) rfl 0 rfl ?_
  refine Gz.if_lt (off := 21) (tgt := 28) (pc' := 10) (by decide +kernel) (by decide) rfl (fun c3 => ?_) (fun c3 => ?_)
  · have h := zok_t c3 h
    refine Gz.iconst (n := 0) (v := (0 : Int32)) (pc' := 29) (by decide +kernel) rfl rfl ?_
    exact Gz.ireturn (by decide +kernel) rfl (zok_sI h)
  · have h := zok_f c3 h
    refine Gz.iload_n (q := 3) (pc' := 11) (by decide +kernel) rfl 0 rfl ?_
    refine Gz.aload_n (q := 0) (pc' := 12) (by decide +kernel) rfl 1 rfl ?_
    refine Gz.getR (pc' := 15) (j := 0) 4 fd_Rd_11 sh_3 rfl (by decide +kernel) rfl ?_
    refine Gz.alen (pc' := 16) (n := 15) (kd := 1) (by decide +kernel) rfl (Or.inl rfl) rfl rfl ?_
    refine Gz.icmp_ge (off := 12) (tgt := 28) (pc' := 19) (by decide +kernel) (by decide) rfl (fun c4 => ?_) (fun c4 => ?_)
    · have h := zok_t c4 h
      refine Gz.iconst (n := 0) (v := (0 : Int32)) (pc' := 29) (by decide +kernel) rfl rfl ?_
      exact Gz.ireturn (by decide +kernel) rfl (zok_sI h)
    · have h := zok_f c4 h
      refine Gz.aload_n (q := 0) (pc' := 20) (by decide +kernel) rfl 1 rfl ?_
      refine Gz.getR (pc' := 23) (j := 0) 4 fd_Rd_11 sh_3 rfl (by decide +kernel) rfl ?_
      refine Gz.iload_n (q := 3) (pc' := 24) (by decide +kernel) rfl 0 rfl ?_
      obtain ⟨c5, h⟩ := zok_c h
      refine Gz.iald (pc' := 25) (n := 15) (by decide +kernel) rfl rfl c5 ?_
      refine Gz.goto (off := 4) (tgt := 29) (by decide +kernel) (by decide) ?_
      exact Gz.ireturn (by decide +kernel) rfl (zok_sI h)
def f_Rd_lowOf (a1 : Int32) (a2 : Int32) (w : gW) : Option (Int32 × gW) :=
if a2 = (2 : Int32) then
(zb (f_Rd_trait a1 (1 : Int32) w) (fun v2 w3 =>
some (v2, w3)))
else
(some ((0 : Int32), w))
theorem g_Rd_lowOf {l : Launch} (a1 : Int32) (a2 : Int32) (w : gW) : gCt l m_Rd_lowOf 2 [.ref 3, .int a1, .int a2] w eI (f_Rd_lowOf a1 a2 w) := by
  intro Q h
  unfold f_Rd_lowOf at h
  show Gz l m_Rd_lowOf 2 0 [(0, .ref 3), (1, .int a1), (2, .int a2)] [] w Q
  refine Gz.iload_n (q := 2) (pc' := 1) (by decide +kernel) rfl 2 rfl ?_
  refine Gz.iconst (n := 2) (v := (2 : Int32)) (pc' := 2) (by decide +kernel) rfl rfl ?_
  refine Gz.icmp_ne (off := 12) (tgt := 14) (pc' := 5) (by decide +kernel) (by decide) rfl (fun c1 => ?_) (fun c1 => ?_)
  · have h := zok_f c1 h
    refine Gz.iconst (n := 0) (v := (0 : Int32)) (pc' := 15) (by decide +kernel) rfl rfl ?_
    exact Gz.ireturn (by decide +kernel) rfl (zok_sI h)
  · have h := zok_t c1 h
    refine Gz.aload_n (q := 0) (pc' := 6) (by decide +kernel) rfl 0 rfl ?_
    refine Gz.iload_n (q := 1) (pc' := 7) (by decide +kernel) rfl 1 rfl ?_
    refine Gz.iconst (n := 1) (v := (1 : Int32)) (pc' := 8) (by decide +kernel) rfl rfl ?_
    refine Gz.callVI (st := []) (b := 3) (pc' := 11) [.int a1, .int (1 : Int32)] (g_Rd_trait a1 (1 : Int32) w) h ok_m_Rd_trait lk_Rd_67 sh_3 rfl rfl rfl (Nat.le_of_ble_eq_true rfl) (Nat.le_of_ble_eq_true rfl) (Nat.le_of_ble_eq_true rfl) (by decide +kernel) rfl (fun v2 w3 h => ?_)
    refine Gz.goto (off := 4) (tgt := 15) (by decide +kernel) (by decide) ?_
    exact Gz.ireturn (by decide +kernel) rfl (zok_sI h)
def f_Rd_highOf (a1 : Int32) (a2 : Int32) (w : gW) : Option (Int32 × gW) :=
if a2 = 0 then
(some ((5 : Int32), w))
else
(if a2 = (1 : Int32) then
(zb (f_Rd_trait a1 (2 : Int32) w) (fun v3 w4 =>
some (v3, w4)))
else
(some ((w.1 3 1) - (1 : Int32), w)))
theorem g_Rd_highOf {l : Launch} (a1 : Int32) (a2 : Int32) (w : gW) : gCt l m_Rd_highOf 2 [.ref 3, .int a1, .int a2] w eI (f_Rd_highOf a1 a2 w) := by
  intro Q h
  unfold f_Rd_highOf at h
  show Gz l m_Rd_highOf 2 0 [(0, .ref 3), (1, .int a1), (2, .int a2)] [] w Q
  refine Gz.iload_n (q := 2) (pc' := 1) (by decide +kernel) rfl 2 rfl ?_
  refine Gz.if_ne (off := 5) (tgt := 6) (pc' := 4) (by decide +kernel) (by decide) rfl (fun c1 => ?_) (fun c1 => ?_)
  · have h := zok_f c1 h
    refine Gz.iload_n (q := 2) (pc' := 7) (by decide +kernel) rfl 2 rfl ?_
    refine Gz.iconst (n := 1) (v := (1 : Int32)) (pc' := 8) (by decide +kernel) rfl rfl ?_
    refine Gz.icmp_ne (off := 12) (tgt := 20) (pc' := 11) (by decide +kernel) (by decide) rfl (fun c2 => ?_) (fun c2 => ?_)
    · have h := zok_f c2 h
      refine Gz.aload_n (q := 0) (pc' := 21) (by decide +kernel) rfl 0 rfl ?_
      refine Gz.getI (pc' := 24) (j := 1) fd_Rd_15 sh_3 rfl (by decide +kernel) rfl ?_
      refine Gz.iconst (n := 1) (v := (1 : Int32)) (pc' := 25) (by decide +kernel) rfl rfl ?_
      refine Gz.isub (pc' := 26) (by decide +kernel) rfl ?_
      exact Gz.ireturn (by decide +kernel) rfl (zok_sI h)
    · have h := zok_t c2 h
      refine Gz.aload_n (q := 0) (pc' := 12) (by decide +kernel) rfl 0 rfl ?_
      refine Gz.iload_n (q := 1) (pc' := 13) (by decide +kernel) rfl 1 rfl ?_
      refine Gz.iconst (n := 2) (v := (2 : Int32)) (pc' := 14) (by decide +kernel) rfl rfl ?_
      refine Gz.callVI (st := []) (b := 3) (pc' := 17) [.int a1, .int (2 : Int32)] (g_Rd_trait a1 (2 : Int32) w) h ok_m_Rd_trait lk_Rd_67 sh_3 rfl rfl rfl (Nat.le_of_ble_eq_true rfl) (Nat.le_of_ble_eq_true rfl) (Nat.le_of_ble_eq_true rfl) (by decide +kernel) rfl (fun v3 w4 h => ?_)
      refine Gz.goto (off := 9) (tgt := 26) (by decide +kernel) (by decide) ?_
      exact Gz.ireturn (by decide +kernel) rfl (zok_sI h)
  · have h := zok_t c1 h
    refine Gz.iconst (n := 5) (v := (5 : Int32)) (pc' := 5) (by decide +kernel) rfl rfl ?_
    exact Gz.ireturn (by decide +kernel) rfl (zok_sI h)
def f_Rd_readItems_b31_s (k31 : Int32 → Int32 → Int32 → gW → Option (Int32 × gW)) (x2 : Int32) (x3 : Int32) (x4 : Int32) (w : gW) : Option (Int32 × gW) :=
if (3 : Int32) < x4 then
(some ((0 : Int32), w))
else
(zb (f_Tp_sign w) (fun v2 w3 =>
zb (f_Rd_traitOf v2 w3) (fun v4 w5 =>
if v4 = (-1 : Int32) then
(some ((1 : Int32), w5))
else
(if ((x3 >>> (v4 &&& 31)) &&& (1 : Int32)) = 0 then
(zl (x3 ||| ((1 : Int32) <<< (v4 &&& 31))) (fun v8 =>
zb (f_Tp_step w5) (fun _ w10 =>
zb (f_Rd_lowOf x2 v4 w10) (fun v11 w12 =>
zb (f_Rd_highOf x2 v4 w12) (fun v13 w14 =>
zb (f_Tp_digit v11 v13 w14) (fun v15 w16 =>
if v15 = (-1 : Int32) then
(some ((0 : Int32), w16))
else
(zb (f_Rd_set x2 v4 v15 w16) (fun _ w18 =>
zl (x4 + (1 : Int32)) (fun v19 =>
k31 x2 v8 v19 w18)))))))))
else
(some ((0 : Int32), w5))))))
def f_Rd_readItems_b31 : Int32 → Int32 → Int32 → gW → Option (Int32 × gW) := zfx (fun _ _ _ _ => none) (f_Rd_readItems_b31_s) zFU
def f_Rd_readItems (a2 : Int32) (w : gW) : Option (Int32 × gW) :=
zb (f_Rd_set a2 (0 : Int32) (0 : Int32) w) (fun _ w1 =>
zb (f_Rd_set a2 (1 : Int32) (0 : Int32) w1) (fun _ w2 =>
zb (f_Rd_set a2 (2 : Int32) ((w2.1 3 1) - (1 : Int32)) w2) (fun _ w3 =>
f_Rd_readItems_b31 a2 (0 : Int32) (0 : Int32) w3)))
theorem g_Rd_readItems_b31_s {l : Launch} {Q : Option Value → gW → Prop} (k31 : Int32 → Int32 → Int32 → gW → Option (Int32 × gW)) (hk31 : ∀ (x2 : Int32) (x3 : Int32) (x4 : Int32) (w : gW), zok eI (k31 x2 x3 x4 w) Q → Gz l m_Rd_readItems 3 31 [(0, .ref 3), (1, .ref 1), (2, .int x2), (3, .int x3), (4, .int x4)] [] w Q) (x2 : Int32) (x3 : Int32) (x4 : Int32) (w : gW) (h : zok eI (f_Rd_readItems_b31_s k31 x2 x3 x4 w) Q) : Gz l m_Rd_readItems 3 31 [(0, .ref 3), (1, .ref 1), (2, .int x2), (3, .int x3), (4, .int x4)] [] w Q := by
  unfold f_Rd_readItems_b31_s at h
  refine Gz.iload (i := 4) (pc' := 33) (by decide +kernel) rfl 4 rfl ?_
  refine Gz.iconst (n := 3) (v := (3 : Int32)) (pc' := 34) (by decide +kernel) rfl rfl ?_
  refine Gz.icmp_gt (off := 85) (tgt := 119) (pc' := 37) (by decide +kernel) (by decide) rfl (fun c1 => ?_) (fun c1 => ?_)
  · have h := zok_t c1 h
    refine Gz.iconst (n := 0) (v := (0 : Int32)) (pc' := 120) (by decide +kernel) rfl rfl ?_
    exact Gz.zreturn (by decide +kernel) rfl (by decide) (zok_sI h)
  · have h := zok_f c1 h
    refine Gz.aload_n (q := 1) (pc' := 38) (by decide +kernel) rfl 1 rfl ?_
    refine Gz.callVI (st := []) (b := 1) (pc' := 41) [] (g_Tp_sign w) h ok_m_Tp_sign lk_Rd_51 sh_1 rfl rfl rfl (Nat.le_of_ble_eq_true rfl) (Nat.le_of_ble_eq_true rfl) (Nat.le_of_ble_eq_true rfl) (by decide +kernel) rfl (fun v2 w3 h => ?_)
    refine Gz.callSI (st := []) (pc' := 44) [.int v2] (g_Rd_traitOf v2 w3) h ok_m_Rd_traitOf lk_Rd_54 rfl (Nat.le_of_ble_eq_true rfl) (Nat.le_of_ble_eq_true rfl) (Nat.le_of_ble_eq_true rfl) (by decide +kernel) rfl (fun v4 w5 h => ?_)
    refine Gz.istore (i := 5) (pc' := 46) (L' := [(5, .int v4), (0, .ref 3), (1, .ref 1), (2, .int x2), (3, .int x3), (4, .int x4)]) (by decide +kernel) rfl (Nat.le_of_ble_eq_true rfl) rfl ?_
    refine Gz.iload (i := 5) (pc' := 48) (by decide +kernel) rfl 0 rfl ?_
    refine Gz.iconst (n := -1) (v := (-1 : Int32)) (pc' := 49) (by decide +kernel) rfl rfl ?_
    refine Gz.icmp_ne (off := 5) (tgt := 54) (pc' := 52) (by decide +kernel) (by decide) rfl (fun c6 => ?_) (fun c6 => ?_)
    · have h := zok_f c6 h
      refine Gz.iload_n (q := 3) (pc' := 55) (by decide +kernel) rfl 4 rfl ?_
      refine Gz.iload (i := 5) (pc' := 57) (by decide +kernel) rfl 0 rfl ?_
      refine Gz.ishr (pc' := 58) (by decide +kernel) rfl ?_
      refine Gz.iconst (n := 1) (v := (1 : Int32)) (pc' := 59) (by decide +kernel) rfl rfl ?_
      refine Gz.iand (pc' := 60) (by decide +kernel) rfl ?_
      refine Gz.if_eq (off := 5) (tgt := 65) (pc' := 63) (by decide +kernel) (by decide) rfl (fun c7 => ?_) (fun c7 => ?_)
      · have h := zok_t c7 h
        refine Gz.iload_n (q := 3) (pc' := 66) (by decide +kernel) rfl 4 rfl ?_
        refine Gz.iconst (n := 1) (v := (1 : Int32)) (pc' := 67) (by decide +kernel) rfl rfl ?_
        refine Gz.iload (i := 5) (pc' := 69) (by decide +kernel) rfl 0 rfl ?_
        refine Gz.ishl (pc' := 70) (by decide +kernel) rfl ?_
        refine Gz.ior (pc' := 71) (by decide +kernel) rfl ?_
        refine Gz.nmI (fun v8 e9 => ?_)
        have h := zok_l e9 h
        refine Gz.istore_n (q := 3) (pc' := 72) (L' := [(3, .int v8), (5, .int v4), (0, .ref 3), (1, .ref 1), (2, .int x2), (4, .int x4)]) (by decide +kernel) rfl (Nat.le_of_ble_eq_true rfl) rfl ?_
        refine Gz.aload_n (q := 1) (pc' := 73) (by decide +kernel) rfl 3 rfl ?_
        refine Gz.callVV (st := []) (b := 1) (pc' := 76) [] (g_Tp_step w5) h ok_m_Tp_step lk_Rd_58 sh_1 rfl rfl rfl (Nat.le_of_ble_eq_true rfl) (Nat.le_of_ble_eq_true rfl) (Nat.le_of_ble_eq_true rfl) (by decide +kernel) rfl (fun _ w10 h => ?_)
        refine Gz.aload_n (q := 1) (pc' := 77) (by decide +kernel) rfl 3 rfl ?_
        refine Gz.aload_n (q := 0) (pc' := 78) (by decide +kernel) rfl 2 rfl ?_
        refine Gz.iload_n (q := 2) (pc' := 79) (by decide +kernel) rfl 4 rfl ?_
        refine Gz.iload (i := 5) (pc' := 81) (by decide +kernel) rfl 1 rfl ?_
        refine Gz.callVI (st := [.ref 1]) (b := 3) (pc' := 84) [.int x2, .int v4] (g_Rd_lowOf x2 v4 w10) h ok_m_Rd_lowOf lk_Rd_61 sh_3 rfl rfl rfl (Nat.le_of_ble_eq_true rfl) (Nat.le_of_ble_eq_true rfl) (Nat.le_of_ble_eq_true rfl) (by decide +kernel) rfl (fun v11 w12 h => ?_)
        refine Gz.aload_n (q := 0) (pc' := 85) (by decide +kernel) rfl 2 rfl ?_
        refine Gz.iload_n (q := 2) (pc' := 86) (by decide +kernel) rfl 4 rfl ?_
        refine Gz.iload (i := 5) (pc' := 88) (by decide +kernel) rfl 1 rfl ?_
        refine Gz.callVI (st := [.int v11, .ref 1]) (b := 3) (pc' := 91) [.int x2, .int v4] (g_Rd_highOf x2 v4 w12) h ok_m_Rd_highOf lk_Rd_64 sh_3 rfl rfl rfl (Nat.le_of_ble_eq_true rfl) (Nat.le_of_ble_eq_true rfl) (Nat.le_of_ble_eq_true rfl) (by decide +kernel) rfl (fun v13 w14 h => ?_)
        refine Gz.callVI (st := []) (b := 1) (pc' := 94) [.int v11, .int v13] (g_Tp_digit v11 v13 w14) h ok_m_Tp_digit lk_Rd_35 sh_1 rfl rfl rfl (Nat.le_of_ble_eq_true rfl) (Nat.le_of_ble_eq_true rfl) (Nat.le_of_ble_eq_true rfl) (by decide +kernel) rfl (fun v15 w16 h => ?_)
        refine Gz.istore (i := 6) (pc' := 96) (L' := [(6, .int v15), (3, .int v8), (5, .int v4), (0, .ref 3), (1, .ref 1), (2, .int x2), (4, .int x4)]) (by decide +kernel) rfl (Nat.le_of_ble_eq_true rfl) rfl ?_
        refine Gz.iload (i := 6) (pc' := 98) (by decide +kernel) rfl 0 rfl ?_
        refine Gz.iconst (n := -1) (v := (-1 : Int32)) (pc' := 99) (by decide +kernel) rfl rfl ?_
        refine Gz.icmp_ne (off := 5) (tgt := 104) (pc' := 102) (by decide +kernel) (by decide) rfl (fun c17 => ?_) (fun c17 => ?_)
        · have h := zok_f c17 h
          refine Gz.aload_n (q := 0) (pc' := 105) (by decide +kernel) rfl 3 rfl ?_
          refine Gz.iload_n (q := 2) (pc' := 106) (by decide +kernel) rfl 5 rfl ?_
          refine Gz.iload (i := 5) (pc' := 108) (by decide +kernel) rfl 2 rfl ?_
          refine Gz.iload (i := 6) (pc' := 110) (by decide +kernel) rfl 0 rfl ?_
          refine Gz.callVV (st := []) (b := 3) (pc' := 113) [.int x2, .int v4, .int v15] (g_Rd_set x2 v4 v15 w16) h ok_m_Rd_set lk_Rd_47 sh_3 rfl rfl rfl (Nat.le_of_ble_eq_true rfl) (Nat.le_of_ble_eq_true rfl) (Nat.le_of_ble_eq_true rfl) (by decide +kernel) rfl (fun _ w18 h => ?_)
          obtain ⟨v19, e20⟩ : ∃ y : Int32, y = x4 + (1 : Int32) := ⟨_, rfl⟩
          have h := zok_l e20 h
          refine Gz.iinc (i := 4) (n := 1) (pc' := 116) (L' := [(4, .int v19), (6, .int v15), (3, .int v8), (5, .int v4), (0, .ref 3), (1, .ref 1), (2, .int x2)]) v19 (by decide +kernel) rfl 6 rfl (by rw [e20]; rfl) (Nat.le_of_ble_eq_true rfl) rfl ?_
          refine Gz.goto (off := -85) (tgt := 31) (by decide +kernel) (by decide) ?_
          refine Gz.sub (L' := [(0, .ref 3), (1, .ref 1), (2, .int x2), (3, .int v8), (4, .int v19)]) [4, 5, 6, 2, 0] rfl ?_
          exact hk31 x2 v8 v19 w18 h
        · have h := zok_t c17 h
          refine Gz.iconst (n := 0) (v := (0 : Int32)) (pc' := 103) (by decide +kernel) rfl rfl ?_
          exact Gz.zreturn (by decide +kernel) rfl (by decide) (zok_sI h)
      · have h := zok_f c7 h
        refine Gz.iconst (n := 0) (v := (0 : Int32)) (pc' := 64) (by decide +kernel) rfl rfl ?_
        exact Gz.zreturn (by decide +kernel) rfl (by decide) (zok_sI h)
    · have h := zok_t c6 h
      refine Gz.iconst (n := 1) (v := (1 : Int32)) (pc' := 53) (by decide +kernel) rfl rfl ?_
      exact Gz.zreturn (by decide +kernel) rfl (by decide) (zok_sI h)
theorem g_Rd_readItems_b31 {l : Launch} {Q : Option Value → gW → Prop} (x2 : Int32) (x3 : Int32) (x4 : Int32) (w : gW) (h : zok eI (f_Rd_readItems_b31 x2 x3 x4 w) Q) : Gz l m_Rd_readItems 3 31 [(0, .ref 3), (1, .ref 1), (2, .int x2), (3, .int x3), (4, .int x4)] [] w Q := by
  have key : ∀ (n : Nat) (x2 : Int32) (x3 : Int32) (x4 : Int32) (w : gW), zok eI (zfx (fun _ _ _ _ => none) (f_Rd_readItems_b31_s) n x2 x3 x4 w) Q → Gz l m_Rd_readItems 3 31 [(0, .ref 3), (1, .ref 1), (2, .int x2), (3, .int x3), (4, .int x4)] [] w Q := by
    intro n
    induction n with
    | zero => intro x2 x3 x4 w h; exact zok_n h
    | succ n ih => intro x2 x3 x4 w h; exact g_Rd_readItems_b31_s _ ih x2 x3 x4 w h
  exact key zFU x2 x3 x4 w h
theorem g_Rd_readItems {l : Launch} (a2 : Int32) (w : gW) : gCt l m_Rd_readItems 3 [.ref 3, .ref 1, .int a2] w eI (f_Rd_readItems a2 w) := by
  intro Q h
  unfold f_Rd_readItems at h
  show Gz l m_Rd_readItems 3 0 [(0, .ref 3), (1, .ref 1), (2, .int a2)] [] w Q
  refine Gz.aload_n (q := 0) (pc' := 1) (by decide +kernel) rfl 0 rfl ?_
  refine Gz.iload_n (q := 2) (pc' := 2) (by decide +kernel) rfl 2 rfl ?_
  refine Gz.iconst (n := 0) (v := (0 : Int32)) (pc' := 3) (by decide +kernel) rfl rfl ?_
  refine Gz.iconst (n := 0) (v := (0 : Int32)) (pc' := 4) (by decide +kernel) rfl rfl ?_
  refine Gz.callVV (st := []) (b := 3) (pc' := 7) [.int a2, .int (0 : Int32), .int (0 : Int32)] (g_Rd_set a2 (0 : Int32) (0 : Int32) w) h ok_m_Rd_set lk_Rd_47 sh_3 rfl rfl rfl (Nat.le_of_ble_eq_true rfl) (Nat.le_of_ble_eq_true rfl) (Nat.le_of_ble_eq_true rfl) (by decide +kernel) rfl (fun _ w1 h => ?_)
  refine Gz.aload_n (q := 0) (pc' := 8) (by decide +kernel) rfl 0 rfl ?_
  refine Gz.iload_n (q := 2) (pc' := 9) (by decide +kernel) rfl 2 rfl ?_
  refine Gz.iconst (n := 1) (v := (1 : Int32)) (pc' := 10) (by decide +kernel) rfl rfl ?_
  refine Gz.iconst (n := 0) (v := (0 : Int32)) (pc' := 11) (by decide +kernel) rfl rfl ?_
  refine Gz.callVV (st := []) (b := 3) (pc' := 14) [.int a2, .int (1 : Int32), .int (0 : Int32)] (g_Rd_set a2 (1 : Int32) (0 : Int32) w1) h ok_m_Rd_set lk_Rd_47 sh_3 rfl rfl rfl (Nat.le_of_ble_eq_true rfl) (Nat.le_of_ble_eq_true rfl) (Nat.le_of_ble_eq_true rfl) (by decide +kernel) rfl (fun _ w2 h => ?_)
  refine Gz.aload_n (q := 0) (pc' := 15) (by decide +kernel) rfl 0 rfl ?_
  refine Gz.iload_n (q := 2) (pc' := 16) (by decide +kernel) rfl 2 rfl ?_
  refine Gz.iconst (n := 2) (v := (2 : Int32)) (pc' := 17) (by decide +kernel) rfl rfl ?_
  refine Gz.aload_n (q := 0) (pc' := 18) (by decide +kernel) rfl 0 rfl ?_
  refine Gz.getI (pc' := 21) (j := 1) fd_Rd_15 sh_3 rfl (by decide +kernel) rfl ?_
  refine Gz.iconst (n := 1) (v := (1 : Int32)) (pc' := 22) (by decide +kernel) rfl rfl ?_
  refine Gz.isub (pc' := 23) (by decide +kernel) rfl ?_
  refine Gz.callVV (st := []) (b := 3) (pc' := 26) [.int a2, .int (2 : Int32), .int ((w2.1 3 1) - (1 : Int32))] (g_Rd_set a2 (2 : Int32) ((w2.1 3 1) - (1 : Int32)) w2) h ok_m_Rd_set lk_Rd_47 sh_3 rfl rfl rfl (Nat.le_of_ble_eq_true rfl) (Nat.le_of_ble_eq_true rfl) (Nat.le_of_ble_eq_true rfl) (by decide +kernel) rfl (fun _ w3 h => ?_)
  refine Gz.iconst (n := 0) (v := (0 : Int32)) (pc' := 27) (by decide +kernel) rfl rfl ?_
  refine Gz.istore_n (q := 3) (pc' := 28) (L' := [(3, .int (0 : Int32)), (0, .ref 3), (1, .ref 1), (2, .int a2)]) (by decide +kernel) rfl (Nat.le_of_ble_eq_true rfl) rfl ?_
  refine Gz.iconst (n := 0) (v := (0 : Int32)) (pc' := 29) (by decide +kernel) rfl rfl ?_
  refine Gz.istore (i := 4) (pc' := 31) (L' := [(4, .int (0 : Int32)), (3, .int (0 : Int32)), (0, .ref 3), (1, .ref 1), (2, .int a2)]) (by decide +kernel) rfl (Nat.le_of_ble_eq_true rfl) rfl ?_
  refine Gz.sub (L' := [(0, .ref 3), (1, .ref 1), (2, .int a2), (3, .int (0 : Int32)), (4, .int (0 : Int32))]) [2, 3, 4, 1, 0] rfl ?_
  exact g_Rd_readItems_b31 a2 (0 : Int32) (0 : Int32) w3 h
def f_Tp_isAtEnd (w : gW) : Option (Int32 × gW) :=
zb (f_Tp_sign w) (fun v1 w2 =>
if v1 = 0 then
(some ((1 : Int32), w2))
else
(some ((0 : Int32), w2)))
theorem g_Tp_isAtEnd {l : Launch} (w : gW) : gCt l m_Tp_isAtEnd 2 [.ref 1] w eI (f_Tp_isAtEnd w) := by
  intro Q h
  unfold f_Tp_isAtEnd at h
  show Gz l m_Tp_isAtEnd 2 0 [(0, .ref 1)] [] w Q
  refine Gz.aload_n (q := 0) (pc' := 1) (by decide +kernel) rfl 0 rfl ?_
  refine Gz.callVI (st := []) (b := 1) (pc' := 4) [] (g_Tp_sign w) h ok_m_Tp_sign lk_Tp_30 sh_1 rfl rfl rfl (Nat.le_of_ble_eq_true rfl) (Nat.le_of_ble_eq_true rfl) (Nat.le_of_ble_eq_true rfl) (by decide +kernel) rfl (fun v1 w2 h => ?_)
  refine Gz.if_ne (off := 7) (tgt := 11) (pc' := 7) (by decide +kernel) (by decide) rfl (fun c3 => ?_) (fun c3 => ?_)
  · have h := zok_f c3 h
    refine Gz.iconst (n := 0) (v := (0 : Int32)) (pc' := 12) (by decide +kernel) rfl rfl ?_
    exact Gz.zreturn (by decide +kernel) rfl (by decide) (zok_sI h)
  · have h := zok_t c3 h
    refine Gz.iconst (n := 1) (v := (1 : Int32)) (pc' := 8) (by decide +kernel) rfl rfl ?_
    refine Gz.goto (off := 4) (tgt := 12) (by decide +kernel) (by decide) ?_
    exact Gz.zreturn (by decide +kernel) rfl (by decide) (zok_sI h)
def f_Rd_read_b76 (w : gW) : Option (Int32 × gW) :=
zb (f_Tp_spot w) (fun v1 w2 =>
some (v1, w2))
def f_Rd_read_b44_s (k44 : Int32 → gW → Option (Int32 × gW)) (x2 : Int32) (w : gW) : Option (Int32 × gW) :=
if (5 : Int32) ≤ x2 then
(zb (f_Tp_spot w) (fun v2 w3 =>
some (v2, w3)))
else
(zb (f_Tp_passes (59 : Int32) w) (fun v4 w5 =>
if v4 = 0 then
(f_Rd_read_b76 w5)
else
(zb (f_Tp_passes (101 : Int32) w5) (fun v7 w8 =>
if v7 = 0 then
(f_Rd_read_b76 w8)
else
(zb (f_Rd_readItems x2 w8) (fun v10 w11 =>
if v10 = 0 then
(f_Rd_read_b76 w11)
else
(zl (zsI w11 3 2 (x2 + (1 : Int32))) (fun w13 =>
zb (f_Tp_isAtEnd w13) (fun v15 w16 =>
if v15 = 0 then
(zl (x2 + (1 : Int32)) (fun v18 =>
k44 v18 w16))
else
(some ((-1 : Int32), w16)))))))))))
def f_Rd_read_b44 : Int32 → gW → Option (Int32 × gW) := zfx (fun _ _ => none) (f_Rd_read_b44_s) zFU
def f_Rd_read (w : gW) : Option (Int32 × gW) :=
zb (f_Tp_rewind w) (fun _ w1 =>
zb (f_Tp_passes (116 : Int32) w1) (fun v2 w3 =>
if v2 = 0 then
(zb (f_Tp_spot w3) (fun v12 w13 =>
some (v12, w13)))
else
(zb (f_Tp_digit (2 : Int32) (6 : Int32) w3) (fun v5 w6 =>
zl (zsI w6 3 1 v5) (fun w7 =>
if (w7.1 3 1) = (-1 : Int32) then
(zb (f_Tp_spot w7) (fun v10 w11 =>
some (v10, w11)))
else
(f_Rd_read_b44 (0 : Int32) w7))))))
theorem g_Rd_read_b76 {l : Launch} {Q : Option Value → gW → Prop} (w : gW) (h : zok eI (f_Rd_read_b76 w) Q) : Gz l m_Rd_read 4 76 [(1, .ref 1)] [] w Q := by
  unfold f_Rd_read_b76 at h
  refine Gz.aload_n (q := 1) (pc' := 77) (by decide +kernel) rfl 0 rfl ?_
  refine Gz.callVI (st := []) (b := 1) (pc' := 80) [] (g_Tp_spot w) h ok_m_Tp_spot lk_Rd_31 sh_1 rfl rfl rfl (Nat.le_of_ble_eq_true rfl) (Nat.le_of_ble_eq_true rfl) (Nat.le_of_ble_eq_true rfl) (by decide +kernel) rfl (fun v1 w2 h => ?_)
  exact Gz.ireturn (by decide +kernel) rfl (zok_sI h)
theorem g_Rd_read_b44_s {l : Launch} {Q : Option Value → gW → Prop} (k44 : Int32 → gW → Option (Int32 × gW)) (hk44 : ∀ (x2 : Int32) (w : gW), zok eI (k44 x2 w) Q → Gz l m_Rd_read 4 44 [(0, .ref 3), (1, .ref 1), (2, .int x2)] [] w Q) (x2 : Int32) (w : gW) (h : zok eI (f_Rd_read_b44_s k44 x2 w) Q) : Gz l m_Rd_read 4 44 [(0, .ref 3), (1, .ref 1), (2, .int x2)] [] w Q := by
  unfold f_Rd_read_b44_s at h
  refine Gz.iload_n (q := 2) (pc' := 45) (by decide +kernel) rfl 2 rfl ?_
  refine Gz.iconst (n := 5) (v := (5 : Int32)) (pc' := 46) (by decide +kernel) rfl rfl ?_
  refine Gz.icmp_ge (off := 57) (tgt := 103) (pc' := 49) (by decide +kernel) (by decide) rfl (fun c1 => ?_) (fun c1 => ?_)
  · have h := zok_t c1 h
    refine Gz.aload_n (q := 1) (pc' := 104) (by decide +kernel) rfl 1 rfl ?_
    refine Gz.callVI (st := []) (b := 1) (pc' := 107) [] (g_Tp_spot w) h ok_m_Tp_spot lk_Rd_31 sh_1 rfl rfl rfl (Nat.le_of_ble_eq_true rfl) (Nat.le_of_ble_eq_true rfl) (Nat.le_of_ble_eq_true rfl) (by decide +kernel) rfl (fun v2 w3 h => ?_)
    exact Gz.ireturn (by decide +kernel) rfl (zok_sI h)
  · have h := zok_f c1 h
    refine Gz.aload_n (q := 1) (pc' := 50) (by decide +kernel) rfl 1 rfl ?_
    refine Gz.bipush (n := 59) (v := (59 : Int32)) (pc' := 52) (by decide +kernel) rfl rfl ?_
    refine Gz.callVI (st := []) (b := 1) (pc' := 55) [.int (59 : Int32)] (g_Tp_passes (59 : Int32) w) h ok_m_Tp_passes lk_Rd_27 sh_1 rfl rfl rfl (Nat.le_of_ble_eq_true rfl) (Nat.le_of_ble_eq_true rfl) (Nat.le_of_ble_eq_true rfl) (by decide +kernel) rfl (fun v4 w5 h => ?_)
    refine Gz.if_eq (off := 21) (tgt := 76) (pc' := 58) (by decide +kernel) (by decide) rfl (fun c6 => ?_) (fun c6 => ?_)
    · have h := zok_t c6 h
      refine Gz.sub (L' := [(1, .ref 1)]) [1] rfl ?_
      exact g_Rd_read_b76 w5 h
    · have h := zok_f c6 h
      refine Gz.aload_n (q := 1) (pc' := 59) (by decide +kernel) rfl 1 rfl ?_
      refine Gz.bipush (n := 101) (v := (101 : Int32)) (pc' := 61) (by decide +kernel) rfl rfl ?_
      refine Gz.callVI (st := []) (b := 1) (pc' := 64) [.int (101 : Int32)] (g_Tp_passes (101 : Int32) w5) h ok_m_Tp_passes lk_Rd_27 sh_1 rfl rfl rfl (Nat.le_of_ble_eq_true rfl) (Nat.le_of_ble_eq_true rfl) (Nat.le_of_ble_eq_true rfl) (by decide +kernel) rfl (fun v7 w8 h => ?_)
      refine Gz.if_eq (off := 12) (tgt := 76) (pc' := 67) (by decide +kernel) (by decide) rfl (fun c9 => ?_) (fun c9 => ?_)
      · have h := zok_t c9 h
        refine Gz.sub (L' := [(1, .ref 1)]) [1] rfl ?_
        exact g_Rd_read_b76 w8 h
      · have h := zok_f c9 h
        refine Gz.aload_n (q := 0) (pc' := 68) (by decide +kernel) rfl 0 rfl ?_
        refine Gz.aload_n (q := 1) (pc' := 69) (by decide +kernel) rfl 1 rfl ?_
        refine Gz.iload_n (q := 2) (pc' := 70) (by decide +kernel) rfl 2 rfl ?_
        refine Gz.callVI (st := []) (b := 3) (pc' := 73) [.ref 1, .int x2] (g_Rd_readItems x2 w8) h ok_m_Rd_readItems lk_Rd_39 sh_3 rfl rfl rfl (Nat.le_of_ble_eq_true rfl) (Nat.le_of_ble_eq_true rfl) (Nat.le_of_ble_eq_true rfl) (by decide +kernel) rfl (fun v10 w11 h => ?_)
        refine Gz.if_ne (off := 8) (tgt := 81) (pc' := 76) (by decide +kernel) (by decide) rfl (fun c12 => ?_) (fun c12 => ?_)
        · have h := zok_f c12 h
          refine Gz.aload_n (q := 0) (pc' := 82) (by decide +kernel) rfl 0 rfl ?_
          refine Gz.iload_n (q := 2) (pc' := 83) (by decide +kernel) rfl 2 rfl ?_
          refine Gz.iconst (n := 1) (v := (1 : Int32)) (pc' := 84) (by decide +kernel) rfl rfl ?_
          refine Gz.iadd (pc' := 85) (by decide +kernel) rfl ?_
          refine Gz.putI (pc' := 88) (j := 2) fd_Rd_19 sh_3 rfl (by decide +kernel) rfl ?_
          refine Gz.nmW (fun w13 e14 => ?_)
          have h := zok_l e14 h
          refine Gz.aload_n (q := 1) (pc' := 89) (by decide +kernel) rfl 1 rfl ?_
          refine Gz.callVI (st := []) (b := 1) (pc' := 92) [] (g_Tp_isAtEnd w13) h ok_m_Tp_isAtEnd lk_Rd_43 sh_1 rfl rfl rfl (Nat.le_of_ble_eq_true rfl) (Nat.le_of_ble_eq_true rfl) (Nat.le_of_ble_eq_true rfl) (by decide +kernel) rfl (fun v15 w16 h => ?_)
          refine Gz.if_eq (off := 5) (tgt := 97) (pc' := 95) (by decide +kernel) (by decide) rfl (fun c17 => ?_) (fun c17 => ?_)
          · have h := zok_t c17 h
            obtain ⟨v18, e19⟩ : ∃ y : Int32, y = x2 + (1 : Int32) := ⟨_, rfl⟩
            have h := zok_l e19 h
            refine Gz.iinc (i := 2) (n := 1) (pc' := 100) (L' := [(2, .int v18), (0, .ref 3), (1, .ref 1)]) v18 (by decide +kernel) rfl 2 rfl (by rw [e19]; rfl) (Nat.le_of_ble_eq_true rfl) rfl ?_
            refine Gz.goto (off := -56) (tgt := 44) (by decide +kernel) (by decide) ?_
            refine Gz.sub (L' := [(0, .ref 3), (1, .ref 1), (2, .int v18)]) [1, 2, 0] rfl ?_
            exact hk44 v18 w16 h
          · have h := zok_f c17 h
            refine Gz.iconst (n := -1) (v := (-1 : Int32)) (pc' := 96) (by decide +kernel) rfl rfl ?_
            exact Gz.ireturn (by decide +kernel) rfl (zok_sI h)
        · have h := zok_t c12 h
          refine Gz.sub (L' := [(1, .ref 1)]) [1] rfl ?_
          exact g_Rd_read_b76 w11 h
theorem g_Rd_read_b44 {l : Launch} {Q : Option Value → gW → Prop} (x2 : Int32) (w : gW) (h : zok eI (f_Rd_read_b44 x2 w) Q) : Gz l m_Rd_read 4 44 [(0, .ref 3), (1, .ref 1), (2, .int x2)] [] w Q := by
  have key : ∀ (n : Nat) (x2 : Int32) (w : gW), zok eI (zfx (fun _ _ => none) (f_Rd_read_b44_s) n x2 w) Q → Gz l m_Rd_read 4 44 [(0, .ref 3), (1, .ref 1), (2, .int x2)] [] w Q := by
    intro n
    induction n with
    | zero => intro x2 w h; exact zok_n h
    | succ n ih => intro x2 w h; exact g_Rd_read_b44_s _ ih x2 w h
  exact key zFU x2 w h
theorem g_Rd_read {l : Launch} (w : gW) : gCt l m_Rd_read 4 [.ref 3, .ref 1] w eI (f_Rd_read w) := by
  intro Q h
  unfold f_Rd_read at h
  show Gz l m_Rd_read 4 0 [(0, .ref 3), (1, .ref 1)] [] w Q
  refine Gz.aload_n (q := 1) (pc' := 1) (by decide +kernel) rfl 1 rfl ?_
  refine Gz.callVV (st := []) (b := 1) (pc' := 4) [] (g_Tp_rewind w) h ok_m_Tp_rewind lk_Rd_22 sh_1 rfl rfl rfl (Nat.le_of_ble_eq_true rfl) (Nat.le_of_ble_eq_true rfl) (Nat.le_of_ble_eq_true rfl) (by decide +kernel) rfl (fun _ w1 h => ?_)
  refine Gz.aload_n (q := 1) (pc' := 5) (by decide +kernel) rfl 1 rfl ?_
  refine Gz.bipush (n := 116) (v := (116 : Int32)) (pc' := 7) (by decide +kernel) rfl rfl ?_
  refine Gz.callVI (st := []) (b := 1) (pc' := 10) [.int (116 : Int32)] (g_Tp_passes (116 : Int32) w1) h ok_m_Tp_passes lk_Rd_27 sh_1 rfl rfl rfl (Nat.le_of_ble_eq_true rfl) (Nat.le_of_ble_eq_true rfl) (Nat.le_of_ble_eq_true rfl) (by decide +kernel) rfl (fun v2 w3 h => ?_)
  refine Gz.if_ne (off := 8) (tgt := 18) (pc' := 13) (by decide +kernel) (by decide) rfl (fun c4 => ?_) (fun c4 => ?_)
  · have h := zok_f c4 h
    refine Gz.aload_n (q := 0) (pc' := 19) (by decide +kernel) rfl 0 rfl ?_
    refine Gz.aload_n (q := 1) (pc' := 20) (by decide +kernel) rfl 1 rfl ?_
    refine Gz.iconst (n := 2) (v := (2 : Int32)) (pc' := 21) (by decide +kernel) rfl rfl ?_
    refine Gz.bipush (n := 6) (v := (6 : Int32)) (pc' := 23) (by decide +kernel) rfl rfl ?_
    refine Gz.callVI (st := [.ref 3]) (b := 1) (pc' := 26) [.int (2 : Int32), .int (6 : Int32)] (g_Tp_digit (2 : Int32) (6 : Int32) w3) h ok_m_Tp_digit lk_Rd_35 sh_1 rfl rfl rfl (Nat.le_of_ble_eq_true rfl) (Nat.le_of_ble_eq_true rfl) (Nat.le_of_ble_eq_true rfl) (by decide +kernel) rfl (fun v5 w6 h => ?_)
    refine Gz.putI (pc' := 29) (j := 1) fd_Rd_15 sh_3 rfl (by decide +kernel) rfl ?_
    refine Gz.nmW (fun w7 e8 => ?_)
    have h := zok_l e8 h
    refine Gz.aload_n (q := 0) (pc' := 30) (by decide +kernel) rfl 0 rfl ?_
    refine Gz.getI (pc' := 33) (j := 1) fd_Rd_15 sh_3 rfl (by decide +kernel) rfl ?_
    refine Gz.iconst (n := -1) (v := (-1 : Int32)) (pc' := 34) (by decide +kernel) rfl rfl ?_
    refine Gz.icmp_ne (off := 8) (tgt := 42) (pc' := 37) (by decide +kernel) (by decide) rfl (fun c9 => ?_) (fun c9 => ?_)
    · have h := zok_f c9 h
      refine Gz.iconst (n := 0) (v := (0 : Int32)) (pc' := 43) (by decide +kernel) rfl rfl ?_
      refine Gz.istore_n (q := 2) (pc' := 44) (L' := [(2, .int (0 : Int32)), (0, .ref 3), (1, .ref 1)]) (by decide +kernel) rfl (Nat.le_of_ble_eq_true rfl) rfl ?_
      refine Gz.sub (L' := [(0, .ref 3), (1, .ref 1), (2, .int (0 : Int32))]) [1, 2, 0] rfl ?_
      exact g_Rd_read_b44 (0 : Int32) w7 h
    · have h := zok_t c9 h
      refine Gz.aload_n (q := 1) (pc' := 38) (by decide +kernel) rfl 1 rfl ?_
      refine Gz.callVI (st := []) (b := 1) (pc' := 41) [] (g_Tp_spot w7) h ok_m_Tp_spot lk_Rd_31 sh_1 rfl rfl rfl (Nat.le_of_ble_eq_true rfl) (Nat.le_of_ble_eq_true rfl) (Nat.le_of_ble_eq_true rfl) (by decide +kernel) rfl (fun v10 w11 h => ?_)
      exact Gz.ireturn (by decide +kernel) rfl (zok_sI h)
  · have h := zok_t c4 h
    refine Gz.aload_n (q := 1) (pc' := 14) (by decide +kernel) rfl 1 rfl ?_
    refine Gz.callVI (st := []) (b := 1) (pc' := 17) [] (g_Tp_spot w3) h ok_m_Tp_spot lk_Rd_31 sh_1 rfl rfl rfl (Nat.le_of_ble_eq_true rfl) (Nat.le_of_ble_eq_true rfl) (Nat.le_of_ble_eq_true rfl) (by decide +kernel) rfl (fun v12 w13 h => ?_)
    exact Gz.ireturn (by decide +kernel) rfl (zok_sI h)
def f_Oa_draft (w : gW) : Option (Int32 × gW) :=
if (w.1 5 4) < 0 then
(some ((0 : Int32), w))
else
(if (nI 9) ≤ (w.1 5 4) then
(some ((0 : Int32), w))
else
(some (w.1 5 4, w)))
theorem g_Oa_draft {l : Launch} (w : gW) : gCt l m_Oa_draft 1 [.ref 5] w eI (f_Oa_draft w) := by
  intro Q h
  unfold f_Oa_draft at h
  show Gz l m_Oa_draft 1 0 [(0, .ref 5)] [] w Q
  refine Gz.aload_n (q := 0) (pc' := 1) (by decide +kernel) rfl 0 rfl ?_
  refine Gz.getI (pc' := 4) (j := 4) fd_Oa_26 sh_5 rfl (by decide +kernel) rfl ?_
  refine Gz.if_lt (off := 22) (tgt := 26) (pc' := 7) (by decide +kernel) (by decide) rfl (fun c1 => ?_) (fun c1 => ?_)
  · have h := zok_t c1 h
    refine Gz.iconst (n := 0) (v := (0 : Int32)) (pc' := 27) (by decide +kernel) rfl rfl ?_
    exact Gz.ireturn (by decide +kernel) rfl (zok_sI h)
  · have h := zok_f c1 h
    refine Gz.aload_n (q := 0) (pc' := 8) (by decide +kernel) rfl 0 rfl ?_
    refine Gz.getI (pc' := 11) (j := 4) fd_Oa_26 sh_5 rfl (by decide +kernel) rfl ?_
    refine Gz.aload_n (q := 0) (pc' := 12) (by decide +kernel) rfl 0 rfl ?_
    refine Gz.getR (pc' := 15) (j := 1) 16 fd_Oa_16 sh_5 rfl (by decide +kernel) rfl ?_
    refine Gz.alen (pc' := 16) (n := 9) (kd := 1) (by decide +kernel) rfl (Or.inl rfl) rfl rfl ?_
    refine Gz.icmp_ge (off := 10) (tgt := 26) (pc' := 19) (by decide +kernel) (by decide) rfl (fun c2 => ?_) (fun c2 => ?_)
    · have h := zok_t c2 h
      refine Gz.iconst (n := 0) (v := (0 : Int32)) (pc' := 27) (by decide +kernel) rfl rfl ?_
      exact Gz.ireturn (by decide +kernel) rfl (zok_sI h)
    · have h := zok_f c2 h
      refine Gz.aload_n (q := 0) (pc' := 20) (by decide +kernel) rfl 0 rfl ?_
      refine Gz.getI (pc' := 23) (j := 4) fd_Oa_26 sh_5 rfl (by decide +kernel) rfl ?_
      refine Gz.goto (off := 4) (tgt := 27) (by decide +kernel) (by decide) ?_
      exact Gz.ireturn (by decide +kernel) rfl (zok_sI h)
def f_Oa_put (a1 : Int32) (a2 : Int32) (a3 : Int32) (w : gW) : Option (Int32 × gW) :=
zb (f_Oa_draft w) (fun v1 w2 =>
if inb v1 9 then
zl (w2.1 16 (ix v1)) (fun v4 =>
if v4 < 0 then
(some ((0 : Int32), w2))
else
(if v4 < (120 : Int32) then
(if inb v1 9 then
if inb v4 (g_len 1 (6 + 1 + ix v1)) then
zl (zsI w2 (6 + 1 + ix v1) (ix v4) (((a1 <<< ((8 : Int32) &&& 31)) ||| (a2 <<< ((4 : Int32) &&& 31))) ||| a3)) (fun w10 =>
if inb v1 9 then
zl (zsI w10 16 (ix v1) (v4 + (1 : Int32))) (fun w13 =>
some ((1 : Int32), w13))
else none)
else none
else none)
else
(some ((0 : Int32), w2))))
else none)
theorem g_Oa_put {l : Launch} (a1 : Int32) (a2 : Int32) (a3 : Int32) (w : gW) : gCt l m_Oa_put 2 [.ref 5, .int a1, .int a2, .int a3] w eI (f_Oa_put a1 a2 a3 w) := by
  intro Q h
  unfold f_Oa_put at h
  show Gz l m_Oa_put 2 0 [(0, .ref 5), (1, .int a1), (2, .int a2), (3, .int a3)] [] w Q
  refine Gz.aload_n (q := 0) (pc' := 1) (by decide +kernel) rfl 0 rfl ?_
  refine Gz.callVI (st := []) (b := 5) (pc' := 4) [] (g_Oa_draft w) h ok_m_Oa_draft lk_Oa_39 sh_5 rfl rfl rfl (Nat.le_of_ble_eq_true rfl) (Nat.le_of_ble_eq_true rfl) (Nat.le_of_ble_eq_true rfl) (by decide +kernel) rfl (fun v1 w2 h => ?_)
  refine Gz.istore (i := 4) (pc' := 6) (L' := [(4, .int v1), (0, .ref 5), (1, .int a1), (2, .int a2), (3, .int a3)]) (by decide +kernel) rfl (Nat.le_of_ble_eq_true rfl) rfl ?_
  refine Gz.aload_n (q := 0) (pc' := 7) (by decide +kernel) rfl 1 rfl ?_
  refine Gz.getR (pc' := 10) (j := 1) 16 fd_Oa_16 sh_5 rfl (by decide +kernel) rfl ?_
  refine Gz.iload (i := 4) (pc' := 12) (by decide +kernel) rfl 0 rfl ?_
  obtain ⟨c3, h⟩ := zok_c h
  refine Gz.iald (pc' := 13) (n := 9) (by decide +kernel) rfl rfl c3 ?_
  refine Gz.nmI (fun v4 e5 => ?_)
  have h := zok_l e5 h
  refine Gz.istore (i := 5) (pc' := 15) (L' := [(5, .int v4), (4, .int v1), (0, .ref 5), (1, .int a1), (2, .int a2), (3, .int a3)]) (by decide +kernel) rfl (Nat.le_of_ble_eq_true rfl) rfl ?_
  refine Gz.iload (i := 5) (pc' := 17) (by decide +kernel) rfl 0 rfl ?_
  refine Gz.if_lt (off := 10) (tgt := 27) (pc' := 20) (by decide +kernel) (by decide) rfl (fun c6 => ?_) (fun c6 => ?_)
  · have h := zok_t c6 h
    refine Gz.iconst (n := 0) (v := (0 : Int32)) (pc' := 28) (by decide +kernel) rfl rfl ?_
    exact Gz.zreturn (by decide +kernel) rfl (by decide) (zok_sI h)
  · have h := zok_f c6 h
    refine Gz.iload (i := 5) (pc' := 22) (by decide +kernel) rfl 0 rfl ?_
    refine Gz.bipush (n := 120) (v := (120 : Int32)) (pc' := 24) (by decide +kernel) rfl rfl ?_
    refine Gz.icmp_lt (off := 5) (tgt := 29) (pc' := 27) (by decide +kernel) (by decide) rfl (fun c7 => ?_) (fun c7 => ?_)
    · have h := zok_t c7 h
      refine Gz.aload_n (q := 0) (pc' := 30) (by decide +kernel) rfl 2 rfl ?_
      refine Gz.getR (pc' := 33) (j := 0) 6 fd_Oa_11 sh_5 rfl (by decide +kernel) rfl ?_
      refine Gz.iload (i := 4) (pc' := 35) (by decide +kernel) rfl 1 rfl ?_
      obtain ⟨c8, h⟩ := zok_c h
      refine Gz.aald (pc' := 36) (n := 9) (by decide +kernel) rfl (Or.inl rfl) rfl c8 ?_
      refine Gz.iload (i := 5) (pc' := 38) (by decide +kernel) rfl 0 rfl ?_
      refine Gz.iload_n (q := 1) (pc' := 39) (by decide +kernel) rfl 3 rfl ?_
      refine Gz.bipush (n := 8) (v := (8 : Int32)) (pc' := 41) (by decide +kernel) rfl rfl ?_
      refine Gz.ishl (pc' := 42) (by decide +kernel) rfl ?_
      refine Gz.iload_n (q := 2) (pc' := 43) (by decide +kernel) rfl 4 rfl ?_
      refine Gz.iconst (n := 4) (v := (4 : Int32)) (pc' := 44) (by decide +kernel) rfl rfl ?_
      refine Gz.ishl (pc' := 45) (by decide +kernel) rfl ?_
      refine Gz.ior (pc' := 46) (by decide +kernel) rfl ?_
      refine Gz.iload_n (q := 3) (pc' := 47) (by decide +kernel) rfl 5 rfl ?_
      refine Gz.ior (pc' := 48) (by decide +kernel) rfl ?_
      obtain ⟨c9, h⟩ := zok_c h
      refine Gz.iast (pc' := 49) (n := (g_len 1 (6 + 1 + ix v1))) (by decide +kernel) rfl rfl c9 ?_
      refine Gz.nmW (fun w10 e11 => ?_)
      have h := zok_l e11 h
      refine Gz.aload_n (q := 0) (pc' := 50) (by decide +kernel) rfl 2 rfl ?_
      refine Gz.getR (pc' := 53) (j := 1) 16 fd_Oa_16 sh_5 rfl (by decide +kernel) rfl ?_
      refine Gz.iload (i := 4) (pc' := 55) (by decide +kernel) rfl 1 rfl ?_
      refine Gz.iload (i := 5) (pc' := 57) (by decide +kernel) rfl 0 rfl ?_
      refine Gz.iconst (n := 1) (v := (1 : Int32)) (pc' := 58) (by decide +kernel) rfl rfl ?_
      refine Gz.iadd (pc' := 59) (by decide +kernel) rfl ?_
      obtain ⟨c12, h⟩ := zok_c h
      refine Gz.iast (pc' := 60) (n := 9) (by decide +kernel) rfl rfl c12 ?_
      refine Gz.nmW (fun w13 e14 => ?_)
      have h := zok_l e14 h
      refine Gz.iconst (n := 1) (v := (1 : Int32)) (pc' := 61) (by decide +kernel) rfl rfl ?_
      exact Gz.zreturn (by decide +kernel) rfl (by decide) (zok_sI h)
    · have h := zok_f c7 h
      refine Gz.iconst (n := 0) (v := (0 : Int32)) (pc' := 28) (by decide +kernel) rfl rfl ?_
      exact Gz.zreturn (by decide +kernel) rfl (by decide) (zok_sI h)
def f_Oa_putThere (a1 : Int32) (w : gW) : Option (Int32 × gW) :=
zb (f_Oa_draft w) (fun v1 w2 =>
if inb v1 9 then
if inb v1 9 then
zl (zsI w2 17 (ix v1) ((w2.1 17 (ix v1)) ||| ((1 : Int32) <<< (a1 &&& 31)))) (fun w5 =>
zb (f_Oa_put (3 : Int32) a1 (0 : Int32) w5) (fun v7 w8 =>
if v7 &&& 1 = v7 then some (v7, w8) else none))
else none
else none)
theorem g_Oa_putThere {l : Launch} (a1 : Int32) (w : gW) : gCt l m_Oa_putThere 3 [.ref 5, .int a1] w eI (f_Oa_putThere a1 w) := by
  intro Q h
  unfold f_Oa_putThere at h
  show Gz l m_Oa_putThere 3 0 [(0, .ref 5), (1, .int a1)] [] w Q
  refine Gz.aload_n (q := 0) (pc' := 1) (by decide +kernel) rfl 0 rfl ?_
  refine Gz.getR (pc' := 4) (j := 2) 17 fd_Oa_20 sh_5 rfl (by decide +kernel) rfl ?_
  refine Gz.aload_n (q := 0) (pc' := 5) (by decide +kernel) rfl 0 rfl ?_
  refine Gz.callVI (st := [.ref 17]) (b := 5) (pc' := 8) [] (g_Oa_draft w) h ok_m_Oa_draft lk_Oa_39 sh_5 rfl rfl rfl (Nat.le_of_ble_eq_true rfl) (Nat.le_of_ble_eq_true rfl) (Nat.le_of_ble_eq_true rfl) (by decide +kernel) rfl (fun v1 w2 h => ?_)
  refine Gz.dup2 (pc' := 9) (by decide +kernel) rfl rfl rfl ?_
  obtain ⟨c3, h⟩ := zok_c h
  refine Gz.iald (pc' := 10) (n := 9) (by decide +kernel) rfl rfl c3 ?_
  refine Gz.iconst (n := 1) (v := (1 : Int32)) (pc' := 11) (by decide +kernel) rfl rfl ?_
  refine Gz.iload_n (q := 1) (pc' := 12) (by decide +kernel) rfl 1 rfl ?_
  refine Gz.ishl (pc' := 13) (by decide +kernel) rfl ?_
  refine Gz.ior (pc' := 14) (by decide +kernel) rfl ?_
  obtain ⟨c4, h⟩ := zok_c h
  refine Gz.iast (pc' := 15) (n := 9) (by decide +kernel) rfl rfl c4 ?_
  refine Gz.nmW (fun w5 e6 => ?_)
  have h := zok_l e6 h
  refine Gz.aload_n (q := 0) (pc' := 16) (by decide +kernel) rfl 0 rfl ?_
  refine Gz.iconst (n := 3) (v := (3 : Int32)) (pc' := 17) (by decide +kernel) rfl rfl ?_
  refine Gz.iload_n (q := 1) (pc' := 18) (by decide +kernel) rfl 1 rfl ?_
  refine Gz.iconst (n := 0) (v := (0 : Int32)) (pc' := 19) (by decide +kernel) rfl rfl ?_
  refine Gz.callVI (st := []) (b := 5) (pc' := 22) [.int (3 : Int32), .int a1, .int (0 : Int32)] (g_Oa_put (3 : Int32) a1 (0 : Int32) w5) h ok_m_Oa_put lk_Oa_60 sh_5 rfl rfl rfl (Nat.le_of_ble_eq_true rfl) (Nat.le_of_ble_eq_true rfl) (Nat.le_of_ble_eq_true rfl) (by decide +kernel) rfl (fun v7 w8 h => ?_)
  obtain ⟨c9, h⟩ := zok_c h
  exact Gz.zreturn (by decide +kernel) rfl c9 (zok_sI h)
def f_Tp_letter (w : gW) : Option (Int32 × gW) :=
zb (f_Tp_sign w) (fun v1 w2 =>
zl (v1 - (97 : Int32)) (fun v3 =>
if v3 < 0 then
(some ((-1 : Int32), w2))
else
(if v3 < (5 : Int32) then
(zb (f_Tp_step w2) (fun _ w7 =>
some (v3, w7)))
else
(some ((-1 : Int32), w2)))))
theorem g_Tp_letter {l : Launch} (w : gW) : gCt l m_Tp_letter 2 [.ref 1] w eI (f_Tp_letter w) := by
  intro Q h
  unfold f_Tp_letter at h
  show Gz l m_Tp_letter 2 0 [(0, .ref 1)] [] w Q
  refine Gz.aload_n (q := 0) (pc' := 1) (by decide +kernel) rfl 0 rfl ?_
  refine Gz.callVI (st := []) (b := 1) (pc' := 4) [] (g_Tp_sign w) h ok_m_Tp_sign lk_Tp_30 sh_1 rfl rfl rfl (Nat.le_of_ble_eq_true rfl) (Nat.le_of_ble_eq_true rfl) (Nat.le_of_ble_eq_true rfl) (by decide +kernel) rfl (fun v1 w2 h => ?_)
  refine Gz.bipush (n := 97) (v := (97 : Int32)) (pc' := 6) (by decide +kernel) rfl rfl ?_
  refine Gz.isub (pc' := 7) (by decide +kernel) rfl ?_
  refine Gz.nmI (fun v3 e4 => ?_)
  have h := zok_l e4 h
  refine Gz.istore_n (q := 1) (pc' := 8) (L' := [(1, .int v3), (0, .ref 1)]) (by decide +kernel) rfl (Nat.le_of_ble_eq_true rfl) rfl ?_
  refine Gz.iload_n (q := 1) (pc' := 9) (by decide +kernel) rfl 0 rfl ?_
  refine Gz.if_lt (off := 8) (tgt := 17) (pc' := 12) (by decide +kernel) (by decide) rfl (fun c5 => ?_) (fun c5 => ?_)
  · have h := zok_t c5 h
    refine Gz.iconst (n := -1) (v := (-1 : Int32)) (pc' := 18) (by decide +kernel) rfl rfl ?_
    exact Gz.ireturn (by decide +kernel) rfl (zok_sI h)
  · have h := zok_f c5 h
    refine Gz.iload_n (q := 1) (pc' := 13) (by decide +kernel) rfl 0 rfl ?_
    refine Gz.iconst (n := 5) (v := (5 : Int32)) (pc' := 14) (by decide +kernel) rfl rfl ?_
    refine Gz.icmp_lt (off := 5) (tgt := 19) (pc' := 17) (by decide +kernel) (by decide) rfl (fun c6 => ?_) (fun c6 => ?_)
    · have h := zok_t c6 h
      refine Gz.aload_n (q := 0) (pc' := 20) (by decide +kernel) rfl 1 rfl ?_
      refine Gz.callVV (st := []) (b := 1) (pc' := 23) [] (g_Tp_step w2) h ok_m_Tp_step lk_Tp_34 sh_1 rfl rfl rfl (Nat.le_of_ble_eq_true rfl) (Nat.le_of_ble_eq_true rfl) (Nat.le_of_ble_eq_true rfl) (by decide +kernel) rfl (fun _ w7 h => ?_)
      refine Gz.iload_n (q := 1) (pc' := 24) (by decide +kernel) rfl 0 rfl ?_
      exact Gz.ireturn (by decide +kernel) rfl (zok_sI h)
    · have h := zok_f c6 h
      refine Gz.iconst (n := -1) (v := (-1 : Int32)) (pc' := 18) (by decide +kernel) rfl rfl ?_
      exact Gz.ireturn (by decide +kernel) rfl (zok_sI h)
def f_Oa_readRest_b45 (x2 : Int32) (x4 : Int32) (s1 : Int32) (w : gW) : Option (Int32 × gW) :=
zb (f_Oa_put s1 x2 x4 w) (fun v1 w2 =>
if v1 = 0 then
(some ((0 : Int32), w2))
else
(some ((1 : Int32), w2)))
def f_Oa_readRest_b17 (x2 : Int32) (x3 : Int32) (w : gW) : Option (Int32 × gW) :=
zb (f_Tp_step w) (fun _ w1 =>
zb (f_Tp_letter w1) (fun v2 w3 =>
if v2 = (-1 : Int32) then
(some ((0 : Int32), w3))
else
(if x3 = (60 : Int32) then
(f_Oa_readRest_b45 x2 v2 (1 : Int32) w3)
else
(f_Oa_readRest_b45 x2 v2 (2 : Int32) w3))))
def f_Oa_readRest_b72 (x2 : Int32) (w : gW) : Option (Int32 × gW) :=
zb (f_Oa_put (0 : Int32) x2 (5 : Int32) w) (fun v1 w2 =>
if v1 &&& 1 = v1 then some (v1, w2) else none)
def f_Oa_readRest (a2 : Int32) (w : gW) : Option (Int32 × gW) :=
zb (f_Tp_sign w) (fun v1 w2 =>
if v1 = (60 : Int32) then
(f_Oa_readRest_b17 a2 v1 w2)
else
(if v1 = (61 : Int32) then
(f_Oa_readRest_b17 a2 v1 w2)
else
(if v1 < (48 : Int32) then
(f_Oa_readRest_b72 a2 w2)
else
(if v1 ≤ (57 : Int32) then
(zb (f_Tp_digit (0 : Int32) (5 : Int32) w2) (fun v7 w8 =>
if v7 = (-1 : Int32) then
(some ((0 : Int32), w8))
else
(zb (f_Oa_put (0 : Int32) a2 v7 w8) (fun v10 w11 =>
if v10 = 0 then
(some ((0 : Int32), w11))
else
(some ((1 : Int32), w11))))))
else
(f_Oa_readRest_b72 a2 w2)))))
theorem g_Oa_readRest_b45 {l : Launch} {Q : Option Value → gW → Prop} (x2 : Int32) (x4 : Int32) (s1 : Int32) (w : gW) (h : zok eI (f_Oa_readRest_b45 x2 x4 s1 w) Q) : Gz l m_Oa_readRest 3 45 [(2, .int x2), (4, .int x4)] [.int s1, .ref 5] w Q := by
  unfold f_Oa_readRest_b45 at h
  refine Gz.iload_n (q := 2) (pc' := 46) (by decide +kernel) rfl 0 rfl ?_
  refine Gz.iload (i := 4) (pc' := 48) (by decide +kernel) rfl 1 rfl ?_
  refine Gz.callVI (st := []) (b := 5) (pc' := 51) [.int s1, .int x2, .int x4] (g_Oa_put s1 x2 x4 w) h ok_m_Oa_put lk_Oa_60 sh_5 rfl rfl rfl (Nat.le_of_ble_eq_true rfl) (Nat.le_of_ble_eq_true rfl) (Nat.le_of_ble_eq_true rfl) (by decide +kernel) rfl (fun v1 w2 h => ?_)
  refine Gz.if_eq (off := 7) (tgt := 58) (pc' := 54) (by decide +kernel) (by decide) rfl (fun c3 => ?_) (fun c3 => ?_)
  · have h := zok_t c3 h
    refine Gz.iconst (n := 0) (v := (0 : Int32)) (pc' := 59) (by decide +kernel) rfl rfl ?_
    exact Gz.zreturn (by decide +kernel) rfl (by decide) (zok_sI h)
  · have h := zok_f c3 h
    refine Gz.iconst (n := 1) (v := (1 : Int32)) (pc' := 55) (by decide +kernel) rfl rfl ?_
    refine Gz.goto (off := 4) (tgt := 59) (by decide +kernel) (by decide) ?_
    exact Gz.zreturn (by decide +kernel) rfl (by decide) (zok_sI h)
theorem g_Oa_readRest_b17 {l : Launch} {Q : Option Value → gW → Prop} (x2 : Int32) (x3 : Int32) (w : gW) (h : zok eI (f_Oa_readRest_b17 x2 x3 w) Q) : Gz l m_Oa_readRest 3 17 [(0, .ref 5), (1, .ref 1), (2, .int x2), (3, .int x3)] [] w Q := by
  unfold f_Oa_readRest_b17 at h
  refine Gz.aload_n (q := 1) (pc' := 18) (by decide +kernel) rfl 1 rfl ?_
  refine Gz.callVV (st := []) (b := 1) (pc' := 21) [] (g_Tp_step w) h ok_m_Tp_step lk_Oa_70 sh_1 rfl rfl rfl (Nat.le_of_ble_eq_true rfl) (Nat.le_of_ble_eq_true rfl) (Nat.le_of_ble_eq_true rfl) (by decide +kernel) rfl (fun _ w1 h => ?_)
  refine Gz.aload_n (q := 1) (pc' := 22) (by decide +kernel) rfl 1 rfl ?_
  refine Gz.callVI (st := []) (b := 1) (pc' := 25) [] (g_Tp_letter w1) h ok_m_Tp_letter lk_Oa_80 sh_1 rfl rfl rfl (Nat.le_of_ble_eq_true rfl) (Nat.le_of_ble_eq_true rfl) (Nat.le_of_ble_eq_true rfl) (by decide +kernel) rfl (fun v2 w3 h => ?_)
  refine Gz.istore (i := 4) (pc' := 27) (L' := [(4, .int v2), (0, .ref 5), (1, .ref 1), (2, .int x2), (3, .int x3)]) (by decide +kernel) rfl (Nat.le_of_ble_eq_true rfl) rfl ?_
  refine Gz.iload (i := 4) (pc' := 29) (by decide +kernel) rfl 0 rfl ?_
  refine Gz.iconst (n := -1) (v := (-1 : Int32)) (pc' := 30) (by decide +kernel) rfl rfl ?_
  refine Gz.icmp_eq (off := 28) (tgt := 58) (pc' := 33) (by decide +kernel) (by decide) rfl (fun c4 => ?_) (fun c4 => ?_)
  · have h := zok_t c4 h
    refine Gz.iconst (n := 0) (v := (0 : Int32)) (pc' := 59) (by decide +kernel) rfl rfl ?_
    exact Gz.zreturn (by decide +kernel) rfl (by decide) (zok_sI h)
  · have h := zok_f c4 h
    refine Gz.aload_n (q := 0) (pc' := 34) (by decide +kernel) rfl 1 rfl ?_
    refine Gz.iload_n (q := 3) (pc' := 35) (by decide +kernel) rfl 4 rfl ?_
    refine Gz.bipush (n := 60) (v := (60 : Int32)) (pc' := 37) (by decide +kernel) rfl rfl ?_
    refine Gz.icmp_ne (off := 7) (tgt := 44) (pc' := 40) (by decide +kernel) (by decide) rfl (fun c5 => ?_) (fun c5 => ?_)
    · have h := zok_f c5 h
      refine Gz.iconst (n := 2) (v := (2 : Int32)) (pc' := 45) (by decide +kernel) rfl rfl ?_
      refine Gz.sub (L' := [(2, .int x2), (4, .int v2)]) [3, 0] rfl ?_
      exact g_Oa_readRest_b45 x2 v2 (2 : Int32) w3 h
    · have h := zok_t c5 h
      refine Gz.iconst (n := 1) (v := (1 : Int32)) (pc' := 41) (by decide +kernel) rfl rfl ?_
      refine Gz.goto (off := 4) (tgt := 45) (by decide +kernel) (by decide) ?_
      refine Gz.sub (L' := [(2, .int x2), (4, .int v2)]) [3, 0] rfl ?_
      exact g_Oa_readRest_b45 x2 v2 (1 : Int32) w3 h
theorem g_Oa_readRest_b72 {l : Launch} {Q : Option Value → gW → Prop} (x2 : Int32) (w : gW) (h : zok eI (f_Oa_readRest_b72 x2 w) Q) : Gz l m_Oa_readRest 3 72 [(0, .ref 5), (2, .int x2)] [] w Q := by
  unfold f_Oa_readRest_b72 at h
  refine Gz.aload_n (q := 0) (pc' := 73) (by decide +kernel) rfl 0 rfl ?_
  refine Gz.iconst (n := 0) (v := (0 : Int32)) (pc' := 74) (by decide +kernel) rfl rfl ?_
  refine Gz.iload_n (q := 2) (pc' := 75) (by decide +kernel) rfl 1 rfl ?_
  refine Gz.iconst (n := 5) (v := (5 : Int32)) (pc' := 76) (by decide +kernel) rfl rfl ?_
  refine Gz.callVI (st := []) (b := 5) (pc' := 79) [.int (0 : Int32), .int x2, .int (5 : Int32)] (g_Oa_put (0 : Int32) x2 (5 : Int32) w) h ok_m_Oa_put lk_Oa_60 sh_5 rfl rfl rfl (Nat.le_of_ble_eq_true rfl) (Nat.le_of_ble_eq_true rfl) (Nat.le_of_ble_eq_true rfl) (by decide +kernel) rfl (fun v1 w2 h => ?_)
  obtain ⟨c3, h⟩ := zok_c h
  exact Gz.zreturn (by decide +kernel) rfl c3 (zok_sI h)
theorem g_Oa_readRest {l : Launch} (a2 : Int32) (w : gW) : gCt l m_Oa_readRest 3 [.ref 5, .ref 1, .int a2] w eI (f_Oa_readRest a2 w) := by
  intro Q h
  unfold f_Oa_readRest at h
  show Gz l m_Oa_readRest 3 0 [(0, .ref 5), (1, .ref 1), (2, .int a2)] [] w Q
  refine Gz.aload_n (q := 1) (pc' := 1) (by decide +kernel) rfl 1 rfl ?_
  refine Gz.callVI (st := []) (b := 1) (pc' := 4) [] (g_Tp_sign w) h ok_m_Tp_sign lk_Oa_67 sh_1 rfl rfl rfl (Nat.le_of_ble_eq_true rfl) (Nat.le_of_ble_eq_true rfl) (Nat.le_of_ble_eq_true rfl) (by decide +kernel) rfl (fun v1 w2 h => ?_)
  refine Gz.istore_n (q := 3) (pc' := 5) (L' := [(3, .int v1), (0, .ref 5), (1, .ref 1), (2, .int a2)]) (by decide +kernel) rfl (Nat.le_of_ble_eq_true rfl) rfl ?_
  refine Gz.iload_n (q := 3) (pc' := 6) (by decide +kernel) rfl 0 rfl ?_
  refine Gz.bipush (n := 60) (v := (60 : Int32)) (pc' := 8) (by decide +kernel) rfl rfl ?_
  refine Gz.icmp_eq (off := 9) (tgt := 17) (pc' := 11) (by decide +kernel) (by decide) rfl (fun c3 => ?_) (fun c3 => ?_)
  · have h := zok_t c3 h
    refine Gz.sub (L' := [(0, .ref 5), (1, .ref 1), (2, .int a2), (3, .int v1)]) [1, 2, 3, 0] rfl ?_
    exact g_Oa_readRest_b17 a2 v1 w2 h
  · have h := zok_f c3 h
    refine Gz.iload_n (q := 3) (pc' := 12) (by decide +kernel) rfl 0 rfl ?_
    refine Gz.bipush (n := 61) (v := (61 : Int32)) (pc' := 14) (by decide +kernel) rfl rfl ?_
    refine Gz.icmp_ne (off := 46) (tgt := 60) (pc' := 17) (by decide +kernel) (by decide) rfl (fun c4 => ?_) (fun c4 => ?_)
    · have h := zok_f c4 h
      refine Gz.iload_n (q := 3) (pc' := 61) (by decide +kernel) rfl 0 rfl ?_
      refine Gz.bipush (n := 48) (v := (48 : Int32)) (pc' := 63) (by decide +kernel) rfl rfl ?_
      refine Gz.icmp_lt (off := 9) (tgt := 72) (pc' := 66) (by decide +kernel) (by decide) rfl (fun c5 => ?_) (fun c5 => ?_)
      · have h := zok_t c5 h
        refine Gz.sub (L' := [(0, .ref 5), (2, .int a2)]) [1, 3] rfl ?_
        exact g_Oa_readRest_b72 a2 w2 h
      · have h := zok_f c5 h
        refine Gz.iload_n (q := 3) (pc' := 67) (by decide +kernel) rfl 0 rfl ?_
        refine Gz.bipush (n := 57) (v := (57 : Int32)) (pc' := 69) (by decide +kernel) rfl rfl ?_
        refine Gz.icmp_le (off := 11) (tgt := 80) (pc' := 72) (by decide +kernel) (by decide) rfl (fun c6 => ?_) (fun c6 => ?_)
        · have h := zok_t c6 h
          refine Gz.aload_n (q := 1) (pc' := 81) (by decide +kernel) rfl 2 rfl ?_
          refine Gz.iconst (n := 0) (v := (0 : Int32)) (pc' := 82) (by decide +kernel) rfl rfl ?_
          refine Gz.iconst (n := 5) (v := (5 : Int32)) (pc' := 83) (by decide +kernel) rfl rfl ?_
          refine Gz.callVI (st := []) (b := 1) (pc' := 86) [.int (0 : Int32), .int (5 : Int32)] (g_Tp_digit (0 : Int32) (5 : Int32) w2) h ok_m_Tp_digit lk_Oa_73 sh_1 rfl rfl rfl (Nat.le_of_ble_eq_true rfl) (Nat.le_of_ble_eq_true rfl) (Nat.le_of_ble_eq_true rfl) (by decide +kernel) rfl (fun v7 w8 h => ?_)
          refine Gz.istore (i := 4) (pc' := 88) (L' := [(4, .int v7), (3, .int v1), (0, .ref 5), (1, .ref 1), (2, .int a2)]) (by decide +kernel) rfl (Nat.le_of_ble_eq_true rfl) rfl ?_
          refine Gz.iload (i := 4) (pc' := 90) (by decide +kernel) rfl 0 rfl ?_
          refine Gz.iconst (n := -1) (v := (-1 : Int32)) (pc' := 91) (by decide +kernel) rfl rfl ?_
          refine Gz.icmp_eq (off := 18) (tgt := 109) (pc' := 94) (by decide +kernel) (by decide) rfl (fun c9 => ?_) (fun c9 => ?_)
          · have h := zok_t c9 h
            refine Gz.iconst (n := 0) (v := (0 : Int32)) (pc' := 110) (by decide +kernel) rfl rfl ?_
            exact Gz.zreturn (by decide +kernel) rfl (by decide) (zok_sI h)
          · have h := zok_f c9 h
            refine Gz.aload_n (q := 0) (pc' := 95) (by decide +kernel) rfl 2 rfl ?_
            refine Gz.iconst (n := 0) (v := (0 : Int32)) (pc' := 96) (by decide +kernel) rfl rfl ?_
            refine Gz.iload_n (q := 2) (pc' := 97) (by decide +kernel) rfl 4 rfl ?_
            refine Gz.iload (i := 4) (pc' := 99) (by decide +kernel) rfl 0 rfl ?_
            refine Gz.callVI (st := []) (b := 5) (pc' := 102) [.int (0 : Int32), .int a2, .int v7] (g_Oa_put (0 : Int32) a2 v7 w8) h ok_m_Oa_put lk_Oa_60 sh_5 rfl rfl rfl (Nat.le_of_ble_eq_true rfl) (Nat.le_of_ble_eq_true rfl) (Nat.le_of_ble_eq_true rfl) (by decide +kernel) rfl (fun v10 w11 h => ?_)
            refine Gz.if_eq (off := 7) (tgt := 109) (pc' := 105) (by decide +kernel) (by decide) rfl (fun c12 => ?_) (fun c12 => ?_)
            · have h := zok_t c12 h
              refine Gz.iconst (n := 0) (v := (0 : Int32)) (pc' := 110) (by decide +kernel) rfl rfl ?_
              exact Gz.zreturn (by decide +kernel) rfl (by decide) (zok_sI h)
            · have h := zok_f c12 h
              refine Gz.iconst (n := 1) (v := (1 : Int32)) (pc' := 106) (by decide +kernel) rfl rfl ?_
              refine Gz.goto (off := 4) (tgt := 110) (by decide +kernel) (by decide) ?_
              exact Gz.zreturn (by decide +kernel) rfl (by decide) (zok_sI h)
        · have h := zok_f c6 h
          refine Gz.sub (L' := [(0, .ref 5), (2, .int a2)]) [1, 3] rfl ?_
          exact g_Oa_readRest_b72 a2 w2 h
    · have h := zok_t c4 h
      refine Gz.sub (L' := [(0, .ref 5), (1, .ref 1), (2, .int a2), (3, .int v1)]) [1, 2, 3, 0] rfl ?_
      exact g_Oa_readRest_b17 a2 v1 w2 h
