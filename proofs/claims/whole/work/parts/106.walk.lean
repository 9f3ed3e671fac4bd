def f_Ro_topLevel_b5_s (k5 : Nat → Int32 → gW → Option (Int32 × gW)) (x0 : Nat) (x1 : Int32) (w : gW) : Option (Int32 × gW) :=
if x1 < 0 then
(some ((-1 : Int32), w))
else
(if inb x1 (g_len 2 x0) then
if (lg_cmp (w.2 x0 (ix x1)) (0 : Int64)) = 0 then
(zl (x1 + (-1 : Int32)) (fun v4 =>
k5 x0 v4 w))
else
(some (x1, w))
else none)
def f_Ro_topLevel_b5 : Nat → Int32 → gW → Option (Int32 × gW) := zfx (fun _ _ _ => none) (f_Ro_topLevel_b5_s) zFU
def f_Ro_topLevel (a0 : Nat) (w : gW) : Option (Int32 × gW) :=
if (g_sh a0).1 = 2 then
zl ((nI (g_len 2 a0)) - (1 : Int32)) (fun v2 =>
f_Ro_topLevel_b5 a0 v2 w)
else none
theorem g_Ro_topLevel_b5_s {l : Launch} {Q : Option Value → gW → Prop} (k5 : Nat → Int32 → gW → Option (Int32 × gW)) (hk5 : ∀ (x0 : Nat) (x1 : Int32) (w : gW), zok eI (k5 x0 x1 w) Q → Gz l m_Ro_topLevel 1 5 [(0, .ref x0), (1, .int x1)] [] w Q) (x0 : Nat) (x1 : Int32) (w : gW) (h : zok eI (f_Ro_topLevel_b5_s k5 x0 x1 w) Q) : Gz l m_Ro_topLevel 1 5 [(0, .ref x0), (1, .int x1)] [] w Q := by
  unfold f_Ro_topLevel_b5_s at h
  refine Gz.iload_n (q := 1) (pc' := 6) (by decide +kernel) rfl 1 rfl ?_
  refine Gz.if_lt (off := 19) (tgt := 25) (pc' := 9) (by decide +kernel) (by decide) rfl (fun c1 => ?_) (fun c1 => ?_)
  · have h := zok_t c1 h
    refine Gz.iconst (n := -1) (v := (-1 : Int32)) (pc' := 26) (by decide +kernel) rfl rfl ?_
    exact Gz.ireturn (by decide +kernel) rfl (zok_sI h)
  · have h := zok_f c1 h
    refine Gz.aload_n (q := 0) (pc' := 10) (by decide +kernel) rfl 0 rfl ?_
    refine Gz.iload_n (q := 1) (pc' := 11) (by decide +kernel) rfl 1 rfl ?_
    obtain ⟨c2, h⟩ := zok_c h
    refine Gz.lald (pc' := 12) (n := (g_len 2 x0)) (by decide +kernel) rfl rfl c2 ?_
    refine Gz.lconst (n := 0) (v := (0 : Int64)) (pc' := 13) (by decide +kernel) rfl rfl ?_
    refine Gz.lcmp (pc' := 14) (by decide +kernel) rfl ?_
    refine Gz.if_eq (off := 5) (tgt := 19) (pc' := 17) (by decide +kernel) (by decide) rfl (fun c3 => ?_) (fun c3 => ?_)
    · have h := zok_t c3 h
      obtain ⟨v4, e5⟩ : ∃ y : Int32, y = x1 + (-1 : Int32) := ⟨_, rfl⟩
      have h := zok_l e5 h
      refine Gz.iinc (i := 1) (n := -1) (pc' := 22) (L' := [(1, .int v4), (0, .ref x0)]) v4 (by decide +kernel) rfl 1 rfl (by rw [e5]; rfl) (Nat.le_of_ble_eq_true rfl) rfl ?_
      refine Gz.goto (off := -17) (tgt := 5) (by decide +kernel) (by decide) ?_
      refine Gz.sub (L' := [(0, .ref x0), (1, .int v4)]) [1, 0] rfl ?_
      exact hk5 x0 v4 w h
    · have h := zok_f c3 h
      refine Gz.iload_n (q := 1) (pc' := 18) (by decide +kernel) rfl 1 rfl ?_
      exact Gz.ireturn (by decide +kernel) rfl (zok_sI h)
theorem g_Ro_topLevel_b5 {l : Launch} {Q : Option Value → gW → Prop} (x0 : Nat) (x1 : Int32) (w : gW) (h : zok eI (f_Ro_topLevel_b5 x0 x1 w) Q) : Gz l m_Ro_topLevel 1 5 [(0, .ref x0), (1, .int x1)] [] w Q := by
  have key : ∀ (n : Nat) (x0 : Nat) (x1 : Int32) (w : gW), zok eI (zfx (fun _ _ _ => none) (f_Ro_topLevel_b5_s) n x0 x1 w) Q → Gz l m_Ro_topLevel 1 5 [(0, .ref x0), (1, .int x1)] [] w Q := by
    intro n
    induction n with
    | zero => intro x0 x1 w h; exact zok_n h
    | succ n ih => intro x0 x1 w h; exact g_Ro_topLevel_b5_s _ ih x0 x1 w h
  exact key zFU x0 x1 w h
theorem g_Ro_topLevel {l : Launch} (a0 : Nat) (w : gW) : gCt l m_Ro_topLevel 1 [.ref a0] w eI (f_Ro_topLevel a0 w) := by
  intro Q h
  unfold f_Ro_topLevel at h
  show Gz l m_Ro_topLevel 1 0 [(0, .ref a0)] [] w Q
  refine Gz.aload_n (q := 0) (pc' := 1) (by decide +kernel) rfl 0 rfl ?_
  obtain ⟨c1, h⟩ := zok_c h
  refine Gz.alen (pc' := 2) (n := g_len 2 a0) (kd := 2) (by decide +kernel) rfl (Or.inr rfl) c1 rfl ?_
  refine Gz.iconst (n := 1) (v := (1 : Int32)) (pc' := 3) (by decide +kernel) rfl rfl ?_
  refine Gz.isub (pc' := 4) (by decide +kernel) rfl ?_
  refine Gz.nmI (fun v2 e3 => ?_)
  have h := zok_l e3 h
  refine Gz.istore_n (q := 1) (pc' := 5) (L' := [(1, .int v2), (0, .ref a0)]) (by decide +kernel) rfl (Nat.le_of_ble_eq_true rfl) rfl ?_
  refine Gz.sub (L' := [(0, .ref a0), (1, .int v2)]) [1, 0] rfl ?_
  exact g_Ro_topLevel_b5 a0 v2 w h
def f_Cs_leastBits_b75 (k17 : Int32 → Int32 → Int64 → Int32 → gW → Option (Int32 × gW)) (x3 : Int32) (x4 : Int32) (x7 : Int32) (s0 : Int64) (w : gW) : Option (Int32 × gW) :=
zl (x7 + (-1 : Int32)) (fun v1 =>
k17 x3 x4 s0 v1 w)
def f_Cs_leastBits_b58 (k17 : Int32 → Int32 → Int64 → Int32 → gW → Option (Int32 × gW)) (x3 : Int32) (x5 : Int64) (x7 : Int32) (x8 : Int64) (s0 : Int32) (s1 : Int32) (w : gW) : Option (Int32 × gW) :=
zl (s0 ||| s1) (fun v1 =>
if (lg_cmp x8 (0 : Int64)) = 0 then
(f_Cs_leastBits_b75 k17 x3 v1 x7 x5 w)
else
(f_Cs_leastBits_b75 k17 x3 v1 x7 x8 w))
def f_Cs_leastBits_b17_s (k17 : Int32 → Int32 → Int64 → Int32 → gW → Option (Int32 × gW)) (x3 : Int32) (x4 : Int32) (x5 : Int64) (x7 : Int32) (w : gW) : Option (Int32 × gW) :=
if x7 < 0 then
(some (x4, w))
else
(zb (f_Cs_rowOf x7 w) (fun v2 w3 =>
zb (f_Ro_word v2 x3 w3) (fun v4 w5 =>
zl (x5 &&& (v4 ^^^ (-1 : Int64))) (fun v6 =>
if (lg_cmp v6 (0 : Int64)) = 0 then
(f_Cs_leastBits_b58 k17 x3 x5 x7 v6 x4 ((1 : Int32) <<< (x7 &&& 31)) w5)
else
(f_Cs_leastBits_b58 k17 x3 x5 x7 v6 x4 (0 : Int32) w5)))))
def f_Cs_leastBits_b17 : Int32 → Int32 → Int64 → Int32 → gW → Option (Int32 × gW) := zfx (fun _ _ _ _ _ => none) (f_Cs_leastBits_b17_s) zFU
def f_Cs_leastBits (a1 : Int64) (a3 : Int32) (w : gW) : Option (Int32 × gW) :=
zb (f_Oa_size w) (fun v1 w2 =>
zl (v1 - (1 : Int32)) (fun v3 =>
f_Cs_leastBits_b17 a3 (0 : Int32) a1 v3 w2))
theorem g_Cs_leastBits_b75 {l : Launch} {Q : Option Value → gW → Prop} (k17 : Int32 → Int32 → Int64 → Int32 → gW → Option (Int32 × gW)) (hk17 : ∀ (x3 : Int32) (x4 : Int32) (x5 : Int64) (x7 : Int32) (w : gW), zok eI (k17 x3 x4 x5 x7 w) Q → Gz l m_Cs_leastBits 2 17 [(0, .ref 88), (3, .int x3), (4, .int x4), (5, .long x5), (7, .int x7)] [] w Q) (x3 : Int32) (x4 : Int32) (x7 : Int32) (s0 : Int64) (w : gW) (h : zok eI (f_Cs_leastBits_b75 k17 x3 x4 x7 s0 w) Q) : Gz l m_Cs_leastBits 2 75 [(0, .ref 88), (3, .int x3), (4, .int x4), (7, .int x7)] [.long s0] w Q := by
  unfold f_Cs_leastBits_b75 at h
  refine Gz.lstore (i := 5) (pc' := 77) (L' := [(5, .long s0), (0, .ref 88), (3, .int x3), (4, .int x4), (7, .int x7)]) (by decide +kernel) rfl (Nat.le_of_ble_eq_true rfl) rfl ?_
  obtain ⟨v1, e2⟩ : ∃ y : Int32, y = x7 + (-1 : Int32) := ⟨_, rfl⟩
  have h := zok_l e2 h
  refine Gz.iinc (i := 7) (n := -1) (pc' := 80) (L' := [(7, .int v1), (5, .long s0), (0, .ref 88), (3, .int x3), (4, .int x4)]) v1 (by decide +kernel) rfl 4 rfl (by rw [e2]; rfl) (Nat.le_of_ble_eq_true rfl) rfl ?_
  refine Gz.goto (off := -63) (tgt := 17) (by decide +kernel) (by decide) ?_
  refine Gz.sub (L' := [(0, .ref 88), (3, .int x3), (4, .int x4), (5, .long s0), (7, .int v1)]) [2, 3, 4, 1, 0] rfl ?_
  exact hk17 x3 x4 s0 v1 w h
theorem g_Cs_leastBits_b58 {l : Launch} {Q : Option Value → gW → Prop} (k17 : Int32 → Int32 → Int64 → Int32 → gW → Option (Int32 × gW)) (hk17 : ∀ (x3 : Int32) (x4 : Int32) (x5 : Int64) (x7 : Int32) (w : gW), zok eI (k17 x3 x4 x5 x7 w) Q → Gz l m_Cs_leastBits 2 17 [(0, .ref 88), (3, .int x3), (4, .int x4), (5, .long x5), (7, .int x7)] [] w Q) (x3 : Int32) (x5 : Int64) (x7 : Int32) (x8 : Int64) (s0 : Int32) (s1 : Int32) (w : gW) (h : zok eI (f_Cs_leastBits_b58 k17 x3 x5 x7 x8 s0 s1 w) Q) : Gz l m_Cs_leastBits 2 58 [(0, .ref 88), (3, .int x3), (5, .long x5), (7, .int x7), (8, .long x8)] [.int s1, .int s0] w Q := by
  unfold f_Cs_leastBits_b58 at h
  refine Gz.ior (pc' := 59) (by decide +kernel) rfl ?_
  refine Gz.nmI (fun v1 e2 => ?_)
  have h := zok_l e2 h
  refine Gz.istore (i := 4) (pc' := 61) (L' := [(4, .int v1), (0, .ref 88), (3, .int x3), (5, .long x5), (7, .int x7), (8, .long x8)]) (by decide +kernel) rfl (Nat.le_of_ble_eq_true rfl) rfl ?_
  refine Gz.lload (i := 8) (pc' := 63) (by decide +kernel) rfl 5 rfl ?_
  refine Gz.lconst (n := 0) (v := (0 : Int64)) (pc' := 64) (by decide +kernel) rfl rfl ?_
  refine Gz.lcmp (pc' := 65) (by decide +kernel) rfl ?_
  refine Gz.if_ne (off := 8) (tgt := 73) (pc' := 68) (by decide +kernel) (by decide) rfl (fun c3 => ?_) (fun c3 => ?_)
  · have h := zok_f c3 h
    refine Gz.lload (i := 8) (pc' := 75) (by decide +kernel) rfl 5 rfl ?_
    refine Gz.sub (L' := [(0, .ref 88), (3, .int x3), (4, .int v1), (7, .int x7)]) [1, 2, 0, 4] rfl ?_
    exact g_Cs_leastBits_b75 k17 hk17 x3 v1 x7 x8 w h
  · have h := zok_t c3 h
    refine Gz.lload (i := 5) (pc' := 70) (by decide +kernel) rfl 3 rfl ?_
    refine Gz.goto (off := 5) (tgt := 75) (by decide +kernel) (by decide) ?_
    refine Gz.sub (L' := [(0, .ref 88), (3, .int x3), (4, .int v1), (7, .int x7)]) [1, 2, 0, 4] rfl ?_
    exact g_Cs_leastBits_b75 k17 hk17 x3 v1 x7 x5 w h
theorem g_Cs_leastBits_b17_s {l : Launch} {Q : Option Value → gW → Prop} (k17 : Int32 → Int32 → Int64 → Int32 → gW → Option (Int32 × gW)) (hk17 : ∀ (x3 : Int32) (x4 : Int32) (x5 : Int64) (x7 : Int32) (w : gW), zok eI (k17 x3 x4 x5 x7 w) Q → Gz l m_Cs_leastBits 2 17 [(0, .ref 88), (3, .int x3), (4, .int x4), (5, .long x5), (7, .int x7)] [] w Q) (x3 : Int32) (x4 : Int32) (x5 : Int64) (x7 : Int32) (w : gW) (h : zok eI (f_Cs_leastBits_b17_s k17 x3 x4 x5 x7 w) Q) : Gz l m_Cs_leastBits 2 17 [(0, .ref 88), (3, .int x3), (4, .int x4), (5, .long x5), (7, .int x7)] [] w Q := by
  unfold f_Cs_leastBits_b17_s at h
  refine Gz.iload (i := 7) (pc' := 19) (by decide +kernel) rfl 4 rfl ?_
  refine Gz.if_lt (off := 64) (tgt := 83) (pc' := 22) (by decide +kernel) (by decide) rfl (fun c1 => ?_) (fun c1 => ?_)
  · have h := zok_t c1 h
    refine Gz.iload (i := 4) (pc' := 85) (by decide +kernel) rfl 2 rfl ?_
    exact Gz.ireturn (by decide +kernel) rfl (zok_sI h)
  · have h := zok_f c1 h
    refine Gz.lload (i := 5) (pc' := 24) (by decide +kernel) rfl 3 rfl ?_
    refine Gz.aload_n (q := 0) (pc' := 25) (by decide +kernel) rfl 0 rfl ?_
    refine Gz.iload (i := 7) (pc' := 27) (by decide +kernel) rfl 4 rfl ?_
    refine Gz.callVR (st := [.long x5]) (b := 88) (pc' := 30) [.int x7] (g_Cs_rowOf x7 w) h ok_m_Cs_rowOf lk_Cs_48 sh_88 rfl rfl rfl (Nat.le_of_ble_eq_true rfl) (Nat.le_of_ble_eq_true rfl) (Nat.le_of_ble_eq_true rfl) (by decide +kernel) rfl (fun v2 w3 h => ?_)
    refine Gz.iload_n (q := 3) (pc' := 31) (by decide +kernel) rfl 1 rfl ?_
    refine Gz.callSJ (st := [.long x5]) (pc' := 34) [.ref v2, .int x3] (g_Ro_word v2 x3 w3) h ok_m_Ro_word lk_Cs_87 rfl (Nat.le_of_ble_eq_true rfl) (Nat.le_of_ble_eq_true rfl) (Nat.le_of_ble_eq_true rfl) (by decide +kernel) rfl (fun v4 w5 h => ?_)
    refine Gz.ldc2 (idx := 134) (v := (-1 : Int64)) (pc' := 37) (by decide +kernel) rfl kc_Cs_134 ?_
    refine Gz.lxor (pc' := 38) (by decide +kernel) rfl ?_
    refine Gz.land (pc' := 39) (by decide +kernel) rfl ?_
    refine Gz.nmJ (fun v6 e7 => ?_)
    have h := zok_l e7 h
    refine Gz.lstore (i := 8) (pc' := 41) (L' := [(8, .long v6), (0, .ref 88), (3, .int x3), (4, .int x4), (5, .long x5), (7, .int x7)]) (by decide +kernel) rfl (Nat.le_of_ble_eq_true rfl) rfl ?_
    refine Gz.iload (i := 4) (pc' := 43) (by decide +kernel) rfl 3 rfl ?_
    refine Gz.lload (i := 8) (pc' := 45) (by decide +kernel) rfl 0 rfl ?_
    refine Gz.lconst (n := 0) (v := (0 : Int64)) (pc' := 46) (by decide +kernel) rfl rfl ?_
    refine Gz.lcmp (pc' := 47) (by decide +kernel) rfl ?_
    refine Gz.if_ne (off := 10) (tgt := 57) (pc' := 50) (by decide +kernel) (by decide) rfl (fun c8 => ?_) (fun c8 => ?_)
    · have h := zok_f c8 h
      refine Gz.iconst (n := 0) (v := (0 : Int32)) (pc' := 58) (by decide +kernel) rfl rfl ?_
      refine Gz.sub (L' := [(0, .ref 88), (3, .int x3), (5, .long x5), (7, .int x7), (8, .long v6)]) [1, 2, 4, 5, 0] rfl ?_
      exact g_Cs_leastBits_b58 k17 hk17 x3 x5 x7 v6 x4 (0 : Int32) w5 h
    · have h := zok_t c8 h
      refine Gz.iconst (n := 1) (v := (1 : Int32)) (pc' := 51) (by decide +kernel) rfl rfl ?_
      refine Gz.iload (i := 7) (pc' := 53) (by decide +kernel) rfl 5 rfl ?_
      refine Gz.ishl (pc' := 54) (by decide +kernel) rfl ?_
      refine Gz.goto (off := 4) (tgt := 58) (by decide +kernel) (by decide) ?_
      refine Gz.sub (L' := [(0, .ref 88), (3, .int x3), (5, .long x5), (7, .int x7), (8, .long v6)]) [1, 2, 4, 5, 0] rfl ?_
      exact g_Cs_leastBits_b58 k17 hk17 x3 x5 x7 v6 x4 ((1 : Int32) <<< (x7 &&& 31)) w5 h
theorem g_Cs_leastBits_b17 {l : Launch} {Q : Option Value → gW → Prop} (x3 : Int32) (x4 : Int32) (x5 : Int64) (x7 : Int32) (w : gW) (h : zok eI (f_Cs_leastBits_b17 x3 x4 x5 x7 w) Q) : Gz l m_Cs_leastBits 2 17 [(0, .ref 88), (3, .int x3), (4, .int x4), (5, .long x5), (7, .int x7)] [] w Q := by
  have key : ∀ (n : Nat) (x3 : Int32) (x4 : Int32) (x5 : Int64) (x7 : Int32) (w : gW), zok eI (zfx (fun _ _ _ _ _ => none) (f_Cs_leastBits_b17_s) n x3 x4 x5 x7 w) Q → Gz l m_Cs_leastBits 2 17 [(0, .ref 88), (3, .int x3), (4, .int x4), (5, .long x5), (7, .int x7)] [] w Q := by
    intro n
    induction n with
    | zero => intro x3 x4 x5 x7 w h; exact zok_n h
    | succ n ih => intro x3 x4 x5 x7 w h; exact g_Cs_leastBits_b17_s _ ih x3 x4 x5 x7 w h
  exact key zFU x3 x4 x5 x7 w h
theorem g_Cs_leastBits {l : Launch} (a1 : Int64) (a3 : Int32) (w : gW) : gCt l m_Cs_leastBits 2 [.ref 88, .long a1, .int a3] w eI (f_Cs_leastBits a1 a3 w) := by
  intro Q h
  unfold f_Cs_leastBits at h
  show Gz l m_Cs_leastBits 2 0 [(0, .ref 88), (1, .long a1), (3, .int a3)] [] w Q
  refine Gz.iconst (n := 0) (v := (0 : Int32)) (pc' := 1) (by decide +kernel) rfl rfl ?_
  refine Gz.istore (i := 4) (pc' := 3) (L' := [(4, .int (0 : Int32)), (0, .ref 88), (1, .long a1), (3, .int a3)]) (by decide +kernel) rfl (Nat.le_of_ble_eq_true rfl) rfl ?_
  refine Gz.lload_n (q := 1) (pc' := 4) (by decide +kernel) rfl 2 rfl ?_
  refine Gz.lstore (i := 5) (pc' := 6) (L' := [(5, .long a1), (4, .int (0 : Int32)), (0, .ref 88), (1, .long a1), (3, .int a3)]) (by decide +kernel) rfl (Nat.le_of_ble_eq_true rfl) rfl ?_
  refine Gz.aload_n (q := 0) (pc' := 7) (by decide +kernel) rfl 2 rfl ?_
  refine Gz.getR (pc' := 10) (j := 1) 5 fd_Cs_24 sh_88 rfl (by decide +kernel) rfl ?_
  refine Gz.callVI (st := []) (b := 5) (pc' := 13) [] (g_Oa_size w) h ok_m_Oa_size lk_Cs_32 sh_5 rfl rfl rfl (Nat.le_of_ble_eq_true rfl) (Nat.le_of_ble_eq_true rfl) (Nat.le_of_ble_eq_true rfl) (by decide +kernel) rfl (fun v1 w2 h => ?_)
  refine Gz.iconst (n := 1) (v := (1 : Int32)) (pc' := 14) (by decide +kernel) rfl rfl ?_
  refine Gz.isub (pc' := 15) (by decide +kernel) rfl ?_
  refine Gz.nmI (fun v3 e4 => ?_)
  have h := zok_l e4 h
  refine Gz.istore (i := 7) (pc' := 17) (L' := [(7, .int v3), (5, .long a1), (4, .int (0 : Int32)), (0, .ref 88), (1, .long a1), (3, .int a3)]) (by decide +kernel) rfl (Nat.le_of_ble_eq_true rfl) rfl ?_
  refine Gz.sub (L' := [(0, .ref 88), (3, .int a3), (4, .int (0 : Int32)), (5, .long a1), (7, .int v3)]) [3, 5, 2, 1, 0] rfl ?_
  exact g_Cs_leastBits_b17 a3 (0 : Int32) a1 v3 w2 h
def f_Cs_mostAtOnce_b146 (k13 : Int32 → Int32 → Int32 → Int32 → gW → Option (Int32 × gW)) (x2 : Int32) (x3 : Int32) (x4 : Int32) (x5 : Int32) (w : gW) : Option (Int32 × gW) :=
zl (x5 + (1 : Int32)) (fun v1 =>
k13 x2 x3 x4 v1 w)
def f_Cs_mostAtOnce_b141 (k13 : Int32 → Int32 → Int32 → Int32 → gW → Option (Int32 × gW)) (x2 : Int32) (x5 : Int32) (x6 : Int32) (s0 : Int32) (w : gW) : Option (Int32 × gW) :=
f_Cs_mostAtOnce_b146 k13 x2 x6 s0 x5 w
def f_Cs_mostAtOnce_b134 (k13 : Int32 → Int32 → Int32 → Int32 → gW → Option (Int32 × gW)) (x2 : Int32) (x5 : Int32) (x6 : Int32) (x7 : Int32) (w : gW) : Option (Int32 × gW) :=
f_Cs_mostAtOnce_b141 k13 x2 x5 x6 x7 w
def f_Cs_mostAtOnce_b47_s (k13 : Int32 → Int32 → Int32 → Int32 → gW → Option (Int32 × gW)) (k47 : Int32 → Int32 → Int32 → Int32 → Int32 → gW → Option (Int32 × gW)) (x2 : Int32) (x3 : Int32) (x4 : Int32) (x5 : Int32) (x6 : Int32) (w : gW) : Option (Int32 × gW) :=
zb (f_Oa_size w) (fun v1 w2 =>
if v1 ≤ x6 then
(zb (f_Ro_topLevel 89 w2) (fun v4 w5 =>
if v4 = (-1 : Int32) then
(f_Cs_mostAtOnce_b146 k13 x2 x3 x4 x5 w5)
else
(if v4 < x3 then
(f_Cs_mostAtOnce_b146 k13 x2 x3 x4 x5 w5)
else
(zb (f_Ro_word 89 v4 w5) (fun v8 w9 =>
zb (f_Cs_leastBits v8 x5 w9) (fun v10 w11 =>
if x3 < v4 then
(f_Cs_mostAtOnce_b134 k13 x2 x5 v4 v10 w11)
else
(if x4 ≤ v10 then
(f_Cs_mostAtOnce_b141 k13 x2 x5 v4 x4 w11)
else
(f_Cs_mostAtOnce_b134 k13 x2 x5 v4 v10 w11))))))))
else
(zb (f_Cs_rowOf x6 w2) (fun v14 w15 =>
zb (f_Ro_word v14 x5 w15) (fun v16 w17 =>
zb (f_Ro_addLevel 89 v16 w17) (fun _ w18 =>
zl (x6 + (1 : Int32)) (fun v19 =>
k47 x2 x3 x4 x5 v19 w18))))))
def f_Cs_mostAtOnce_b47 (k13 : Int32 → Int32 → Int32 → Int32 → gW → Option (Int32 × gW)) : Int32 → Int32 → Int32 → Int32 → Int32 → gW → Option (Int32 × gW) := zfx (fun _ _ _ _ _ _ => none) (f_Cs_mostAtOnce_b47_s k13) zFU
def f_Cs_mostAtOnce_b13_s (k13 : Int32 → Int32 → Int32 → Int32 → gW → Option (Int32 × gW)) (x2 : Int32) (x3 : Int32) (x4 : Int32) (x5 : Int32) (w : gW) : Option (Int32 × gW) :=
zb (f_La_words w) (fun v1 w2 =>
if v1 ≤ x5 then
(if x2 = 0 then
(some (x3, w2))
else
(some (x4, w2)))
else
(zb (f_Co_fitting w2) (fun v5 w6 =>
zb (f_Ro_word v5 x5 w6) (fun v7 w8 =>
zb (f_Ro_startLevels 89 v7 w8) (fun _ w9 =>
f_Cs_mostAtOnce_b47 k13 x2 x3 x4 x5 (0 : Int32) w9)))))
def f_Cs_mostAtOnce_b13 : Int32 → Int32 → Int32 → Int32 → gW → Option (Int32 × gW) := zfx (fun _ _ _ _ _ => none) (f_Cs_mostAtOnce_b13_s) zFU
def f_Cs_mostAtOnce (a1 : Int32) (a2 : Int32) (w : gW) : Option (Int32 × gW) :=
zb (f_Cs_hearAll a1 w) (fun _ w1 =>
f_Cs_mostAtOnce_b13 a2 (-1 : Int32) (-1 : Int32) (0 : Int32) w1)
theorem g_Cs_mostAtOnce_b146 {l : Launch} {Q : Option Value → gW → Prop} (k13 : Int32 → Int32 → Int32 → Int32 → gW → Option (Int32 × gW)) (hk13 : ∀ (x2 : Int32) (x3 : Int32) (x4 : Int32) (x5 : Int32) (w : gW), zok eI (k13 x2 x3 x4 x5 w) Q → Gz l m_Cs_mostAtOnce 6 13 [(0, .ref 88), (2, .int x2), (3, .int x3), (4, .int x4), (5, .int x5)] [] w Q) (x2 : Int32) (x3 : Int32) (x4 : Int32) (x5 : Int32) (w : gW) (h : zok eI (f_Cs_mostAtOnce_b146 k13 x2 x3 x4 x5 w) Q) : Gz l m_Cs_mostAtOnce 6 146 [(0, .ref 88), (2, .int x2), (3, .int x3), (4, .int x4), (5, .int x5)] [] w Q := by
  unfold f_Cs_mostAtOnce_b146 at h
  obtain ⟨v1, e2⟩ : ∃ y : Int32, y = x5 + (1 : Int32) := ⟨_, rfl⟩
  have h := zok_l e2 h
  refine Gz.iinc (i := 5) (n := 1) (pc' := 149) (L' := [(5, .int v1), (0, .ref 88), (2, .int x2), (3, .int x3), (4, .int x4)]) v1 (by decide +kernel) rfl 4 rfl (by rw [e2]; rfl) (Nat.le_of_ble_eq_true rfl) rfl ?_
  refine Gz.goto (off := -136) (tgt := 13) (by decide +kernel) (by decide) ?_
  refine Gz.sub (L' := [(0, .ref 88), (2, .int x2), (3, .int x3), (4, .int x4), (5, .int v1)]) [1, 2, 3, 4, 0] rfl ?_
  exact hk13 x2 x3 x4 v1 w h
theorem g_Cs_mostAtOnce_b141 {l : Launch} {Q : Option Value → gW → Prop} (k13 : Int32 → Int32 → Int32 → Int32 → gW → Option (Int32 × gW)) (hk13 : ∀ (x2 : Int32) (x3 : Int32) (x4 : Int32) (x5 : Int32) (w : gW), zok eI (k13 x2 x3 x4 x5 w) Q → Gz l m_Cs_mostAtOnce 6 13 [(0, .ref 88), (2, .int x2), (3, .int x3), (4, .int x4), (5, .int x5)] [] w Q) (x2 : Int32) (x5 : Int32) (x6 : Int32) (s0 : Int32) (w : gW) (h : zok eI (f_Cs_mostAtOnce_b141 k13 x2 x5 x6 s0 w) Q) : Gz l m_Cs_mostAtOnce 6 141 [(0, .ref 88), (2, .int x2), (5, .int x5), (6, .int x6)] [.int s0] w Q := by
  unfold f_Cs_mostAtOnce_b141 at h
  refine Gz.istore (i := 4) (pc' := 143) (L' := [(4, .int s0), (0, .ref 88), (2, .int x2), (5, .int x5), (6, .int x6)]) (by decide +kernel) rfl (Nat.le_of_ble_eq_true rfl) rfl ?_
  refine Gz.iload (i := 6) (pc' := 145) (by decide +kernel) rfl 4 rfl ?_
  refine Gz.istore_n (q := 3) (pc' := 146) (L' := [(3, .int x6), (4, .int s0), (0, .ref 88), (2, .int x2), (5, .int x5), (6, .int x6)]) (by decide +kernel) rfl (Nat.le_of_ble_eq_true rfl) rfl ?_
  refine Gz.sub (L' := [(0, .ref 88), (2, .int x2), (3, .int x6), (4, .int s0), (5, .int x5)]) [2, 3, 0, 1, 4] rfl ?_
  exact g_Cs_mostAtOnce_b146 k13 hk13 x2 x6 s0 x5 w h
theorem g_Cs_mostAtOnce_b134 {l : Launch} {Q : Option Value → gW → Prop} (k13 : Int32 → Int32 → Int32 → Int32 → gW → Option (Int32 × gW)) (hk13 : ∀ (x2 : Int32) (x3 : Int32) (x4 : Int32) (x5 : Int32) (w : gW), zok eI (k13 x2 x3 x4 x5 w) Q → Gz l m_Cs_mostAtOnce 6 13 [(0, .ref 88), (2, .int x2), (3, .int x3), (4, .int x4), (5, .int x5)] [] w Q) (x2 : Int32) (x5 : Int32) (x6 : Int32) (x7 : Int32) (w : gW) (h : zok eI (f_Cs_mostAtOnce_b134 k13 x2 x5 x6 x7 w) Q) : Gz l m_Cs_mostAtOnce 6 134 [(0, .ref 88), (2, .int x2), (5, .int x5), (6, .int x6), (7, .int x7)] [] w Q := by
  unfold f_Cs_mostAtOnce_b134 at h
  refine Gz.iload (i := 7) (pc' := 136) (by decide +kernel) rfl 4 rfl ?_
  refine Gz.goto (off := 5) (tgt := 141) (by decide +kernel) (by decide) ?_
  refine Gz.sub (L' := [(0, .ref 88), (2, .int x2), (5, .int x5), (6, .int x6)]) [0, 1, 2, 3] rfl ?_
  exact g_Cs_mostAtOnce_b141 k13 hk13 x2 x5 x6 x7 w h
theorem g_Cs_mostAtOnce_b47_s {l : Launch} {Q : Option Value → gW → Prop} (k13 : Int32 → Int32 → Int32 → Int32 → gW → Option (Int32 × gW)) (hk13 : ∀ (x2 : Int32) (x3 : Int32) (x4 : Int32) (x5 : Int32) (w : gW), zok eI (k13 x2 x3 x4 x5 w) Q → Gz l m_Cs_mostAtOnce 6 13 [(0, .ref 88), (2, .int x2), (3, .int x3), (4, .int x4), (5, .int x5)] [] w Q) (k47 : Int32 → Int32 → Int32 → Int32 → Int32 → gW → Option (Int32 × gW)) (hk47 : ∀ (x2 : Int32) (x3 : Int32) (x4 : Int32) (x5 : Int32) (x6 : Int32) (w : gW), zok eI (k47 x2 x3 x4 x5 x6 w) Q → Gz l m_Cs_mostAtOnce 6 47 [(0, .ref 88), (2, .int x2), (3, .int x3), (4, .int x4), (5, .int x5), (6, .int x6)] [] w Q) (x2 : Int32) (x3 : Int32) (x4 : Int32) (x5 : Int32) (x6 : Int32) (w : gW) (h : zok eI (f_Cs_mostAtOnce_b47_s k13 k47 x2 x3 x4 x5 x6 w) Q) : Gz l m_Cs_mostAtOnce 6 47 [(0, .ref 88), (2, .int x2), (3, .int x3), (4, .int x4), (5, .int x5), (6, .int x6)] [] w Q := by
  unfold f_Cs_mostAtOnce_b47_s at h
  refine Gz.iload (i := 6) (pc' := 49) (by decide +kernel) rfl 5 rfl ?_
  refine Gz.aload_n (q := 0) (pc' := 50) (by decide +kernel) rfl 0 rfl ?_
  refine Gz.getR (pc' := 53) (j := 1) 5 fd_Cs_24 sh_88 rfl (by decide +kernel) rfl ?_
  refine Gz.callVI (st := [.int x6]) (b := 5) (pc' := 56) [] (g_Oa_size w) h ok_m_Oa_size lk_Cs_32 sh_5 rfl rfl rfl (Nat.le_of_ble_eq_true rfl) (Nat.le_of_ble_eq_true rfl) (Nat.le_of_ble_eq_true rfl) (by decide +kernel) rfl (fun v1 w2 h => ?_)
  refine Gz.icmp_ge (off := 27) (tgt := 83) (pc' := 59) (by decide +kernel) (by decide) rfl (fun c3 => ?_) (fun c3 => ?_)
  · have h := zok_t c3 h
    refine Gz.aload_n (q := 0) (pc' := 84) (by decide +kernel) rfl 0 rfl ?_
    refine Gz.getR (pc' := 87) (j := 3) 89 fd_Cs_9 sh_88 rfl (by decide +kernel) rfl ?_
    refine Gz.callSI (st := []) (pc' := 90) [.ref 89] (g_Ro_topLevel 89 w2) h ok_m_Ro_topLevel lk_Cs_98 rfl (Nat.le_of_ble_eq_true rfl) (Nat.le_of_ble_eq_true rfl) (Nat.le_of_ble_eq_true rfl) (by decide +kernel) rfl (fun v4 w5 h => ?_)
    refine Gz.istore (i := 6) (pc' := 92) (L' := [(6, .int v4), (0, .ref 88), (2, .int x2), (3, .int x3), (4, .int x4), (5, .int x5)]) (by decide +kernel) rfl (Nat.le_of_ble_eq_true rfl) rfl ?_
    refine Gz.iload (i := 6) (pc' := 94) (by decide +kernel) rfl 0 rfl ?_
    refine Gz.iconst (n := -1) (v := (-1 : Int32)) (pc' := 95) (by decide +kernel) rfl rfl ?_
    refine Gz.icmp_eq (off := 51) (tgt := 146) (pc' := 98) (by decide +kernel) (by decide) rfl (fun c6 => ?_) (fun c6 => ?_)
    · have h := zok_t c6 h
      refine Gz.sub (L' := [(0, .ref 88), (2, .int x2), (3, .int x3), (4, .int x4), (5, .int x5)]) [1, 2, 3, 4, 5] rfl ?_
      exact g_Cs_mostAtOnce_b146 k13 hk13 x2 x3 x4 x5 w5 h
    · have h := zok_f c6 h
      refine Gz.iload (i := 6) (pc' := 100) (by decide +kernel) rfl 0 rfl ?_
      refine Gz.iload_n (q := 3) (pc' := 101) (by decide +kernel) rfl 3 rfl ?_
      refine Gz.icmp_lt (off := 45) (tgt := 146) (pc' := 104) (by decide +kernel) (by decide) rfl (fun c7 => ?_) (fun c7 => ?_)
      · have h := zok_t c7 h
        refine Gz.sub (L' := [(0, .ref 88), (2, .int x2), (3, .int x3), (4, .int x4), (5, .int x5)]) [1, 2, 3, 4, 5] rfl ?_
        exact g_Cs_mostAtOnce_b146 k13 hk13 x2 x3 x4 x5 w5 h
      · have h := zok_f c7 h
        refine Gz.aload_n (q := 0) (pc' := 105) (by decide +kernel) rfl 1 rfl ?_
        refine Gz.aload_n (q := 0) (pc' := 106) (by decide +kernel) rfl 1 rfl ?_
        refine Gz.getR (pc' := 109) (j := 3) 89 fd_Cs_9 sh_88 rfl (by decide +kernel) rfl ?_
        refine Gz.iload (i := 6) (pc' := 111) (by decide +kernel) rfl 0 rfl ?_
        refine Gz.callSJ (st := [.ref 88]) (pc' := 114) [.ref 89, .int v4] (g_Ro_word 89 v4 w5) h ok_m_Ro_word lk_Cs_87 rfl (Nat.le_of_ble_eq_true rfl) (Nat.le_of_ble_eq_true rfl) (Nat.le_of_ble_eq_true rfl) (by decide +kernel) rfl (fun v8 w9 h => ?_)
        refine Gz.iload (i := 5) (pc' := 116) (by decide +kernel) rfl 5 rfl ?_
        refine Gz.callVI (st := []) (b := 88) (pc' := 119) [.long v8, .int x5] (g_Cs_leastBits v8 x5 w9) h ok_m_Cs_leastBits lk_Cs_102 sh_88 rfl rfl rfl (Nat.le_of_ble_eq_true rfl) (Nat.le_of_ble_eq_true rfl) (Nat.le_of_ble_eq_true rfl) (by decide +kernel) rfl (fun v10 w11 h => ?_)
        refine Gz.istore (i := 7) (pc' := 121) (L' := [(7, .int v10), (6, .int v4), (0, .ref 88), (2, .int x2), (3, .int x3), (4, .int x4), (5, .int x5)]) (by decide +kernel) rfl (Nat.le_of_ble_eq_true rfl) rfl ?_
        refine Gz.iload (i := 6) (pc' := 123) (by decide +kernel) rfl 1 rfl ?_
        refine Gz.iload_n (q := 3) (pc' := 124) (by decide +kernel) rfl 4 rfl ?_
        refine Gz.icmp_gt (off := 10) (tgt := 134) (pc' := 127) (by decide +kernel) (by decide) rfl (fun c12 => ?_) (fun c12 => ?_)
        · have h := zok_t c12 h
          refine Gz.sub (L' := [(0, .ref 88), (2, .int x2), (5, .int x5), (6, .int v4), (7, .int v10)]) [2, 3, 6, 1, 0] rfl ?_
          exact g_Cs_mostAtOnce_b134 k13 hk13 x2 x5 v4 v10 w11 h
        · have h := zok_f c12 h
          refine Gz.iload (i := 7) (pc' := 129) (by decide +kernel) rfl 0 rfl ?_
          refine Gz.iload (i := 4) (pc' := 131) (by decide +kernel) rfl 5 rfl ?_
          refine Gz.icmp_ge (off := 8) (tgt := 139) (pc' := 134) (by decide +kernel) (by decide) rfl (fun c13 => ?_) (fun c13 => ?_)
          · have h := zok_t c13 h
            refine Gz.iload (i := 4) (pc' := 141) (by decide +kernel) rfl 5 rfl ?_
            refine Gz.sub (L' := [(0, .ref 88), (2, .int x2), (5, .int x5), (6, .int v4)]) [2, 3, 6, 1] rfl ?_
            exact g_Cs_mostAtOnce_b141 k13 hk13 x2 x5 v4 x4 w11 h
          · have h := zok_f c13 h
            refine Gz.sub (L' := [(0, .ref 88), (2, .int x2), (5, .int x5), (6, .int v4), (7, .int v10)]) [2, 3, 6, 1, 0] rfl ?_
            exact g_Cs_mostAtOnce_b134 k13 hk13 x2 x5 v4 v10 w11 h
  · have h := zok_f c3 h
    refine Gz.aload_n (q := 0) (pc' := 60) (by decide +kernel) rfl 0 rfl ?_
    refine Gz.getR (pc' := 63) (j := 3) 89 fd_Cs_9 sh_88 rfl (by decide +kernel) rfl ?_
    refine Gz.aload_n (q := 0) (pc' := 64) (by decide +kernel) rfl 0 rfl ?_
    refine Gz.iload (i := 6) (pc' := 66) (by decide +kernel) rfl 5 rfl ?_
    refine Gz.callVR (st := [.ref 89]) (b := 88) (pc' := 69) [.int x6] (g_Cs_rowOf x6 w2) h ok_m_Cs_rowOf lk_Cs_48 sh_88 rfl rfl rfl (Nat.le_of_ble_eq_true rfl) (Nat.le_of_ble_eq_true rfl) (Nat.le_of_ble_eq_true rfl) (by decide +kernel) rfl (fun v14 w15 h => ?_)
    refine Gz.iload (i := 5) (pc' := 71) (by decide +kernel) rfl 4 rfl ?_
    refine Gz.callSJ (st := [.ref 89]) (pc' := 74) [.ref v14, .int x5] (g_Ro_word v14 x5 w15) h ok_m_Ro_word lk_Cs_87 rfl (Nat.le_of_ble_eq_true rfl) (Nat.le_of_ble_eq_true rfl) (Nat.le_of_ble_eq_true rfl) (by decide +kernel) rfl (fun v16 w17 h => ?_)
    refine Gz.callSV (st := []) (pc' := 77) [.ref 89, .long v16] (g_Ro_addLevel 89 v16 w17) h ok_m_Ro_addLevel lk_Cs_95 rfl (Nat.le_of_ble_eq_true rfl) (Nat.le_of_ble_eq_true rfl) (Nat.le_of_ble_eq_true rfl) (by decide +kernel) rfl (fun _ w18 h => ?_)
    obtain ⟨v19, e20⟩ : ∃ y : Int32, y = x6 + (1 : Int32) := ⟨_, rfl⟩
    have h := zok_l e20 h
    refine Gz.iinc (i := 6) (n := 1) (pc' := 80) (L' := [(6, .int v19), (0, .ref 88), (2, .int x2), (3, .int x3), (4, .int x4), (5, .int x5)]) v19 (by decide +kernel) rfl 5 rfl (by rw [e20]; rfl) (Nat.le_of_ble_eq_true rfl) rfl ?_
    refine Gz.goto (off := -33) (tgt := 47) (by decide +kernel) (by decide) ?_
    refine Gz.sub (L' := [(0, .ref 88), (2, .int x2), (3, .int x3), (4, .int x4), (5, .int x5), (6, .int v19)]) [1, 2, 3, 4, 5, 0] rfl ?_
    exact hk47 x2 x3 x4 x5 v19 w18 h
theorem g_Cs_mostAtOnce_b47 {l : Launch} {Q : Option Value → gW → Prop} (k13 : Int32 → Int32 → Int32 → Int32 → gW → Option (Int32 × gW)) (hk13 : ∀ (x2 : Int32) (x3 : Int32) (x4 : Int32) (x5 : Int32) (w : gW), zok eI (k13 x2 x3 x4 x5 w) Q → Gz l m_Cs_mostAtOnce 6 13 [(0, .ref 88), (2, .int x2), (3, .int x3), (4, .int x4), (5, .int x5)] [] w Q) (x2 : Int32) (x3 : Int32) (x4 : Int32) (x5 : Int32) (x6 : Int32) (w : gW) (h : zok eI (f_Cs_mostAtOnce_b47 k13 x2 x3 x4 x5 x6 w) Q) : Gz l m_Cs_mostAtOnce 6 47 [(0, .ref 88), (2, .int x2), (3, .int x3), (4, .int x4), (5, .int x5), (6, .int x6)] [] w Q := by
  have key : ∀ (n : Nat) (x2 : Int32) (x3 : Int32) (x4 : Int32) (x5 : Int32) (x6 : Int32) (w : gW), zok eI (zfx (fun _ _ _ _ _ _ => none) (f_Cs_mostAtOnce_b47_s k13) n x2 x3 x4 x5 x6 w) Q → Gz l m_Cs_mostAtOnce 6 47 [(0, .ref 88), (2, .int x2), (3, .int x3), (4, .int x4), (5, .int x5), (6, .int x6)] [] w Q := by
    intro n
    induction n with
    | zero => intro x2 x3 x4 x5 x6 w h; exact zok_n h
    | succ n ih => intro x2 x3 x4 x5 x6 w h; exact g_Cs_mostAtOnce_b47_s k13 hk13 _ ih x2 x3 x4 x5 x6 w h
  exact key zFU x2 x3 x4 x5 x6 w h
theorem g_Cs_mostAtOnce_b13_s {l : Launch} {Q : Option Value → gW → Prop} (k13 : Int32 → Int32 → Int32 → Int32 → gW → Option (Int32 × gW)) (hk13 : ∀ (x2 : Int32) (x3 : Int32) (x4 : Int32) (x5 : Int32) (w : gW), zok eI (k13 x2 x3 x4 x5 w) Q → Gz l m_Cs_mostAtOnce 6 13 [(0, .ref 88), (2, .int x2), (3, .int x3), (4, .int x4), (5, .int x5)] [] w Q) (x2 : Int32) (x3 : Int32) (x4 : Int32) (x5 : Int32) (w : gW) (h : zok eI (f_Cs_mostAtOnce_b13_s k13 x2 x3 x4 x5 w) Q) : Gz l m_Cs_mostAtOnce 6 13 [(0, .ref 88), (2, .int x2), (3, .int x3), (4, .int x4), (5, .int x5)] [] w Q := by
  unfold f_Cs_mostAtOnce_b13_s at h
  refine Gz.iload (i := 5) (pc' := 15) (by decide +kernel) rfl 4 rfl ?_
  refine Gz.aload_n (q := 0) (pc' := 16) (by decide +kernel) rfl 0 rfl ?_
  refine Gz.getR (pc' := 19) (j := 0) 19 fd_Cs_20 sh_88 rfl (by decide +kernel) rfl ?_
  refine Gz.callVI (st := [.int x5]) (b := 19) (pc' := 22) [] (g_La_words w) h ok_m_La_words lk_Cs_52 sh_19 rfl rfl rfl (Nat.le_of_ble_eq_true rfl) (Nat.le_of_ble_eq_true rfl) (Nat.le_of_ble_eq_true rfl) (by decide +kernel) rfl (fun v1 w2 h => ?_)
  refine Gz.icmp_ge (off := 130) (tgt := 152) (pc' := 25) (by decide +kernel) (by decide) rfl (fun c3 => ?_) (fun c3 => ?_)
  · have h := zok_t c3 h
    refine Gz.iload_n (q := 2) (pc' := 153) (by decide +kernel) rfl 1 rfl ?_
    refine Gz.if_ne (off := 7) (tgt := 160) (pc' := 156) (by decide +kernel) (by decide) rfl (fun c4 => ?_) (fun c4 => ?_)
    · have h := zok_f c4 h
      refine Gz.iload (i := 4) (pc' := 162) (by decide +kernel) rfl 3 rfl ?_
      exact Gz.ireturn (by decide +kernel) rfl (zok_sI h)
    · have h := zok_t c4 h
      refine Gz.iload_n (q := 3) (pc' := 157) (by decide +kernel) rfl 2 rfl ?_
      refine Gz.goto (off := 5) (tgt := 162) (by decide +kernel) (by decide) ?_
      exact Gz.ireturn (by decide +kernel) rfl (zok_sI h)
  · have h := zok_f c3 h
    refine Gz.aload_n (q := 0) (pc' := 26) (by decide +kernel) rfl 0 rfl ?_
    refine Gz.getR (pc' := 29) (j := 3) 89 fd_Cs_9 sh_88 rfl (by decide +kernel) rfl ?_
    refine Gz.aload_n (q := 0) (pc' := 30) (by decide +kernel) rfl 0 rfl ?_
    refine Gz.getR (pc' := 33) (j := 2) 73 fd_Cs_28 sh_88 rfl (by decide +kernel) rfl ?_
    refine Gz.callVR (st := [.ref 89]) (b := 73) (pc' := 36) [] (g_Co_fitting w2) h ok_m_Co_fitting lk_Cs_44 sh_73 rfl rfl rfl (Nat.le_of_ble_eq_true rfl) (Nat.le_of_ble_eq_true rfl) (Nat.le_of_ble_eq_true rfl) (by decide +kernel) rfl (fun v5 w6 h => ?_)
    refine Gz.iload (i := 5) (pc' := 38) (by decide +kernel) rfl 4 rfl ?_
    refine Gz.callSJ (st := [.ref 89]) (pc' := 41) [.ref v5, .int x5] (g_Ro_word v5 x5 w6) h ok_m_Ro_word lk_Cs_87 rfl (Nat.le_of_ble_eq_true rfl) (Nat.le_of_ble_eq_true rfl) (Nat.le_of_ble_eq_true rfl) (by decide +kernel) rfl (fun v7 w8 h => ?_)
    refine Gz.callSV (st := []) (pc' := 44) [.ref 89, .long v7] (g_Ro_startLevels 89 v7 w8) h ok_m_Ro_startLevels lk_Cs_91 rfl (Nat.le_of_ble_eq_true rfl) (Nat.le_of_ble_eq_true rfl) (Nat.le_of_ble_eq_true rfl) (by decide +kernel) rfl (fun _ w9 h => ?_)
    refine Gz.iconst (n := 0) (v := (0 : Int32)) (pc' := 45) (by decide +kernel) rfl rfl ?_
    refine Gz.istore (i := 6) (pc' := 47) (L' := [(6, .int (0 : Int32)), (0, .ref 88), (2, .int x2), (3, .int x3), (4, .int x4), (5, .int x5)]) (by decide +kernel) rfl (Nat.le_of_ble_eq_true rfl) rfl ?_
    refine Gz.sub (L' := [(0, .ref 88), (2, .int x2), (3, .int x3), (4, .int x4), (5, .int x5), (6, .int (0 : Int32))]) [1, 2, 3, 4, 5, 0] rfl ?_
    exact g_Cs_mostAtOnce_b47 k13 hk13 x2 x3 x4 x5 (0 : Int32) w9 h
theorem g_Cs_mostAtOnce_b13 {l : Launch} {Q : Option Value → gW → Prop} (x2 : Int32) (x3 : Int32) (x4 : Int32) (x5 : Int32) (w : gW) (h : zok eI (f_Cs_mostAtOnce_b13 x2 x3 x4 x5 w) Q) : Gz l m_Cs_mostAtOnce 6 13 [(0, .ref 88), (2, .int x2), (3, .int x3), (4, .int x4), (5, .int x5)] [] w Q := by
  have key : ∀ (n : Nat) (x2 : Int32) (x3 : Int32) (x4 : Int32) (x5 : Int32) (w : gW), zok eI (zfx (fun _ _ _ _ _ => none) (f_Cs_mostAtOnce_b13_s) n x2 x3 x4 x5 w) Q → Gz l m_Cs_mostAtOnce 6 13 [(0, .ref 88), (2, .int x2), (3, .int x3), (4, .int x4), (5, .int x5)] [] w Q := by
    intro n
    induction n with
    | zero => intro x2 x3 x4 x5 w h; exact zok_n h
    | succ n ih => intro x2 x3 x4 x5 w h; exact g_Cs_mostAtOnce_b13_s _ ih x2 x3 x4 x5 w h
  exact key zFU x2 x3 x4 x5 w h
theorem g_Cs_mostAtOnce {l : Launch} (a1 : Int32) (a2 : Int32) (w : gW) : gCt l m_Cs_mostAtOnce 6 [.ref 88, .int a1, .int a2] w eI (f_Cs_mostAtOnce a1 a2 w) := by
  intro Q h
  unfold f_Cs_mostAtOnce at h
  show Gz l m_Cs_mostAtOnce 6 0 [(0, .ref 88), (1, .int a1), (2, .int a2)] [] w Q
  refine Gz.aload_n (q := 0) (pc' := 1) (by decide +kernel) rfl 0 rfl ?_
  refine Gz.iload_n (q := 1) (pc' := 2) (by decide +kernel) rfl 1 rfl ?_
  refine Gz.callVV (st := []) (b := 88) (pc' := 5) [.int a1] (g_Cs_hearAll a1 w) h ok_m_Cs_hearAll lk_Cs_73 sh_88 rfl rfl rfl (Nat.le_of_ble_eq_true rfl) (Nat.le_of_ble_eq_true rfl) (Nat.le_of_ble_eq_true rfl) (by decide +kernel) rfl (fun _ w1 h => ?_)
  refine Gz.iconst (n := -1) (v := (-1 : Int32)) (pc' := 6) (by decide +kernel) rfl rfl ?_
  refine Gz.istore_n (q := 3) (pc' := 7) (L' := [(3, .int (-1 : Int32)), (0, .ref 88), (1, .int a1), (2, .int a2)]) (by decide +kernel) rfl (Nat.le_of_ble_eq_true rfl) rfl ?_
  refine Gz.iconst (n := -1) (v := (-1 : Int32)) (pc' := 8) (by decide +kernel) rfl rfl ?_
  refine Gz.istore (i := 4) (pc' := 10) (L' := [(4, .int (-1 : Int32)), (3, .int (-1 : Int32)), (0, .ref 88), (1, .int a1), (2, .int a2)]) (by decide +kernel) rfl (Nat.le_of_ble_eq_true rfl) rfl ?_
  refine Gz.iconst (n := 0) (v := (0 : Int32)) (pc' := 11) (by decide +kernel) rfl rfl ?_
  refine Gz.istore (i := 5) (pc' := 13) (L' := [(5, .int (0 : Int32)), (4, .int (-1 : Int32)), (3, .int (-1 : Int32)), (0, .ref 88), (1, .int a1), (2, .int a2)]) (by decide +kernel) rfl (Nat.le_of_ble_eq_true rfl) rfl ?_
  refine Gz.sub (L' := [(0, .ref 88), (2, .int a2), (3, .int (-1 : Int32)), (4, .int (-1 : Int32)), (5, .int (0 : Int32))]) [3, 5, 2, 1, 0] rfl ?_
  exact g_Cs_mostAtOnce_b13 a2 (-1 : Int32) (-1 : Int32) (0 : Int32) w1 h
def f_X_most (a1 : Int32) (a2 : Int32) (w : gW) : Option (Int32 × gW) :=
zb (f_La_isDay a1 w) (fun v1 w2 =>
if v1 = 0 then
(some ((-1 : Int32), w2))
else
(zb (f_X_isZeroOrOne a2 w2) (fun v4 w5 =>
if v4 = 0 then
(some ((-1 : Int32), w5))
else
(zb (f_Cs_mostAtOnce a1 a2 w5) (fun v7 w8 =>
some (v7, w8))))))
theorem g_X_most {l : Launch} (a1 : Int32) (a2 : Int32) (w : gW) : gCt l m_X_most 7 [.ref 0, .int a1, .int a2] w eI (f_X_most a1 a2 w) := by
  intro Q h
  unfold f_X_most at h
  show Gz l m_X_most 7 0 [(0, .ref 0), (1, .int a1), (2, .int a2)] [] w Q
  refine Gz.aload_n (q := 0) (pc' := 1) (by decide +kernel) rfl 0 rfl ?_
  refine Gz.getR (pc' := 4) (j := 3) 19 fd_X_33 sh_0 rfl (by decide +kernel) rfl ?_
  refine Gz.iload_n (q := 1) (pc' := 5) (by decide +kernel) rfl 1 rfl ?_
  refine Gz.callVI (st := []) (b := 19) (pc' := 8) [.int a1] (g_La_isDay a1 w) h ok_m_La_isDay lk_X_222 sh_19 rfl rfl rfl (Nat.le_of_ble_eq_true rfl) (Nat.le_of_ble_eq_true rfl) (Nat.le_of_ble_eq_true rfl) (by decide +kernel) rfl (fun v1 w2 h => ?_)
  refine Gz.if_eq (off := 22) (tgt := 30) (pc' := 11) (by decide +kernel) (by decide) rfl (fun c3 => ?_) (fun c3 => ?_)
  · have h := zok_t c3 h
    refine Gz.iconst (n := -1) (v := (-1 : Int32)) (pc' := 31) (by decide +kernel) rfl rfl ?_
    exact Gz.ireturn (by decide +kernel) rfl (zok_sI h)
  · have h := zok_f c3 h
    refine Gz.iload_n (q := 2) (pc' := 12) (by decide +kernel) rfl 2 rfl ?_
    refine Gz.callSI (st := []) (pc' := 15) [.int a2] (g_X_isZeroOrOne a2 w2) h ok_m_X_isZeroOrOne lk_X_228 rfl (Nat.le_of_ble_eq_true rfl) (Nat.le_of_ble_eq_true rfl) (Nat.le_of_ble_eq_true rfl) (by decide +kernel) rfl (fun v4 w5 h => ?_)
    refine Gz.if_eq (off := 15) (tgt := 30) (pc' := 18) (by decide +kernel) (by decide) rfl (fun c6 => ?_) (fun c6 => ?_)
    · have h := zok_t c6 h
      refine Gz.iconst (n := -1) (v := (-1 : Int32)) (pc' := 31) (by decide +kernel) rfl rfl ?_
      exact Gz.ireturn (by decide +kernel) rfl (zok_sI h)
    · have h := zok_f c6 h
      refine Gz.aload_n (q := 0) (pc' := 19) (by decide +kernel) rfl 0 rfl ?_
      refine Gz.getR (pc' := 22) (j := 7) 88 fd_X_61 sh_0 rfl (by decide +kernel) rfl ?_
      refine Gz.iload_n (q := 1) (pc' := 23) (by decide +kernel) rfl 1 rfl ?_
      refine Gz.iload_n (q := 2) (pc' := 24) (by decide +kernel) rfl 2 rfl ?_
      refine Gz.callVI (st := []) (b := 88) (pc' := 27) [.int a1, .int a2] (g_Cs_mostAtOnce a1 a2 w5) h ok_m_Cs_mostAtOnce lk_X_231 sh_88 rfl rfl rfl (Nat.le_of_ble_eq_true rfl) (Nat.le_of_ble_eq_true rfl) (Nat.le_of_ble_eq_true rfl) (by decide +kernel) rfl (fun v7 w8 h => ?_)
      refine Gz.goto (off := 4) (tgt := 31) (by decide +kernel) (by decide) ?_
      exact Gz.ireturn (by decide +kernel) rfl (zok_sI h)
def f_Cs_hindering_b88 (k15 : Int32 → Int32 → Int32 → gW → Option (Int32 × gW)) (k33 : Int32 → Int32 → Int32 → Int32 → gW → Option (Int32 × gW)) (x2 : Int32) (x4 : Int32) (x5 : Int32) (s0 : Int32) (s1 : Int32) (w : gW) : Option (Int32 × gW) :=
zl (s0 + s1) (fun v1 =>
zl (x5 + (1 : Int32)) (fun v3 =>
k33 x2 v1 x4 v3 w))
def f_Cs_hindering_b87 (k15 : Int32 → Int32 → Int32 → gW → Option (Int32 × gW)) (k33 : Int32 → Int32 → Int32 → Int32 → gW → Option (Int32 × gW)) (x2 : Int32) (x4 : Int32) (x5 : Int32) (s0 : Int32) (w : gW) : Option (Int32 × gW) :=
f_Cs_hindering_b88 k15 k33 x2 x4 x5 s0 (0 : Int32) w
def f_Cs_hindering_b64 (k15 : Int32 → Int32 → Int32 → gW → Option (Int32 × gW)) (k33 : Int32 → Int32 → Int32 → Int32 → gW → Option (Int32 × gW)) (x2 : Int32) (x3 : Int32) (x4 : Int32) (x5 : Int32) (s0 : Int32) (w : gW) : Option (Int32 × gW) :=
if s0 = 0 then
(f_Cs_hindering_b87 k15 k33 x2 x4 x5 x3 w)
else
(zb (f_Cs_canBoth x4 x5 w) (fun v2 w3 =>
if v2 = 0 then
(f_Cs_hindering_b88 k15 k33 x2 x4 x5 x3 (1 : Int32) w3)
else
(f_Cs_hindering_b87 k15 k33 x2 x4 x5 x3 w3)))
def f_Cs_hindering_b33_s (k15 : Int32 → Int32 → Int32 → gW → Option (Int32 × gW)) (k33 : Int32 → Int32 → Int32 → Int32 → gW → Option (Int32 × gW)) (x2 : Int32) (x3 : Int32) (x4 : Int32) (x5 : Int32) (w : gW) : Option (Int32 × gW) :=
zb (f_Oa_size w) (fun v1 w2 =>
if v1 ≤ x5 then
(zl (x4 + (1 : Int32)) (fun v4 =>
k15 x2 x3 v4 w2))
else
(if (((x2 >>> (x4 &&& 31)) &&& (x2 >>> (x5 &&& 31))) &&& (1 : Int32)) = 0 then
(f_Cs_hindering_b64 k15 k33 x2 x3 x4 x5 (0 : Int32) w2)
else
(f_Cs_hindering_b64 k15 k33 x2 x3 x4 x5 (1 : Int32) w2)))
def f_Cs_hindering_b33 (k15 : Int32 → Int32 → Int32 → gW → Option (Int32 × gW)) : Int32 → Int32 → Int32 → Int32 → gW → Option (Int32 × gW) := zfx (fun _ _ _ _ _ => none) (f_Cs_hindering_b33_s k15) zFU
def f_Cs_hindering_b15_s (k15 : Int32 → Int32 → Int32 → gW → Option (Int32 × gW)) (x2 : Int32) (x3 : Int32) (x4 : Int32) (w : gW) : Option (Int32 × gW) :=
zb (f_Oa_size w) (fun v1 w2 =>
if v1 ≤ x4 then
(some (x3, w2))
else
(zl (x4 + (1 : Int32)) (fun v4 =>
f_Cs_hindering_b33 k15 x2 x3 x4 v4 w2)))
def f_Cs_hindering_b15 : Int32 → Int32 → Int32 → gW → Option (Int32 × gW) := zfx (fun _ _ _ _ => none) (f_Cs_hindering_b15_s) zFU
def f_Cs_hindering (a1 : Int32) (w : gW) : Option (Int32 × gW) :=
zb (f_Cs_hearAll a1 w) (fun _ w1 =>
zb (f_Cs_openAsHeard w1) (fun v2 w3 =>
f_Cs_hindering_b15 v2 (0 : Int32) (0 : Int32) w3))
theorem g_Cs_hindering_b88 {l : Launch} {Q : Option Value → gW → Prop} (k15 : Int32 → Int32 → Int32 → gW → Option (Int32 × gW)) (hk15 : ∀ (x2 : Int32) (x3 : Int32) (x4 : Int32) (w : gW), zok eI (k15 x2 x3 x4 w) Q → Gz l m_Cs_hindering 6 15 [(0, .ref 88), (2, .int x2), (3, .int x3), (4, .int x4)] [] w Q) (k33 : Int32 → Int32 → Int32 → Int32 → gW → Option (Int32 × gW)) (hk33 : ∀ (x2 : Int32) (x3 : Int32) (x4 : Int32) (x5 : Int32) (w : gW), zok eI (k33 x2 x3 x4 x5 w) Q → Gz l m_Cs_hindering 6 33 [(0, .ref 88), (2, .int x2), (3, .int x3), (4, .int x4), (5, .int x5)] [] w Q) (x2 : Int32) (x4 : Int32) (x5 : Int32) (s0 : Int32) (s1 : Int32) (w : gW) (h : zok eI (f_Cs_hindering_b88 k15 k33 x2 x4 x5 s0 s1 w) Q) : Gz l m_Cs_hindering 6 88 [(0, .ref 88), (2, .int x2), (4, .int x4), (5, .int x5)] [.int s1, .int s0] w Q := by
  unfold f_Cs_hindering_b88 at h
  refine Gz.iadd (pc' := 89) (by decide +kernel) rfl ?_
  refine Gz.nmI (fun v1 e2 => ?_)
  have h := zok_l e2 h
  refine Gz.istore_n (q := 3) (pc' := 90) (L' := [(3, .int v1), (0, .ref 88), (2, .int x2), (4, .int x4), (5, .int x5)]) (by decide +kernel) rfl (Nat.le_of_ble_eq_true rfl) rfl ?_
  obtain ⟨v3, e4⟩ : ∃ y : Int32, y = x5 + (1 : Int32) := ⟨_, rfl⟩
  have h := zok_l e4 h
  refine Gz.iinc (i := 5) (n := 1) (pc' := 93) (L' := [(5, .int v3), (3, .int v1), (0, .ref 88), (2, .int x2), (4, .int x4)]) v3 (by decide +kernel) rfl 4 rfl (by rw [e4]; rfl) (Nat.le_of_ble_eq_true rfl) rfl ?_
  refine Gz.goto (off := -60) (tgt := 33) (by decide +kernel) (by decide) ?_
  refine Gz.sub (L' := [(0, .ref 88), (2, .int x2), (3, .int v1), (4, .int x4), (5, .int v3)]) [2, 3, 1, 4, 0] rfl ?_
  exact hk33 x2 v1 x4 v3 w h
theorem g_Cs_hindering_b87 {l : Launch} {Q : Option Value → gW → Prop} (k15 : Int32 → Int32 → Int32 → gW → Option (Int32 × gW)) (hk15 : ∀ (x2 : Int32) (x3 : Int32) (x4 : Int32) (w : gW), zok eI (k15 x2 x3 x4 w) Q → Gz l m_Cs_hindering 6 15 [(0, .ref 88), (2, .int x2), (3, .int x3), (4, .int x4)] [] w Q) (k33 : Int32 → Int32 → Int32 → Int32 → gW → Option (Int32 × gW)) (hk33 : ∀ (x2 : Int32) (x3 : Int32) (x4 : Int32) (x5 : Int32) (w : gW), zok eI (k33 x2 x3 x4 x5 w) Q → Gz l m_Cs_hindering 6 33 [(0, .ref 88), (2, .int x2), (3, .int x3), (4, .int x4), (5, .int x5)] [] w Q) (x2 : Int32) (x4 : Int32) (x5 : Int32) (s0 : Int32) (w : gW) (h : zok eI (f_Cs_hindering_b87 k15 k33 x2 x4 x5 s0 w) Q) : Gz l m_Cs_hindering 6 87 [(0, .ref 88), (2, .int x2), (4, .int x4), (5, .int x5)] [.int s0] w Q := by
  unfold f_Cs_hindering_b87 at h
  refine Gz.iconst (n := 0) (v := (0 : Int32)) (pc' := 88) (by decide +kernel) rfl rfl ?_
  exact g_Cs_hindering_b88 k15 hk15 k33 hk33 x2 x4 x5 s0 (0 : Int32) w h
theorem g_Cs_hindering_b64 {l : Launch} {Q : Option Value → gW → Prop} (k15 : Int32 → Int32 → Int32 → gW → Option (Int32 × gW)) (hk15 : ∀ (x2 : Int32) (x3 : Int32) (x4 : Int32) (w : gW), zok eI (k15 x2 x3 x4 w) Q → Gz l m_Cs_hindering 6 15 [(0, .ref 88), (2, .int x2), (3, .int x3), (4, .int x4)] [] w Q) (k33 : Int32 → Int32 → Int32 → Int32 → gW → Option (Int32 × gW)) (hk33 : ∀ (x2 : Int32) (x3 : Int32) (x4 : Int32) (x5 : Int32) (w : gW), zok eI (k33 x2 x3 x4 x5 w) Q → Gz l m_Cs_hindering 6 33 [(0, .ref 88), (2, .int x2), (3, .int x3), (4, .int x4), (5, .int x5)] [] w Q) (x2 : Int32) (x3 : Int32) (x4 : Int32) (x5 : Int32) (s0 : Int32) (w : gW) (h : zok eI (f_Cs_hindering_b64 k15 k33 x2 x3 x4 x5 s0 w) Q) : Gz l m_Cs_hindering 6 64 [(0, .ref 88), (2, .int x2), (3, .int x3), (4, .int x4), (5, .int x5)] [.int s0] w Q := by
  unfold f_Cs_hindering_b64 at h
  refine Gz.istore (i := 6) (pc' := 66) (L' := [(6, .int s0), (0, .ref 88), (2, .int x2), (3, .int x3), (4, .int x4), (5, .int x5)]) (by decide +kernel) rfl (Nat.le_of_ble_eq_true rfl) rfl ?_
  refine Gz.iload_n (q := 3) (pc' := 67) (by decide +kernel) rfl 3 rfl ?_
  refine Gz.iload (i := 6) (pc' := 69) (by decide +kernel) rfl 0 rfl ?_
  refine Gz.if_eq (off := 18) (tgt := 87) (pc' := 72) (by decide +kernel) (by decide) rfl (fun c1 => ?_) (fun c1 => ?_)
  · have h := zok_t c1 h
    refine Gz.sub (L' := [(0, .ref 88), (2, .int x2), (4, .int x4), (5, .int x5)]) [1, 2, 4, 5] rfl ?_
    exact g_Cs_hindering_b87 k15 hk15 k33 hk33 x2 x4 x5 x3 w h
  · have h := zok_f c1 h
    refine Gz.aload_n (q := 0) (pc' := 73) (by decide +kernel) rfl 1 rfl ?_
    refine Gz.iload (i := 4) (pc' := 75) (by decide +kernel) rfl 4 rfl ?_
    refine Gz.iload (i := 5) (pc' := 77) (by decide +kernel) rfl 5 rfl ?_
    refine Gz.callVI (st := [.int x3]) (b := 88) (pc' := 80) [.int x4, .int x5] (g_Cs_canBoth x4 x5 w) h ok_m_Cs_canBoth lk_Cs_63 sh_88 rfl rfl rfl (Nat.le_of_ble_eq_true rfl) (Nat.le_of_ble_eq_true rfl) (Nat.le_of_ble_eq_true rfl) (by decide +kernel) rfl (fun v2 w3 h => ?_)
    refine Gz.if_ne (off := 7) (tgt := 87) (pc' := 83) (by decide +kernel) (by decide) rfl (fun c4 => ?_) (fun c4 => ?_)
    · have h := zok_f c4 h
      refine Gz.sub (L' := [(0, .ref 88), (2, .int x2), (4, .int x4), (5, .int x5)]) [1, 2, 4, 5] rfl ?_
      exact g_Cs_hindering_b87 k15 hk15 k33 hk33 x2 x4 x5 x3 w3 h
    · have h := zok_t c4 h
      refine Gz.iconst (n := 1) (v := (1 : Int32)) (pc' := 84) (by decide +kernel) rfl rfl ?_
      refine Gz.goto (off := 4) (tgt := 88) (by decide +kernel) (by decide) ?_
      refine Gz.sub (L' := [(0, .ref 88), (2, .int x2), (4, .int x4), (5, .int x5)]) [1, 2, 4, 5] rfl ?_
      exact g_Cs_hindering_b88 k15 hk15 k33 hk33 x2 x4 x5 x3 (1 : Int32) w3 h
theorem g_Cs_hindering_b33_s {l : Launch} {Q : Option Value → gW → Prop} (k15 : Int32 → Int32 → Int32 → gW → Option (Int32 × gW)) (hk15 : ∀ (x2 : Int32) (x3 : Int32) (x4 : Int32) (w : gW), zok eI (k15 x2 x3 x4 w) Q → Gz l m_Cs_hindering 6 15 [(0, .ref 88), (2, .int x2), (3, .int x3), (4, .int x4)] [] w Q) (k33 : Int32 → Int32 → Int32 → Int32 → gW → Option (Int32 × gW)) (hk33 : ∀ (x2 : Int32) (x3 : Int32) (x4 : Int32) (x5 : Int32) (w : gW), zok eI (k33 x2 x3 x4 x5 w) Q → Gz l m_Cs_hindering 6 33 [(0, .ref 88), (2, .int x2), (3, .int x3), (4, .int x4), (5, .int x5)] [] w Q) (x2 : Int32) (x3 : Int32) (x4 : Int32) (x5 : Int32) (w : gW) (h : zok eI (f_Cs_hindering_b33_s k15 k33 x2 x3 x4 x5 w) Q) : Gz l m_Cs_hindering 6 33 [(0, .ref 88), (2, .int x2), (3, .int x3), (4, .int x4), (5, .int x5)] [] w Q := by
  unfold f_Cs_hindering_b33_s at h
  refine Gz.iload (i := 5) (pc' := 35) (by decide +kernel) rfl 4 rfl ?_
  refine Gz.aload_n (q := 0) (pc' := 36) (by decide +kernel) rfl 0 rfl ?_
  refine Gz.getR (pc' := 39) (j := 1) 5 fd_Cs_24 sh_88 rfl (by decide +kernel) rfl ?_
  refine Gz.callVI (st := [.int x5]) (b := 5) (pc' := 42) [] (g_Oa_size w) h ok_m_Oa_size lk_Cs_32 sh_5 rfl rfl rfl (Nat.le_of_ble_eq_true rfl) (Nat.le_of_ble_eq_true rfl) (Nat.le_of_ble_eq_true rfl) (by decide +kernel) rfl (fun v1 w2 h => ?_)
  refine Gz.icmp_ge (off := 54) (tgt := 96) (pc' := 45) (by decide +kernel) (by decide) rfl (fun c3 => ?_) (fun c3 => ?_)
  · have h := zok_t c3 h
    obtain ⟨v4, e5⟩ : ∃ y : Int32, y = x4 + (1 : Int32) := ⟨_, rfl⟩
    have h := zok_l e5 h
    refine Gz.iinc (i := 4) (n := 1) (pc' := 99) (L' := [(4, .int v4), (0, .ref 88), (2, .int x2), (3, .int x3), (5, .int x5)]) v4 (by decide +kernel) rfl 3 rfl (by rw [e5]; rfl) (Nat.le_of_ble_eq_true rfl) rfl ?_
    refine Gz.goto (off := -84) (tgt := 15) (by decide +kernel) (by decide) ?_
    refine Gz.sub (L' := [(0, .ref 88), (2, .int x2), (3, .int x3), (4, .int v4)]) [1, 2, 3, 0] rfl ?_
    exact hk15 x2 x3 v4 w2 h
  · have h := zok_f c3 h
    refine Gz.iload_n (q := 2) (pc' := 46) (by decide +kernel) rfl 1 rfl ?_
    refine Gz.iload (i := 4) (pc' := 48) (by decide +kernel) rfl 3 rfl ?_
    refine Gz.ishr (pc' := 49) (by decide +kernel) rfl ?_
    refine Gz.iload_n (q := 2) (pc' := 50) (by decide +kernel) rfl 1 rfl ?_
    refine Gz.iload (i := 5) (pc' := 52) (by decide +kernel) rfl 4 rfl ?_
    refine Gz.ishr (pc' := 53) (by decide +kernel) rfl ?_
    refine Gz.iand (pc' := 54) (by decide +kernel) rfl ?_
    refine Gz.iconst (n := 1) (v := (1 : Int32)) (pc' := 55) (by decide +kernel) rfl rfl ?_
    refine Gz.iand (pc' := 56) (by decide +kernel) rfl ?_
    refine Gz.if_eq (off := 7) (tgt := 63) (pc' := 59) (by decide +kernel) (by decide) rfl (fun c6 => ?_) (fun c6 => ?_)
    · have h := zok_t c6 h
      refine Gz.iconst (n := 0) (v := (0 : Int32)) (pc' := 64) (by decide +kernel) rfl rfl ?_
      exact g_Cs_hindering_b64 k15 hk15 k33 hk33 x2 x3 x4 x5 (0 : Int32) w2 h
    · have h := zok_f c6 h
      refine Gz.iconst (n := 1) (v := (1 : Int32)) (pc' := 60) (by decide +kernel) rfl rfl ?_
      refine Gz.goto (off := 4) (tgt := 64) (by decide +kernel) (by decide) ?_
      exact g_Cs_hindering_b64 k15 hk15 k33 hk33 x2 x3 x4 x5 (1 : Int32) w2 h
theorem g_Cs_hindering_b33 {l : Launch} {Q : Option Value → gW → Prop} (k15 : Int32 → Int32 → Int32 → gW → Option (Int32 × gW)) (hk15 : ∀ (x2 : Int32) (x3 : Int32) (x4 : Int32) (w : gW), zok eI (k15 x2 x3 x4 w) Q → Gz l m_Cs_hindering 6 15 [(0, .ref 88), (2, .int x2), (3, .int x3), (4, .int x4)] [] w Q) (x2 : Int32) (x3 : Int32) (x4 : Int32) (x5 : Int32) (w : gW) (h : zok eI (f_Cs_hindering_b33 k15 x2 x3 x4 x5 w) Q) : Gz l m_Cs_hindering 6 33 [(0, .ref 88), (2, .int x2), (3, .int x3), (4, .int x4), (5, .int x5)] [] w Q := by
  have key : ∀ (n : Nat) (x2 : Int32) (x3 : Int32) (x4 : Int32) (x5 : Int32) (w : gW), zok eI (zfx (fun _ _ _ _ _ => none) (f_Cs_hindering_b33_s k15) n x2 x3 x4 x5 w) Q → Gz l m_Cs_hindering 6 33 [(0, .ref 88), (2, .int x2), (3, .int x3), (4, .int x4), (5, .int x5)] [] w Q := by
    intro n
    induction n with
    | zero => intro x2 x3 x4 x5 w h; exact zok_n h
    | succ n ih => intro x2 x3 x4 x5 w h; exact g_Cs_hindering_b33_s k15 hk15 _ ih x2 x3 x4 x5 w h
  exact key zFU x2 x3 x4 x5 w h
theorem g_Cs_hindering_b15_s {l : Launch} {Q : Option Value → gW → Prop} (k15 : Int32 → Int32 → Int32 → gW → Option (Int32 × gW)) (hk15 : ∀ (x2 : Int32) (x3 : Int32) (x4 : Int32) (w : gW), zok eI (k15 x2 x3 x4 w) Q → Gz l m_Cs_hindering 6 15 [(0, .ref 88), (2, .int x2), (3, .int x3), (4, .int x4)] [] w Q) (x2 : Int32) (x3 : Int32) (x4 : Int32) (w : gW) (h : zok eI (f_Cs_hindering_b15_s k15 x2 x3 x4 w) Q) : Gz l m_Cs_hindering 6 15 [(0, .ref 88), (2, .int x2), (3, .int x3), (4, .int x4)] [] w Q := by
  unfold f_Cs_hindering_b15_s at h
  refine Gz.iload (i := 4) (pc' := 17) (by decide +kernel) rfl 3 rfl ?_
  refine Gz.aload_n (q := 0) (pc' := 18) (by decide +kernel) rfl 0 rfl ?_
  refine Gz.getR (pc' := 21) (j := 1) 5 fd_Cs_24 sh_88 rfl (by decide +kernel) rfl ?_
  refine Gz.callVI (st := [.int x4]) (b := 5) (pc' := 24) [] (g_Oa_size w) h ok_m_Oa_size lk_Cs_32 sh_5 rfl rfl rfl (Nat.le_of_ble_eq_true rfl) (Nat.le_of_ble_eq_true rfl) (Nat.le_of_ble_eq_true rfl) (by decide +kernel) rfl (fun v1 w2 h => ?_)
  refine Gz.icmp_ge (off := 78) (tgt := 102) (pc' := 27) (by decide +kernel) (by decide) rfl (fun c3 => ?_) (fun c3 => ?_)
  · have h := zok_t c3 h
    refine Gz.iload_n (q := 3) (pc' := 103) (by decide +kernel) rfl 2 rfl ?_
    exact Gz.ireturn (by decide +kernel) rfl (zok_sI h)
  · have h := zok_f c3 h
    refine Gz.iload (i := 4) (pc' := 29) (by decide +kernel) rfl 3 rfl ?_
    refine Gz.iconst (n := 1) (v := (1 : Int32)) (pc' := 30) (by decide +kernel) rfl rfl ?_
    refine Gz.iadd (pc' := 31) (by decide +kernel) rfl ?_
    refine Gz.nmI (fun v4 e5 => ?_)
    have h := zok_l e5 h
    refine Gz.istore (i := 5) (pc' := 33) (L' := [(5, .int v4), (0, .ref 88), (2, .int x2), (3, .int x3), (4, .int x4)]) (by decide +kernel) rfl (Nat.le_of_ble_eq_true rfl) rfl ?_
    refine Gz.sub (L' := [(0, .ref 88), (2, .int x2), (3, .int x3), (4, .int x4), (5, .int v4)]) [1, 2, 3, 4, 0] rfl ?_
    exact g_Cs_hindering_b33 k15 hk15 x2 x3 x4 v4 w2 h
theorem g_Cs_hindering_b15 {l : Launch} {Q : Option Value → gW → Prop} (x2 : Int32) (x3 : Int32) (x4 : Int32) (w : gW) (h : zok eI (f_Cs_hindering_b15 x2 x3 x4 w) Q) : Gz l m_Cs_hindering 6 15 [(0, .ref 88), (2, .int x2), (3, .int x3), (4, .int x4)] [] w Q := by
  have key : ∀ (n : Nat) (x2 : Int32) (x3 : Int32) (x4 : Int32) (w : gW), zok eI (zfx (fun _ _ _ _ => none) (f_Cs_hindering_b15_s) n x2 x3 x4 w) Q → Gz l m_Cs_hindering 6 15 [(0, .ref 88), (2, .int x2), (3, .int x3), (4, .int x4)] [] w Q := by
    intro n
    induction n with
    | zero => intro x2 x3 x4 w h; exact zok_n h
    | succ n ih => intro x2 x3 x4 w h; exact g_Cs_hindering_b15_s _ ih x2 x3 x4 w h
  exact key zFU x2 x3 x4 w h
theorem g_Cs_hindering {l : Launch} (a1 : Int32) (w : gW) : gCt l m_Cs_hindering 6 [.ref 88, .int a1] w eI (f_Cs_hindering a1 w) := by
  intro Q h
  unfold f_Cs_hindering at h
  show Gz l m_Cs_hindering 6 0 [(0, .ref 88), (1, .int a1)] [] w Q
  refine Gz.aload_n (q := 0) (pc' := 1) (by decide +kernel) rfl 0 rfl ?_
  refine Gz.iload_n (q := 1) (pc' := 2) (by decide +kernel) rfl 1 rfl ?_
  refine Gz.callVV (st := []) (b := 88) (pc' := 5) [.int a1] (g_Cs_hearAll a1 w) h ok_m_Cs_hearAll lk_Cs_73 sh_88 rfl rfl rfl (Nat.le_of_ble_eq_true rfl) (Nat.le_of_ble_eq_true rfl) (Nat.le_of_ble_eq_true rfl) (by decide +kernel) rfl (fun _ w1 h => ?_)
  refine Gz.aload_n (q := 0) (pc' := 6) (by decide +kernel) rfl 0 rfl ?_
  refine Gz.callVI (st := []) (b := 88) (pc' := 9) [] (g_Cs_openAsHeard w1) h ok_m_Cs_openAsHeard lk_Cs_77 sh_88 rfl rfl rfl (Nat.le_of_ble_eq_true rfl) (Nat.le_of_ble_eq_true rfl) (Nat.le_of_ble_eq_true rfl) (by decide +kernel) rfl (fun v2 w3 h => ?_)
  refine Gz.istore_n (q := 2) (pc' := 10) (L' := [(2, .int v2), (0, .ref 88), (1, .int a1)]) (by decide +kernel) rfl (Nat.le_of_ble_eq_true rfl) rfl ?_
  refine Gz.iconst (n := 0) (v := (0 : Int32)) (pc' := 11) (by decide +kernel) rfl rfl ?_
  refine Gz.istore_n (q := 3) (pc' := 12) (L' := [(3, .int (0 : Int32)), (2, .int v2), (0, .ref 88), (1, .int a1)]) (by decide +kernel) rfl (Nat.le_of_ble_eq_true rfl) rfl ?_
  refine Gz.iconst (n := 0) (v := (0 : Int32)) (pc' := 13) (by decide +kernel) rfl rfl ?_
  refine Gz.istore (i := 4) (pc' := 15) (L' := [(4, .int (0 : Int32)), (3, .int (0 : Int32)), (2, .int v2), (0, .ref 88), (1, .int a1)]) (by decide +kernel) rfl (Nat.le_of_ble_eq_true rfl) rfl ?_
  refine Gz.sub (L' := [(0, .ref 88), (2, .int v2), (3, .int (0 : Int32)), (4, .int (0 : Int32))]) [3, 2, 1, 0] rfl ?_
  exact g_Cs_hindering_b15 v2 (0 : Int32) (0 : Int32) w3 h
def f_X_hinders (a1 : Int32) (w : gW) : Option (Int32 × gW) :=
zb (f_La_isDay a1 w) (fun v1 w2 =>
if v1 = 0 then
(some ((-1 : Int32), w2))
else
(zb (f_Cs_hindering a1 w2) (fun v4 w5 =>
some (v4, w5))))
theorem g_X_hinders {l : Launch} (a1 : Int32) (w : gW) : gCt l m_X_hinders 7 [.ref 0, .int a1] w eI (f_X_hinders a1 w) := by
  intro Q h
  unfold f_X_hinders at h
  show Gz l m_X_hinders 7 0 [(0, .ref 0), (1, .int a1)] [] w Q
  refine Gz.aload_n (q := 0) (pc' := 1) (by decide +kernel) rfl 0 rfl ?_
  refine Gz.getR (pc' := 4) (j := 3) 19 fd_X_33 sh_0 rfl (by decide +kernel) rfl ?_
  refine Gz.iload_n (q := 1) (pc' := 5) (by decide +kernel) rfl 1 rfl ?_
  refine Gz.callVI (st := []) (b := 19) (pc' := 8) [.int a1] (g_La_isDay a1 w) h ok_m_La_isDay lk_X_222 sh_19 rfl rfl rfl (Nat.le_of_ble_eq_true rfl) (Nat.le_of_ble_eq_true rfl) (Nat.le_of_ble_eq_true rfl) (by decide +kernel) rfl (fun v1 w2 h => ?_)
  refine Gz.if_eq (off := 14) (tgt := 22) (pc' := 11) (by decide +kernel) (by decide) rfl (fun c3 => ?_) (fun c3 => ?_)
  · have h := zok_t c3 h
    refine Gz.iconst (n := -1) (v := (-1 : Int32)) (pc' := 23) (by decide +kernel) rfl rfl ?_
    exact Gz.ireturn (by decide +kernel) rfl (zok_sI h)
  · have h := zok_f c3 h
    refine Gz.aload_n (q := 0) (pc' := 12) (by decide +kernel) rfl 0 rfl ?_
    refine Gz.getR (pc' := 15) (j := 7) 88 fd_X_61 sh_0 rfl (by decide +kernel) rfl ?_
    refine Gz.iload_n (q := 1) (pc' := 16) (by decide +kernel) rfl 1 rfl ?_
    refine Gz.callVI (st := []) (b := 88) (pc' := 19) [.int a1] (g_Cs_hindering a1 w2) h ok_m_Cs_hindering lk_X_234 sh_88 rfl rfl rfl (Nat.le_of_ble_eq_true rfl) (Nat.le_of_ble_eq_true rfl) (Nat.le_of_ble_eq_true rfl) (by decide +kernel) rfl (fun v4 w5 h => ?_)
    refine Gz.goto (off := 4) (tgt := 23) (by decide +kernel) (by decide) ?_
    exact Gz.ireturn (by decide +kernel) rfl (zok_sI h)
def f_Ro_isWithin_b2_s (k2 : Nat → Nat → Int32 → Int32 → gW → Option (Int32 × gW)) (x0 : Nat) (x1 : Nat) (x2 : Int32) (x3 : Int32) (w : gW) : Option (Int32 × gW) :=
if x2 ≤ x3 then
(some ((1 : Int32), w))
else
(if (g_sh x0).1 = 2 then
if (nI (g_len 2 x0)) ≤ x3 then
(some ((1 : Int32), w))
else
(if (g_sh x1).1 = 2 then
if (nI (g_len 2 x1)) ≤ x3 then
(some ((1 : Int32), w))
else
(if inb x3 (g_len 2 x0) then
if inb x3 (g_len 2 x1) then
if (lg_cmp ((w.2 x0 (ix x3)) &&& ((w.2 x1 (ix x3)) ^^^ (-1 : Int64))) (0 : Int64)) = 0 then
(zl (x3 + (1 : Int32)) (fun v9 =>
k2 x0 x1 x2 v9 w))
else
(some ((0 : Int32), w))
else none
else none)
else none)
else none)
def f_Ro_isWithin_b2 : Nat → Nat → Int32 → Int32 → gW → Option (Int32 × gW) := zfx (fun _ _ _ _ _ => none) (f_Ro_isWithin_b2_s) zFU
def f_Ro_isWithin (a0 : Nat) (a1 : Nat) (a2 : Int32) (w : gW) : Option (Int32 × gW) :=
f_Ro_isWithin_b2 a0 a1 a2 (0 : Int32) w
theorem g_Ro_isWithin_b2_s {l : Launch} {Q : Option Value → gW → Prop} (k2 : Nat → Nat → Int32 → Int32 → gW → Option (Int32 × gW)) (hk2 : ∀ (x0 : Nat) (x1 : Nat) (x2 : Int32) (x3 : Int32) (w : gW), zok eI (k2 x0 x1 x2 x3 w) Q → Gz l m_Ro_isWithin 1 2 [(0, .ref x0), (1, .ref x1), (2, .int x2), (3, .int x3)] [] w Q) (x0 : Nat) (x1 : Nat) (x2 : Int32) (x3 : Int32) (w : gW) (h : zok eI (f_Ro_isWithin_b2_s k2 x0 x1 x2 x3 w) Q) : Gz l m_Ro_isWithin 1 2 [(0, .ref x0), (1, .ref x1), (2, .int x2), (3, .int x3)] [] w Q := by
  unfold f_Ro_isWithin_b2_s at h
  refine Gz.iload_n (q := 3) (pc' := 3) (by decide +kernel) rfl 3 rfl ?_
  refine Gz.iload_n (q := 2) (pc' := 4) (by decide +kernel) rfl 2 rfl ?_
  refine Gz.icmp_ge (off := 39) (tgt := 43) (pc' := 7) (by decide +kernel) (by decide) rfl (fun c1 => ?_) (fun c1 => ?_)
  · have h := zok_t c1 h
    refine Gz.iconst (n := 1) (v := (1 : Int32)) (pc' := 44) (by decide +kernel) rfl rfl ?_
    exact Gz.zreturn (by decide +kernel) rfl (by decide) (zok_sI h)
  · have h := zok_f c1 h
    refine Gz.iload_n (q := 3) (pc' := 8) (by decide +kernel) rfl 3 rfl ?_
    refine Gz.aload_n (q := 0) (pc' := 9) (by decide +kernel) rfl 0 rfl ?_
    obtain ⟨c2, h⟩ := zok_c h
    refine Gz.alen (pc' := 10) (n := g_len 2 x0) (kd := 2) (by decide +kernel) rfl (Or.inr rfl) c2 rfl ?_
    refine Gz.icmp_ge (off := 33) (tgt := 43) (pc' := 13) (by decide +kernel) (by decide) rfl (fun c3 => ?_) (fun c3 => ?_)
    · have h := zok_t c3 h
      refine Gz.iconst (n := 1) (v := (1 : Int32)) (pc' := 44) (by decide +kernel) rfl rfl ?_
      exact Gz.zreturn (by decide +kernel) rfl (by decide) (zok_sI h)
    · have h := zok_f c3 h
      refine Gz.iload_n (q := 3) (pc' := 14) (by decide +kernel) rfl 3 rfl ?_
      refine Gz.aload_n (q := 1) (pc' := 15) (by decide +kernel) rfl 1 rfl ?_
      obtain ⟨c4, h⟩ := zok_c h
      refine Gz.alen (pc' := 16) (n := g_len 2 x1) (kd := 2) (by decide +kernel) rfl (Or.inr rfl) c4 rfl ?_
      refine Gz.icmp_ge (off := 27) (tgt := 43) (pc' := 19) (by decide +kernel) (by decide) rfl (fun c5 => ?_) (fun c5 => ?_)
      · have h := zok_t c5 h
        refine Gz.iconst (n := 1) (v := (1 : Int32)) (pc' := 44) (by decide +kernel) rfl rfl ?_
        exact Gz.zreturn (by decide +kernel) rfl (by decide) (zok_sI h)
      · have h := zok_f c5 h
        refine Gz.aload_n (q := 0) (pc' := 20) (by decide +kernel) rfl 0 rfl ?_
        refine Gz.iload_n (q := 3) (pc' := 21) (by decide +kernel) rfl 3 rfl ?_
        obtain ⟨c6, h⟩ := zok_c h
        refine Gz.lald (pc' := 22) (n := (g_len 2 x0)) (by decide +kernel) rfl rfl c6 ?_
        refine Gz.aload_n (q := 1) (pc' := 23) (by decide +kernel) rfl 1 rfl ?_
        refine Gz.iload_n (q := 3) (pc' := 24) (by decide +kernel) rfl 3 rfl ?_
        obtain ⟨c7, h⟩ := zok_c h
        refine Gz.lald (pc' := 25) (n := (g_len 2 x1)) (by decide +kernel) rfl rfl c7 ?_
        refine Gz.ldc2 (idx := 15) (v := (-1 : Int64)) (pc' := 28) (by decide +kernel) rfl kc_Ro_15 ?_
        refine Gz.lxor (pc' := 29) (by decide +kernel) rfl ?_
        refine Gz.land (pc' := 30) (by decide +kernel) rfl ?_
        refine Gz.lconst (n := 0) (v := (0 : Int64)) (pc' := 31) (by decide +kernel) rfl rfl ?_
        refine Gz.lcmp (pc' := 32) (by decide +kernel) rfl ?_
        refine Gz.if_eq (off := 5) (tgt := 37) (pc' := 35) (by decide +kernel) (by decide) rfl (fun c8 => ?_) (fun c8 => ?_)
        · have h := zok_t c8 h
          obtain ⟨v9, e10⟩ : ∃ y : Int32, y = x3 + (1 : Int32) := ⟨_, rfl⟩
          have h := zok_l e10 h
          refine Gz.iinc (i := 3) (n := 1) (pc' := 40) (L' := [(3, .int v9), (0, .ref x0), (1, .ref x1), (2, .int x2)]) v9 (by decide +kernel) rfl 3 rfl (by rw [e10]; rfl) (Nat.le_of_ble_eq_true rfl) rfl ?_
          refine Gz.goto (off := -38) (tgt := 2) (by decide +kernel) (by decide) ?_
          refine Gz.sub (L' := [(0, .ref x0), (1, .ref x1), (2, .int x2), (3, .int v9)]) [1, 2, 3, 0] rfl ?_
          exact hk2 x0 x1 x2 v9 w h
        · have h := zok_f c8 h
          refine Gz.iconst (n := 0) (v := (0 : Int32)) (pc' := 36) (by decide +kernel) rfl rfl ?_
          exact Gz.zreturn (by decide +kernel) rfl (by decide) (zok_sI h)
theorem g_Ro_isWithin_b2 {l : Launch} {Q : Option Value → gW → Prop} (x0 : Nat) (x1 : Nat) (x2 : Int32) (x3 : Int32) (w : gW) (h : zok eI (f_Ro_isWithin_b2 x0 x1 x2 x3 w) Q) : Gz l m_Ro_isWithin 1 2 [(0, .ref x0), (1, .ref x1), (2, .int x2), (3, .int x3)] [] w Q := by
  have key : ∀ (n : Nat) (x0 : Nat) (x1 : Nat) (x2 : Int32) (x3 : Int32) (w : gW), zok eI (zfx (fun _ _ _ _ _ => none) (f_Ro_isWithin_b2_s) n x0 x1 x2 x3 w) Q → Gz l m_Ro_isWithin 1 2 [(0, .ref x0), (1, .ref x1), (2, .int x2), (3, .int x3)] [] w Q := by
    intro n
    induction n with
    | zero => intro x0 x1 x2 x3 w h; exact zok_n h
    | succ n ih => intro x0 x1 x2 x3 w h; exact g_Ro_isWithin_b2_s _ ih x0 x1 x2 x3 w h
  exact key zFU x0 x1 x2 x3 w h
theorem g_Ro_isWithin {l : Launch} (a0 : Nat) (a1 : Nat) (a2 : Int32) (w : gW) : gCt l m_Ro_isWithin 1 [.ref a0, .ref a1, .int a2] w eI (f_Ro_isWithin a0 a1 a2 w) := by
  intro Q h
  unfold f_Ro_isWithin at h
  show Gz l m_Ro_isWithin 1 0 [(0, .ref a0), (1, .ref a1), (2, .int a2)] [] w Q
  refine Gz.iconst (n := 0) (v := (0 : Int32)) (pc' := 1) (by decide +kernel) rfl rfl ?_
  refine Gz.istore_n (q := 3) (pc' := 2) (L' := [(3, .int (0 : Int32)), (0, .ref a0), (1, .ref a1), (2, .int a2)]) (by decide +kernel) rfl (Nat.le_of_ble_eq_true rfl) rfl ?_
  refine Gz.sub (L' := [(0, .ref a0), (1, .ref a1), (2, .int a2), (3, .int (0 : Int32))]) [1, 2, 3, 0] rfl ?_
  exact g_Ro_isWithin_b2 a0 a1 a2 (0 : Int32) w h
def f_Cs_sure_b53 (k9 : Int32 → Int32 → gW → Option (Int32 × gW)) (x3 : Int32) (s0 : Int32) (s1 : Int32) (w : gW) : Option (Int32 × gW) :=
zl (s0 ||| s1) (fun v1 =>
zl (x3 + (1 : Int32)) (fun v3 =>
k9 v1 v3 w))
def f_Cs_sure_b9_s (k9 : Int32 → Int32 → gW → Option (Int32 × gW)) (x2 : Int32) (x3 : Int32) (w : gW) : Option (Int32 × gW) :=
zb (f_Oa_size w) (fun v1 w2 =>
if v1 ≤ x3 then
(some (x2, w2))
else
(zb (f_Co_fitting w2) (fun v4 w5 =>
zb (f_Cs_rowOf x3 w5) (fun v6 w7 =>
zb (f_La_words w7) (fun v8 w9 =>
zb (f_Ro_isWithin v4 v6 v8 w9) (fun v10 w11 =>
if v10 = 0 then
(f_Cs_sure_b53 k9 x3 x2 (0 : Int32) w11)
else
(f_Cs_sure_b53 k9 x3 x2 ((1 : Int32) <<< (x3 &&& 31)) w11)))))))
def f_Cs_sure_b9 : Int32 → Int32 → gW → Option (Int32 × gW) := zfx (fun _ _ _ => none) (f_Cs_sure_b9_s) zFU
def f_Cs_sure (a1 : Int32) (w : gW) : Option (Int32 × gW) :=
zb (f_Cs_hearAll a1 w) (fun _ w1 =>
f_Cs_sure_b9 (0 : Int32) (0 : Int32) w1)
theorem g_Cs_sure_b53 {l : Launch} {Q : Option Value → gW → Prop} (k9 : Int32 → Int32 → gW → Option (Int32 × gW)) (hk9 : ∀ (x2 : Int32) (x3 : Int32) (w : gW), zok eI (k9 x2 x3 w) Q → Gz l m_Cs_sure 6 9 [(0, .ref 88), (2, .int x2), (3, .int x3)] [] w Q) (x3 : Int32) (s0 : Int32) (s1 : Int32) (w : gW) (h : zok eI (f_Cs_sure_b53 k9 x3 s0 s1 w) Q) : Gz l m_Cs_sure 6 53 [(0, .ref 88), (3, .int x3)] [.int s1, .int s0] w Q := by
  unfold f_Cs_sure_b53 at h
  refine Gz.ior (pc' := 54) (by decide +kernel) rfl ?_
  refine Gz.nmI (fun v1 e2 => ?_)
  have h := zok_l e2 h
  refine Gz.istore_n (q := 2) (pc' := 55) (L' := [(2, .int v1), (0, .ref 88), (3, .int x3)]) (by decide +kernel) rfl (Nat.le_of_ble_eq_true rfl) rfl ?_
  obtain ⟨v3, e4⟩ : ∃ y : Int32, y = x3 + (1 : Int32) := ⟨_, rfl⟩
  have h := zok_l e4 h
  refine Gz.iinc (i := 3) (n := 1) (pc' := 58) (L' := [(3, .int v3), (2, .int v1), (0, .ref 88)]) v3 (by decide +kernel) rfl 2 rfl (by rw [e4]; rfl) (Nat.le_of_ble_eq_true rfl) rfl ?_
  refine Gz.goto (off := -49) (tgt := 9) (by decide +kernel) (by decide) ?_
  refine Gz.sub (L' := [(0, .ref 88), (2, .int v1), (3, .int v3)]) [2, 1, 0] rfl ?_
  exact hk9 v1 v3 w h
theorem g_Cs_sure_b9_s {l : Launch} {Q : Option Value → gW → Prop} (k9 : Int32 → Int32 → gW → Option (Int32 × gW)) (hk9 : ∀ (x2 : Int32) (x3 : Int32) (w : gW), zok eI (k9 x2 x3 w) Q → Gz l m_Cs_sure 6 9 [(0, .ref 88), (2, .int x2), (3, .int x3)] [] w Q) (x2 : Int32) (x3 : Int32) (w : gW) (h : zok eI (f_Cs_sure_b9_s k9 x2 x3 w) Q) : Gz l m_Cs_sure 6 9 [(0, .ref 88), (2, .int x2), (3, .int x3)] [] w Q := by
  unfold f_Cs_sure_b9_s at h
  refine Gz.iload_n (q := 3) (pc' := 10) (by decide +kernel) rfl 2 rfl ?_
  refine Gz.aload_n (q := 0) (pc' := 11) (by decide +kernel) rfl 0 rfl ?_
  refine Gz.getR (pc' := 14) (j := 1) 5 fd_Cs_24 sh_88 rfl (by decide +kernel) rfl ?_
  refine Gz.callVI (st := [.int x3]) (b := 5) (pc' := 17) [] (g_Oa_size w) h ok_m_Oa_size lk_Cs_32 sh_5 rfl rfl rfl (Nat.le_of_ble_eq_true rfl) (Nat.le_of_ble_eq_true rfl) (Nat.le_of_ble_eq_true rfl) (by decide +kernel) rfl (fun v1 w2 h => ?_)
  refine Gz.icmp_ge (off := 44) (tgt := 61) (pc' := 20) (by decide +kernel) (by decide) rfl (fun c3 => ?_) (fun c3 => ?_)
  · have h := zok_t c3 h
    refine Gz.iload_n (q := 2) (pc' := 62) (by decide +kernel) rfl 1 rfl ?_
    exact Gz.ireturn (by decide +kernel) rfl (zok_sI h)
  · have h := zok_f c3 h
    refine Gz.iload_n (q := 2) (pc' := 21) (by decide +kernel) rfl 1 rfl ?_
    refine Gz.aload_n (q := 0) (pc' := 22) (by decide +kernel) rfl 0 rfl ?_
    refine Gz.getR (pc' := 25) (j := 2) 73 fd_Cs_28 sh_88 rfl (by decide +kernel) rfl ?_
    refine Gz.callVR (st := [.int x2]) (b := 73) (pc' := 28) [] (g_Co_fitting w2) h ok_m_Co_fitting lk_Cs_44 sh_73 rfl rfl rfl (Nat.le_of_ble_eq_true rfl) (Nat.le_of_ble_eq_true rfl) (Nat.le_of_ble_eq_true rfl) (by decide +kernel) rfl (fun v4 w5 h => ?_)
    refine Gz.aload_n (q := 0) (pc' := 29) (by decide +kernel) rfl 0 rfl ?_
    refine Gz.iload_n (q := 3) (pc' := 30) (by decide +kernel) rfl 2 rfl ?_
    refine Gz.callVR (st := [.ref v4, .int x2]) (b := 88) (pc' := 33) [.int x3] (g_Cs_rowOf x3 w5) h ok_m_Cs_rowOf lk_Cs_48 sh_88 rfl rfl rfl (Nat.le_of_ble_eq_true rfl) (Nat.le_of_ble_eq_true rfl) (Nat.le_of_ble_eq_true rfl) (by decide +kernel) rfl (fun v6 w7 h => ?_)
    refine Gz.aload_n (q := 0) (pc' := 34) (by decide +kernel) rfl 0 rfl ?_
    refine Gz.getR (pc' := 37) (j := 0) 19 fd_Cs_20 sh_88 rfl (by decide +kernel) rfl ?_
    refine Gz.callVI (st := [.ref v6, .ref v4, .int x2]) (b := 19) (pc' := 40) [] (g_La_words w7) h ok_m_La_words lk_Cs_52 sh_19 rfl rfl rfl (Nat.le_of_ble_eq_true rfl) (Nat.le_of_ble_eq_true rfl) (Nat.le_of_ble_eq_true rfl) (by decide +kernel) rfl (fun v8 w9 h => ?_)
    refine Gz.callSI (st := [.int x2]) (pc' := 43) [.ref v4, .ref v6, .int v8] (g_Ro_isWithin v4 v6 v8 w9) h ok_m_Ro_isWithin lk_Cs_106 rfl (Nat.le_of_ble_eq_true rfl) (Nat.le_of_ble_eq_true rfl) (Nat.le_of_ble_eq_true rfl) (by decide +kernel) rfl (fun v10 w11 h => ?_)
    refine Gz.if_eq (off := 9) (tgt := 52) (pc' := 46) (by decide +kernel) (by decide) rfl (fun c12 => ?_) (fun c12 => ?_)
    · have h := zok_t c12 h
      refine Gz.iconst (n := 0) (v := (0 : Int32)) (pc' := 53) (by decide +kernel) rfl rfl ?_
      refine Gz.sub (L' := [(0, .ref 88), (3, .int x3)]) [0, 2] rfl ?_
      exact g_Cs_sure_b53 k9 hk9 x3 x2 (0 : Int32) w11 h
    · have h := zok_f c12 h
      refine Gz.iconst (n := 1) (v := (1 : Int32)) (pc' := 47) (by decide +kernel) rfl rfl ?_
      refine Gz.iload_n (q := 3) (pc' := 48) (by decide +kernel) rfl 2 rfl ?_
      refine Gz.ishl (pc' := 49) (by decide +kernel) rfl ?_
      refine Gz.goto (off := 4) (tgt := 53) (by decide +kernel) (by decide) ?_
      refine Gz.sub (L' := [(0, .ref 88), (3, .int x3)]) [0, 2] rfl ?_
      exact g_Cs_sure_b53 k9 hk9 x3 x2 ((1 : Int32) <<< (x3 &&& 31)) w11 h
theorem g_Cs_sure_b9 {l : Launch} {Q : Option Value → gW → Prop} (x2 : Int32) (x3 : Int32) (w : gW) (h : zok eI (f_Cs_sure_b9 x2 x3 w) Q) : Gz l m_Cs_sure 6 9 [(0, .ref 88), (2, .int x2), (3, .int x3)] [] w Q := by
  have key : ∀ (n : Nat) (x2 : Int32) (x3 : Int32) (w : gW), zok eI (zfx (fun _ _ _ => none) (f_Cs_sure_b9_s) n x2 x3 w) Q → Gz l m_Cs_sure 6 9 [(0, .ref 88), (2, .int x2), (3, .int x3)] [] w Q := by
    intro n
    induction n with
    | zero => intro x2 x3 w h; exact zok_n h
    | succ n ih => intro x2 x3 w h; exact g_Cs_sure_b9_s _ ih x2 x3 w h
  exact key zFU x2 x3 w h
theorem g_Cs_sure {l : Launch} (a1 : Int32) (w : gW) : gCt l m_Cs_sure 6 [.ref 88, .int a1] w eI (f_Cs_sure a1 w) := by
  intro Q h
  unfold f_Cs_sure at h
  show Gz l m_Cs_sure 6 0 [(0, .ref 88), (1, .int a1)] [] w Q
  refine Gz.aload_n (q := 0) (pc' := 1) (by decide +kernel) rfl 0 rfl ?_
  refine Gz.iload_n (q := 1) (pc' := 2) (by decide +kernel) rfl 1 rfl ?_
  refine Gz.callVV (st := []) (b := 88) (pc' := 5) [.int a1] (g_Cs_hearAll a1 w) h ok_m_Cs_hearAll lk_Cs_73 sh_88 rfl rfl rfl (Nat.le_of_ble_eq_true rfl) (Nat.le_of_ble_eq_true rfl) (Nat.le_of_ble_eq_true rfl) (by decide +kernel) rfl (fun _ w1 h => ?_)
  refine Gz.iconst (n := 0) (v := (0 : Int32)) (pc' := 6) (by decide +kernel) rfl rfl ?_
  refine Gz.istore_n (q := 2) (pc' := 7) (L' := [(2, .int (0 : Int32)), (0, .ref 88), (1, .int a1)]) (by decide +kernel) rfl (Nat.le_of_ble_eq_true rfl) rfl ?_
  refine Gz.iconst (n := 0) (v := (0 : Int32)) (pc' := 8) (by decide +kernel) rfl rfl ?_
  refine Gz.istore_n (q := 3) (pc' := 9) (L' := [(3, .int (0 : Int32)), (2, .int (0 : Int32)), (0, .ref 88), (1, .int a1)]) (by decide +kernel) rfl (Nat.le_of_ble_eq_true rfl) rfl ?_
  refine Gz.sub (L' := [(0, .ref 88), (2, .int (0 : Int32)), (3, .int (0 : Int32))]) [2, 1, 0] rfl ?_
  exact g_Cs_sure_b9 (0 : Int32) (0 : Int32) w1 h
def f_X_must (a1 : Int32) (w : gW) : Option (Int32 × gW) :=
zb (f_La_isDay a1 w) (fun v1 w2 =>
if v1 = 0 then
(some ((-1 : Int32), w2))
else
(zb (f_Cs_sure a1 w2) (fun v4 w5 =>
some (v4, w5))))
theorem g_X_must {l : Launch} (a1 : Int32) (w : gW) : gCt l m_X_must 7 [.ref 0, .int a1] w eI (f_X_must a1 w) := by
  intro Q h
  unfold f_X_must at h
  show Gz l m_X_must 7 0 [(0, .ref 0), (1, .int a1)] [] w Q
  refine Gz.aload_n (q := 0) (pc' := 1) (by decide +kernel) rfl 0 rfl ?_
  refine Gz.getR (pc' := 4) (j := 3) 19 fd_X_33 sh_0 rfl (by decide +kernel) rfl ?_
  refine Gz.iload_n (q := 1) (pc' := 5) (by decide +kernel) rfl 1 rfl ?_
  refine Gz.callVI (st := []) (b := 19) (pc' := 8) [.int a1] (g_La_isDay a1 w) h ok_m_La_isDay lk_X_222 sh_19 rfl rfl rfl (Nat.le_of_ble_eq_true rfl) (Nat.le_of_ble_eq_true rfl) (Nat.le_of_ble_eq_true rfl) (by decide +kernel) rfl (fun v1 w2 h => ?_)
  refine Gz.if_eq (off := 14) (tgt := 22) (pc' := 11) (by decide +kernel) (by decide) rfl (fun c3 => ?_) (fun c3 => ?_)
  · have h := zok_t c3 h
    refine Gz.iconst (n := -1) (v := (-1 : Int32)) (pc' := 23) (by decide +kernel) rfl rfl ?_
    exact Gz.ireturn (by decide +kernel) rfl (zok_sI h)
  · have h := zok_f c3 h
    refine Gz.aload_n (q := 0) (pc' := 12) (by decide +kernel) rfl 0 rfl ?_
    refine Gz.getR (pc' := 15) (j := 7) 88 fd_X_61 sh_0 rfl (by decide +kernel) rfl ?_
    refine Gz.iload_n (q := 1) (pc' := 16) (by decide +kernel) rfl 1 rfl ?_
    refine Gz.callVI (st := []) (b := 88) (pc' := 19) [.int a1] (g_Cs_sure a1 w2) h ok_m_Cs_sure lk_X_237 sh_88 rfl rfl rfl (Nat.le_of_ble_eq_true rfl) (Nat.le_of_ble_eq_true rfl) (Nat.le_of_ble_eq_true rfl) (by decide +kernel) rfl (fun v4 w5 h => ?_)
    refine Gz.goto (off := 4) (tgt := 23) (by decide +kernel) (by decide) ?_
    exact Gz.ireturn (by decide +kernel) rfl (zok_sI h)
def f_Cs_keptOpen_b82 (k4 : Int32 → Int32 → Int32 → gW → Option (Int32 × gW)) (k41 : Int32 → Int32 → Int32 → Int64 → Int32 → gW → Option (Int32 × gW)) (x1 : Int32) (x3 : Int32) (x4 : Int64) (x6 : Int32) (s0 : Int32) (s1 : Int32) (w : gW) : Option (Int32 × gW) :=
zl (s0 ||| s1) (fun v1 =>
zl (x6 + (1 : Int32)) (fun v3 =>
k41 x1 v1 x3 x4 v3 w))
def f_Cs_keptOpen_b41_s (k4 : Int32 → Int32 → Int32 → gW → Option (Int32 × gW)) (k41 : Int32 → Int32 → Int32 → Int64 → Int32 → gW → Option (Int32 × gW)) (x1 : Int32) (x2 : Int32) (x3 : Int32) (x4 : Int64) (x6 : Int32) (w : gW) : Option (Int32 × gW) :=
zb (f_La_deedCount w) (fun v1 w2 =>
if v1 ≤ x6 then
(zl (x3 + (1 : Int32)) (fun v4 =>
k4 x1 x2 v4 w2))
else
(zb (f_La_dateWord x6 (9 : Int32) x3 w2) (fun v6 w7 =>
if (lg_cmp (x4 &&& v6) (0 : Int64)) = 0 then
(f_Cs_keptOpen_b82 k4 k41 x1 x3 x4 x6 x2 (0 : Int32) w7)
else
(f_Cs_keptOpen_b82 k4 k41 x1 x3 x4 x6 x2 ((1 : Int32) <<< (x6 &&& 31)) w7))))
def f_Cs_keptOpen_b41 (k4 : Int32 → Int32 → Int32 → gW → Option (Int32 × gW)) : Int32 → Int32 → Int32 → Int64 → Int32 → gW → Option (Int32 × gW) := zfx (fun _ _ _ _ _ _ => none) (f_Cs_keptOpen_b41_s k4) zFU
def f_Cs_keptOpen_b4_s (k4 : Int32 → Int32 → Int32 → gW → Option (Int32 × gW)) (x1 : Int32) (x2 : Int32) (x3 : Int32) (w : gW) : Option (Int32 × gW) :=
zb (f_La_words w) (fun v1 w2 =>
if v1 ≤ x3 then
(some (x2, w2))
else
(zb (f_Co_fitting w2) (fun v4 w5 =>
zb (f_Ro_word v4 x3 w5) (fun v6 w7 =>
zb (f_Cs_rowOf x1 w7) (fun v8 w9 =>
zb (f_Ro_word v8 x3 w9) (fun v10 w11 =>
zl (v6 &&& v10) (fun v12 =>
f_Cs_keptOpen_b41 k4 x1 x2 x3 v12 (0 : Int32) w11)))))))
def f_Cs_keptOpen_b4 : Int32 → Int32 → Int32 → gW → Option (Int32 × gW) := zfx (fun _ _ _ _ => none) (f_Cs_keptOpen_b4_s) zFU
def f_Cs_keptOpen (a1 : Int32) (w : gW) : Option (Int32 × gW) :=
f_Cs_keptOpen_b4 a1 (0 : Int32) (0 : Int32) w
theorem g_Cs_keptOpen_b82 {l : Launch} {Q : Option Value → gW → Prop} (k4 : Int32 → Int32 → Int32 → gW → Option (Int32 × gW)) (hk4 : ∀ (x1 : Int32) (x2 : Int32) (x3 : Int32) (w : gW), zok eI (k4 x1 x2 x3 w) Q → Gz l m_Cs_keptOpen 4 4 [(0, .ref 88), (1, .int x1), (2, .int x2), (3, .int x3)] [] w Q) (k41 : Int32 → Int32 → Int32 → Int64 → Int32 → gW → Option (Int32 × gW)) (hk41 : ∀ (x1 : Int32) (x2 : Int32) (x3 : Int32) (x4 : Int64) (x6 : Int32) (w : gW), zok eI (k41 x1 x2 x3 x4 x6 w) Q → Gz l m_Cs_keptOpen 4 41 [(0, .ref 88), (1, .int x1), (2, .int x2), (3, .int x3), (4, .long x4), (6, .int x6)] [] w Q) (x1 : Int32) (x3 : Int32) (x4 : Int64) (x6 : Int32) (s0 : Int32) (s1 : Int32) (w : gW) (h : zok eI (f_Cs_keptOpen_b82 k4 k41 x1 x3 x4 x6 s0 s1 w) Q) : Gz l m_Cs_keptOpen 4 82 [(0, .ref 88), (1, .int x1), (3, .int x3), (4, .long x4), (6, .int x6)] [.int s1, .int s0] w Q := by
  unfold f_Cs_keptOpen_b82 at h
  refine Gz.ior (pc' := 83) (by decide +kernel) rfl ?_
  refine Gz.nmI (fun v1 e2 => ?_)
  have h := zok_l e2 h
  refine Gz.istore_n (q := 2) (pc' := 84) (L' := [(2, .int v1), (0, .ref 88), (1, .int x1), (3, .int x3), (4, .long x4), (6, .int x6)]) (by decide +kernel) rfl (Nat.le_of_ble_eq_true rfl) rfl ?_
  obtain ⟨v3, e4⟩ : ∃ y : Int32, y = x6 + (1 : Int32) := ⟨_, rfl⟩
  have h := zok_l e4 h
  refine Gz.iinc (i := 6) (n := 1) (pc' := 87) (L' := [(6, .int v3), (2, .int v1), (0, .ref 88), (1, .int x1), (3, .int x3), (4, .long x4)]) v3 (by decide +kernel) rfl 5 rfl (by rw [e4]; rfl) (Nat.le_of_ble_eq_true rfl) rfl ?_
  refine Gz.goto (off := -46) (tgt := 41) (by decide +kernel) (by decide) ?_
  refine Gz.sub (L' := [(0, .ref 88), (1, .int x1), (2, .int v1), (3, .int x3), (4, .long x4), (6, .int v3)]) [2, 3, 1, 4, 5, 0] rfl ?_
  exact hk41 x1 v1 x3 x4 v3 w h
theorem g_Cs_keptOpen_b41_s {l : Launch} {Q : Option Value → gW → Prop} (k4 : Int32 → Int32 → Int32 → gW → Option (Int32 × gW)) (hk4 : ∀ (x1 : Int32) (x2 : Int32) (x3 : Int32) (w : gW), zok eI (k4 x1 x2 x3 w) Q → Gz l m_Cs_keptOpen 4 4 [(0, .ref 88), (1, .int x1), (2, .int x2), (3, .int x3)] [] w Q) (k41 : Int32 → Int32 → Int32 → Int64 → Int32 → gW → Option (Int32 × gW)) (hk41 : ∀ (x1 : Int32) (x2 : Int32) (x3 : Int32) (x4 : Int64) (x6 : Int32) (w : gW), zok eI (k41 x1 x2 x3 x4 x6 w) Q → Gz l m_Cs_keptOpen 4 41 [(0, .ref 88), (1, .int x1), (2, .int x2), (3, .int x3), (4, .long x4), (6, .int x6)] [] w Q) (x1 : Int32) (x2 : Int32) (x3 : Int32) (x4 : Int64) (x6 : Int32) (w : gW) (h : zok eI (f_Cs_keptOpen_b41_s k4 k41 x1 x2 x3 x4 x6 w) Q) : Gz l m_Cs_keptOpen 4 41 [(0, .ref 88), (1, .int x1), (2, .int x2), (3, .int x3), (4, .long x4), (6, .int x6)] [] w Q := by
  unfold f_Cs_keptOpen_b41_s at h
  refine Gz.iload (i := 6) (pc' := 43) (by decide +kernel) rfl 5 rfl ?_
  refine Gz.aload_n (q := 0) (pc' := 44) (by decide +kernel) rfl 0 rfl ?_
  refine Gz.getR (pc' := 47) (j := 0) 19 fd_Cs_20 sh_88 rfl (by decide +kernel) rfl ?_
  refine Gz.callVI (st := [.int x6]) (b := 19) (pc' := 50) [] (g_La_deedCount w) h ok_m_La_deedCount lk_Cs_136 sh_19 rfl rfl rfl (Nat.le_of_ble_eq_true rfl) (Nat.le_of_ble_eq_true rfl) (Nat.le_of_ble_eq_true rfl) (by decide +kernel) rfl (fun v1 w2 h => ?_)
  refine Gz.icmp_ge (off := 40) (tgt := 90) (pc' := 53) (by decide +kernel) (by decide) rfl (fun c3 => ?_) (fun c3 => ?_)
  · have h := zok_t c3 h
    obtain ⟨v4, e5⟩ : ∃ y : Int32, y = x3 + (1 : Int32) := ⟨_, rfl⟩
    have h := zok_l e5 h
    refine Gz.iinc (i := 3) (n := 1) (pc' := 93) (L' := [(3, .int v4), (0, .ref 88), (1, .int x1), (2, .int x2), (4, .long x4), (6, .int x6)]) v4 (by decide +kernel) rfl 3 rfl (by rw [e5]; rfl) (Nat.le_of_ble_eq_true rfl) rfl ?_
    refine Gz.goto (off := -89) (tgt := 4) (by decide +kernel) (by decide) ?_
    refine Gz.sub (L' := [(0, .ref 88), (1, .int x1), (2, .int x2), (3, .int v4)]) [1, 2, 3, 0] rfl ?_
    exact hk4 x1 x2 v4 w2 h
  · have h := zok_f c3 h
    refine Gz.iload_n (q := 2) (pc' := 54) (by decide +kernel) rfl 2 rfl ?_
    refine Gz.lload (i := 4) (pc' := 56) (by decide +kernel) rfl 4 rfl ?_
    refine Gz.aload_n (q := 0) (pc' := 57) (by decide +kernel) rfl 0 rfl ?_
    refine Gz.getR (pc' := 60) (j := 0) 19 fd_Cs_20 sh_88 rfl (by decide +kernel) rfl ?_
    refine Gz.iload (i := 6) (pc' := 62) (by decide +kernel) rfl 5 rfl ?_
    refine Gz.bipush (n := 9) (v := (9 : Int32)) (pc' := 64) (by decide +kernel) rfl rfl ?_
    refine Gz.iload_n (q := 3) (pc' := 65) (by decide +kernel) rfl 3 rfl ?_
    refine Gz.callVJ (st := [.long x4, .int x2]) (b := 19) (pc' := 68) [.int x6, .int (9 : Int32), .int x3] (g_La_dateWord x6 (9 : Int32) x3 w2) h ok_m_La_dateWord lk_Cs_130 sh_19 rfl rfl rfl (Nat.le_of_ble_eq_true rfl) (Nat.le_of_ble_eq_true rfl) (Nat.le_of_ble_eq_true rfl) (by decide +kernel) rfl (fun v6 w7 h => ?_)
    refine Gz.land (pc' := 69) (by decide +kernel) rfl ?_
    refine Gz.lconst (n := 0) (v := (0 : Int64)) (pc' := 70) (by decide +kernel) rfl rfl ?_
    refine Gz.lcmp (pc' := 71) (by decide +kernel) rfl ?_
    refine Gz.if_ne (off := 7) (tgt := 78) (pc' := 74) (by decide +kernel) (by decide) rfl (fun c8 => ?_) (fun c8 => ?_)
    · have h := zok_f c8 h
      refine Gz.iconst (n := 1) (v := (1 : Int32)) (pc' := 79) (by decide +kernel) rfl rfl ?_
      refine Gz.iload (i := 6) (pc' := 81) (by decide +kernel) rfl 5 rfl ?_
      refine Gz.ishl (pc' := 82) (by decide +kernel) rfl ?_
      refine Gz.sub (L' := [(0, .ref 88), (1, .int x1), (3, .int x3), (4, .long x4), (6, .int x6)]) [0, 1, 3, 4, 5] rfl ?_
      exact g_Cs_keptOpen_b82 k4 hk4 k41 hk41 x1 x3 x4 x6 x2 ((1 : Int32) <<< (x6 &&& 31)) w7 h
    · have h := zok_t c8 h
      refine Gz.iconst (n := 0) (v := (0 : Int32)) (pc' := 75) (by decide +kernel) rfl rfl ?_
      refine Gz.goto (off := 7) (tgt := 82) (by decide +kernel) (by decide) ?_
      refine Gz.sub (L' := [(0, .ref 88), (1, .int x1), (3, .int x3), (4, .long x4), (6, .int x6)]) [0, 1, 3, 4, 5] rfl ?_
      exact g_Cs_keptOpen_b82 k4 hk4 k41 hk41 x1 x3 x4 x6 x2 (0 : Int32) w7 h
theorem g_Cs_keptOpen_b41 {l : Launch} {Q : Option Value → gW → Prop} (k4 : Int32 → Int32 → Int32 → gW → Option (Int32 × gW)) (hk4 : ∀ (x1 : Int32) (x2 : Int32) (x3 : Int32) (w : gW), zok eI (k4 x1 x2 x3 w) Q → Gz l m_Cs_keptOpen 4 4 [(0, .ref 88), (1, .int x1), (2, .int x2), (3, .int x3)] [] w Q) (x1 : Int32) (x2 : Int32) (x3 : Int32) (x4 : Int64) (x6 : Int32) (w : gW) (h : zok eI (f_Cs_keptOpen_b41 k4 x1 x2 x3 x4 x6 w) Q) : Gz l m_Cs_keptOpen 4 41 [(0, .ref 88), (1, .int x1), (2, .int x2), (3, .int x3), (4, .long x4), (6, .int x6)] [] w Q := by
  have key : ∀ (n : Nat) (x1 : Int32) (x2 : Int32) (x3 : Int32) (x4 : Int64) (x6 : Int32) (w : gW), zok eI (zfx (fun _ _ _ _ _ _ => none) (f_Cs_keptOpen_b41_s k4) n x1 x2 x3 x4 x6 w) Q → Gz l m_Cs_keptOpen 4 41 [(0, .ref 88), (1, .int x1), (2, .int x2), (3, .int x3), (4, .long x4), (6, .int x6)] [] w Q := by
    intro n
    induction n with
    | zero => intro x1 x2 x3 x4 x6 w h; exact zok_n h
    | succ n ih => intro x1 x2 x3 x4 x6 w h; exact g_Cs_keptOpen_b41_s k4 hk4 _ ih x1 x2 x3 x4 x6 w h
  exact key zFU x1 x2 x3 x4 x6 w h
theorem g_Cs_keptOpen_b4_s {l : Launch} {Q : Option Value → gW → Prop} (k4 : Int32 → Int32 → Int32 → gW → Option (Int32 × gW)) (hk4 : ∀ (x1 : Int32) (x2 : Int32) (x3 : Int32) (w : gW), zok eI (k4 x1 x2 x3 w) Q → Gz l m_Cs_keptOpen 4 4 [(0, .ref 88), (1, .int x1), (2, .int x2), (3, .int x3)] [] w Q) (x1 : Int32) (x2 : Int32) (x3 : Int32) (w : gW) (h : zok eI (f_Cs_keptOpen_b4_s k4 x1 x2 x3 w) Q) : Gz l m_Cs_keptOpen 4 4 [(0, .ref 88), (1, .int x1), (2, .int x2), (3, .int x3)] [] w Q := by
  unfold f_Cs_keptOpen_b4_s at h
  refine Gz.iload_n (q := 3) (pc' := 5) (by decide +kernel) rfl 3 rfl ?_
  refine Gz.aload_n (q := 0) (pc' := 6) (by decide +kernel) rfl 0 rfl ?_
  refine Gz.getR (pc' := 9) (j := 0) 19 fd_Cs_20 sh_88 rfl (by decide +kernel) rfl ?_
  refine Gz.callVI (st := [.int x3]) (b := 19) (pc' := 12) [] (g_La_words w) h ok_m_La_words lk_Cs_52 sh_19 rfl rfl rfl (Nat.le_of_ble_eq_true rfl) (Nat.le_of_ble_eq_true rfl) (Nat.le_of_ble_eq_true rfl) (by decide +kernel) rfl (fun v1 w2 h => ?_)
  refine Gz.icmp_ge (off := 84) (tgt := 96) (pc' := 15) (by decide +kernel) (by decide) rfl (fun c3 => ?_) (fun c3 => ?_)
  · have h := zok_t c3 h
    refine Gz.iload_n (q := 2) (pc' := 97) (by decide +kernel) rfl 2 rfl ?_
    exact Gz.ireturn (by decide +kernel) rfl (zok_sI h)
  · have h := zok_f c3 h
    refine Gz.aload_n (q := 0) (pc' := 16) (by decide +kernel) rfl 0 rfl ?_
    refine Gz.getR (pc' := 19) (j := 2) 73 fd_Cs_28 sh_88 rfl (by decide +kernel) rfl ?_
    refine Gz.callVR (st := []) (b := 73) (pc' := 22) [] (g_Co_fitting w2) h ok_m_Co_fitting lk_Cs_44 sh_73 rfl rfl rfl (Nat.le_of_ble_eq_true rfl) (Nat.le_of_ble_eq_true rfl) (Nat.le_of_ble_eq_true rfl) (by decide +kernel) rfl (fun v4 w5 h => ?_)
    refine Gz.iload_n (q := 3) (pc' := 23) (by decide +kernel) rfl 3 rfl ?_
    refine Gz.callSJ (st := []) (pc' := 26) [.ref v4, .int x3] (g_Ro_word v4 x3 w5) h ok_m_Ro_word lk_Cs_87 rfl (Nat.le_of_ble_eq_true rfl) (Nat.le_of_ble_eq_true rfl) (Nat.le_of_ble_eq_true rfl) (by decide +kernel) rfl (fun v6 w7 h => ?_)
    refine Gz.aload_n (q := 0) (pc' := 27) (by decide +kernel) rfl 0 rfl ?_
    refine Gz.iload_n (q := 1) (pc' := 28) (by decide +kernel) rfl 1 rfl ?_
    refine Gz.callVR (st := [.long v6]) (b := 88) (pc' := 31) [.int x1] (g_Cs_rowOf x1 w7) h ok_m_Cs_rowOf lk_Cs_48 sh_88 rfl rfl rfl (Nat.le_of_ble_eq_true rfl) (Nat.le_of_ble_eq_true rfl) (Nat.le_of_ble_eq_true rfl) (by decide +kernel) rfl (fun v8 w9 h => ?_)
    refine Gz.iload_n (q := 3) (pc' := 32) (by decide +kernel) rfl 3 rfl ?_
    refine Gz.callSJ (st := [.long v6]) (pc' := 35) [.ref v8, .int x3] (g_Ro_word v8 x3 w9) h ok_m_Ro_word lk_Cs_87 rfl (Nat.le_of_ble_eq_true rfl) (Nat.le_of_ble_eq_true rfl) (Nat.le_of_ble_eq_true rfl) (by decide +kernel) rfl (fun v10 w11 h => ?_)
    refine Gz.land (pc' := 36) (by decide +kernel) rfl ?_
    refine Gz.nmJ (fun v12 e13 => ?_)
    have h := zok_l e13 h
    refine Gz.lstore (i := 4) (pc' := 38) (L' := [(4, .long v12), (0, .ref 88), (1, .int x1), (2, .int x2), (3, .int x3)]) (by decide +kernel) rfl (Nat.le_of_ble_eq_true rfl) rfl ?_
    refine Gz.iconst (n := 0) (v := (0 : Int32)) (pc' := 39) (by decide +kernel) rfl rfl ?_
    refine Gz.istore (i := 6) (pc' := 41) (L' := [(6, .int (0 : Int32)), (4, .long v12), (0, .ref 88), (1, .int x1), (2, .int x2), (3, .int x3)]) (by decide +kernel) rfl (Nat.le_of_ble_eq_true rfl) rfl ?_
    refine Gz.sub (L' := [(0, .ref 88), (1, .int x1), (2, .int x2), (3, .int x3), (4, .long v12), (6, .int (0 : Int32))]) [2, 3, 4, 5, 1, 0] rfl ?_
    exact g_Cs_keptOpen_b41 k4 hk4 x1 x2 x3 v12 (0 : Int32) w11 h
theorem g_Cs_keptOpen_b4 {l : Launch} {Q : Option Value → gW → Prop} (x1 : Int32) (x2 : Int32) (x3 : Int32) (w : gW) (h : zok eI (f_Cs_keptOpen_b4 x1 x2 x3 w) Q) : Gz l m_Cs_keptOpen 4 4 [(0, .ref 88), (1, .int x1), (2, .int x2), (3, .int x3)] [] w Q := by
  have key : ∀ (n : Nat) (x1 : Int32) (x2 : Int32) (x3 : Int32) (w : gW), zok eI (zfx (fun _ _ _ _ => none) (f_Cs_keptOpen_b4_s) n x1 x2 x3 w) Q → Gz l m_Cs_keptOpen 4 4 [(0, .ref 88), (1, .int x1), (2, .int x2), (3, .int x3)] [] w Q := by
    intro n
    induction n with
    | zero => intro x1 x2 x3 w h; exact zok_n h
    | succ n ih => intro x1 x2 x3 w h; exact g_Cs_keptOpen_b4_s _ ih x1 x2 x3 w h
  exact key zFU x1 x2 x3 w h
theorem g_Cs_keptOpen {l : Launch} (a1 : Int32) (w : gW) : gCt l m_Cs_keptOpen 4 [.ref 88, .int a1] w eI (f_Cs_keptOpen a1 w) := by
  intro Q h
  unfold f_Cs_keptOpen at h
  show Gz l m_Cs_keptOpen 4 0 [(0, .ref 88), (1, .int a1)] [] w Q
  refine Gz.iconst (n := 0) (v := (0 : Int32)) (pc' := 1) (by decide +kernel) rfl rfl ?_
  refine Gz.istore_n (q := 2) (pc' := 2) (L' := [(2, .int (0 : Int32)), (0, .ref 88), (1, .int a1)]) (by decide +kernel) rfl (Nat.le_of_ble_eq_true rfl) rfl ?_
  refine Gz.iconst (n := 0) (v := (0 : Int32)) (pc' := 3) (by decide +kernel) rfl rfl ?_
  refine Gz.istore_n (q := 3) (pc' := 4) (L' := [(3, .int (0 : Int32)), (2, .int (0 : Int32)), (0, .ref 88), (1, .int a1)]) (by decide +kernel) rfl (Nat.le_of_ble_eq_true rfl) rfl ?_
  refine Gz.sub (L' := [(0, .ref 88), (1, .int a1), (2, .int (0 : Int32)), (3, .int (0 : Int32))]) [2, 3, 1, 0] rfl ?_
  exact g_Cs_keptOpen_b4 a1 (0 : Int32) (0 : Int32) w h
def f_Ro_firstPlace (a0 : Int64) (a2 : Int32) (w : gW) : Option (Int32 × gW) :=
zb (f_Lng_numberOfTrailingZeros a0 w) (fun v1 w2 =>
some ((a2 <<< ((6 : Int32) &&& 31)) + v1, w2))
theorem g_Ro_firstPlace {l : Launch} (a0 : Int64) (a2 : Int32) (w : gW) : gCt l m_Ro_firstPlace 3 [.long a0, .int a2] w eI (f_Ro_firstPlace a0 a2 w) := by
  intro Q h
  unfold f_Ro_firstPlace at h
  show Gz l m_Ro_firstPlace 3 0 [(0, .long a0), (2, .int a2)] [] w Q
  refine Gz.iload_n (q := 2) (pc' := 1) (by decide +kernel) rfl 1 rfl ?_
  refine Gz.bipush (n := 6) (v := (6 : Int32)) (pc' := 3) (by decide +kernel) rfl rfl ?_
  refine Gz.ishl (pc' := 4) (by decide +kernel) rfl ?_
  refine Gz.lload_n (q := 0) (pc' := 5) (by decide +kernel) rfl 0 rfl ?_
  refine Gz.callSI (st := [.int (a2 <<< ((6 : Int32) &&& 31))]) (pc' := 8) [.long a0] (g_Lng_numberOfTrailingZeros a0 w) h ok_m_Lng_numberOfTrailingZeros lk_Ro_43 rfl (Nat.le_of_ble_eq_true rfl) (Nat.le_of_ble_eq_true rfl) (Nat.le_of_ble_eq_true rfl) (by decide +kernel) rfl (fun v1 w2 h => ?_)
  refine Gz.iadd (pc' := 9) (by decide +kernel) rfl ?_
  exact Gz.ireturn (by decide +kernel) rfl (zok_sI h)
