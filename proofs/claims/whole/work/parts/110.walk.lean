def f_Oa_gain (a1 : Int32) (w : gW) : Option (Int32 × gW) :=
zb (f_Oa_has a1 w) (fun v1 w2 =>
if v1 = 0 then
(some ((0 : Int32), w2))
else
(if inb a1 8 then
some (w2.1 18 (ix a1), w2)
else none))
theorem g_Oa_gain {l : Launch} (a1 : Int32) (w : gW) : gCt l m_Oa_gain 2 [.ref 5, .int a1] w eI (f_Oa_gain a1 w) := by
  intro Q h
  unfold f_Oa_gain at h
  show Gz l m_Oa_gain 2 0 [(0, .ref 5), (1, .int a1)] [] w Q
  refine Gz.aload_n (q := 0) (pc' := 1) (by decide +kernel) rfl 0 rfl ?_
  refine Gz.iload_n (q := 1) (pc' := 2) (by decide +kernel) rfl 1 rfl ?_
  refine Gz.callVI (st := []) (b := 5) (pc' := 5) [.int a1] (g_Oa_has a1 w) h ok_m_Oa_has lk_Oa_30 sh_5 rfl rfl rfl (Nat.le_of_ble_eq_true rfl) (Nat.le_of_ble_eq_true rfl) (Nat.le_of_ble_eq_true rfl) (by decide +kernel) rfl (fun v1 w2 h => ?_)
  refine Gz.if_eq (off := 12) (tgt := 17) (pc' := 8) (by decide +kernel) (by decide) rfl (fun c3 => ?_) (fun c3 => ?_)
  · have h := zok_t c3 h
    refine Gz.iconst (n := 0) (v := (0 : Int32)) (pc' := 18) (by decide +kernel) rfl rfl ?_
    exact Gz.ireturn (by decide +kernel) rfl (zok_sI h)
  · have h := zok_f c3 h
    refine Gz.aload_n (q := 0) (pc' := 9) (by decide +kernel) rfl 0 rfl ?_
    refine Gz.getR (pc' := 12) (j := 3) 18 fd_Oa_23 sh_5 rfl (by decide +kernel) rfl ?_
    refine Gz.iload_n (q := 1) (pc' := 13) (by decide +kernel) rfl 1 rfl ?_
    obtain ⟨c4, h⟩ := zok_c h
    refine Gz.iald (pc' := 14) (n := 8) (by decide +kernel) rfl rfl c4 ?_
    refine Gz.goto (off := 4) (tgt := 18) (by decide +kernel) (by decide) ?_
    exact Gz.ireturn (by decide +kernel) rfl (zok_sI h)
def f_Ga_shareOf (a1 : Int32) (a2 : Int32) (w : gW) : Option (Int32 × gW) :=
if a1 < 0 then
(some ((0 : Int32), w))
else
(zb (f_Oa_size w) (fun v2 w3 =>
if v2 ≤ a1 then
(some ((0 : Int32), w3))
else
(if a1 < (nI 9) then
(if inb a1 9 then
if (((w3.1 106 (ix a1)) >>> (a2 &&& 31)) &&& (1 : Int32)) = 0 then
(some (-(w3.1 105 3), w3))
else
(zb (f_Oa_gain a1 w3) (fun v8 w9 =>
some (v8, w9)))
else none)
else
(some ((0 : Int32), w3)))))
theorem g_Ga_shareOf {l : Launch} (a1 : Int32) (a2 : Int32) (w : gW) : gCt l m_Ga_shareOf 3 [.ref 105, .int a1, .int a2] w eI (f_Ga_shareOf a1 a2 w) := by
  intro Q h
  unfold f_Ga_shareOf at h
  show Gz l m_Ga_shareOf 3 0 [(0, .ref 105), (1, .int a1), (2, .int a2)] [] w Q
  refine Gz.iload_n (q := 1) (pc' := 1) (by decide +kernel) rfl 1 rfl ?_
  refine Gz.if_lt (off := 23) (tgt := 24) (pc' := 4) (by decide +kernel) (by decide) rfl (fun c1 => ?_) (fun c1 => ?_)
  · have h := zok_t c1 h
    refine Gz.iconst (n := 0) (v := (0 : Int32)) (pc' := 25) (by decide +kernel) rfl rfl ?_
    exact Gz.ireturn (by decide +kernel) rfl (zok_sI h)
  · have h := zok_f c1 h
    refine Gz.iload_n (q := 1) (pc' := 5) (by decide +kernel) rfl 1 rfl ?_
    refine Gz.aload_n (q := 0) (pc' := 6) (by decide +kernel) rfl 0 rfl ?_
    refine Gz.getR (pc' := 9) (j := 0) 5 fd_Ga_15 sh_105 rfl (by decide +kernel) rfl ?_
    refine Gz.callVI (st := [.int a1]) (b := 5) (pc' := 12) [] (g_Oa_size w) h ok_m_Oa_size lk_Ga_39 sh_5 rfl rfl rfl (Nat.le_of_ble_eq_true rfl) (Nat.le_of_ble_eq_true rfl) (Nat.le_of_ble_eq_true rfl) (by decide +kernel) rfl (fun v2 w3 h => ?_)
    refine Gz.icmp_ge (off := 12) (tgt := 24) (pc' := 15) (by decide +kernel) (by decide) rfl (fun c4 => ?_) (fun c4 => ?_)
    · have h := zok_t c4 h
      refine Gz.iconst (n := 0) (v := (0 : Int32)) (pc' := 25) (by decide +kernel) rfl rfl ?_
      exact Gz.ireturn (by decide +kernel) rfl (zok_sI h)
    · have h := zok_f c4 h
      refine Gz.iload_n (q := 1) (pc' := 16) (by decide +kernel) rfl 1 rfl ?_
      refine Gz.aload_n (q := 0) (pc' := 17) (by decide +kernel) rfl 0 rfl ?_
      refine Gz.getR (pc' := 20) (j := 2) 106 fd_Ga_9 sh_105 rfl (by decide +kernel) rfl ?_
      refine Gz.alen (pc' := 21) (n := 9) (kd := 1) (by decide +kernel) rfl (Or.inl rfl) rfl rfl ?_
      refine Gz.icmp_lt (off := 5) (tgt := 26) (pc' := 24) (by decide +kernel) (by decide) rfl (fun c5 => ?_) (fun c5 => ?_)
      · have h := zok_t c5 h
        refine Gz.aload_n (q := 0) (pc' := 27) (by decide +kernel) rfl 0 rfl ?_
        refine Gz.getR (pc' := 30) (j := 2) 106 fd_Ga_9 sh_105 rfl (by decide +kernel) rfl ?_
        refine Gz.iload_n (q := 1) (pc' := 31) (by decide +kernel) rfl 1 rfl ?_
        obtain ⟨c6, h⟩ := zok_c h
        refine Gz.iald (pc' := 32) (n := 9) (by decide +kernel) rfl rfl c6 ?_
        refine Gz.iload_n (q := 2) (pc' := 33) (by decide +kernel) rfl 2 rfl ?_
        refine Gz.ishr (pc' := 34) (by decide +kernel) rfl ?_
        refine Gz.iconst (n := 1) (v := (1 : Int32)) (pc' := 35) (by decide +kernel) rfl rfl ?_
        refine Gz.iand (pc' := 36) (by decide +kernel) rfl ?_
        refine Gz.if_eq (off := 14) (tgt := 50) (pc' := 39) (by decide +kernel) (by decide) rfl (fun c7 => ?_) (fun c7 => ?_)
        · have h := zok_t c7 h
          refine Gz.aload_n (q := 0) (pc' := 51) (by decide +kernel) rfl 0 rfl ?_
          refine Gz.getI (pc' := 54) (j := 3) fd_Ga_23 sh_105 rfl (by decide +kernel) rfl ?_
          refine Gz.ineg (pc' := 55) (by decide +kernel) rfl ?_
          exact Gz.ireturn (by decide +kernel) rfl (zok_sI h)
        · have h := zok_f c7 h
          refine Gz.aload_n (q := 0) (pc' := 40) (by decide +kernel) rfl 0 rfl ?_
          refine Gz.getR (pc' := 43) (j := 0) 5 fd_Ga_15 sh_105 rfl (by decide +kernel) rfl ?_
          refine Gz.iload_n (q := 1) (pc' := 44) (by decide +kernel) rfl 1 rfl ?_
          refine Gz.callVI (st := []) (b := 5) (pc' := 47) [.int a1] (g_Oa_gain a1 w3) h ok_m_Oa_gain lk_Ga_67 sh_5 rfl rfl rfl (Nat.le_of_ble_eq_true rfl) (Nat.le_of_ble_eq_true rfl) (Nat.le_of_ble_eq_true rfl) (by decide +kernel) rfl (fun v8 w9 h => ?_)
          refine Gz.goto (off := 8) (tgt := 55) (by decide +kernel) (by decide) ?_
          exact Gz.ireturn (by decide +kernel) rfl (zok_sI h)
      · have h := zok_f c5 h
        refine Gz.iconst (n := 0) (v := (0 : Int32)) (pc' := 25) (by decide +kernel) rfl rfl ?_
        exact Gz.ireturn (by decide +kernel) rfl (zok_sI h)
def f_Ga_isBest_b2_s (k2 : Int32 → Int32 → Int32 → gW → Option (Int32 × gW)) (x1 : Int32) (x2 : Int32) (x3 : Int32) (w : gW) : Option (Int32 × gW) :=
zb (f_Oa_size w) (fun v1 w2 =>
if v1 < x3 then
(some ((1 : Int32), w2))
else
(zb (f_Ga_shareOf x3 x2 w2) (fun v4 w5 =>
zb (f_Ga_shareOf x1 x2 w5) (fun v6 w7 =>
if v4 ≤ v6 then
(zl (x3 + (1 : Int32)) (fun v9 =>
k2 x1 x2 v9 w7))
else
(some ((0 : Int32), w7))))))
def f_Ga_isBest_b2 : Int32 → Int32 → Int32 → gW → Option (Int32 × gW) := zfx (fun _ _ _ _ => none) (f_Ga_isBest_b2_s) zFU
def f_Ga_isBest (a1 : Int32) (a2 : Int32) (w : gW) : Option (Int32 × gW) :=
f_Ga_isBest_b2 a1 a2 (0 : Int32) w
theorem g_Ga_isBest_b2_s {l : Launch} {Q : Option Value → gW → Prop} (k2 : Int32 → Int32 → Int32 → gW → Option (Int32 × gW)) (hk2 : ∀ (x1 : Int32) (x2 : Int32) (x3 : Int32) (w : gW), zok eI (k2 x1 x2 x3 w) Q → Gz l m_Ga_isBest 4 2 [(0, .ref 105), (1, .int x1), (2, .int x2), (3, .int x3)] [] w Q) (x1 : Int32) (x2 : Int32) (x3 : Int32) (w : gW) (h : zok eI (f_Ga_isBest_b2_s k2 x1 x2 x3 w) Q) : Gz l m_Ga_isBest 4 2 [(0, .ref 105), (1, .int x1), (2, .int x2), (3, .int x3)] [] w Q := by
  unfold f_Ga_isBest_b2_s at h
  refine Gz.iload_n (q := 3) (pc' := 3) (by decide +kernel) rfl 3 rfl ?_
  refine Gz.aload_n (q := 0) (pc' := 4) (by decide +kernel) rfl 0 rfl ?_
  refine Gz.getR (pc' := 7) (j := 0) 5 fd_Ga_15 sh_105 rfl (by decide +kernel) rfl ?_
  refine Gz.callVI (st := [.int x3]) (b := 5) (pc' := 10) [] (g_Oa_size w) h ok_m_Oa_size lk_Ga_39 sh_5 rfl rfl rfl (Nat.le_of_ble_eq_true rfl) (Nat.le_of_ble_eq_true rfl) (Nat.le_of_ble_eq_true rfl) (by decide +kernel) rfl (fun v1 w2 h => ?_)
  refine Gz.icmp_gt (off := 26) (tgt := 36) (pc' := 13) (by decide +kernel) (by decide) rfl (fun c3 => ?_) (fun c3 => ?_)
  · have h := zok_t c3 h
    refine Gz.iconst (n := 1) (v := (1 : Int32)) (pc' := 37) (by decide +kernel) rfl rfl ?_
    exact Gz.zreturn (by decide +kernel) rfl (by decide) (zok_sI h)
  · have h := zok_f c3 h
    refine Gz.aload_n (q := 0) (pc' := 14) (by decide +kernel) rfl 0 rfl ?_
    refine Gz.iload_n (q := 3) (pc' := 15) (by decide +kernel) rfl 3 rfl ?_
    refine Gz.iload_n (q := 2) (pc' := 16) (by decide +kernel) rfl 2 rfl ?_
    refine Gz.callVI (st := []) (b := 105) (pc' := 19) [.int x3, .int x2] (g_Ga_shareOf x3 x2 w2) h ok_m_Ga_shareOf lk_Ga_63 sh_105 rfl rfl rfl (Nat.le_of_ble_eq_true rfl) (Nat.le_of_ble_eq_true rfl) (Nat.le_of_ble_eq_true rfl) (by decide +kernel) rfl (fun v4 w5 h => ?_)
    refine Gz.aload_n (q := 0) (pc' := 20) (by decide +kernel) rfl 0 rfl ?_
    refine Gz.iload_n (q := 1) (pc' := 21) (by decide +kernel) rfl 1 rfl ?_
    refine Gz.iload_n (q := 2) (pc' := 22) (by decide +kernel) rfl 2 rfl ?_
    refine Gz.callVI (st := [.int v4]) (b := 105) (pc' := 25) [.int x1, .int x2] (g_Ga_shareOf x1 x2 w5) h ok_m_Ga_shareOf lk_Ga_63 sh_105 rfl rfl rfl (Nat.le_of_ble_eq_true rfl) (Nat.le_of_ble_eq_true rfl) (Nat.le_of_ble_eq_true rfl) (by decide +kernel) rfl (fun v6 w7 h => ?_)
    refine Gz.icmp_le (off := 5) (tgt := 30) (pc' := 28) (by decide +kernel) (by decide) rfl (fun c8 => ?_) (fun c8 => ?_)
    · have h := zok_t c8 h
      obtain ⟨v9, e10⟩ : ∃ y : Int32, y = x3 + (1 : Int32) := ⟨_, rfl⟩
      have h := zok_l e10 h
      refine Gz.iinc (i := 3) (n := 1) (pc' := 33) (L' := [(3, .int v9), (0, .ref 105), (1, .int x1), (2, .int x2)]) v9 (by decide +kernel) rfl 3 rfl (by rw [e10]; rfl) (Nat.le_of_ble_eq_true rfl) rfl ?_
      refine Gz.goto (off := -31) (tgt := 2) (by decide +kernel) (by decide) ?_
      refine Gz.sub (L' := [(0, .ref 105), (1, .int x1), (2, .int x2), (3, .int v9)]) [1, 2, 3, 0] rfl ?_
      exact hk2 x1 x2 v9 w7 h
    · have h := zok_f c8 h
      refine Gz.iconst (n := 0) (v := (0 : Int32)) (pc' := 29) (by decide +kernel) rfl rfl ?_
      exact Gz.zreturn (by decide +kernel) rfl (by decide) (zok_sI h)
theorem g_Ga_isBest_b2 {l : Launch} {Q : Option Value → gW → Prop} (x1 : Int32) (x2 : Int32) (x3 : Int32) (w : gW) (h : zok eI (f_Ga_isBest_b2 x1 x2 x3 w) Q) : Gz l m_Ga_isBest 4 2 [(0, .ref 105), (1, .int x1), (2, .int x2), (3, .int x3)] [] w Q := by
  have key : ∀ (n : Nat) (x1 : Int32) (x2 : Int32) (x3 : Int32) (w : gW), zok eI (zfx (fun _ _ _ _ => none) (f_Ga_isBest_b2_s) n x1 x2 x3 w) Q → Gz l m_Ga_isBest 4 2 [(0, .ref 105), (1, .int x1), (2, .int x2), (3, .int x3)] [] w Q := by
    intro n
    induction n with
    | zero => intro x1 x2 x3 w h; exact zok_n h
    | succ n ih => intro x1 x2 x3 w h; exact g_Ga_isBest_b2_s _ ih x1 x2 x3 w h
  exact key zFU x1 x2 x3 w h
theorem g_Ga_isBest {l : Launch} (a1 : Int32) (a2 : Int32) (w : gW) : gCt l m_Ga_isBest 4 [.ref 105, .int a1, .int a2] w eI (f_Ga_isBest a1 a2 w) := by
  intro Q h
  unfold f_Ga_isBest at h
  show Gz l m_Ga_isBest 4 0 [(0, .ref 105), (1, .int a1), (2, .int a2)] [] w Q
  refine Gz.iconst (n := 0) (v := (0 : Int32)) (pc' := 1) (by decide +kernel) rfl rfl ?_
  refine Gz.istore_n (q := 3) (pc' := 2) (L' := [(3, .int (0 : Int32)), (0, .ref 105), (1, .int a1), (2, .int a2)]) (by decide +kernel) rfl (Nat.le_of_ble_eq_true rfl) rfl ?_
  refine Gz.sub (L' := [(0, .ref 105), (1, .int a1), (2, .int a2), (3, .int (0 : Int32))]) [1, 2, 3, 0] rfl ?_
  exact g_Ga_isBest_b2 a1 a2 (0 : Int32) w h
def f_Ga_codeOf (a1 : Int32) (w : gW) : Option (Int32 × gW) :=
zb (f_Oa_size w) (fun v1 w2 =>
if a1 = v1 then
(some ((9 : Int32), w2))
else
(some (a1, w2)))
theorem g_Ga_codeOf {l : Launch} (a1 : Int32) (w : gW) : gCt l m_Ga_codeOf 2 [.ref 105, .int a1] w eI (f_Ga_codeOf a1 w) := by
  intro Q h
  unfold f_Ga_codeOf at h
  show Gz l m_Ga_codeOf 2 0 [(0, .ref 105), (1, .int a1)] [] w Q
  refine Gz.iload_n (q := 1) (pc' := 1) (by decide +kernel) rfl 1 rfl ?_
  refine Gz.aload_n (q := 0) (pc' := 2) (by decide +kernel) rfl 0 rfl ?_
  refine Gz.getR (pc' := 5) (j := 0) 5 fd_Ga_15 sh_105 rfl (by decide +kernel) rfl ?_
  refine Gz.callVI (st := [.int a1]) (b := 5) (pc' := 8) [] (g_Oa_size w) h ok_m_Oa_size lk_Ga_39 sh_5 rfl rfl rfl (Nat.le_of_ble_eq_true rfl) (Nat.le_of_ble_eq_true rfl) (Nat.le_of_ble_eq_true rfl) (by decide +kernel) rfl (fun v1 w2 h => ?_)
  refine Gz.icmp_ne (off := 8) (tgt := 16) (pc' := 11) (by decide +kernel) (by decide) rfl (fun c3 => ?_) (fun c3 => ?_)
  · have h := zok_f c3 h
    refine Gz.iload_n (q := 1) (pc' := 17) (by decide +kernel) rfl 1 rfl ?_
    exact Gz.ireturn (by decide +kernel) rfl (zok_sI h)
  · have h := zok_t c3 h
    refine Gz.bipush (n := 9) (v := (9 : Int32)) (pc' := 13) (by decide +kernel) rfl rfl ?_
    refine Gz.goto (off := 4) (tgt := 17) (by decide +kernel) (by decide) ?_
    exact Gz.ireturn (by decide +kernel) rfl (zok_sI h)
def f_Ga_restAt_b94 (k4 : Int32 → Int32 → Int32 → gW → Option (Int32 × gW)) (k18 : Int32 → Int32 → Int32 → Int32 → gW → Option (Int32 × gW)) (x1 : Int32) (x3 : Int32) (x4 : Int32) (s0 : Int32) (s1 : Int32) (w : gW) : Option (Int32 × gW) :=
zl (s0 + s1) (fun v1 =>
zl (x4 + (1 : Int32)) (fun v3 =>
k18 x1 v1 x3 v3 w))
def f_Ga_restAt_b83 (k4 : Int32 → Int32 → Int32 → gW → Option (Int32 × gW)) (k18 : Int32 → Int32 → Int32 → Int32 → gW → Option (Int32 × gW)) (x1 : Int32) (x2 : Int32) (x3 : Int32) (x4 : Int32) (x5 : Int32) (w : gW) : Option (Int32 × gW) :=
if x5 = 0 then
(f_Ga_restAt_b94 k4 k18 x1 x3 x4 x2 (0 : Int32) w)
else
(f_Ga_restAt_b94 k4 k18 x1 x3 x4 x2 (1 : Int32) w)
def f_Ga_restAt_b55 (k4 : Int32 → Int32 → Int32 → gW → Option (Int32 × gW)) (k18 : Int32 → Int32 → Int32 → Int32 → gW → Option (Int32 × gW)) (x1 : Int32) (x2 : Int32) (x3 : Int32) (x4 : Int32) (s0 : Int32) (w : gW) : Option (Int32 × gW) :=
if s0 = 0 then
(f_Ga_restAt_b83 k4 k18 x1 x2 x3 x4 s0 w)
else
(if x2 = x1 then
(zb (f_Ga_codeOf x3 w) (fun v3 w4 =>
zb (f_Ga_codeOf x4 w4) (fun v5 w6 =>
some (((10 : Int32) * v3) + v5, w6))))
else
(f_Ga_restAt_b83 k4 k18 x1 x2 x3 x4 s0 w))
def f_Ga_restAt_b54 (k4 : Int32 → Int32 → Int32 → gW → Option (Int32 × gW)) (k18 : Int32 → Int32 → Int32 → Int32 → gW → Option (Int32 × gW)) (x1 : Int32) (x2 : Int32) (x3 : Int32) (x4 : Int32) (w : gW) : Option (Int32 × gW) :=
f_Ga_restAt_b55 k4 k18 x1 x2 x3 x4 (0 : Int32) w
def f_Ga_restAt_b18_s (k4 : Int32 → Int32 → Int32 → gW → Option (Int32 × gW)) (k18 : Int32 → Int32 → Int32 → Int32 → gW → Option (Int32 × gW)) (x1 : Int32) (x2 : Int32) (x3 : Int32) (x4 : Int32) (w : gW) : Option (Int32 × gW) :=
zb (f_Oa_size w) (fun v1 w2 =>
if v1 < x4 then
(zl (x3 + (1 : Int32)) (fun v4 =>
k4 x1 x2 v4 w2))
else
(zb (f_Ga_isBest x3 x4 w2) (fun v6 w7 =>
if v6 = 0 then
(f_Ga_restAt_b54 k4 k18 x1 x2 x3 x4 w7)
else
(zb (f_Ga_isBest x4 x3 w7) (fun v9 w10 =>
if v9 = 0 then
(f_Ga_restAt_b54 k4 k18 x1 x2 x3 x4 w10)
else
(f_Ga_restAt_b55 k4 k18 x1 x2 x3 x4 (1 : Int32) w10))))))
def f_Ga_restAt_b18 (k4 : Int32 → Int32 → Int32 → gW → Option (Int32 × gW)) : Int32 → Int32 → Int32 → Int32 → gW → Option (Int32 × gW) := zfx (fun _ _ _ _ _ => none) (f_Ga_restAt_b18_s k4) zFU
def f_Ga_restAt_b4_s (k4 : Int32 → Int32 → Int32 → gW → Option (Int32 × gW)) (x1 : Int32) (x2 : Int32) (x3 : Int32) (w : gW) : Option (Int32 × gW) :=
zb (f_Oa_size w) (fun v1 w2 =>
if v1 < x3 then
(if x1 = (-1 : Int32) then
(some (x2, w2))
else
(some ((-1 : Int32), w2)))
else
(f_Ga_restAt_b18 k4 x1 x2 x3 (0 : Int32) w2))
def f_Ga_restAt_b4 : Int32 → Int32 → Int32 → gW → Option (Int32 × gW) := zfx (fun _ _ _ _ => none) (f_Ga_restAt_b4_s) zFU
def f_Ga_restAt (a1 : Int32) (w : gW) : Option (Int32 × gW) :=
f_Ga_restAt_b4 a1 (0 : Int32) (0 : Int32) w
theorem g_Ga_restAt_b94 {l : Launch} {Q : Option Value → gW → Prop} (k4 : Int32 → Int32 → Int32 → gW → Option (Int32 × gW)) (hk4 : ∀ (x1 : Int32) (x2 : Int32) (x3 : Int32) (w : gW), zok eI (k4 x1 x2 x3 w) Q → Gz l m_Ga_restAt 5 4 [(0, .ref 105), (1, .int x1), (2, .int x2), (3, .int x3)] [] w Q) (k18 : Int32 → Int32 → Int32 → Int32 → gW → Option (Int32 × gW)) (hk18 : ∀ (x1 : Int32) (x2 : Int32) (x3 : Int32) (x4 : Int32) (w : gW), zok eI (k18 x1 x2 x3 x4 w) Q → Gz l m_Ga_restAt 5 18 [(0, .ref 105), (1, .int x1), (2, .int x2), (3, .int x3), (4, .int x4)] [] w Q) (x1 : Int32) (x3 : Int32) (x4 : Int32) (s0 : Int32) (s1 : Int32) (w : gW) (h : zok eI (f_Ga_restAt_b94 k4 k18 x1 x3 x4 s0 s1 w) Q) : Gz l m_Ga_restAt 5 94 [(0, .ref 105), (1, .int x1), (3, .int x3), (4, .int x4)] [.int s1, .int s0] w Q := by
  unfold f_Ga_restAt_b94 at h
  refine Gz.iadd (pc' := 95) (by decide +kernel) rfl ?_
  refine Gz.nmI (fun v1 e2 => ?_)
  have h := zok_l e2 h
  refine Gz.istore_n (q := 2) (pc' := 96) (L' := [(2, .int v1), (0, .ref 105), (1, .int x1), (3, .int x3), (4, .int x4)]) (by decide +kernel) rfl (Nat.le_of_ble_eq_true rfl) rfl ?_
  obtain ⟨v3, e4⟩ : ∃ y : Int32, y = x4 + (1 : Int32) := ⟨_, rfl⟩
  have h := zok_l e4 h
  refine Gz.iinc (i := 4) (n := 1) (pc' := 99) (L' := [(4, .int v3), (2, .int v1), (0, .ref 105), (1, .int x1), (3, .int x3)]) v3 (by decide +kernel) rfl 4 rfl (by rw [e4]; rfl) (Nat.le_of_ble_eq_true rfl) rfl ?_
  refine Gz.goto (off := -81) (tgt := 18) (by decide +kernel) (by decide) ?_
  refine Gz.sub (L' := [(0, .ref 105), (1, .int x1), (2, .int v1), (3, .int x3), (4, .int v3)]) [2, 3, 1, 4, 0] rfl ?_
  exact hk18 x1 v1 x3 v3 w h
theorem g_Ga_restAt_b83 {l : Launch} {Q : Option Value → gW → Prop} (k4 : Int32 → Int32 → Int32 → gW → Option (Int32 × gW)) (hk4 : ∀ (x1 : Int32) (x2 : Int32) (x3 : Int32) (w : gW), zok eI (k4 x1 x2 x3 w) Q → Gz l m_Ga_restAt 5 4 [(0, .ref 105), (1, .int x1), (2, .int x2), (3, .int x3)] [] w Q) (k18 : Int32 → Int32 → Int32 → Int32 → gW → Option (Int32 × gW)) (hk18 : ∀ (x1 : Int32) (x2 : Int32) (x3 : Int32) (x4 : Int32) (w : gW), zok eI (k18 x1 x2 x3 x4 w) Q → Gz l m_Ga_restAt 5 18 [(0, .ref 105), (1, .int x1), (2, .int x2), (3, .int x3), (4, .int x4)] [] w Q) (x1 : Int32) (x2 : Int32) (x3 : Int32) (x4 : Int32) (x5 : Int32) (w : gW) (h : zok eI (f_Ga_restAt_b83 k4 k18 x1 x2 x3 x4 x5 w) Q) : Gz l m_Ga_restAt 5 83 [(0, .ref 105), (1, .int x1), (2, .int x2), (3, .int x3), (4, .int x4), (5, .int x5)] [] w Q := by
  unfold f_Ga_restAt_b83 at h
  refine Gz.iload_n (q := 2) (pc' := 84) (by decide +kernel) rfl 2 rfl ?_
  refine Gz.iload (i := 5) (pc' := 86) (by decide +kernel) rfl 5 rfl ?_
  refine Gz.if_eq (off := 7) (tgt := 93) (pc' := 89) (by decide +kernel) (by decide) rfl (fun c1 => ?_) (fun c1 => ?_)
  · have h := zok_t c1 h
    refine Gz.iconst (n := 0) (v := (0 : Int32)) (pc' := 94) (by decide +kernel) rfl rfl ?_
    refine Gz.sub (L' := [(0, .ref 105), (1, .int x1), (3, .int x3), (4, .int x4)]) [0, 1, 3, 4] rfl ?_
    exact g_Ga_restAt_b94 k4 hk4 k18 hk18 x1 x3 x4 x2 (0 : Int32) w h
  · have h := zok_f c1 h
    refine Gz.iconst (n := 1) (v := (1 : Int32)) (pc' := 90) (by decide +kernel) rfl rfl ?_
    refine Gz.goto (off := 4) (tgt := 94) (by decide +kernel) (by decide) ?_
    refine Gz.sub (L' := [(0, .ref 105), (1, .int x1), (3, .int x3), (4, .int x4)]) [0, 1, 3, 4] rfl ?_
    exact g_Ga_restAt_b94 k4 hk4 k18 hk18 x1 x3 x4 x2 (1 : Int32) w h
theorem g_Ga_restAt_b55 {l : Launch} {Q : Option Value → gW → Prop} (k4 : Int32 → Int32 → Int32 → gW → Option (Int32 × gW)) (hk4 : ∀ (x1 : Int32) (x2 : Int32) (x3 : Int32) (w : gW), zok eI (k4 x1 x2 x3 w) Q → Gz l m_Ga_restAt 5 4 [(0, .ref 105), (1, .int x1), (2, .int x2), (3, .int x3)] [] w Q) (k18 : Int32 → Int32 → Int32 → Int32 → gW → Option (Int32 × gW)) (hk18 : ∀ (x1 : Int32) (x2 : Int32) (x3 : Int32) (x4 : Int32) (w : gW), zok eI (k18 x1 x2 x3 x4 w) Q → Gz l m_Ga_restAt 5 18 [(0, .ref 105), (1, .int x1), (2, .int x2), (3, .int x3), (4, .int x4)] [] w Q) (x1 : Int32) (x2 : Int32) (x3 : Int32) (x4 : Int32) (s0 : Int32) (w : gW) (h : zok eI (f_Ga_restAt_b55 k4 k18 x1 x2 x3 x4 s0 w) Q) : Gz l m_Ga_restAt 5 55 [(0, .ref 105), (1, .int x1), (2, .int x2), (3, .int x3), (4, .int x4)] [.int s0] w Q := by
  unfold f_Ga_restAt_b55 at h
  refine Gz.istore (i := 5) (pc' := 57) (L' := [(5, .int s0), (0, .ref 105), (1, .int x1), (2, .int x2), (3, .int x3), (4, .int x4)]) (by decide +kernel) rfl (Nat.le_of_ble_eq_true rfl) rfl ?_
  refine Gz.iload (i := 5) (pc' := 59) (by decide +kernel) rfl 0 rfl ?_
  refine Gz.if_eq (off := 24) (tgt := 83) (pc' := 62) (by decide +kernel) (by decide) rfl (fun c1 => ?_) (fun c1 => ?_)
  · have h := zok_t c1 h
    refine Gz.sub (L' := [(0, .ref 105), (1, .int x1), (2, .int x2), (3, .int x3), (4, .int x4), (5, .int s0)]) [1, 2, 3, 4, 5, 0] rfl ?_
    exact g_Ga_restAt_b83 k4 hk4 k18 hk18 x1 x2 x3 x4 s0 w h
  · have h := zok_f c1 h
    refine Gz.iload_n (q := 2) (pc' := 63) (by decide +kernel) rfl 3 rfl ?_
    refine Gz.iload_n (q := 1) (pc' := 64) (by decide +kernel) rfl 2 rfl ?_
    refine Gz.icmp_ne (off := 19) (tgt := 83) (pc' := 67) (by decide +kernel) (by decide) rfl (fun c2 => ?_) (fun c2 => ?_)
    · have h := zok_f c2 h
      refine Gz.sub (L' := [(0, .ref 105), (1, .int x1), (2, .int x2), (3, .int x3), (4, .int x4), (5, .int s0)]) [1, 2, 3, 4, 5, 0] rfl ?_
      exact g_Ga_restAt_b83 k4 hk4 k18 hk18 x1 x2 x3 x4 s0 w h
    · have h := zok_t c2 h
      refine Gz.bipush (n := 10) (v := (10 : Int32)) (pc' := 69) (by decide +kernel) rfl rfl ?_
      refine Gz.aload_n (q := 0) (pc' := 70) (by decide +kernel) rfl 1 rfl ?_
      refine Gz.iload_n (q := 3) (pc' := 71) (by decide +kernel) rfl 4 rfl ?_
      refine Gz.callVI (st := [.int (10 : Int32)]) (b := 105) (pc' := 74) [.int x3] (g_Ga_codeOf x3 w) h ok_m_Ga_codeOf lk_Ga_56 sh_105 rfl rfl rfl (Nat.le_of_ble_eq_true rfl) (Nat.le_of_ble_eq_true rfl) (Nat.le_of_ble_eq_true rfl) (by decide +kernel) rfl (fun v3 w4 h => ?_)
      refine Gz.imul (pc' := 75) (by decide +kernel) rfl ?_
      refine Gz.aload_n (q := 0) (pc' := 76) (by decide +kernel) rfl 1 rfl ?_
      refine Gz.iload (i := 4) (pc' := 78) (by decide +kernel) rfl 5 rfl ?_
      refine Gz.callVI (st := [.int ((10 : Int32) * v3)]) (b := 105) (pc' := 81) [.int x4] (g_Ga_codeOf x4 w4) h ok_m_Ga_codeOf lk_Ga_56 sh_105 rfl rfl rfl (Nat.le_of_ble_eq_true rfl) (Nat.le_of_ble_eq_true rfl) (Nat.le_of_ble_eq_true rfl) (by decide +kernel) rfl (fun v5 w6 h => ?_)
      refine Gz.iadd (pc' := 82) (by decide +kernel) rfl ?_
      exact Gz.ireturn (by decide +kernel) rfl (zok_sI h)
theorem g_Ga_restAt_b54 {l : Launch} {Q : Option Value → gW → Prop} (k4 : Int32 → Int32 → Int32 → gW → Option (Int32 × gW)) (hk4 : ∀ (x1 : Int32) (x2 : Int32) (x3 : Int32) (w : gW), zok eI (k4 x1 x2 x3 w) Q → Gz l m_Ga_restAt 5 4 [(0, .ref 105), (1, .int x1), (2, .int x2), (3, .int x3)] [] w Q) (k18 : Int32 → Int32 → Int32 → Int32 → gW → Option (Int32 × gW)) (hk18 : ∀ (x1 : Int32) (x2 : Int32) (x3 : Int32) (x4 : Int32) (w : gW), zok eI (k18 x1 x2 x3 x4 w) Q → Gz l m_Ga_restAt 5 18 [(0, .ref 105), (1, .int x1), (2, .int x2), (3, .int x3), (4, .int x4)] [] w Q) (x1 : Int32) (x2 : Int32) (x3 : Int32) (x4 : Int32) (w : gW) (h : zok eI (f_Ga_restAt_b54 k4 k18 x1 x2 x3 x4 w) Q) : Gz l m_Ga_restAt 5 54 [(0, .ref 105), (1, .int x1), (2, .int x2), (3, .int x3), (4, .int x4)] [] w Q := by
  unfold f_Ga_restAt_b54 at h
  refine Gz.iconst (n := 0) (v := (0 : Int32)) (pc' := 55) (by decide +kernel) rfl rfl ?_
  exact g_Ga_restAt_b55 k4 hk4 k18 hk18 x1 x2 x3 x4 (0 : Int32) w h
theorem g_Ga_restAt_b18_s {l : Launch} {Q : Option Value → gW → Prop} (k4 : Int32 → Int32 → Int32 → gW → Option (Int32 × gW)) (hk4 : ∀ (x1 : Int32) (x2 : Int32) (x3 : Int32) (w : gW), zok eI (k4 x1 x2 x3 w) Q → Gz l m_Ga_restAt 5 4 [(0, .ref 105), (1, .int x1), (2, .int x2), (3, .int x3)] [] w Q) (k18 : Int32 → Int32 → Int32 → Int32 → gW → Option (Int32 × gW)) (hk18 : ∀ (x1 : Int32) (x2 : Int32) (x3 : Int32) (x4 : Int32) (w : gW), zok eI (k18 x1 x2 x3 x4 w) Q → Gz l m_Ga_restAt 5 18 [(0, .ref 105), (1, .int x1), (2, .int x2), (3, .int x3), (4, .int x4)] [] w Q) (x1 : Int32) (x2 : Int32) (x3 : Int32) (x4 : Int32) (w : gW) (h : zok eI (f_Ga_restAt_b18_s k4 k18 x1 x2 x3 x4 w) Q) : Gz l m_Ga_restAt 5 18 [(0, .ref 105), (1, .int x1), (2, .int x2), (3, .int x3), (4, .int x4)] [] w Q := by
  unfold f_Ga_restAt_b18_s at h
  refine Gz.iload (i := 4) (pc' := 20) (by decide +kernel) rfl 4 rfl ?_
  refine Gz.aload_n (q := 0) (pc' := 21) (by decide +kernel) rfl 0 rfl ?_
  refine Gz.getR (pc' := 24) (j := 0) 5 fd_Ga_15 sh_105 rfl (by decide +kernel) rfl ?_
  refine Gz.callVI (st := [.int x4]) (b := 5) (pc' := 27) [] (g_Oa_size w) h ok_m_Oa_size lk_Ga_39 sh_5 rfl rfl rfl (Nat.le_of_ble_eq_true rfl) (Nat.le_of_ble_eq_true rfl) (Nat.le_of_ble_eq_true rfl) (by decide +kernel) rfl (fun v1 w2 h => ?_)
  refine Gz.icmp_gt (off := 75) (tgt := 102) (pc' := 30) (by decide +kernel) (by decide) rfl (fun c3 => ?_) (fun c3 => ?_)
  · have h := zok_t c3 h
    obtain ⟨v4, e5⟩ : ∃ y : Int32, y = x3 + (1 : Int32) := ⟨_, rfl⟩
    have h := zok_l e5 h
    refine Gz.iinc (i := 3) (n := 1) (pc' := 105) (L' := [(3, .int v4), (0, .ref 105), (1, .int x1), (2, .int x2), (4, .int x4)]) v4 (by decide +kernel) rfl 3 rfl (by rw [e5]; rfl) (Nat.le_of_ble_eq_true rfl) rfl ?_
    refine Gz.goto (off := -101) (tgt := 4) (by decide +kernel) (by decide) ?_
    refine Gz.sub (L' := [(0, .ref 105), (1, .int x1), (2, .int x2), (3, .int v4)]) [1, 2, 3, 0] rfl ?_
    exact hk4 x1 x2 v4 w2 h
  · have h := zok_f c3 h
    refine Gz.aload_n (q := 0) (pc' := 31) (by decide +kernel) rfl 0 rfl ?_
    refine Gz.iload_n (q := 3) (pc' := 32) (by decide +kernel) rfl 3 rfl ?_
    refine Gz.iload (i := 4) (pc' := 34) (by decide +kernel) rfl 4 rfl ?_
    refine Gz.callVI (st := []) (b := 105) (pc' := 37) [.int x3, .int x4] (g_Ga_isBest x3 x4 w2) h ok_m_Ga_isBest lk_Ga_53 sh_105 rfl rfl rfl (Nat.le_of_ble_eq_true rfl) (Nat.le_of_ble_eq_true rfl) (Nat.le_of_ble_eq_true rfl) (by decide +kernel) rfl (fun v6 w7 h => ?_)
    refine Gz.if_eq (off := 17) (tgt := 54) (pc' := 40) (by decide +kernel) (by decide) rfl (fun c8 => ?_) (fun c8 => ?_)
    · have h := zok_t c8 h
      exact g_Ga_restAt_b54 k4 hk4 k18 hk18 x1 x2 x3 x4 w7 h
    · have h := zok_f c8 h
      refine Gz.aload_n (q := 0) (pc' := 41) (by decide +kernel) rfl 0 rfl ?_
      refine Gz.iload (i := 4) (pc' := 43) (by decide +kernel) rfl 4 rfl ?_
      refine Gz.iload_n (q := 3) (pc' := 44) (by decide +kernel) rfl 3 rfl ?_
      refine Gz.callVI (st := []) (b := 105) (pc' := 47) [.int x4, .int x3] (g_Ga_isBest x4 x3 w7) h ok_m_Ga_isBest lk_Ga_53 sh_105 rfl rfl rfl (Nat.le_of_ble_eq_true rfl) (Nat.le_of_ble_eq_true rfl) (Nat.le_of_ble_eq_true rfl) (by decide +kernel) rfl (fun v9 w10 h => ?_)
      refine Gz.if_eq (off := 7) (tgt := 54) (pc' := 50) (by decide +kernel) (by decide) rfl (fun c11 => ?_) (fun c11 => ?_)
      · have h := zok_t c11 h
        exact g_Ga_restAt_b54 k4 hk4 k18 hk18 x1 x2 x3 x4 w10 h
      · have h := zok_f c11 h
        refine Gz.iconst (n := 1) (v := (1 : Int32)) (pc' := 51) (by decide +kernel) rfl rfl ?_
        refine Gz.goto (off := 4) (tgt := 55) (by decide +kernel) (by decide) ?_
        exact g_Ga_restAt_b55 k4 hk4 k18 hk18 x1 x2 x3 x4 (1 : Int32) w10 h
theorem g_Ga_restAt_b18 {l : Launch} {Q : Option Value → gW → Prop} (k4 : Int32 → Int32 → Int32 → gW → Option (Int32 × gW)) (hk4 : ∀ (x1 : Int32) (x2 : Int32) (x3 : Int32) (w : gW), zok eI (k4 x1 x2 x3 w) Q → Gz l m_Ga_restAt 5 4 [(0, .ref 105), (1, .int x1), (2, .int x2), (3, .int x3)] [] w Q) (x1 : Int32) (x2 : Int32) (x3 : Int32) (x4 : Int32) (w : gW) (h : zok eI (f_Ga_restAt_b18 k4 x1 x2 x3 x4 w) Q) : Gz l m_Ga_restAt 5 18 [(0, .ref 105), (1, .int x1), (2, .int x2), (3, .int x3), (4, .int x4)] [] w Q := by
  have key : ∀ (n : Nat) (x1 : Int32) (x2 : Int32) (x3 : Int32) (x4 : Int32) (w : gW), zok eI (zfx (fun _ _ _ _ _ => none) (f_Ga_restAt_b18_s k4) n x1 x2 x3 x4 w) Q → Gz l m_Ga_restAt 5 18 [(0, .ref 105), (1, .int x1), (2, .int x2), (3, .int x3), (4, .int x4)] [] w Q := by
    intro n
    induction n with
    | zero => intro x1 x2 x3 x4 w h; exact zok_n h
    | succ n ih => intro x1 x2 x3 x4 w h; exact g_Ga_restAt_b18_s k4 hk4 _ ih x1 x2 x3 x4 w h
  exact key zFU x1 x2 x3 x4 w h
theorem g_Ga_restAt_b4_s {l : Launch} {Q : Option Value → gW → Prop} (k4 : Int32 → Int32 → Int32 → gW → Option (Int32 × gW)) (hk4 : ∀ (x1 : Int32) (x2 : Int32) (x3 : Int32) (w : gW), zok eI (k4 x1 x2 x3 w) Q → Gz l m_Ga_restAt 5 4 [(0, .ref 105), (1, .int x1), (2, .int x2), (3, .int x3)] [] w Q) (x1 : Int32) (x2 : Int32) (x3 : Int32) (w : gW) (h : zok eI (f_Ga_restAt_b4_s k4 x1 x2 x3 w) Q) : Gz l m_Ga_restAt 5 4 [(0, .ref 105), (1, .int x1), (2, .int x2), (3, .int x3)] [] w Q := by
  unfold f_Ga_restAt_b4_s at h
  refine Gz.iload_n (q := 3) (pc' := 5) (by decide +kernel) rfl 3 rfl ?_
  refine Gz.aload_n (q := 0) (pc' := 6) (by decide +kernel) rfl 0 rfl ?_
  refine Gz.getR (pc' := 9) (j := 0) 5 fd_Ga_15 sh_105 rfl (by decide +kernel) rfl ?_
  refine Gz.callVI (st := [.int x3]) (b := 5) (pc' := 12) [] (g_Oa_size w) h ok_m_Oa_size lk_Ga_39 sh_5 rfl rfl rfl (Nat.le_of_ble_eq_true rfl) (Nat.le_of_ble_eq_true rfl) (Nat.le_of_ble_eq_true rfl) (by decide +kernel) rfl (fun v1 w2 h => ?_)
  refine Gz.icmp_gt (off := 96) (tgt := 108) (pc' := 15) (by decide +kernel) (by decide) rfl (fun c3 => ?_) (fun c3 => ?_)
  · have h := zok_t c3 h
    refine Gz.iload_n (q := 1) (pc' := 109) (by decide +kernel) rfl 1 rfl ?_
    refine Gz.iconst (n := -1) (v := (-1 : Int32)) (pc' := 110) (by decide +kernel) rfl rfl ?_
    refine Gz.icmp_ne (off := 7) (tgt := 117) (pc' := 113) (by decide +kernel) (by decide) rfl (fun c4 => ?_) (fun c4 => ?_)
    · have h := zok_f c4 h
      refine Gz.iconst (n := -1) (v := (-1 : Int32)) (pc' := 118) (by decide +kernel) rfl rfl ?_
      exact Gz.ireturn (by decide +kernel) rfl (zok_sI h)
    · have h := zok_t c4 h
      refine Gz.iload_n (q := 2) (pc' := 114) (by decide +kernel) rfl 2 rfl ?_
      refine Gz.goto (off := 4) (tgt := 118) (by decide +kernel) (by decide) ?_
      exact Gz.ireturn (by decide +kernel) rfl (zok_sI h)
  · have h := zok_f c3 h
    refine Gz.iconst (n := 0) (v := (0 : Int32)) (pc' := 16) (by decide +kernel) rfl rfl ?_
    refine Gz.istore (i := 4) (pc' := 18) (L' := [(4, .int (0 : Int32)), (0, .ref 105), (1, .int x1), (2, .int x2), (3, .int x3)]) (by decide +kernel) rfl (Nat.le_of_ble_eq_true rfl) rfl ?_
    refine Gz.sub (L' := [(0, .ref 105), (1, .int x1), (2, .int x2), (3, .int x3), (4, .int (0 : Int32))]) [1, 2, 3, 4, 0] rfl ?_
    exact g_Ga_restAt_b18 k4 hk4 x1 x2 x3 (0 : Int32) w2 h
theorem g_Ga_restAt_b4 {l : Launch} {Q : Option Value → gW → Prop} (x1 : Int32) (x2 : Int32) (x3 : Int32) (w : gW) (h : zok eI (f_Ga_restAt_b4 x1 x2 x3 w) Q) : Gz l m_Ga_restAt 5 4 [(0, .ref 105), (1, .int x1), (2, .int x2), (3, .int x3)] [] w Q := by
  have key : ∀ (n : Nat) (x1 : Int32) (x2 : Int32) (x3 : Int32) (w : gW), zok eI (zfx (fun _ _ _ _ => none) (f_Ga_restAt_b4_s) n x1 x2 x3 w) Q → Gz l m_Ga_restAt 5 4 [(0, .ref 105), (1, .int x1), (2, .int x2), (3, .int x3)] [] w Q := by
    intro n
    induction n with
    | zero => intro x1 x2 x3 w h; exact zok_n h
    | succ n ih => intro x1 x2 x3 w h; exact g_Ga_restAt_b4_s _ ih x1 x2 x3 w h
  exact key zFU x1 x2 x3 w h
theorem g_Ga_restAt {l : Launch} (a1 : Int32) (w : gW) : gCt l m_Ga_restAt 5 [.ref 105, .int a1] w eI (f_Ga_restAt a1 w) := by
  intro Q h
  unfold f_Ga_restAt at h
  show Gz l m_Ga_restAt 5 0 [(0, .ref 105), (1, .int a1)] [] w Q
  refine Gz.iconst (n := 0) (v := (0 : Int32)) (pc' := 1) (by decide +kernel) rfl rfl ?_
  refine Gz.istore_n (q := 2) (pc' := 2) (L' := [(2, .int (0 : Int32)), (0, .ref 105), (1, .int a1)]) (by decide +kernel) rfl (Nat.le_of_ble_eq_true rfl) rfl ?_
  refine Gz.iconst (n := 0) (v := (0 : Int32)) (pc' := 3) (by decide +kernel) rfl rfl ?_
  refine Gz.istore_n (q := 3) (pc' := 4) (L' := [(3, .int (0 : Int32)), (2, .int (0 : Int32)), (0, .ref 105), (1, .int a1)]) (by decide +kernel) rfl (Nat.le_of_ble_eq_true rfl) rfl ?_
  refine Gz.sub (L' := [(0, .ref 105), (1, .int a1), (2, .int (0 : Int32)), (3, .int (0 : Int32))]) [2, 3, 1, 0] rfl ?_
  exact g_Ga_restAt_b4 a1 (0 : Int32) (0 : Int32) w h
def f_X_duel (a1 : Int32) (a2 : Int32) (a3 : Int32) (w : gW) : Option (Int32 × gW) :=
zb (f_La_isDay a1 w) (fun v1 w2 =>
if v1 = 0 then
(some ((-1 : Int32), w2))
else
(zb (f_X_isPrice a2 w2) (fun v4 w5 =>
if v4 = 0 then
(some ((-1 : Int32), w5))
else
(zb (f_Ga_prepare a1 a2 w5) (fun _ w7 =>
zb (f_Ga_restAt a3 w7) (fun v8 w9 =>
some (v8, w9)))))))
theorem g_X_duel {l : Launch} (a1 : Int32) (a2 : Int32) (a3 : Int32) (w : gW) : gCt l m_X_duel 7 [.ref 0, .int a1, .int a2, .int a3] w eI (f_X_duel a1 a2 a3 w) := by
  intro Q h
  unfold f_X_duel at h
  show Gz l m_X_duel 7 0 [(0, .ref 0), (1, .int a1), (2, .int a2), (3, .int a3)] [] w Q
  refine Gz.aload_n (q := 0) (pc' := 1) (by decide +kernel) rfl 0 rfl ?_
  refine Gz.getR (pc' := 4) (j := 3) 19 fd_X_33 sh_0 rfl (by decide +kernel) rfl ?_
  refine Gz.iload_n (q := 1) (pc' := 5) (by decide +kernel) rfl 1 rfl ?_
  refine Gz.callVI (st := []) (b := 19) (pc' := 8) [.int a1] (g_La_isDay a1 w) h ok_m_La_isDay lk_X_222 sh_19 rfl rfl rfl (Nat.le_of_ble_eq_true rfl) (Nat.le_of_ble_eq_true rfl) (Nat.le_of_ble_eq_true rfl) (by decide +kernel) rfl (fun v1 w2 h => ?_)
  refine Gz.if_eq (off := 10) (tgt := 18) (pc' := 11) (by decide +kernel) (by decide) rfl (fun c3 => ?_) (fun c3 => ?_)
  · have h := zok_t c3 h
    refine Gz.iconst (n := -1) (v := (-1 : Int32)) (pc' := 19) (by decide +kernel) rfl rfl ?_
    exact Gz.ireturn (by decide +kernel) rfl (zok_sI h)
  · have h := zok_f c3 h
    refine Gz.iload_n (q := 2) (pc' := 12) (by decide +kernel) rfl 2 rfl ?_
    refine Gz.callSI (st := []) (pc' := 15) [.int a2] (g_X_isPrice a2 w2) h ok_m_X_isPrice lk_X_292 rfl (Nat.le_of_ble_eq_true rfl) (Nat.le_of_ble_eq_true rfl) (Nat.le_of_ble_eq_true rfl) (by decide +kernel) rfl (fun v4 w5 h => ?_)
    refine Gz.if_ne (off := 5) (tgt := 20) (pc' := 18) (by decide +kernel) (by decide) rfl (fun c6 => ?_) (fun c6 => ?_)
    · have h := zok_f c6 h
      refine Gz.aload_n (q := 0) (pc' := 21) (by decide +kernel) rfl 0 rfl ?_
      refine Gz.getR (pc' := 24) (j := 10) 105 fd_X_88 sh_0 rfl (by decide +kernel) rfl ?_
      refine Gz.iload_n (q := 1) (pc' := 25) (by decide +kernel) rfl 1 rfl ?_
      refine Gz.iload_n (q := 2) (pc' := 26) (by decide +kernel) rfl 2 rfl ?_
      refine Gz.callVV (st := []) (b := 105) (pc' := 29) [.int a1, .int a2] (g_Ga_prepare a1 a2 w5) h ok_m_Ga_prepare lk_X_295 sh_105 rfl rfl rfl (Nat.le_of_ble_eq_true rfl) (Nat.le_of_ble_eq_true rfl) (Nat.le_of_ble_eq_true rfl) (by decide +kernel) rfl (fun _ w7 h => ?_)
      refine Gz.aload_n (q := 0) (pc' := 30) (by decide +kernel) rfl 0 rfl ?_
      refine Gz.getR (pc' := 33) (j := 10) 105 fd_X_88 sh_0 rfl (by decide +kernel) rfl ?_
      refine Gz.iload_n (q := 3) (pc' := 34) (by decide +kernel) rfl 3 rfl ?_
      refine Gz.callVI (st := []) (b := 105) (pc' := 37) [.int a3] (g_Ga_restAt a3 w7) h ok_m_Ga_restAt lk_X_298 sh_105 rfl rfl rfl (Nat.le_of_ble_eq_true rfl) (Nat.le_of_ble_eq_true rfl) (Nat.le_of_ble_eq_true rfl) (by decide +kernel) rfl (fun v8 w9 h => ?_)
      exact Gz.ireturn (by decide +kernel) rfl (zok_sI h)
    · have h := zok_t c6 h
      refine Gz.iconst (n := -1) (v := (-1 : Int32)) (pc' := 19) (by decide +kernel) rfl rfl ?_
      exact Gz.ireturn (by decide +kernel) rfl (zok_sI h)
def f_Ga_answerTo_b32 (k4 : Int32 → Int32 → Int32 → gW → Option (Int32 × gW)) (x1 : Int32) (x2 : Int32) (x3 : Int32) (w : gW) : Option (Int32 × gW) :=
zl (x3 + (1 : Int32)) (fun v1 =>
k4 x1 x2 v1 w)
def f_Ga_answerTo_b4_s (k4 : Int32 → Int32 → Int32 → gW → Option (Int32 × gW)) (x1 : Int32) (x2 : Int32) (x3 : Int32) (w : gW) : Option (Int32 × gW) :=
zb (f_Oa_size w) (fun v1 w2 =>
if v1 < x3 then
(some (x2, w2))
else
(zb (f_Ga_shareOf x3 x1 w2) (fun v4 w5 =>
zb (f_Ga_shareOf x2 x1 w5) (fun v6 w7 =>
if v4 ≤ v6 then
(f_Ga_answerTo_b32 k4 x1 x2 x3 w7)
else
(f_Ga_answerTo_b32 k4 x1 x3 x3 w7)))))
def f_Ga_answerTo_b4 : Int32 → Int32 → Int32 → gW → Option (Int32 × gW) := zfx (fun _ _ _ _ => none) (f_Ga_answerTo_b4_s) zFU
def f_Ga_answerTo (a1 : Int32) (w : gW) : Option (Int32 × gW) :=
f_Ga_answerTo_b4 a1 (0 : Int32) (1 : Int32) w
theorem g_Ga_answerTo_b32 {l : Launch} {Q : Option Value → gW → Prop} (k4 : Int32 → Int32 → Int32 → gW → Option (Int32 × gW)) (hk4 : ∀ (x1 : Int32) (x2 : Int32) (x3 : Int32) (w : gW), zok eI (k4 x1 x2 x3 w) Q → Gz l m_Ga_answerTo 4 4 [(0, .ref 105), (1, .int x1), (2, .int x2), (3, .int x3)] [] w Q) (x1 : Int32) (x2 : Int32) (x3 : Int32) (w : gW) (h : zok eI (f_Ga_answerTo_b32 k4 x1 x2 x3 w) Q) : Gz l m_Ga_answerTo 4 32 [(0, .ref 105), (1, .int x1), (2, .int x2), (3, .int x3)] [] w Q := by
  unfold f_Ga_answerTo_b32 at h
  obtain ⟨v1, e2⟩ : ∃ y : Int32, y = x3 + (1 : Int32) := ⟨_, rfl⟩
  have h := zok_l e2 h
  refine Gz.iinc (i := 3) (n := 1) (pc' := 35) (L' := [(3, .int v1), (0, .ref 105), (1, .int x1), (2, .int x2)]) v1 (by decide +kernel) rfl 3 rfl (by rw [e2]; rfl) (Nat.le_of_ble_eq_true rfl) rfl ?_
  refine Gz.goto (off := -31) (tgt := 4) (by decide +kernel) (by decide) ?_
  refine Gz.sub (L' := [(0, .ref 105), (1, .int x1), (2, .int x2), (3, .int v1)]) [1, 2, 3, 0] rfl ?_
  exact hk4 x1 x2 v1 w h
theorem g_Ga_answerTo_b4_s {l : Launch} {Q : Option Value → gW → Prop} (k4 : Int32 → Int32 → Int32 → gW → Option (Int32 × gW)) (hk4 : ∀ (x1 : Int32) (x2 : Int32) (x3 : Int32) (w : gW), zok eI (k4 x1 x2 x3 w) Q → Gz l m_Ga_answerTo 4 4 [(0, .ref 105), (1, .int x1), (2, .int x2), (3, .int x3)] [] w Q) (x1 : Int32) (x2 : Int32) (x3 : Int32) (w : gW) (h : zok eI (f_Ga_answerTo_b4_s k4 x1 x2 x3 w) Q) : Gz l m_Ga_answerTo 4 4 [(0, .ref 105), (1, .int x1), (2, .int x2), (3, .int x3)] [] w Q := by
  unfold f_Ga_answerTo_b4_s at h
  refine Gz.iload_n (q := 3) (pc' := 5) (by decide +kernel) rfl 3 rfl ?_
  refine Gz.aload_n (q := 0) (pc' := 6) (by decide +kernel) rfl 0 rfl ?_
  refine Gz.getR (pc' := 9) (j := 0) 5 fd_Ga_15 sh_105 rfl (by decide +kernel) rfl ?_
  refine Gz.callVI (st := [.int x3]) (b := 5) (pc' := 12) [] (g_Oa_size w) h ok_m_Oa_size lk_Ga_39 sh_5 rfl rfl rfl (Nat.le_of_ble_eq_true rfl) (Nat.le_of_ble_eq_true rfl) (Nat.le_of_ble_eq_true rfl) (by decide +kernel) rfl (fun v1 w2 h => ?_)
  refine Gz.icmp_gt (off := 26) (tgt := 38) (pc' := 15) (by decide +kernel) (by decide) rfl (fun c3 => ?_) (fun c3 => ?_)
  · have h := zok_t c3 h
    refine Gz.iload_n (q := 2) (pc' := 39) (by decide +kernel) rfl 2 rfl ?_
    exact Gz.ireturn (by decide +kernel) rfl (zok_sI h)
  · have h := zok_f c3 h
    refine Gz.aload_n (q := 0) (pc' := 16) (by decide +kernel) rfl 0 rfl ?_
    refine Gz.iload_n (q := 3) (pc' := 17) (by decide +kernel) rfl 3 rfl ?_
    refine Gz.iload_n (q := 1) (pc' := 18) (by decide +kernel) rfl 1 rfl ?_
    refine Gz.callVI (st := []) (b := 105) (pc' := 21) [.int x3, .int x1] (g_Ga_shareOf x3 x1 w2) h ok_m_Ga_shareOf lk_Ga_63 sh_105 rfl rfl rfl (Nat.le_of_ble_eq_true rfl) (Nat.le_of_ble_eq_true rfl) (Nat.le_of_ble_eq_true rfl) (by decide +kernel) rfl (fun v4 w5 h => ?_)
    refine Gz.aload_n (q := 0) (pc' := 22) (by decide +kernel) rfl 0 rfl ?_
    refine Gz.iload_n (q := 2) (pc' := 23) (by decide +kernel) rfl 2 rfl ?_
    refine Gz.iload_n (q := 1) (pc' := 24) (by decide +kernel) rfl 1 rfl ?_
    refine Gz.callVI (st := [.int v4]) (b := 105) (pc' := 27) [.int x2, .int x1] (g_Ga_shareOf x2 x1 w5) h ok_m_Ga_shareOf lk_Ga_63 sh_105 rfl rfl rfl (Nat.le_of_ble_eq_true rfl) (Nat.le_of_ble_eq_true rfl) (Nat.le_of_ble_eq_true rfl) (by decide +kernel) rfl (fun v6 w7 h => ?_)
    refine Gz.icmp_le (off := 5) (tgt := 32) (pc' := 30) (by decide +kernel) (by decide) rfl (fun c8 => ?_) (fun c8 => ?_)
    · have h := zok_t c8 h
      exact g_Ga_answerTo_b32 k4 hk4 x1 x2 x3 w7 h
    · have h := zok_f c8 h
      refine Gz.iload_n (q := 3) (pc' := 31) (by decide +kernel) rfl 3 rfl ?_
      refine Gz.istore_n (q := 2) (pc' := 32) (L' := [(2, .int x3), (0, .ref 105), (1, .int x1), (3, .int x3)]) (by decide +kernel) rfl (Nat.le_of_ble_eq_true rfl) rfl ?_
      refine Gz.sub (L' := [(0, .ref 105), (1, .int x1), (2, .int x3), (3, .int x3)]) [1, 2, 0, 3] rfl ?_
      exact g_Ga_answerTo_b32 k4 hk4 x1 x3 x3 w7 h
theorem g_Ga_answerTo_b4 {l : Launch} {Q : Option Value → gW → Prop} (x1 : Int32) (x2 : Int32) (x3 : Int32) (w : gW) (h : zok eI (f_Ga_answerTo_b4 x1 x2 x3 w) Q) : Gz l m_Ga_answerTo 4 4 [(0, .ref 105), (1, .int x1), (2, .int x2), (3, .int x3)] [] w Q := by
  have key : ∀ (n : Nat) (x1 : Int32) (x2 : Int32) (x3 : Int32) (w : gW), zok eI (zfx (fun _ _ _ _ => none) (f_Ga_answerTo_b4_s) n x1 x2 x3 w) Q → Gz l m_Ga_answerTo 4 4 [(0, .ref 105), (1, .int x1), (2, .int x2), (3, .int x3)] [] w Q := by
    intro n
    induction n with
    | zero => intro x1 x2 x3 w h; exact zok_n h
    | succ n ih => intro x1 x2 x3 w h; exact g_Ga_answerTo_b4_s _ ih x1 x2 x3 w h
  exact key zFU x1 x2 x3 w h
theorem g_Ga_answerTo {l : Launch} (a1 : Int32) (w : gW) : gCt l m_Ga_answerTo 4 [.ref 105, .int a1] w eI (f_Ga_answerTo a1 w) := by
  intro Q h
  unfold f_Ga_answerTo at h
  show Gz l m_Ga_answerTo 4 0 [(0, .ref 105), (1, .int a1)] [] w Q
  refine Gz.iconst (n := 0) (v := (0 : Int32)) (pc' := 1) (by decide +kernel) rfl rfl ?_
  refine Gz.istore_n (q := 2) (pc' := 2) (L' := [(2, .int (0 : Int32)), (0, .ref 105), (1, .int a1)]) (by decide +kernel) rfl (Nat.le_of_ble_eq_true rfl) rfl ?_
  refine Gz.iconst (n := 1) (v := (1 : Int32)) (pc' := 3) (by decide +kernel) rfl rfl ?_
  refine Gz.istore_n (q := 3) (pc' := 4) (L' := [(3, .int (1 : Int32)), (2, .int (0 : Int32)), (0, .ref 105), (1, .int a1)]) (by decide +kernel) rfl (Nat.le_of_ble_eq_true rfl) rfl ?_
  refine Gz.sub (L' := [(0, .ref 105), (1, .int a1), (2, .int (0 : Int32)), (3, .int (1 : Int32))]) [2, 3, 1, 0] rfl ?_
  exact g_Ga_answerTo_b4 a1 (0 : Int32) (1 : Int32) w h
def f_Ga_bestBait_b40 (k4 : Int32 → Int32 → gW → Option (Int32 × gW)) (x1 : Int32) (x2 : Int32) (w : gW) : Option (Int32 × gW) :=
zl (x2 + (1 : Int32)) (fun v1 =>
k4 x1 v1 w)
def f_Ga_bestBait_b4_s (k4 : Int32 → Int32 → gW → Option (Int32 × gW)) (x1 : Int32) (x2 : Int32) (w : gW) : Option (Int32 × gW) :=
zb (f_Oa_size w) (fun v1 w2 =>
if v1 < x2 then
(zb (f_Ga_codeOf x1 w2) (fun v4 w5 =>
zb (f_Ga_answerTo x1 w5) (fun v6 w7 =>
zb (f_Ga_codeOf v6 w7) (fun v8 w9 =>
some (((10 : Int32) * v4) + v8, w9)))))
else
(zb (f_Ga_answerTo x2 w2) (fun v10 w11 =>
zb (f_Ga_shareOf x2 v10 w11) (fun v12 w13 =>
zb (f_Ga_answerTo x1 w13) (fun v14 w15 =>
zb (f_Ga_shareOf x1 v14 w15) (fun v16 w17 =>
if v12 ≤ v16 then
(f_Ga_bestBait_b40 k4 x1 x2 w17)
else
(f_Ga_bestBait_b40 k4 x2 x2 w17)))))))
def f_Ga_bestBait_b4 : Int32 → Int32 → gW → Option (Int32 × gW) := zfx (fun _ _ _ => none) (f_Ga_bestBait_b4_s) zFU
def f_Ga_bestBait (w : gW) : Option (Int32 × gW) :=
f_Ga_bestBait_b4 (0 : Int32) (1 : Int32) w
theorem g_Ga_bestBait_b40 {l : Launch} {Q : Option Value → gW → Prop} (k4 : Int32 → Int32 → gW → Option (Int32 × gW)) (hk4 : ∀ (x1 : Int32) (x2 : Int32) (w : gW), zok eI (k4 x1 x2 w) Q → Gz l m_Ga_bestBait 5 4 [(0, .ref 105), (1, .int x1), (2, .int x2)] [] w Q) (x1 : Int32) (x2 : Int32) (w : gW) (h : zok eI (f_Ga_bestBait_b40 k4 x1 x2 w) Q) : Gz l m_Ga_bestBait 5 40 [(0, .ref 105), (1, .int x1), (2, .int x2)] [] w Q := by
  unfold f_Ga_bestBait_b40 at h
  obtain ⟨v1, e2⟩ : ∃ y : Int32, y = x2 + (1 : Int32) := ⟨_, rfl⟩
  have h := zok_l e2 h
  refine Gz.iinc (i := 2) (n := 1) (pc' := 43) (L' := [(2, .int v1), (0, .ref 105), (1, .int x1)]) v1 (by decide +kernel) rfl 2 rfl (by rw [e2]; rfl) (Nat.le_of_ble_eq_true rfl) rfl ?_
  refine Gz.goto (off := -39) (tgt := 4) (by decide +kernel) (by decide) ?_
  refine Gz.sub (L' := [(0, .ref 105), (1, .int x1), (2, .int v1)]) [1, 2, 0] rfl ?_
  exact hk4 x1 v1 w h
theorem g_Ga_bestBait_b4_s {l : Launch} {Q : Option Value → gW → Prop} (k4 : Int32 → Int32 → gW → Option (Int32 × gW)) (hk4 : ∀ (x1 : Int32) (x2 : Int32) (w : gW), zok eI (k4 x1 x2 w) Q → Gz l m_Ga_bestBait 5 4 [(0, .ref 105), (1, .int x1), (2, .int x2)] [] w Q) (x1 : Int32) (x2 : Int32) (w : gW) (h : zok eI (f_Ga_bestBait_b4_s k4 x1 x2 w) Q) : Gz l m_Ga_bestBait 5 4 [(0, .ref 105), (1, .int x1), (2, .int x2)] [] w Q := by
  unfold f_Ga_bestBait_b4_s at h
  refine Gz.iload_n (q := 2) (pc' := 5) (by decide +kernel) rfl 2 rfl ?_
  refine Gz.aload_n (q := 0) (pc' := 6) (by decide +kernel) rfl 0 rfl ?_
  refine Gz.getR (pc' := 9) (j := 0) 5 fd_Ga_15 sh_105 rfl (by decide +kernel) rfl ?_
  refine Gz.callVI (st := [.int x2]) (b := 5) (pc' := 12) [] (g_Oa_size w) h ok_m_Oa_size lk_Ga_39 sh_5 rfl rfl rfl (Nat.le_of_ble_eq_true rfl) (Nat.le_of_ble_eq_true rfl) (Nat.le_of_ble_eq_true rfl) (by decide +kernel) rfl (fun v1 w2 h => ?_)
  refine Gz.icmp_gt (off := 34) (tgt := 46) (pc' := 15) (by decide +kernel) (by decide) rfl (fun c3 => ?_) (fun c3 => ?_)
  · have h := zok_t c3 h
    refine Gz.bipush (n := 10) (v := (10 : Int32)) (pc' := 48) (by decide +kernel) rfl rfl ?_
    refine Gz.aload_n (q := 0) (pc' := 49) (by decide +kernel) rfl 0 rfl ?_
    refine Gz.iload_n (q := 1) (pc' := 50) (by decide +kernel) rfl 1 rfl ?_
    refine Gz.callVI (st := [.int (10 : Int32)]) (b := 105) (pc' := 53) [.int x1] (g_Ga_codeOf x1 w2) h ok_m_Ga_codeOf lk_Ga_56 sh_105 rfl rfl rfl (Nat.le_of_ble_eq_true rfl) (Nat.le_of_ble_eq_true rfl) (Nat.le_of_ble_eq_true rfl) (by decide +kernel) rfl (fun v4 w5 h => ?_)
    refine Gz.imul (pc' := 54) (by decide +kernel) rfl ?_
    refine Gz.aload_n (q := 0) (pc' := 55) (by decide +kernel) rfl 0 rfl ?_
    refine Gz.aload_n (q := 0) (pc' := 56) (by decide +kernel) rfl 0 rfl ?_
    refine Gz.iload_n (q := 1) (pc' := 57) (by decide +kernel) rfl 1 rfl ?_
    refine Gz.callVI (st := [.ref 105, .int ((10 : Int32) * v4)]) (b := 105) (pc' := 60) [.int x1] (g_Ga_answerTo x1 w5) h ok_m_Ga_answerTo lk_Ga_60 sh_105 rfl rfl rfl (Nat.le_of_ble_eq_true rfl) (Nat.le_of_ble_eq_true rfl) (Nat.le_of_ble_eq_true rfl) (by decide +kernel) rfl (fun v6 w7 h => ?_)
    refine Gz.callVI (st := [.int ((10 : Int32) * v4)]) (b := 105) (pc' := 63) [.int v6] (g_Ga_codeOf v6 w7) h ok_m_Ga_codeOf lk_Ga_56 sh_105 rfl rfl rfl (Nat.le_of_ble_eq_true rfl) (Nat.le_of_ble_eq_true rfl) (Nat.le_of_ble_eq_true rfl) (by decide +kernel) rfl (fun v8 w9 h => ?_)
    refine Gz.iadd (pc' := 64) (by decide +kernel) rfl ?_
    exact Gz.ireturn (by decide +kernel) rfl (zok_sI h)
  · have h := zok_f c3 h
    refine Gz.aload_n (q := 0) (pc' := 16) (by decide +kernel) rfl 0 rfl ?_
    refine Gz.iload_n (q := 2) (pc' := 17) (by decide +kernel) rfl 2 rfl ?_
    refine Gz.aload_n (q := 0) (pc' := 18) (by decide +kernel) rfl 0 rfl ?_
    refine Gz.iload_n (q := 2) (pc' := 19) (by decide +kernel) rfl 2 rfl ?_
    refine Gz.callVI (st := [.int x2, .ref 105]) (b := 105) (pc' := 22) [.int x2] (g_Ga_answerTo x2 w2) h ok_m_Ga_answerTo lk_Ga_60 sh_105 rfl rfl rfl (Nat.le_of_ble_eq_true rfl) (Nat.le_of_ble_eq_true rfl) (Nat.le_of_ble_eq_true rfl) (by decide +kernel) rfl (fun v10 w11 h => ?_)
    refine Gz.callVI (st := []) (b := 105) (pc' := 25) [.int x2, .int v10] (g_Ga_shareOf x2 v10 w11) h ok_m_Ga_shareOf lk_Ga_63 sh_105 rfl rfl rfl (Nat.le_of_ble_eq_true rfl) (Nat.le_of_ble_eq_true rfl) (Nat.le_of_ble_eq_true rfl) (by decide +kernel) rfl (fun v12 w13 h => ?_)
    refine Gz.aload_n (q := 0) (pc' := 26) (by decide +kernel) rfl 0 rfl ?_
    refine Gz.iload_n (q := 1) (pc' := 27) (by decide +kernel) rfl 1 rfl ?_
    refine Gz.aload_n (q := 0) (pc' := 28) (by decide +kernel) rfl 0 rfl ?_
    refine Gz.iload_n (q := 1) (pc' := 29) (by decide +kernel) rfl 1 rfl ?_
    refine Gz.callVI (st := [.int x1, .ref 105, .int v12]) (b := 105) (pc' := 32) [.int x1] (g_Ga_answerTo x1 w13) h ok_m_Ga_answerTo lk_Ga_60 sh_105 rfl rfl rfl (Nat.le_of_ble_eq_true rfl) (Nat.le_of_ble_eq_true rfl) (Nat.le_of_ble_eq_true rfl) (by decide +kernel) rfl (fun v14 w15 h => ?_)
    refine Gz.callVI (st := [.int v12]) (b := 105) (pc' := 35) [.int x1, .int v14] (g_Ga_shareOf x1 v14 w15) h ok_m_Ga_shareOf lk_Ga_63 sh_105 rfl rfl rfl (Nat.le_of_ble_eq_true rfl) (Nat.le_of_ble_eq_true rfl) (Nat.le_of_ble_eq_true rfl) (by decide +kernel) rfl (fun v16 w17 h => ?_)
    refine Gz.icmp_le (off := 5) (tgt := 40) (pc' := 38) (by decide +kernel) (by decide) rfl (fun c18 => ?_) (fun c18 => ?_)
    · have h := zok_t c18 h
      exact g_Ga_bestBait_b40 k4 hk4 x1 x2 w17 h
    · have h := zok_f c18 h
      refine Gz.iload_n (q := 2) (pc' := 39) (by decide +kernel) rfl 2 rfl ?_
      refine Gz.istore_n (q := 1) (pc' := 40) (L' := [(1, .int x2), (0, .ref 105), (2, .int x2)]) (by decide +kernel) rfl (Nat.le_of_ble_eq_true rfl) rfl ?_
      refine Gz.sub (L' := [(0, .ref 105), (1, .int x2), (2, .int x2)]) [1, 0, 2] rfl ?_
      exact g_Ga_bestBait_b40 k4 hk4 x2 x2 w17 h
theorem g_Ga_bestBait_b4 {l : Launch} {Q : Option Value → gW → Prop} (x1 : Int32) (x2 : Int32) (w : gW) (h : zok eI (f_Ga_bestBait_b4 x1 x2 w) Q) : Gz l m_Ga_bestBait 5 4 [(0, .ref 105), (1, .int x1), (2, .int x2)] [] w Q := by
  have key : ∀ (n : Nat) (x1 : Int32) (x2 : Int32) (w : gW), zok eI (zfx (fun _ _ _ => none) (f_Ga_bestBait_b4_s) n x1 x2 w) Q → Gz l m_Ga_bestBait 5 4 [(0, .ref 105), (1, .int x1), (2, .int x2)] [] w Q := by
    intro n
    induction n with
    | zero => intro x1 x2 w h; exact zok_n h
    | succ n ih => intro x1 x2 w h; exact g_Ga_bestBait_b4_s _ ih x1 x2 w h
  exact key zFU x1 x2 w h
theorem g_Ga_bestBait {l : Launch} (w : gW) : gCt l m_Ga_bestBait 5 [.ref 105] w eI (f_Ga_bestBait w) := by
  intro Q h
  unfold f_Ga_bestBait at h
  show Gz l m_Ga_bestBait 5 0 [(0, .ref 105)] [] w Q
  refine Gz.iconst (n := 0) (v := (0 : Int32)) (pc' := 1) (by decide +kernel) rfl rfl ?_
  refine Gz.istore_n (q := 1) (pc' := 2) (L' := [(1, .int (0 : Int32)), (0, .ref 105)]) (by decide +kernel) rfl (Nat.le_of_ble_eq_true rfl) rfl ?_
  refine Gz.iconst (n := 1) (v := (1 : Int32)) (pc' := 3) (by decide +kernel) rfl rfl ?_
  refine Gz.istore_n (q := 2) (pc' := 4) (L' := [(2, .int (1 : Int32)), (1, .int (0 : Int32)), (0, .ref 105)]) (by decide +kernel) rfl (Nat.le_of_ble_eq_true rfl) rfl ?_
  refine Gz.sub (L' := [(0, .ref 105), (1, .int (0 : Int32)), (2, .int (1 : Int32))]) [2, 1, 0] rfl ?_
  exact g_Ga_bestBait_b4 (0 : Int32) (1 : Int32) w h
def f_X_bait (a1 : Int32) (a2 : Int32) (w : gW) : Option (Int32 × gW) :=
zb (f_La_isDay a1 w) (fun v1 w2 =>
if v1 = 0 then
(some ((-1 : Int32), w2))
else
(zb (f_X_isPrice a2 w2) (fun v4 w5 =>
if v4 = 0 then
(some ((-1 : Int32), w5))
else
(zb (f_Ga_prepare a1 a2 w5) (fun _ w7 =>
zb (f_Ga_bestBait w7) (fun v8 w9 =>
some (v8, w9)))))))
theorem g_X_bait {l : Launch} (a1 : Int32) (a2 : Int32) (w : gW) : gCt l m_X_bait 7 [.ref 0, .int a1, .int a2] w eI (f_X_bait a1 a2 w) := by
  intro Q h
  unfold f_X_bait at h
  show Gz l m_X_bait 7 0 [(0, .ref 0), (1, .int a1), (2, .int a2)] [] w Q
  refine Gz.aload_n (q := 0) (pc' := 1) (by decide +kernel) rfl 0 rfl ?_
  refine Gz.getR (pc' := 4) (j := 3) 19 fd_X_33 sh_0 rfl (by decide +kernel) rfl ?_
  refine Gz.iload_n (q := 1) (pc' := 5) (by decide +kernel) rfl 1 rfl ?_
  refine Gz.callVI (st := []) (b := 19) (pc' := 8) [.int a1] (g_La_isDay a1 w) h ok_m_La_isDay lk_X_222 sh_19 rfl rfl rfl (Nat.le_of_ble_eq_true rfl) (Nat.le_of_ble_eq_true rfl) (Nat.le_of_ble_eq_true rfl) (by decide +kernel) rfl (fun v1 w2 h => ?_)
  refine Gz.if_eq (off := 10) (tgt := 18) (pc' := 11) (by decide +kernel) (by decide) rfl (fun c3 => ?_) (fun c3 => ?_)
  · have h := zok_t c3 h
    refine Gz.iconst (n := -1) (v := (-1 : Int32)) (pc' := 19) (by decide +kernel) rfl rfl ?_
    exact Gz.ireturn (by decide +kernel) rfl (zok_sI h)
  · have h := zok_f c3 h
    refine Gz.iload_n (q := 2) (pc' := 12) (by decide +kernel) rfl 2 rfl ?_
    refine Gz.callSI (st := []) (pc' := 15) [.int a2] (g_X_isPrice a2 w2) h ok_m_X_isPrice lk_X_292 rfl (Nat.le_of_ble_eq_true rfl) (Nat.le_of_ble_eq_true rfl) (Nat.le_of_ble_eq_true rfl) (by decide +kernel) rfl (fun v4 w5 h => ?_)
    refine Gz.if_ne (off := 5) (tgt := 20) (pc' := 18) (by decide +kernel) (by decide) rfl (fun c6 => ?_) (fun c6 => ?_)
    · have h := zok_f c6 h
      refine Gz.aload_n (q := 0) (pc' := 21) (by decide +kernel) rfl 0 rfl ?_
      refine Gz.getR (pc' := 24) (j := 10) 105 fd_X_88 sh_0 rfl (by decide +kernel) rfl ?_
      refine Gz.iload_n (q := 1) (pc' := 25) (by decide +kernel) rfl 1 rfl ?_
      refine Gz.iload_n (q := 2) (pc' := 26) (by decide +kernel) rfl 2 rfl ?_
      refine Gz.callVV (st := []) (b := 105) (pc' := 29) [.int a1, .int a2] (g_Ga_prepare a1 a2 w5) h ok_m_Ga_prepare lk_X_295 sh_105 rfl rfl rfl (Nat.le_of_ble_eq_true rfl) (Nat.le_of_ble_eq_true rfl) (Nat.le_of_ble_eq_true rfl) (by decide +kernel) rfl (fun _ w7 h => ?_)
      refine Gz.aload_n (q := 0) (pc' := 30) (by decide +kernel) rfl 0 rfl ?_
      refine Gz.getR (pc' := 33) (j := 10) 105 fd_X_88 sh_0 rfl (by decide +kernel) rfl ?_
      refine Gz.callVI (st := []) (b := 105) (pc' := 36) [] (g_Ga_bestBait w7) h ok_m_Ga_bestBait lk_X_301 sh_105 rfl rfl rfl (Nat.le_of_ble_eq_true rfl) (Nat.le_of_ble_eq_true rfl) (Nat.le_of_ble_eq_true rfl) (by decide +kernel) rfl (fun v8 w9 h => ?_)
      exact Gz.ireturn (by decide +kernel) rfl (zok_sI h)
    · have h := zok_t c6 h
      refine Gz.iconst (n := -1) (v := (-1 : Int32)) (pc' := 19) (by decide +kernel) rfl rfl ?_
      exact Gz.ireturn (by decide +kernel) rfl (zok_sI h)
def f_Cs_isPlan_b130 (k5 : Int32 → Int32 → Int32 → Int32 → gW → Option (Int32 × gW)) (x1 : Int32) (x2 : Int32) (x4 : Int32) (s0 : Int32) (w : gW) : Option (Int32 × gW) :=
zl (x4 + (1 : Int32)) (fun v1 =>
k5 x1 x2 s0 v1 w)
def f_Cs_isPlan_b125 (k5 : Int32 → Int32 → Int32 → Int32 → gW → Option (Int32 × gW)) (x1 : Int32) (x2 : Int32) (x4 : Int32) (w : gW) : Option (Int32 × gW) :=
f_Cs_isPlan_b130 k5 x1 x2 x4 (1 : Int32) w
def f_Cs_isPlan_b90 (k5 : Int32 → Int32 → Int32 → Int32 → gW → Option (Int32 × gW)) (x1 : Int32) (x2 : Int32) (x3 : Int32) (x4 : Int32) (x5 : Int64) (w : gW) : Option (Int32 × gW) :=
zb (f_Cs_rowOf x2 w) (fun v1 w2 =>
zb (f_Ro_word v1 x4 w2) (fun v3 w4 =>
if (lg_cmp (x5 &&& (v3 ^^^ (-1 : Int64))) (0 : Int64)) = 0 then
(if x3 = 0 then
(if (lg_cmp x5 (0 : Int64)) = 0 then
(f_Cs_isPlan_b130 k5 x1 x2 x4 (0 : Int32) w4)
else
(f_Cs_isPlan_b125 k5 x1 x2 x4 w4))
else
(f_Cs_isPlan_b125 k5 x1 x2 x4 w4))
else
(some ((0 : Int32), w4))))
def f_Cs_isPlan_b81 (k5 : Int32 → Int32 → Int32 → Int32 → gW → Option (Int32 × gW)) (k34 : Int32 → Int32 → Int32 → Int32 → Int64 → Int32 → gW → Option (Int32 × gW)) (x1 : Int32) (x2 : Int32) (x3 : Int32) (x4 : Int32) (x7 : Int32) (s0 : Int64) (s1 : Int64) (w : gW) : Option (Int32 × gW) :=
zl (s0 &&& s1) (fun v1 =>
zl (x7 + (1 : Int32)) (fun v3 =>
k34 x1 x2 x3 x4 v1 v3 w))
def f_Cs_isPlan_b34_s (k5 : Int32 → Int32 → Int32 → Int32 → gW → Option (Int32 × gW)) (k34 : Int32 → Int32 → Int32 → Int32 → Int64 → Int32 → gW → Option (Int32 × gW)) (x1 : Int32) (x2 : Int32) (x3 : Int32) (x4 : Int32) (x5 : Int64) (x7 : Int32) (w : gW) : Option (Int32 × gW) :=
if (lg_cmp x5 (0 : Int64)) = 0 then
(f_Cs_isPlan_b90 k5 x1 x2 x3 x4 x5 w)
else
(zb (f_Oa_size w) (fun v2 w3 =>
if v2 ≤ x7 then
(f_Cs_isPlan_b90 k5 x1 x2 x3 x4 x5 w3)
else
(if ((x1 >>> (x7 &&& 31)) &&& (1 : Int32)) = 0 then
(f_Cs_isPlan_b81 k5 k34 x1 x2 x3 x4 x7 x5 (-1 : Int64) w3)
else
(zb (f_Cs_rowOf x7 w3) (fun v6 w7 =>
zb (f_Ro_word v6 x4 w7) (fun v8 w9 =>
f_Cs_isPlan_b81 k5 k34 x1 x2 x3 x4 x7 x5 v8 w9))))))
def f_Cs_isPlan_b34 (k5 : Int32 → Int32 → Int32 → Int32 → gW → Option (Int32 × gW)) : Int32 → Int32 → Int32 → Int32 → Int64 → Int32 → gW → Option (Int32 × gW) := zfx (fun _ _ _ _ _ _ _ => none) (f_Cs_isPlan_b34_s k5) zFU
def f_Cs_isPlan_b5_s (k5 : Int32 → Int32 → Int32 → Int32 → gW → Option (Int32 × gW)) (x1 : Int32) (x2 : Int32) (x3 : Int32) (x4 : Int32) (w : gW) : Option (Int32 × gW) :=
zb (f_La_words w) (fun v1 w2 =>
if v1 ≤ x4 then
(if x3 &&& 1 = x3 then some (x3, w2) else none)
else
(zb (f_Co_fitting w2) (fun v5 w6 =>
zb (f_Ro_word v5 x4 w6) (fun v7 w8 =>
f_Cs_isPlan_b34 k5 x1 x2 x3 x4 v7 (0 : Int32) w8))))
def f_Cs_isPlan_b5 : Int32 → Int32 → Int32 → Int32 → gW → Option (Int32 × gW) := zfx (fun _ _ _ _ _ => none) (f_Cs_isPlan_b5_s) zFU
def f_Cs_isPlan (a1 : Int32) (a2 : Int32) (w : gW) : Option (Int32 × gW) :=
f_Cs_isPlan_b5 a1 a2 (0 : Int32) (0 : Int32) w
theorem g_Cs_isPlan_b130 {l : Launch} {Q : Option Value → gW → Prop} (k5 : Int32 → Int32 → Int32 → Int32 → gW → Option (Int32 × gW)) (hk5 : ∀ (x1 : Int32) (x2 : Int32) (x3 : Int32) (x4 : Int32) (w : gW), zok eI (k5 x1 x2 x3 x4 w) Q → Gz l m_Cs_isPlan 2 5 [(0, .ref 88), (1, .int x1), (2, .int x2), (3, .int x3), (4, .int x4)] [] w Q) (x1 : Int32) (x2 : Int32) (x4 : Int32) (s0 : Int32) (w : gW) (h : zok eI (f_Cs_isPlan_b130 k5 x1 x2 x4 s0 w) Q) : Gz l m_Cs_isPlan 2 130 [(0, .ref 88), (1, .int x1), (2, .int x2), (4, .int x4)] [.int s0] w Q := by
  unfold f_Cs_isPlan_b130 at h
  refine Gz.istore_n (q := 3) (pc' := 131) (L' := [(3, .int s0), (0, .ref 88), (1, .int x1), (2, .int x2), (4, .int x4)]) (by decide +kernel) rfl (Nat.le_of_ble_eq_true rfl) rfl ?_
  obtain ⟨v1, e2⟩ : ∃ y : Int32, y = x4 + (1 : Int32) := ⟨_, rfl⟩
  have h := zok_l e2 h
  refine Gz.iinc (i := 4) (n := 1) (pc' := 134) (L' := [(4, .int v1), (3, .int s0), (0, .ref 88), (1, .int x1), (2, .int x2)]) v1 (by decide +kernel) rfl 4 rfl (by rw [e2]; rfl) (Nat.le_of_ble_eq_true rfl) rfl ?_
  refine Gz.goto (off := -129) (tgt := 5) (by decide +kernel) (by decide) ?_
  refine Gz.sub (L' := [(0, .ref 88), (1, .int x1), (2, .int x2), (3, .int s0), (4, .int v1)]) [2, 3, 4, 1, 0] rfl ?_
  exact hk5 x1 x2 s0 v1 w h
theorem g_Cs_isPlan_b125 {l : Launch} {Q : Option Value → gW → Prop} (k5 : Int32 → Int32 → Int32 → Int32 → gW → Option (Int32 × gW)) (hk5 : ∀ (x1 : Int32) (x2 : Int32) (x3 : Int32) (x4 : Int32) (w : gW), zok eI (k5 x1 x2 x3 x4 w) Q → Gz l m_Cs_isPlan 2 5 [(0, .ref 88), (1, .int x1), (2, .int x2), (3, .int x3), (4, .int x4)] [] w Q) (x1 : Int32) (x2 : Int32) (x4 : Int32) (w : gW) (h : zok eI (f_Cs_isPlan_b125 k5 x1 x2 x4 w) Q) : Gz l m_Cs_isPlan 2 125 [(0, .ref 88), (1, .int x1), (2, .int x2), (4, .int x4)] [] w Q := by
  unfold f_Cs_isPlan_b125 at h
  refine Gz.iconst (n := 1) (v := (1 : Int32)) (pc' := 126) (by decide +kernel) rfl rfl ?_
  refine Gz.goto (off := 4) (tgt := 130) (by decide +kernel) (by decide) ?_
  exact g_Cs_isPlan_b130 k5 hk5 x1 x2 x4 (1 : Int32) w h
theorem g_Cs_isPlan_b90 {l : Launch} {Q : Option Value → gW → Prop} (k5 : Int32 → Int32 → Int32 → Int32 → gW → Option (Int32 × gW)) (hk5 : ∀ (x1 : Int32) (x2 : Int32) (x3 : Int32) (x4 : Int32) (w : gW), zok eI (k5 x1 x2 x3 x4 w) Q → Gz l m_Cs_isPlan 2 5 [(0, .ref 88), (1, .int x1), (2, .int x2), (3, .int x3), (4, .int x4)] [] w Q) (x1 : Int32) (x2 : Int32) (x3 : Int32) (x4 : Int32) (x5 : Int64) (w : gW) (h : zok eI (f_Cs_isPlan_b90 k5 x1 x2 x3 x4 x5 w) Q) : Gz l m_Cs_isPlan 2 90 [(0, .ref 88), (1, .int x1), (2, .int x2), (3, .int x3), (4, .int x4), (5, .long x5)] [] w Q := by
  unfold f_Cs_isPlan_b90 at h
  refine Gz.lload (i := 5) (pc' := 92) (by decide +kernel) rfl 5 rfl ?_
  refine Gz.aload_n (q := 0) (pc' := 93) (by decide +kernel) rfl 0 rfl ?_
  refine Gz.iload_n (q := 2) (pc' := 94) (by decide +kernel) rfl 2 rfl ?_
  refine Gz.callVR (st := [.long x5]) (b := 88) (pc' := 97) [.int x2] (g_Cs_rowOf x2 w) h ok_m_Cs_rowOf lk_Cs_48 sh_88 rfl rfl rfl (Nat.le_of_ble_eq_true rfl) (Nat.le_of_ble_eq_true rfl) (Nat.le_of_ble_eq_true rfl) (by decide +kernel) rfl (fun v1 w2 h => ?_)
  refine Gz.iload (i := 4) (pc' := 99) (by decide +kernel) rfl 4 rfl ?_
  refine Gz.callSJ (st := [.long x5]) (pc' := 102) [.ref v1, .int x4] (g_Ro_word v1 x4 w2) h ok_m_Ro_word lk_Cs_87 rfl (Nat.le_of_ble_eq_true rfl) (Nat.le_of_ble_eq_true rfl) (Nat.le_of_ble_eq_true rfl) (by decide +kernel) rfl (fun v3 w4 h => ?_)
  refine Gz.ldc2 (idx := 134) (v := (-1 : Int64)) (pc' := 105) (by decide +kernel) rfl kc_Cs_134 ?_
  refine Gz.lxor (pc' := 106) (by decide +kernel) rfl ?_
  refine Gz.land (pc' := 107) (by decide +kernel) rfl ?_
  refine Gz.lconst (n := 0) (v := (0 : Int64)) (pc' := 108) (by decide +kernel) rfl rfl ?_
  refine Gz.lcmp (pc' := 109) (by decide +kernel) rfl ?_
  refine Gz.if_eq (off := 5) (tgt := 114) (pc' := 112) (by decide +kernel) (by decide) rfl (fun c5 => ?_) (fun c5 => ?_)
  · have h := zok_t c5 h
    refine Gz.iload_n (q := 3) (pc' := 115) (by decide +kernel) rfl 3 rfl ?_
    refine Gz.if_ne (off := 10) (tgt := 125) (pc' := 118) (by decide +kernel) (by decide) rfl (fun c6 => ?_) (fun c6 => ?_)
    · have h := zok_f c6 h
      refine Gz.sub (L' := [(0, .ref 88), (1, .int x1), (2, .int x2), (4, .int x4)]) [0, 1, 2, 4] rfl ?_
      exact g_Cs_isPlan_b125 k5 hk5 x1 x2 x4 w4 h
    · have h := zok_t c6 h
      refine Gz.lload (i := 5) (pc' := 120) (by decide +kernel) rfl 5 rfl ?_
      refine Gz.lconst (n := 0) (v := (0 : Int64)) (pc' := 121) (by decide +kernel) rfl rfl ?_
      refine Gz.lcmp (pc' := 122) (by decide +kernel) rfl ?_
      refine Gz.if_eq (off := 7) (tgt := 129) (pc' := 125) (by decide +kernel) (by decide) rfl (fun c7 => ?_) (fun c7 => ?_)
      · have h := zok_t c7 h
        refine Gz.iconst (n := 0) (v := (0 : Int32)) (pc' := 130) (by decide +kernel) rfl rfl ?_
        refine Gz.sub (L' := [(0, .ref 88), (1, .int x1), (2, .int x2), (4, .int x4)]) [0, 1, 2, 4] rfl ?_
        exact g_Cs_isPlan_b130 k5 hk5 x1 x2 x4 (0 : Int32) w4 h
      · have h := zok_f c7 h
        refine Gz.sub (L' := [(0, .ref 88), (1, .int x1), (2, .int x2), (4, .int x4)]) [0, 1, 2, 4] rfl ?_
        exact g_Cs_isPlan_b125 k5 hk5 x1 x2 x4 w4 h
  · have h := zok_f c5 h
    refine Gz.iconst (n := 0) (v := (0 : Int32)) (pc' := 113) (by decide +kernel) rfl rfl ?_
    exact Gz.zreturn (by decide +kernel) rfl (by decide) (zok_sI h)
theorem g_Cs_isPlan_b81 {l : Launch} {Q : Option Value → gW → Prop} (k5 : Int32 → Int32 → Int32 → Int32 → gW → Option (Int32 × gW)) (hk5 : ∀ (x1 : Int32) (x2 : Int32) (x3 : Int32) (x4 : Int32) (w : gW), zok eI (k5 x1 x2 x3 x4 w) Q → Gz l m_Cs_isPlan 2 5 [(0, .ref 88), (1, .int x1), (2, .int x2), (3, .int x3), (4, .int x4)] [] w Q) (k34 : Int32 → Int32 → Int32 → Int32 → Int64 → Int32 → gW → Option (Int32 × gW)) (hk34 : ∀ (x1 : Int32) (x2 : Int32) (x3 : Int32) (x4 : Int32) (x5 : Int64) (x7 : Int32) (w : gW), zok eI (k34 x1 x2 x3 x4 x5 x7 w) Q → Gz l m_Cs_isPlan 2 34 [(0, .ref 88), (1, .int x1), (2, .int x2), (3, .int x3), (4, .int x4), (5, .long x5), (7, .int x7)] [] w Q) (x1 : Int32) (x2 : Int32) (x3 : Int32) (x4 : Int32) (x7 : Int32) (s0 : Int64) (s1 : Int64) (w : gW) (h : zok eI (f_Cs_isPlan_b81 k5 k34 x1 x2 x3 x4 x7 s0 s1 w) Q) : Gz l m_Cs_isPlan 2 81 [(0, .ref 88), (1, .int x1), (2, .int x2), (3, .int x3), (4, .int x4), (7, .int x7)] [.long s1, .long s0] w Q := by
  unfold f_Cs_isPlan_b81 at h
  refine Gz.land (pc' := 82) (by decide +kernel) rfl ?_
  refine Gz.nmJ (fun v1 e2 => ?_)
  have h := zok_l e2 h
  refine Gz.lstore (i := 5) (pc' := 84) (L' := [(5, .long v1), (0, .ref 88), (1, .int x1), (2, .int x2), (3, .int x3), (4, .int x4), (7, .int x7)]) (by decide +kernel) rfl (Nat.le_of_ble_eq_true rfl) rfl ?_
  obtain ⟨v3, e4⟩ : ∃ y : Int32, y = x7 + (1 : Int32) := ⟨_, rfl⟩
  have h := zok_l e4 h
  refine Gz.iinc (i := 7) (n := 1) (pc' := 87) (L' := [(7, .int v3), (5, .long v1), (0, .ref 88), (1, .int x1), (2, .int x2), (3, .int x3), (4, .int x4)]) v3 (by decide +kernel) rfl 6 rfl (by rw [e4]; rfl) (Nat.le_of_ble_eq_true rfl) rfl ?_
  refine Gz.goto (off := -53) (tgt := 34) (by decide +kernel) (by decide) ?_
  refine Gz.sub (L' := [(0, .ref 88), (1, .int x1), (2, .int x2), (3, .int x3), (4, .int x4), (5, .long v1), (7, .int v3)]) [2, 3, 4, 5, 6, 1, 0] rfl ?_
  exact hk34 x1 x2 x3 x4 v1 v3 w h
theorem g_Cs_isPlan_b34_s {l : Launch} {Q : Option Value → gW → Prop} (k5 : Int32 → Int32 → Int32 → Int32 → gW → Option (Int32 × gW)) (hk5 : ∀ (x1 : Int32) (x2 : Int32) (x3 : Int32) (x4 : Int32) (w : gW), zok eI (k5 x1 x2 x3 x4 w) Q → Gz l m_Cs_isPlan 2 5 [(0, .ref 88), (1, .int x1), (2, .int x2), (3, .int x3), (4, .int x4)] [] w Q) (k34 : Int32 → Int32 → Int32 → Int32 → Int64 → Int32 → gW → Option (Int32 × gW)) (hk34 : ∀ (x1 : Int32) (x2 : Int32) (x3 : Int32) (x4 : Int32) (x5 : Int64) (x7 : Int32) (w : gW), zok eI (k34 x1 x2 x3 x4 x5 x7 w) Q → Gz l m_Cs_isPlan 2 34 [(0, .ref 88), (1, .int x1), (2, .int x2), (3, .int x3), (4, .int x4), (5, .long x5), (7, .int x7)] [] w Q) (x1 : Int32) (x2 : Int32) (x3 : Int32) (x4 : Int32) (x5 : Int64) (x7 : Int32) (w : gW) (h : zok eI (f_Cs_isPlan_b34_s k5 k34 x1 x2 x3 x4 x5 x7 w) Q) : Gz l m_Cs_isPlan 2 34 [(0, .ref 88), (1, .int x1), (2, .int x2), (3, .int x3), (4, .int x4), (5, .long x5), (7, .int x7)] [] w Q := by
  unfold f_Cs_isPlan_b34_s at h
  refine Gz.lload (i := 5) (pc' := 36) (by decide +kernel) rfl 5 rfl ?_
  refine Gz.lconst (n := 0) (v := (0 : Int64)) (pc' := 37) (by decide +kernel) rfl rfl ?_
  refine Gz.lcmp (pc' := 38) (by decide +kernel) rfl ?_
  refine Gz.if_eq (off := 52) (tgt := 90) (pc' := 41) (by decide +kernel) (by decide) rfl (fun c1 => ?_) (fun c1 => ?_)
  · have h := zok_t c1 h
    refine Gz.sub (L' := [(0, .ref 88), (1, .int x1), (2, .int x2), (3, .int x3), (4, .int x4), (5, .long x5)]) [0, 1, 2, 3, 4, 5] rfl ?_
    exact g_Cs_isPlan_b90 k5 hk5 x1 x2 x3 x4 x5 w h
  · have h := zok_f c1 h
    refine Gz.iload (i := 7) (pc' := 43) (by decide +kernel) rfl 6 rfl ?_
    refine Gz.aload_n (q := 0) (pc' := 44) (by decide +kernel) rfl 0 rfl ?_
    refine Gz.getR (pc' := 47) (j := 1) 5 fd_Cs_24 sh_88 rfl (by decide +kernel) rfl ?_
    refine Gz.callVI (st := [.int x7]) (b := 5) (pc' := 50) [] (g_Oa_size w) h ok_m_Oa_size lk_Cs_32 sh_5 rfl rfl rfl (Nat.le_of_ble_eq_true rfl) (Nat.le_of_ble_eq_true rfl) (Nat.le_of_ble_eq_true rfl) (by decide +kernel) rfl (fun v2 w3 h => ?_)
    refine Gz.icmp_ge (off := 40) (tgt := 90) (pc' := 53) (by decide +kernel) (by decide) rfl (fun c4 => ?_) (fun c4 => ?_)
    · have h := zok_t c4 h
      refine Gz.sub (L' := [(0, .ref 88), (1, .int x1), (2, .int x2), (3, .int x3), (4, .int x4), (5, .long x5)]) [0, 1, 2, 3, 4, 5] rfl ?_
      exact g_Cs_isPlan_b90 k5 hk5 x1 x2 x3 x4 x5 w3 h
    · have h := zok_f c4 h
      refine Gz.lload (i := 5) (pc' := 55) (by decide +kernel) rfl 5 rfl ?_
      refine Gz.iload_n (q := 1) (pc' := 56) (by decide +kernel) rfl 1 rfl ?_
      refine Gz.iload (i := 7) (pc' := 58) (by decide +kernel) rfl 6 rfl ?_
      refine Gz.ishr (pc' := 59) (by decide +kernel) rfl ?_
      refine Gz.iconst (n := 1) (v := (1 : Int32)) (pc' := 60) (by decide +kernel) rfl rfl ?_
      refine Gz.iand (pc' := 61) (by decide +kernel) rfl ?_
      refine Gz.if_ne (off := 9) (tgt := 70) (pc' := 64) (by decide +kernel) (by decide) rfl (fun c5 => ?_) (fun c5 => ?_)
      · have h := zok_f c5 h
        refine Gz.aload_n (q := 0) (pc' := 71) (by decide +kernel) rfl 0 rfl ?_
        refine Gz.iload (i := 7) (pc' := 73) (by decide +kernel) rfl 6 rfl ?_
        refine Gz.callVR (st := [.long x5]) (b := 88) (pc' := 76) [.int x7] (g_Cs_rowOf x7 w3) h ok_m_Cs_rowOf lk_Cs_48 sh_88 rfl rfl rfl (Nat.le_of_ble_eq_true rfl) (Nat.le_of_ble_eq_true rfl) (Nat.le_of_ble_eq_true rfl) (by decide +kernel) rfl (fun v6 w7 h => ?_)
        refine Gz.iload (i := 4) (pc' := 78) (by decide +kernel) rfl 4 rfl ?_
        refine Gz.callSJ (st := [.long x5]) (pc' := 81) [.ref v6, .int x4] (g_Ro_word v6 x4 w7) h ok_m_Ro_word lk_Cs_87 rfl (Nat.le_of_ble_eq_true rfl) (Nat.le_of_ble_eq_true rfl) (Nat.le_of_ble_eq_true rfl) (by decide +kernel) rfl (fun v8 w9 h => ?_)
        refine Gz.sub (L' := [(0, .ref 88), (1, .int x1), (2, .int x2), (3, .int x3), (4, .int x4), (7, .int x7)]) [0, 1, 2, 3, 4, 6] rfl ?_
        exact g_Cs_isPlan_b81 k5 hk5 k34 hk34 x1 x2 x3 x4 x7 x5 v8 w9 h
      · have h := zok_t c5 h
        refine Gz.ldc2 (idx := 134) (v := (-1 : Int64)) (pc' := 67) (by decide +kernel) rfl kc_Cs_134 ?_
        refine Gz.goto (off := 14) (tgt := 81) (by decide +kernel) (by decide) ?_
        refine Gz.sub (L' := [(0, .ref 88), (1, .int x1), (2, .int x2), (3, .int x3), (4, .int x4), (7, .int x7)]) [0, 1, 2, 3, 4, 6] rfl ?_
        exact g_Cs_isPlan_b81 k5 hk5 k34 hk34 x1 x2 x3 x4 x7 x5 (-1 : Int64) w3 h
theorem g_Cs_isPlan_b34 {l : Launch} {Q : Option Value → gW → Prop} (k5 : Int32 → Int32 → Int32 → Int32 → gW → Option (Int32 × gW)) (hk5 : ∀ (x1 : Int32) (x2 : Int32) (x3 : Int32) (x4 : Int32) (w : gW), zok eI (k5 x1 x2 x3 x4 w) Q → Gz l m_Cs_isPlan 2 5 [(0, .ref 88), (1, .int x1), (2, .int x2), (3, .int x3), (4, .int x4)] [] w Q) (x1 : Int32) (x2 : Int32) (x3 : Int32) (x4 : Int32) (x5 : Int64) (x7 : Int32) (w : gW) (h : zok eI (f_Cs_isPlan_b34 k5 x1 x2 x3 x4 x5 x7 w) Q) : Gz l m_Cs_isPlan 2 34 [(0, .ref 88), (1, .int x1), (2, .int x2), (3, .int x3), (4, .int x4), (5, .long x5), (7, .int x7)] [] w Q := by
  have key : ∀ (n : Nat) (x1 : Int32) (x2 : Int32) (x3 : Int32) (x4 : Int32) (x5 : Int64) (x7 : Int32) (w : gW), zok eI (zfx (fun _ _ _ _ _ _ _ => none) (f_Cs_isPlan_b34_s k5) n x1 x2 x3 x4 x5 x7 w) Q → Gz l m_Cs_isPlan 2 34 [(0, .ref 88), (1, .int x1), (2, .int x2), (3, .int x3), (4, .int x4), (5, .long x5), (7, .int x7)] [] w Q := by
    intro n
    induction n with
    | zero => intro x1 x2 x3 x4 x5 x7 w h; exact zok_n h
    | succ n ih => intro x1 x2 x3 x4 x5 x7 w h; exact g_Cs_isPlan_b34_s k5 hk5 _ ih x1 x2 x3 x4 x5 x7 w h
  exact key zFU x1 x2 x3 x4 x5 x7 w h
theorem g_Cs_isPlan_b5_s {l : Launch} {Q : Option Value → gW → Prop} (k5 : Int32 → Int32 → Int32 → Int32 → gW → Option (Int32 × gW)) (hk5 : ∀ (x1 : Int32) (x2 : Int32) (x3 : Int32) (x4 : Int32) (w : gW), zok eI (k5 x1 x2 x3 x4 w) Q → Gz l m_Cs_isPlan 2 5 [(0, .ref 88), (1, .int x1), (2, .int x2), (3, .int x3), (4, .int x4)] [] w Q) (x1 : Int32) (x2 : Int32) (x3 : Int32) (x4 : Int32) (w : gW) (h : zok eI (f_Cs_isPlan_b5_s k5 x1 x2 x3 x4 w) Q) : Gz l m_Cs_isPlan 2 5 [(0, .ref 88), (1, .int x1), (2, .int x2), (3, .int x3), (4, .int x4)] [] w Q := by
  unfold f_Cs_isPlan_b5_s at h
  refine Gz.iload (i := 4) (pc' := 7) (by decide +kernel) rfl 4 rfl ?_
  refine Gz.aload_n (q := 0) (pc' := 8) (by decide +kernel) rfl 0 rfl ?_
  refine Gz.getR (pc' := 11) (j := 0) 19 fd_Cs_20 sh_88 rfl (by decide +kernel) rfl ?_
  refine Gz.callVI (st := [.int x4]) (b := 19) (pc' := 14) [] (g_La_words w) h ok_m_La_words lk_Cs_52 sh_19 rfl rfl rfl (Nat.le_of_ble_eq_true rfl) (Nat.le_of_ble_eq_true rfl) (Nat.le_of_ble_eq_true rfl) (by decide +kernel) rfl (fun v1 w2 h => ?_)
  refine Gz.icmp_ge (off := 123) (tgt := 137) (pc' := 17) (by decide +kernel) (by decide) rfl (fun c3 => ?_) (fun c3 => ?_)
  · have h := zok_t c3 h
    refine Gz.iload_n (q := 3) (pc' := 138) (by decide +kernel) rfl 3 rfl ?_
    obtain ⟨c4, h⟩ := zok_c h
    exact Gz.zreturn (by decide +kernel) rfl c4 (zok_sI h)
  · have h := zok_f c3 h
    refine Gz.aload_n (q := 0) (pc' := 18) (by decide +kernel) rfl 0 rfl ?_
    refine Gz.getR (pc' := 21) (j := 2) 73 fd_Cs_28 sh_88 rfl (by decide +kernel) rfl ?_
    refine Gz.callVR (st := []) (b := 73) (pc' := 24) [] (g_Co_fitting w2) h ok_m_Co_fitting lk_Cs_44 sh_73 rfl rfl rfl (Nat.le_of_ble_eq_true rfl) (Nat.le_of_ble_eq_true rfl) (Nat.le_of_ble_eq_true rfl) (by decide +kernel) rfl (fun v5 w6 h => ?_)
    refine Gz.iload (i := 4) (pc' := 26) (by decide +kernel) rfl 4 rfl ?_
    refine Gz.callSJ (st := []) (pc' := 29) [.ref v5, .int x4] (g_Ro_word v5 x4 w6) h ok_m_Ro_word lk_Cs_87 rfl (Nat.le_of_ble_eq_true rfl) (Nat.le_of_ble_eq_true rfl) (Nat.le_of_ble_eq_true rfl) (by decide +kernel) rfl (fun v7 w8 h => ?_)
    refine Gz.lstore (i := 5) (pc' := 31) (L' := [(5, .long v7), (0, .ref 88), (1, .int x1), (2, .int x2), (3, .int x3), (4, .int x4)]) (by decide +kernel) rfl (Nat.le_of_ble_eq_true rfl) rfl ?_
    refine Gz.iconst (n := 0) (v := (0 : Int32)) (pc' := 32) (by decide +kernel) rfl rfl ?_
    refine Gz.istore (i := 7) (pc' := 34) (L' := [(7, .int (0 : Int32)), (5, .long v7), (0, .ref 88), (1, .int x1), (2, .int x2), (3, .int x3), (4, .int x4)]) (by decide +kernel) rfl (Nat.le_of_ble_eq_true rfl) rfl ?_
    refine Gz.sub (L' := [(0, .ref 88), (1, .int x1), (2, .int x2), (3, .int x3), (4, .int x4), (5, .long v7), (7, .int (0 : Int32))]) [2, 3, 4, 5, 6, 1, 0] rfl ?_
    exact g_Cs_isPlan_b34 k5 hk5 x1 x2 x3 x4 v7 (0 : Int32) w8 h
theorem g_Cs_isPlan_b5 {l : Launch} {Q : Option Value → gW → Prop} (x1 : Int32) (x2 : Int32) (x3 : Int32) (x4 : Int32) (w : gW) (h : zok eI (f_Cs_isPlan_b5 x1 x2 x3 x4 w) Q) : Gz l m_Cs_isPlan 2 5 [(0, .ref 88), (1, .int x1), (2, .int x2), (3, .int x3), (4, .int x4)] [] w Q := by
  have key : ∀ (n : Nat) (x1 : Int32) (x2 : Int32) (x3 : Int32) (x4 : Int32) (w : gW), zok eI (zfx (fun _ _ _ _ _ => none) (f_Cs_isPlan_b5_s) n x1 x2 x3 x4 w) Q → Gz l m_Cs_isPlan 2 5 [(0, .ref 88), (1, .int x1), (2, .int x2), (3, .int x3), (4, .int x4)] [] w Q := by
    intro n
    induction n with
    | zero => intro x1 x2 x3 x4 w h; exact zok_n h
    | succ n ih => intro x1 x2 x3 x4 w h; exact g_Cs_isPlan_b5_s _ ih x1 x2 x3 x4 w h
  exact key zFU x1 x2 x3 x4 w h
theorem g_Cs_isPlan {l : Launch} (a1 : Int32) (a2 : Int32) (w : gW) : gCt l m_Cs_isPlan 2 [.ref 88, .int a1, .int a2] w eI (f_Cs_isPlan a1 a2 w) := by
  intro Q h
  unfold f_Cs_isPlan at h
  show Gz l m_Cs_isPlan 2 0 [(0, .ref 88), (1, .int a1), (2, .int a2)] [] w Q
  refine Gz.iconst (n := 0) (v := (0 : Int32)) (pc' := 1) (by decide +kernel) rfl rfl ?_
  refine Gz.istore_n (q := 3) (pc' := 2) (L' := [(3, .int (0 : Int32)), (0, .ref 88), (1, .int a1), (2, .int a2)]) (by decide +kernel) rfl (Nat.le_of_ble_eq_true rfl) rfl ?_
  refine Gz.iconst (n := 0) (v := (0 : Int32)) (pc' := 3) (by decide +kernel) rfl rfl ?_
  refine Gz.istore (i := 4) (pc' := 5) (L' := [(4, .int (0 : Int32)), (3, .int (0 : Int32)), (0, .ref 88), (1, .int a1), (2, .int a2)]) (by decide +kernel) rfl (Nat.le_of_ble_eq_true rfl) rfl ?_
  refine Gz.sub (L' := [(0, .ref 88), (1, .int a1), (2, .int a2), (3, .int (0 : Int32)), (4, .int (0 : Int32))]) [2, 3, 4, 1, 0] rfl ?_
  exact g_Cs_isPlan_b5 a1 a2 (0 : Int32) (0 : Int32) w h
def f_Cs_leastPlan_b90 (k8 : Int32 → Int32 → Int32 → gW → Option (Int32 × gW)) (k23 : Int32 → Int32 → Int32 → Int32 → gW → Option (Int32 × gW)) (x1 : Int32) (x3 : Int32) (x4 : Int32) (x5 : Int32) (w : gW) : Option (Int32 × gW) :=
zl (x5 + (1 : Int32)) (fun v1 =>
k23 x1 x3 x4 v1 w)
def f_Cs_leastPlan_b61 (k8 : Int32 → Int32 → Int32 → gW → Option (Int32 × gW)) (k23 : Int32 → Int32 → Int32 → Int32 → gW → Option (Int32 × gW)) (x1 : Int32) (x3 : Int32) (x4 : Int32) (x5 : Int32) (s0 : Int32) (w : gW) : Option (Int32 × gW) :=
if s0 = 0 then
(f_Cs_leastPlan_b90 k8 k23 x1 x3 x4 x5 w)
else
(zb (f_Cs_isPlan x5 x1 w) (fun v2 w3 =>
if v2 = 0 then
(f_Cs_leastPlan_b90 k8 k23 x1 x3 x4 x5 w3)
else
(if x3 = 0 then
(some (x4, w3))
else
(some (x5, w3)))))
def f_Cs_leastPlan_b60 (k8 : Int32 → Int32 → Int32 → gW → Option (Int32 × gW)) (k23 : Int32 → Int32 → Int32 → Int32 → gW → Option (Int32 × gW)) (x1 : Int32) (x3 : Int32) (x4 : Int32) (x5 : Int32) (w : gW) : Option (Int32 × gW) :=
f_Cs_leastPlan_b61 k8 k23 x1 x3 x4 x5 (0 : Int32) w
def f_Cs_leastPlan_b23_s (k8 : Int32 → Int32 → Int32 → gW → Option (Int32 × gW)) (k23 : Int32 → Int32 → Int32 → Int32 → gW → Option (Int32 × gW)) (x1 : Int32) (x3 : Int32) (x4 : Int32) (x5 : Int32) (w : gW) : Option (Int32 × gW) :=
zb (f_Oa_size w) (fun v1 w2 =>
if ((1 : Int32) <<< (v1 &&& 31)) ≤ x5 then
(zl (x4 + (1 : Int32)) (fun v4 =>
k8 x1 x3 v4 w2))
else
(zb (f_Int_bitCount x5 w2) (fun v6 w7 =>
if v6 = x4 then
(if ((x5 >>> (x1 &&& 31)) &&& (1 : Int32)) = 0 then
(f_Cs_leastPlan_b61 k8 k23 x1 x3 x4 x5 (1 : Int32) w7)
else
(f_Cs_leastPlan_b60 k8 k23 x1 x3 x4 x5 w7))
else
(f_Cs_leastPlan_b60 k8 k23 x1 x3 x4 x5 w7))))
def f_Cs_leastPlan_b23 (k8 : Int32 → Int32 → Int32 → gW → Option (Int32 × gW)) : Int32 → Int32 → Int32 → Int32 → gW → Option (Int32 × gW) := zfx (fun _ _ _ _ _ => none) (f_Cs_leastPlan_b23_s k8) zFU
def f_Cs_leastPlan_b8_s (k8 : Int32 → Int32 → Int32 → gW → Option (Int32 × gW)) (x1 : Int32) (x3 : Int32) (x4 : Int32) (w : gW) : Option (Int32 × gW) :=
zb (f_Oa_size w) (fun v1 w2 =>
if v1 ≤ x4 then
(some ((-1 : Int32), w2))
else
(f_Cs_leastPlan_b23 k8 x1 x3 x4 (0 : Int32) w2))
def f_Cs_leastPlan_b8 : Int32 → Int32 → Int32 → gW → Option (Int32 × gW) := zfx (fun _ _ _ _ => none) (f_Cs_leastPlan_b8_s) zFU
def f_Cs_leastPlan (a1 : Int32) (a2 : Int32) (a3 : Int32) (w : gW) : Option (Int32 × gW) :=
zb (f_Cs_hearAll a2 w) (fun _ w1 =>
f_Cs_leastPlan_b8 a1 a3 (0 : Int32) w1)
theorem g_Cs_leastPlan_b90 {l : Launch} {Q : Option Value → gW → Prop} (k8 : Int32 → Int32 → Int32 → gW → Option (Int32 × gW)) (hk8 : ∀ (x1 : Int32) (x3 : Int32) (x4 : Int32) (w : gW), zok eI (k8 x1 x3 x4 w) Q → Gz l m_Cs_leastPlan 6 8 [(0, .ref 88), (1, .int x1), (3, .int x3), (4, .int x4)] [] w Q) (k23 : Int32 → Int32 → Int32 → Int32 → gW → Option (Int32 × gW)) (hk23 : ∀ (x1 : Int32) (x3 : Int32) (x4 : Int32) (x5 : Int32) (w : gW), zok eI (k23 x1 x3 x4 x5 w) Q → Gz l m_Cs_leastPlan 6 23 [(0, .ref 88), (1, .int x1), (3, .int x3), (4, .int x4), (5, .int x5)] [] w Q) (x1 : Int32) (x3 : Int32) (x4 : Int32) (x5 : Int32) (w : gW) (h : zok eI (f_Cs_leastPlan_b90 k8 k23 x1 x3 x4 x5 w) Q) : Gz l m_Cs_leastPlan 6 90 [(0, .ref 88), (1, .int x1), (3, .int x3), (4, .int x4), (5, .int x5)] [] w Q := by
  unfold f_Cs_leastPlan_b90 at h
  obtain ⟨v1, e2⟩ : ∃ y : Int32, y = x5 + (1 : Int32) := ⟨_, rfl⟩
  have h := zok_l e2 h
  refine Gz.iinc (i := 5) (n := 1) (pc' := 93) (L' := [(5, .int v1), (0, .ref 88), (1, .int x1), (3, .int x3), (4, .int x4)]) v1 (by decide +kernel) rfl 4 rfl (by rw [e2]; rfl) (Nat.le_of_ble_eq_true rfl) rfl ?_
  refine Gz.goto (off := -70) (tgt := 23) (by decide +kernel) (by decide) ?_
  refine Gz.sub (L' := [(0, .ref 88), (1, .int x1), (3, .int x3), (4, .int x4), (5, .int v1)]) [1, 2, 3, 4, 0] rfl ?_
  exact hk23 x1 x3 x4 v1 w h
theorem g_Cs_leastPlan_b61 {l : Launch} {Q : Option Value → gW → Prop} (k8 : Int32 → Int32 → Int32 → gW → Option (Int32 × gW)) (hk8 : ∀ (x1 : Int32) (x3 : Int32) (x4 : Int32) (w : gW), zok eI (k8 x1 x3 x4 w) Q → Gz l m_Cs_leastPlan 6 8 [(0, .ref 88), (1, .int x1), (3, .int x3), (4, .int x4)] [] w Q) (k23 : Int32 → Int32 → Int32 → Int32 → gW → Option (Int32 × gW)) (hk23 : ∀ (x1 : Int32) (x3 : Int32) (x4 : Int32) (x5 : Int32) (w : gW), zok eI (k23 x1 x3 x4 x5 w) Q → Gz l m_Cs_leastPlan 6 23 [(0, .ref 88), (1, .int x1), (3, .int x3), (4, .int x4), (5, .int x5)] [] w Q) (x1 : Int32) (x3 : Int32) (x4 : Int32) (x5 : Int32) (s0 : Int32) (w : gW) (h : zok eI (f_Cs_leastPlan_b61 k8 k23 x1 x3 x4 x5 s0 w) Q) : Gz l m_Cs_leastPlan 6 61 [(0, .ref 88), (1, .int x1), (3, .int x3), (4, .int x4), (5, .int x5)] [.int s0] w Q := by
  unfold f_Cs_leastPlan_b61 at h
  refine Gz.istore (i := 6) (pc' := 63) (L' := [(6, .int s0), (0, .ref 88), (1, .int x1), (3, .int x3), (4, .int x4), (5, .int x5)]) (by decide +kernel) rfl (Nat.le_of_ble_eq_true rfl) rfl ?_
  refine Gz.iload (i := 6) (pc' := 65) (by decide +kernel) rfl 0 rfl ?_
  refine Gz.if_eq (off := 25) (tgt := 90) (pc' := 68) (by decide +kernel) (by decide) rfl (fun c1 => ?_) (fun c1 => ?_)
  · have h := zok_t c1 h
    refine Gz.sub (L' := [(0, .ref 88), (1, .int x1), (3, .int x3), (4, .int x4), (5, .int x5)]) [1, 2, 3, 4, 5] rfl ?_
    exact g_Cs_leastPlan_b90 k8 hk8 k23 hk23 x1 x3 x4 x5 w h
  · have h := zok_f c1 h
    refine Gz.aload_n (q := 0) (pc' := 69) (by decide +kernel) rfl 1 rfl ?_
    refine Gz.iload (i := 5) (pc' := 71) (by decide +kernel) rfl 5 rfl ?_
    refine Gz.iload_n (q := 1) (pc' := 72) (by decide +kernel) rfl 2 rfl ?_
    refine Gz.callVI (st := []) (b := 88) (pc' := 75) [.int x5, .int x1] (g_Cs_isPlan x5 x1 w) h ok_m_Cs_isPlan lk_Cs_127 sh_88 rfl rfl rfl (Nat.le_of_ble_eq_true rfl) (Nat.le_of_ble_eq_true rfl) (Nat.le_of_ble_eq_true rfl) (by decide +kernel) rfl (fun v2 w3 h => ?_)
    refine Gz.if_eq (off := 15) (tgt := 90) (pc' := 78) (by decide +kernel) (by decide) rfl (fun c4 => ?_) (fun c4 => ?_)
    · have h := zok_t c4 h
      refine Gz.sub (L' := [(0, .ref 88), (1, .int x1), (3, .int x3), (4, .int x4), (5, .int x5)]) [1, 2, 3, 4, 5] rfl ?_
      exact g_Cs_leastPlan_b90 k8 hk8 k23 hk23 x1 x3 x4 x5 w3 h
    · have h := zok_f c4 h
      refine Gz.iload_n (q := 3) (pc' := 79) (by decide +kernel) rfl 3 rfl ?_
      refine Gz.if_ne (off := 8) (tgt := 87) (pc' := 82) (by decide +kernel) (by decide) rfl (fun c5 => ?_) (fun c5 => ?_)
      · have h := zok_f c5 h
        refine Gz.iload (i := 5) (pc' := 89) (by decide +kernel) rfl 5 rfl ?_
        exact Gz.ireturn (by decide +kernel) rfl (zok_sI h)
      · have h := zok_t c5 h
        refine Gz.iload (i := 4) (pc' := 84) (by decide +kernel) rfl 4 rfl ?_
        refine Gz.goto (off := 5) (tgt := 89) (by decide +kernel) (by decide) ?_
        exact Gz.ireturn (by decide +kernel) rfl (zok_sI h)
theorem g_Cs_leastPlan_b60 {l : Launch} {Q : Option Value → gW → Prop} (k8 : Int32 → Int32 → Int32 → gW → Option (Int32 × gW)) (hk8 : ∀ (x1 : Int32) (x3 : Int32) (x4 : Int32) (w : gW), zok eI (k8 x1 x3 x4 w) Q → Gz l m_Cs_leastPlan 6 8 [(0, .ref 88), (1, .int x1), (3, .int x3), (4, .int x4)] [] w Q) (k23 : Int32 → Int32 → Int32 → Int32 → gW → Option (Int32 × gW)) (hk23 : ∀ (x1 : Int32) (x3 : Int32) (x4 : Int32) (x5 : Int32) (w : gW), zok eI (k23 x1 x3 x4 x5 w) Q → Gz l m_Cs_leastPlan 6 23 [(0, .ref 88), (1, .int x1), (3, .int x3), (4, .int x4), (5, .int x5)] [] w Q) (x1 : Int32) (x3 : Int32) (x4 : Int32) (x5 : Int32) (w : gW) (h : zok eI (f_Cs_leastPlan_b60 k8 k23 x1 x3 x4 x5 w) Q) : Gz l m_Cs_leastPlan 6 60 [(0, .ref 88), (1, .int x1), (3, .int x3), (4, .int x4), (5, .int x5)] [] w Q := by
  unfold f_Cs_leastPlan_b60 at h
  refine Gz.iconst (n := 0) (v := (0 : Int32)) (pc' := 61) (by decide +kernel) rfl rfl ?_
  exact g_Cs_leastPlan_b61 k8 hk8 k23 hk23 x1 x3 x4 x5 (0 : Int32) w h
theorem g_Cs_leastPlan_b23_s {l : Launch} {Q : Option Value → gW → Prop} (k8 : Int32 → Int32 → Int32 → gW → Option (Int32 × gW)) (hk8 : ∀ (x1 : Int32) (x3 : Int32) (x4 : Int32) (w : gW), zok eI (k8 x1 x3 x4 w) Q → Gz l m_Cs_leastPlan 6 8 [(0, .ref 88), (1, .int x1), (3, .int x3), (4, .int x4)] [] w Q) (k23 : Int32 → Int32 → Int32 → Int32 → gW → Option (Int32 × gW)) (hk23 : ∀ (x1 : Int32) (x3 : Int32) (x4 : Int32) (x5 : Int32) (w : gW), zok eI (k23 x1 x3 x4 x5 w) Q → Gz l m_Cs_leastPlan 6 23 [(0, .ref 88), (1, .int x1), (3, .int x3), (4, .int x4), (5, .int x5)] [] w Q) (x1 : Int32) (x3 : Int32) (x4 : Int32) (x5 : Int32) (w : gW) (h : zok eI (f_Cs_leastPlan_b23_s k8 k23 x1 x3 x4 x5 w) Q) : Gz l m_Cs_leastPlan 6 23 [(0, .ref 88), (1, .int x1), (3, .int x3), (4, .int x4), (5, .int x5)] [] w Q := by
  unfold f_Cs_leastPlan_b23_s at h
  refine Gz.iload (i := 5) (pc' := 25) (by decide +kernel) rfl 4 rfl ?_
  refine Gz.iconst (n := 1) (v := (1 : Int32)) (pc' := 26) (by decide +kernel) rfl rfl ?_
  refine Gz.aload_n (q := 0) (pc' := 27) (by decide +kernel) rfl 0 rfl ?_
  refine Gz.getR (pc' := 30) (j := 1) 5 fd_Cs_24 sh_88 rfl (by decide +kernel) rfl ?_
  refine Gz.callVI (st := [.int (1 : Int32), .int x5]) (b := 5) (pc' := 33) [] (g_Oa_size w) h ok_m_Oa_size lk_Cs_32 sh_5 rfl rfl rfl (Nat.le_of_ble_eq_true rfl) (Nat.le_of_ble_eq_true rfl) (Nat.le_of_ble_eq_true rfl) (by decide +kernel) rfl (fun v1 w2 h => ?_)
  refine Gz.ishl (pc' := 34) (by decide +kernel) rfl ?_
  refine Gz.icmp_ge (off := 62) (tgt := 96) (pc' := 37) (by decide +kernel) (by decide) rfl (fun c3 => ?_) (fun c3 => ?_)
  · have h := zok_t c3 h
    obtain ⟨v4, e5⟩ : ∃ y : Int32, y = x4 + (1 : Int32) := ⟨_, rfl⟩
    have h := zok_l e5 h
    refine Gz.iinc (i := 4) (n := 1) (pc' := 99) (L' := [(4, .int v4), (0, .ref 88), (1, .int x1), (3, .int x3), (5, .int x5)]) v4 (by decide +kernel) rfl 3 rfl (by rw [e5]; rfl) (Nat.le_of_ble_eq_true rfl) rfl ?_
    refine Gz.goto (off := -91) (tgt := 8) (by decide +kernel) (by decide) ?_
    refine Gz.sub (L' := [(0, .ref 88), (1, .int x1), (3, .int x3), (4, .int v4)]) [1, 2, 3, 0] rfl ?_
    exact hk8 x1 x3 v4 w2 h
  · have h := zok_f c3 h
    refine Gz.iload (i := 5) (pc' := 39) (by decide +kernel) rfl 4 rfl ?_
    refine Gz.callSI (st := []) (pc' := 42) [.int x5] (g_Int_bitCount x5 w2) h ok_m_Int_bitCount lk_Cs_122 rfl (Nat.le_of_ble_eq_true rfl) (Nat.le_of_ble_eq_true rfl) (Nat.le_of_ble_eq_true rfl) (by decide +kernel) rfl (fun v6 w7 h => ?_)
    refine Gz.iload (i := 4) (pc' := 44) (by decide +kernel) rfl 3 rfl ?_
    refine Gz.icmp_ne (off := 16) (tgt := 60) (pc' := 47) (by decide +kernel) (by decide) rfl (fun c8 => ?_) (fun c8 => ?_)
    · have h := zok_f c8 h
      exact g_Cs_leastPlan_b60 k8 hk8 k23 hk23 x1 x3 x4 x5 w7 h
    · have h := zok_t c8 h
      refine Gz.iload (i := 5) (pc' := 49) (by decide +kernel) rfl 4 rfl ?_
      refine Gz.iload_n (q := 1) (pc' := 50) (by decide +kernel) rfl 1 rfl ?_
      refine Gz.ishr (pc' := 51) (by decide +kernel) rfl ?_
      refine Gz.iconst (n := 1) (v := (1 : Int32)) (pc' := 52) (by decide +kernel) rfl rfl ?_
      refine Gz.iand (pc' := 53) (by decide +kernel) rfl ?_
      refine Gz.if_ne (off := 7) (tgt := 60) (pc' := 56) (by decide +kernel) (by decide) rfl (fun c9 => ?_) (fun c9 => ?_)
      · have h := zok_f c9 h
        exact g_Cs_leastPlan_b60 k8 hk8 k23 hk23 x1 x3 x4 x5 w7 h
      · have h := zok_t c9 h
        refine Gz.iconst (n := 1) (v := (1 : Int32)) (pc' := 57) (by decide +kernel) rfl rfl ?_
        refine Gz.goto (off := 4) (tgt := 61) (by decide +kernel) (by decide) ?_
        exact g_Cs_leastPlan_b61 k8 hk8 k23 hk23 x1 x3 x4 x5 (1 : Int32) w7 h
theorem g_Cs_leastPlan_b23 {l : Launch} {Q : Option Value → gW → Prop} (k8 : Int32 → Int32 → Int32 → gW → Option (Int32 × gW)) (hk8 : ∀ (x1 : Int32) (x3 : Int32) (x4 : Int32) (w : gW), zok eI (k8 x1 x3 x4 w) Q → Gz l m_Cs_leastPlan 6 8 [(0, .ref 88), (1, .int x1), (3, .int x3), (4, .int x4)] [] w Q) (x1 : Int32) (x3 : Int32) (x4 : Int32) (x5 : Int32) (w : gW) (h : zok eI (f_Cs_leastPlan_b23 k8 x1 x3 x4 x5 w) Q) : Gz l m_Cs_leastPlan 6 23 [(0, .ref 88), (1, .int x1), (3, .int x3), (4, .int x4), (5, .int x5)] [] w Q := by
  have key : ∀ (n : Nat) (x1 : Int32) (x3 : Int32) (x4 : Int32) (x5 : Int32) (w : gW), zok eI (zfx (fun _ _ _ _ _ => none) (f_Cs_leastPlan_b23_s k8) n x1 x3 x4 x5 w) Q → Gz l m_Cs_leastPlan 6 23 [(0, .ref 88), (1, .int x1), (3, .int x3), (4, .int x4), (5, .int x5)] [] w Q := by
    intro n
    induction n with
    | zero => intro x1 x3 x4 x5 w h; exact zok_n h
    | succ n ih => intro x1 x3 x4 x5 w h; exact g_Cs_leastPlan_b23_s k8 hk8 _ ih x1 x3 x4 x5 w h
  exact key zFU x1 x3 x4 x5 w h
theorem g_Cs_leastPlan_b8_s {l : Launch} {Q : Option Value → gW → Prop} (k8 : Int32 → Int32 → Int32 → gW → Option (Int32 × gW)) (hk8 : ∀ (x1 : Int32) (x3 : Int32) (x4 : Int32) (w : gW), zok eI (k8 x1 x3 x4 w) Q → Gz l m_Cs_leastPlan 6 8 [(0, .ref 88), (1, .int x1), (3, .int x3), (4, .int x4)] [] w Q) (x1 : Int32) (x3 : Int32) (x4 : Int32) (w : gW) (h : zok eI (f_Cs_leastPlan_b8_s k8 x1 x3 x4 w) Q) : Gz l m_Cs_leastPlan 6 8 [(0, .ref 88), (1, .int x1), (3, .int x3), (4, .int x4)] [] w Q := by
  unfold f_Cs_leastPlan_b8_s at h
  refine Gz.iload (i := 4) (pc' := 10) (by decide +kernel) rfl 3 rfl ?_
  refine Gz.aload_n (q := 0) (pc' := 11) (by decide +kernel) rfl 0 rfl ?_
  refine Gz.getR (pc' := 14) (j := 1) 5 fd_Cs_24 sh_88 rfl (by decide +kernel) rfl ?_
  refine Gz.callVI (st := [.int x4]) (b := 5) (pc' := 17) [] (g_Oa_size w) h ok_m_Oa_size lk_Cs_32 sh_5 rfl rfl rfl (Nat.le_of_ble_eq_true rfl) (Nat.le_of_ble_eq_true rfl) (Nat.le_of_ble_eq_true rfl) (by decide +kernel) rfl (fun v1 w2 h => ?_)
  refine Gz.icmp_ge (off := 85) (tgt := 102) (pc' := 20) (by decide +kernel) (by decide) rfl (fun c3 => ?_) (fun c3 => ?_)
  · have h := zok_t c3 h
    refine Gz.iconst (n := -1) (v := (-1 : Int32)) (pc' := 103) (by decide +kernel) rfl rfl ?_
    exact Gz.ireturn (by decide +kernel) rfl (zok_sI h)
  · have h := zok_f c3 h
    refine Gz.iconst (n := 0) (v := (0 : Int32)) (pc' := 21) (by decide +kernel) rfl rfl ?_
    refine Gz.istore (i := 5) (pc' := 23) (L' := [(5, .int (0 : Int32)), (0, .ref 88), (1, .int x1), (3, .int x3), (4, .int x4)]) (by decide +kernel) rfl (Nat.le_of_ble_eq_true rfl) rfl ?_
    refine Gz.sub (L' := [(0, .ref 88), (1, .int x1), (3, .int x3), (4, .int x4), (5, .int (0 : Int32))]) [1, 2, 3, 4, 0] rfl ?_
    exact g_Cs_leastPlan_b23 k8 hk8 x1 x3 x4 (0 : Int32) w2 h
theorem g_Cs_leastPlan_b8 {l : Launch} {Q : Option Value → gW → Prop} (x1 : Int32) (x3 : Int32) (x4 : Int32) (w : gW) (h : zok eI (f_Cs_leastPlan_b8 x1 x3 x4 w) Q) : Gz l m_Cs_leastPlan 6 8 [(0, .ref 88), (1, .int x1), (3, .int x3), (4, .int x4)] [] w Q := by
  have key : ∀ (n : Nat) (x1 : Int32) (x3 : Int32) (x4 : Int32) (w : gW), zok eI (zfx (fun _ _ _ _ => none) (f_Cs_leastPlan_b8_s) n x1 x3 x4 w) Q → Gz l m_Cs_leastPlan 6 8 [(0, .ref 88), (1, .int x1), (3, .int x3), (4, .int x4)] [] w Q := by
    intro n
    induction n with
    | zero => intro x1 x3 x4 w h; exact zok_n h
    | succ n ih => intro x1 x3 x4 w h; exact g_Cs_leastPlan_b8_s _ ih x1 x3 x4 w h
  exact key zFU x1 x3 x4 w h
theorem g_Cs_leastPlan {l : Launch} (a1 : Int32) (a2 : Int32) (a3 : Int32) (w : gW) : gCt l m_Cs_leastPlan 6 [.ref 88, .int a1, .int a2, .int a3] w eI (f_Cs_leastPlan a1 a2 a3 w) := by
  intro Q h
  unfold f_Cs_leastPlan at h
  show Gz l m_Cs_leastPlan 6 0 [(0, .ref 88), (1, .int a1), (2, .int a2), (3, .int a3)] [] w Q
  refine Gz.aload_n (q := 0) (pc' := 1) (by decide +kernel) rfl 0 rfl ?_
  refine Gz.iload_n (q := 2) (pc' := 2) (by decide +kernel) rfl 2 rfl ?_
  refine Gz.callVV (st := []) (b := 88) (pc' := 5) [.int a2] (g_Cs_hearAll a2 w) h ok_m_Cs_hearAll lk_Cs_73 sh_88 rfl rfl rfl (Nat.le_of_ble_eq_true rfl) (Nat.le_of_ble_eq_true rfl) (Nat.le_of_ble_eq_true rfl) (by decide +kernel) rfl (fun _ w1 h => ?_)
  refine Gz.iconst (n := 0) (v := (0 : Int32)) (pc' := 6) (by decide +kernel) rfl rfl ?_
  refine Gz.istore (i := 4) (pc' := 8) (L' := [(4, .int (0 : Int32)), (0, .ref 88), (1, .int a1), (2, .int a2), (3, .int a3)]) (by decide +kernel) rfl (Nat.le_of_ble_eq_true rfl) rfl ?_
  refine Gz.sub (L' := [(0, .ref 88), (1, .int a1), (3, .int a3), (4, .int (0 : Int32))]) [1, 2, 4, 0] rfl ?_
  exact g_Cs_leastPlan_b8 a1 a3 (0 : Int32) w1 h
def f_X_plan (a1 : Int32) (a2 : Int32) (a3 : Int32) (w : gW) : Option (Int32 × gW) :=
zb (f_X_isSuch a1 a2 w) (fun v1 w2 =>
if v1 = 0 then
(some ((-1 : Int32), w2))
else
(zb (f_X_isZeroOrOne a3 w2) (fun v4 w5 =>
if v4 = 0 then
(some ((-1 : Int32), w5))
else
(zb (f_Cs_leastPlan a1 a2 a3 w5) (fun v7 w8 =>
some (v7, w8))))))
theorem g_X_plan {l : Launch} (a1 : Int32) (a2 : Int32) (a3 : Int32) (w : gW) : gCt l m_X_plan 7 [.ref 0, .int a1, .int a2, .int a3] w eI (f_X_plan a1 a2 a3 w) := by
  intro Q h
  unfold f_X_plan at h
  show Gz l m_X_plan 7 0 [(0, .ref 0), (1, .int a1), (2, .int a2), (3, .int a3)] [] w Q
  refine Gz.aload_n (q := 0) (pc' := 1) (by decide +kernel) rfl 0 rfl ?_
  refine Gz.iload_n (q := 1) (pc' := 2) (by decide +kernel) rfl 1 rfl ?_
  refine Gz.iload_n (q := 2) (pc' := 3) (by decide +kernel) rfl 2 rfl ?_
  refine Gz.callVI (st := []) (b := 0) (pc' := 6) [.int a1, .int a2] (g_X_isSuch a1 a2 w) h ok_m_X_isSuch lk_X_146 sh_0 rfl rfl rfl (Nat.le_of_ble_eq_true rfl) (Nat.le_of_ble_eq_true rfl) (Nat.le_of_ble_eq_true rfl) (by decide +kernel) rfl (fun v1 w2 h => ?_)
  refine Gz.if_eq (off := 23) (tgt := 29) (pc' := 9) (by decide +kernel) (by decide) rfl (fun c3 => ?_) (fun c3 => ?_)
  · have h := zok_t c3 h
    refine Gz.iconst (n := -1) (v := (-1 : Int32)) (pc' := 30) (by decide +kernel) rfl rfl ?_
    exact Gz.ireturn (by decide +kernel) rfl (zok_sI h)
  · have h := zok_f c3 h
    refine Gz.iload_n (q := 3) (pc' := 10) (by decide +kernel) rfl 3 rfl ?_
    refine Gz.callSI (st := []) (pc' := 13) [.int a3] (g_X_isZeroOrOne a3 w2) h ok_m_X_isZeroOrOne lk_X_228 rfl (Nat.le_of_ble_eq_true rfl) (Nat.le_of_ble_eq_true rfl) (Nat.le_of_ble_eq_true rfl) (by decide +kernel) rfl (fun v4 w5 h => ?_)
    refine Gz.if_eq (off := 16) (tgt := 29) (pc' := 16) (by decide +kernel) (by decide) rfl (fun c6 => ?_) (fun c6 => ?_)
    · have h := zok_t c6 h
      refine Gz.iconst (n := -1) (v := (-1 : Int32)) (pc' := 30) (by decide +kernel) rfl rfl ?_
      exact Gz.ireturn (by decide +kernel) rfl (zok_sI h)
    · have h := zok_f c6 h
      refine Gz.aload_n (q := 0) (pc' := 17) (by decide +kernel) rfl 0 rfl ?_
      refine Gz.getR (pc' := 20) (j := 7) 88 fd_X_61 sh_0 rfl (by decide +kernel) rfl ?_
      refine Gz.iload_n (q := 1) (pc' := 21) (by decide +kernel) rfl 1 rfl ?_
      refine Gz.iload_n (q := 2) (pc' := 22) (by decide +kernel) rfl 2 rfl ?_
      refine Gz.iload_n (q := 3) (pc' := 23) (by decide +kernel) rfl 3 rfl ?_
      refine Gz.callVI (st := []) (b := 88) (pc' := 26) [.int a1, .int a2, .int a3] (g_Cs_leastPlan a1 a2 a3 w5) h ok_m_Cs_leastPlan lk_X_304 sh_88 rfl rfl rfl (Nat.le_of_ble_eq_true rfl) (Nat.le_of_ble_eq_true rfl) (Nat.le_of_ble_eq_true rfl) (by decide +kernel) rfl (fun v7 w8 h => ?_)
      refine Gz.goto (off := 4) (tgt := 30) (by decide +kernel) (by decide) ?_
      exact Gz.ireturn (by decide +kernel) rfl (zok_sI h)
def f_Cs_follows (a1 : Int32) (a2 : Int32) (a3 : Int32) (w : gW) : Option (Int32 × gW) :=
zb (f_Cs_hearAll a3 w) (fun _ w1 =>
zb (f_Cs_rowOf a1 w1) (fun v2 w3 =>
zb (f_Cs_rowOf a2 w3) (fun v4 w5 =>
zb (f_La_words w5) (fun v6 w7 =>
zb (f_Ro_isWithin v2 v4 v6 w7) (fun v8 w9 =>
if v8 = 0 then
(some ((0 : Int32), w9))
else
(some ((1 : Int32), w9)))))))
theorem g_Cs_follows {l : Launch} (a1 : Int32) (a2 : Int32) (a3 : Int32) (w : gW) : gCt l m_Cs_follows 6 [.ref 88, .int a1, .int a2, .int a3] w eI (f_Cs_follows a1 a2 a3 w) := by
  intro Q h
  unfold f_Cs_follows at h
  show Gz l m_Cs_follows 6 0 [(0, .ref 88), (1, .int a1), (2, .int a2), (3, .int a3)] [] w Q
  refine Gz.aload_n (q := 0) (pc' := 1) (by decide +kernel) rfl 0 rfl ?_
  refine Gz.iload_n (q := 3) (pc' := 2) (by decide +kernel) rfl 3 rfl ?_
  refine Gz.callVV (st := []) (b := 88) (pc' := 5) [.int a3] (g_Cs_hearAll a3 w) h ok_m_Cs_hearAll lk_Cs_73 sh_88 rfl rfl rfl (Nat.le_of_ble_eq_true rfl) (Nat.le_of_ble_eq_true rfl) (Nat.le_of_ble_eq_true rfl) (by decide +kernel) rfl (fun _ w1 h => ?_)
  refine Gz.aload_n (q := 0) (pc' := 6) (by decide +kernel) rfl 0 rfl ?_
  refine Gz.iload_n (q := 1) (pc' := 7) (by decide +kernel) rfl 1 rfl ?_
  refine Gz.callVR (st := []) (b := 88) (pc' := 10) [.int a1] (g_Cs_rowOf a1 w1) h ok_m_Cs_rowOf lk_Cs_48 sh_88 rfl rfl rfl (Nat.le_of_ble_eq_true rfl) (Nat.le_of_ble_eq_true rfl) (Nat.le_of_ble_eq_true rfl) (by decide +kernel) rfl (fun v2 w3 h => ?_)
  refine Gz.aload_n (q := 0) (pc' := 11) (by decide +kernel) rfl 0 rfl ?_
  refine Gz.iload_n (q := 2) (pc' := 12) (by decide +kernel) rfl 2 rfl ?_
  refine Gz.callVR (st := [.ref v2]) (b := 88) (pc' := 15) [.int a2] (g_Cs_rowOf a2 w3) h ok_m_Cs_rowOf lk_Cs_48 sh_88 rfl rfl rfl (Nat.le_of_ble_eq_true rfl) (Nat.le_of_ble_eq_true rfl) (Nat.le_of_ble_eq_true rfl) (by decide +kernel) rfl (fun v4 w5 h => ?_)
  refine Gz.aload_n (q := 0) (pc' := 16) (by decide +kernel) rfl 0 rfl ?_
  refine Gz.getR (pc' := 19) (j := 0) 19 fd_Cs_20 sh_88 rfl (by decide +kernel) rfl ?_
  refine Gz.callVI (st := [.ref v4, .ref v2]) (b := 19) (pc' := 22) [] (g_La_words w5) h ok_m_La_words lk_Cs_52 sh_19 rfl rfl rfl (Nat.le_of_ble_eq_true rfl) (Nat.le_of_ble_eq_true rfl) (Nat.le_of_ble_eq_true rfl) (by decide +kernel) rfl (fun v6 w7 h => ?_)
  refine Gz.callSI (st := []) (pc' := 25) [.ref v2, .ref v4, .int v6] (g_Ro_isWithin v2 v4 v6 w7) h ok_m_Ro_isWithin lk_Cs_106 rfl (Nat.le_of_ble_eq_true rfl) (Nat.le_of_ble_eq_true rfl) (Nat.le_of_ble_eq_true rfl) (by decide +kernel) rfl (fun v8 w9 h => ?_)
  refine Gz.if_eq (off := 7) (tgt := 32) (pc' := 28) (by decide +kernel) (by decide) rfl (fun c10 => ?_) (fun c10 => ?_)
  · have h := zok_t c10 h
    refine Gz.iconst (n := 0) (v := (0 : Int32)) (pc' := 33) (by decide +kernel) rfl rfl ?_
    exact Gz.ireturn (by decide +kernel) rfl (zok_sI h)
  · have h := zok_f c10 h
    refine Gz.iconst (n := 1) (v := (1 : Int32)) (pc' := 29) (by decide +kernel) rfl rfl ?_
    refine Gz.goto (off := 4) (tgt := 33) (by decide +kernel) (by decide) ?_
    exact Gz.ireturn (by decide +kernel) rfl (zok_sI h)
def f_X_implies (a1 : Int32) (a2 : Int32) (a3 : Int32) (w : gW) : Option (Int32 × gW) :=
zb (f_X_isSuch a1 a3 w) (fun v1 w2 =>
if v1 = 0 then
(some ((-1 : Int32), w2))
else
(zb (f_Oa_has a2 w2) (fun v4 w5 =>
if v4 = 0 then
(some ((-1 : Int32), w5))
else
(zb (f_Cs_follows a1 a2 a3 w5) (fun v7 w8 =>
some (v7, w8))))))
theorem g_X_implies {l : Launch} (a1 : Int32) (a2 : Int32) (a3 : Int32) (w : gW) : gCt l m_X_implies 7 [.ref 0, .int a1, .int a2, .int a3] w eI (f_X_implies a1 a2 a3 w) := by
  intro Q h
  unfold f_X_implies at h
  show Gz l m_X_implies 7 0 [(0, .ref 0), (1, .int a1), (2, .int a2), (3, .int a3)] [] w Q
  refine Gz.aload_n (q := 0) (pc' := 1) (by decide +kernel) rfl 0 rfl ?_
  refine Gz.iload_n (q := 1) (pc' := 2) (by decide +kernel) rfl 1 rfl ?_
  refine Gz.iload_n (q := 3) (pc' := 3) (by decide +kernel) rfl 3 rfl ?_
  refine Gz.callVI (st := []) (b := 0) (pc' := 6) [.int a1, .int a3] (g_X_isSuch a1 a3 w) h ok_m_X_isSuch lk_X_146 sh_0 rfl rfl rfl (Nat.le_of_ble_eq_true rfl) (Nat.le_of_ble_eq_true rfl) (Nat.le_of_ble_eq_true rfl) (by decide +kernel) rfl (fun v1 w2 h => ?_)
  refine Gz.if_eq (off := 27) (tgt := 33) (pc' := 9) (by decide +kernel) (by decide) rfl (fun c3 => ?_) (fun c3 => ?_)
  · have h := zok_t c3 h
    refine Gz.iconst (n := -1) (v := (-1 : Int32)) (pc' := 34) (by decide +kernel) rfl rfl ?_
    exact Gz.ireturn (by decide +kernel) rfl (zok_sI h)
  · have h := zok_f c3 h
    refine Gz.aload_n (q := 0) (pc' := 10) (by decide +kernel) rfl 0 rfl ?_
    refine Gz.getR (pc' := 13) (j := 2) 5 fd_X_26 sh_0 rfl (by decide +kernel) rfl ?_
    refine Gz.iload_n (q := 2) (pc' := 14) (by decide +kernel) rfl 2 rfl ?_
    refine Gz.callVI (st := []) (b := 5) (pc' := 17) [.int a2] (g_Oa_has a2 w2) h ok_m_Oa_has lk_X_285 sh_5 rfl rfl rfl (Nat.le_of_ble_eq_true rfl) (Nat.le_of_ble_eq_true rfl) (Nat.le_of_ble_eq_true rfl) (by decide +kernel) rfl (fun v4 w5 h => ?_)
    refine Gz.if_eq (off := 16) (tgt := 33) (pc' := 20) (by decide +kernel) (by decide) rfl (fun c6 => ?_) (fun c6 => ?_)
    · have h := zok_t c6 h
      refine Gz.iconst (n := -1) (v := (-1 : Int32)) (pc' := 34) (by decide +kernel) rfl rfl ?_
      exact Gz.ireturn (by decide +kernel) rfl (zok_sI h)
    · have h := zok_f c6 h
      refine Gz.aload_n (q := 0) (pc' := 21) (by decide +kernel) rfl 0 rfl ?_
      refine Gz.getR (pc' := 24) (j := 7) 88 fd_X_61 sh_0 rfl (by decide +kernel) rfl ?_
      refine Gz.iload_n (q := 1) (pc' := 25) (by decide +kernel) rfl 1 rfl ?_
      refine Gz.iload_n (q := 2) (pc' := 26) (by decide +kernel) rfl 2 rfl ?_
      refine Gz.iload_n (q := 3) (pc' := 27) (by decide +kernel) rfl 3 rfl ?_
      refine Gz.callVI (st := []) (b := 88) (pc' := 30) [.int a1, .int a2, .int a3] (g_Cs_follows a1 a2 a3 w5) h ok_m_Cs_follows lk_X_307 sh_88 rfl rfl rfl (Nat.le_of_ble_eq_true rfl) (Nat.le_of_ble_eq_true rfl) (Nat.le_of_ble_eq_true rfl) (by decide +kernel) rfl (fun v7 w8 h => ?_)
      refine Gz.goto (off := 4) (tgt := 34) (by decide +kernel) (by decide) ?_
      exact Gz.ireturn (by decide +kernel) rfl (zok_sI h)
