def f_Cs_datesOf_b39 (k4 : Int32 → Int32 → Int32 → gW → Option (Int32 × gW)) (x1 : Int32) (x3 : Int32) (s0 : Int32) (s1 : Int32) (w : gW) : Option (Int32 × gW) :=
zl (s0 ||| s1) (fun v1 =>
zl (x3 + (1 : Int32)) (fun v3 =>
k4 x1 v1 v3 w))
def f_Cs_datesOf_b38 (k4 : Int32 → Int32 → Int32 → gW → Option (Int32 × gW)) (x1 : Int32) (x3 : Int32) (s0 : Int32) (w : gW) : Option (Int32 × gW) :=
f_Cs_datesOf_b39 k4 x1 x3 s0 (0 : Int32) w
def f_Cs_datesOf_b4_s (k4 : Int32 → Int32 → Int32 → gW → Option (Int32 × gW)) (x1 : Int32) (x2 : Int32) (x3 : Int32) (w : gW) : Option (Int32 × gW) :=
if (9 : Int32) < x3 then
(some (x2, w))
else
(zb (f_La_hasDate x1 x3 w) (fun v2 w3 =>
if v2 = 0 then
(f_Cs_datesOf_b38 k4 x1 x3 x2 w3)
else
(zb (f_Cs_isDone x1 x3 w3) (fun v5 w6 =>
if v5 = 0 then
(f_Cs_datesOf_b38 k4 x1 x3 x2 w6)
else
(f_Cs_datesOf_b39 k4 x1 x3 x2 ((1 : Int32) <<< (x3 &&& 31)) w6)))))
def f_Cs_datesOf_b4 : Int32 → Int32 → Int32 → gW → Option (Int32 × gW) := zfx (fun _ _ _ _ => none) (f_Cs_datesOf_b4_s) zFU
def f_Cs_datesOf (a1 : Int32) (w : gW) : Option (Int32 × gW) :=
f_Cs_datesOf_b4 a1 (0 : Int32) (0 : Int32) w
theorem g_Cs_datesOf_b39 {l : Launch} {Q : Option Value → gW → Prop} (k4 : Int32 → Int32 → Int32 → gW → Option (Int32 × gW)) (hk4 : ∀ (x1 : Int32) (x2 : Int32) (x3 : Int32) (w : gW), zok eI (k4 x1 x2 x3 w) Q → Gz l m_Cs_datesOf 5 4 [(0, .ref 88), (1, .int x1), (2, .int x2), (3, .int x3)] [] w Q) (x1 : Int32) (x3 : Int32) (s0 : Int32) (s1 : Int32) (w : gW) (h : zok eI (f_Cs_datesOf_b39 k4 x1 x3 s0 s1 w) Q) : Gz l m_Cs_datesOf 5 39 [(0, .ref 88), (1, .int x1), (3, .int x3)] [.int s1, .int s0] w Q := by
  unfold f_Cs_datesOf_b39 at h
  refine Gz.ior (pc' := 40) (by decide +kernel) rfl ?_
  refine Gz.nmI (fun v1 e2 => ?_)
  have h := zok_l e2 h
  refine Gz.istore_n (q := 2) (pc' := 41) (L' := [(2, .int v1), (0, .ref 88), (1, .int x1), (3, .int x3)]) (by decide +kernel) rfl (Nat.le_of_ble_eq_true rfl) rfl ?_
  obtain ⟨v3, e4⟩ : ∃ y : Int32, y = x3 + (1 : Int32) := ⟨_, rfl⟩
  have h := zok_l e4 h
  refine Gz.iinc (i := 3) (n := 1) (pc' := 44) (L' := [(3, .int v3), (2, .int v1), (0, .ref 88), (1, .int x1)]) v3 (by decide +kernel) rfl 3 rfl (by rw [e4]; rfl) (Nat.le_of_ble_eq_true rfl) rfl ?_
  refine Gz.goto (off := -40) (tgt := 4) (by decide +kernel) (by decide) ?_
  refine Gz.sub (L' := [(0, .ref 88), (1, .int x1), (2, .int v1), (3, .int v3)]) [2, 3, 1, 0] rfl ?_
  exact hk4 x1 v1 v3 w h
theorem g_Cs_datesOf_b38 {l : Launch} {Q : Option Value → gW → Prop} (k4 : Int32 → Int32 → Int32 → gW → Option (Int32 × gW)) (hk4 : ∀ (x1 : Int32) (x2 : Int32) (x3 : Int32) (w : gW), zok eI (k4 x1 x2 x3 w) Q → Gz l m_Cs_datesOf 5 4 [(0, .ref 88), (1, .int x1), (2, .int x2), (3, .int x3)] [] w Q) (x1 : Int32) (x3 : Int32) (s0 : Int32) (w : gW) (h : zok eI (f_Cs_datesOf_b38 k4 x1 x3 s0 w) Q) : Gz l m_Cs_datesOf 5 38 [(0, .ref 88), (1, .int x1), (3, .int x3)] [.int s0] w Q := by
  unfold f_Cs_datesOf_b38 at h
  refine Gz.iconst (n := 0) (v := (0 : Int32)) (pc' := 39) (by decide +kernel) rfl rfl ?_
  exact g_Cs_datesOf_b39 k4 hk4 x1 x3 s0 (0 : Int32) w h
theorem g_Cs_datesOf_b4_s {l : Launch} {Q : Option Value → gW → Prop} (k4 : Int32 → Int32 → Int32 → gW → Option (Int32 × gW)) (hk4 : ∀ (x1 : Int32) (x2 : Int32) (x3 : Int32) (w : gW), zok eI (k4 x1 x2 x3 w) Q → Gz l m_Cs_datesOf 5 4 [(0, .ref 88), (1, .int x1), (2, .int x2), (3, .int x3)] [] w Q) (x1 : Int32) (x2 : Int32) (x3 : Int32) (w : gW) (h : zok eI (f_Cs_datesOf_b4_s k4 x1 x2 x3 w) Q) : Gz l m_Cs_datesOf 5 4 [(0, .ref 88), (1, .int x1), (2, .int x2), (3, .int x3)] [] w Q := by
  unfold f_Cs_datesOf_b4_s at h
  refine Gz.iload_n (q := 3) (pc' := 5) (by decide +kernel) rfl 3 rfl ?_
  refine Gz.bipush (n := 9) (v := (9 : Int32)) (pc' := 7) (by decide +kernel) rfl rfl ?_
  refine Gz.icmp_gt (off := 40) (tgt := 47) (pc' := 10) (by decide +kernel) (by decide) rfl (fun c1 => ?_) (fun c1 => ?_)
  · have h := zok_t c1 h
    refine Gz.iload_n (q := 2) (pc' := 48) (by decide +kernel) rfl 2 rfl ?_
    exact Gz.ireturn (by decide +kernel) rfl (zok_sI h)
  · have h := zok_f c1 h
    refine Gz.iload_n (q := 2) (pc' := 11) (by decide +kernel) rfl 2 rfl ?_
    refine Gz.aload_n (q := 0) (pc' := 12) (by decide +kernel) rfl 0 rfl ?_
    refine Gz.getR (pc' := 15) (j := 0) 19 fd_Cs_20 sh_88 rfl (by decide +kernel) rfl ?_
    refine Gz.iload_n (q := 1) (pc' := 16) (by decide +kernel) rfl 1 rfl ?_
    refine Gz.iload_n (q := 3) (pc' := 17) (by decide +kernel) rfl 3 rfl ?_
    refine Gz.callVI (st := [.int x2]) (b := 19) (pc' := 20) [.int x1, .int x3] (g_La_hasDate x1 x3 w) h ok_m_La_hasDate lk_Cs_67 sh_19 rfl rfl rfl (Nat.le_of_ble_eq_true rfl) (Nat.le_of_ble_eq_true rfl) (Nat.le_of_ble_eq_true rfl) (by decide +kernel) rfl (fun v2 w3 h => ?_)
    refine Gz.if_eq (off := 18) (tgt := 38) (pc' := 23) (by decide +kernel) (by decide) rfl (fun c4 => ?_) (fun c4 => ?_)
    · have h := zok_t c4 h
      refine Gz.sub (L' := [(0, .ref 88), (1, .int x1), (3, .int x3)]) [0, 1, 3] rfl ?_
      exact g_Cs_datesOf_b38 k4 hk4 x1 x3 x2 w3 h
    · have h := zok_f c4 h
      refine Gz.aload_n (q := 0) (pc' := 24) (by decide +kernel) rfl 0 rfl ?_
      refine Gz.iload_n (q := 1) (pc' := 25) (by decide +kernel) rfl 1 rfl ?_
      refine Gz.iload_n (q := 3) (pc' := 26) (by decide +kernel) rfl 3 rfl ?_
      refine Gz.callVI (st := [.int x2]) (b := 88) (pc' := 29) [.int x1, .int x3] (g_Cs_isDone x1 x3 w3) h ok_m_Cs_isDone lk_Cs_70 sh_88 rfl rfl rfl (Nat.le_of_ble_eq_true rfl) (Nat.le_of_ble_eq_true rfl) (Nat.le_of_ble_eq_true rfl) (by decide +kernel) rfl (fun v5 w6 h => ?_)
      refine Gz.if_eq (off := 9) (tgt := 38) (pc' := 32) (by decide +kernel) (by decide) rfl (fun c7 => ?_) (fun c7 => ?_)
      · have h := zok_t c7 h
        refine Gz.sub (L' := [(0, .ref 88), (1, .int x1), (3, .int x3)]) [0, 1, 3] rfl ?_
        exact g_Cs_datesOf_b38 k4 hk4 x1 x3 x2 w6 h
      · have h := zok_f c7 h
        refine Gz.iconst (n := 1) (v := (1 : Int32)) (pc' := 33) (by decide +kernel) rfl rfl ?_
        refine Gz.iload_n (q := 3) (pc' := 34) (by decide +kernel) rfl 3 rfl ?_
        refine Gz.ishl (pc' := 35) (by decide +kernel) rfl ?_
        refine Gz.goto (off := 4) (tgt := 39) (by decide +kernel) (by decide) ?_
        refine Gz.sub (L' := [(0, .ref 88), (1, .int x1), (3, .int x3)]) [0, 1, 3] rfl ?_
        exact g_Cs_datesOf_b39 k4 hk4 x1 x3 x2 ((1 : Int32) <<< (x3 &&& 31)) w6 h
theorem g_Cs_datesOf_b4 {l : Launch} {Q : Option Value → gW → Prop} (x1 : Int32) (x2 : Int32) (x3 : Int32) (w : gW) (h : zok eI (f_Cs_datesOf_b4 x1 x2 x3 w) Q) : Gz l m_Cs_datesOf 5 4 [(0, .ref 88), (1, .int x1), (2, .int x2), (3, .int x3)] [] w Q := by
  have key : ∀ (n : Nat) (x1 : Int32) (x2 : Int32) (x3 : Int32) (w : gW), zok eI (zfx (fun _ _ _ _ => none) (f_Cs_datesOf_b4_s) n x1 x2 x3 w) Q → Gz l m_Cs_datesOf 5 4 [(0, .ref 88), (1, .int x1), (2, .int x2), (3, .int x3)] [] w Q := by
    intro n
    induction n with
    | zero => intro x1 x2 x3 w h; exact zok_n h
    | succ n ih => intro x1 x2 x3 w h; exact g_Cs_datesOf_b4_s _ ih x1 x2 x3 w h
  exact key zFU x1 x2 x3 w h
theorem g_Cs_datesOf {l : Launch} (a1 : Int32) (w : gW) : gCt l m_Cs_datesOf 5 [.ref 88, .int a1] w eI (f_Cs_datesOf a1 w) := by
  intro Q h
  unfold f_Cs_datesOf at h
  show Gz l m_Cs_datesOf 5 0 [(0, .ref 88), (1, .int a1)] [] w Q
  refine Gz.iconst (n := 0) (v := (0 : Int32)) (pc' := 1) (by decide +kernel) rfl rfl ?_
  refine Gz.istore_n (q := 2) (pc' := 2) (L' := [(2, .int (0 : Int32)), (0, .ref 88), (1, .int a1)]) (by decide +kernel) rfl (Nat.le_of_ble_eq_true rfl) rfl ?_
  refine Gz.iconst (n := 0) (v := (0 : Int32)) (pc' := 3) (by decide +kernel) rfl rfl ?_
  refine Gz.istore_n (q := 3) (pc' := 4) (L' := [(3, .int (0 : Int32)), (2, .int (0 : Int32)), (0, .ref 88), (1, .int a1)]) (by decide +kernel) rfl (Nat.le_of_ble_eq_true rfl) rfl ?_
  refine Gz.sub (L' := [(0, .ref 88), (1, .int a1), (2, .int (0 : Int32)), (3, .int (0 : Int32))]) [2, 3, 1, 0] rfl ?_
  exact g_Cs_datesOf_b4 a1 (0 : Int32) (0 : Int32) w h
def f_X_when (a1 : Int32) (w : gW) : Option (Int32 × gW) :=
zb (f_La_hasDeed a1 w) (fun v1 w2 =>
if v1 = 0 then
(some ((-1 : Int32), w2))
else
(zb (f_Cs_datesOf a1 w2) (fun v4 w5 =>
some (v4, w5))))
theorem g_X_when {l : Launch} (a1 : Int32) (w : gW) : gCt l m_X_when 6 [.ref 0, .int a1] w eI (f_X_when a1 w) := by
  intro Q h
  unfold f_X_when at h
  show Gz l m_X_when 6 0 [(0, .ref 0), (1, .int a1)] [] w Q
  refine Gz.aload_n (q := 0) (pc' := 1) (by decide +kernel) rfl 0 rfl ?_
  refine Gz.getR (pc' := 4) (j := 3) 19 fd_X_33 sh_0 rfl (by decide +kernel) rfl ?_
  refine Gz.iload_n (q := 1) (pc' := 5) (by decide +kernel) rfl 1 rfl ?_
  refine Gz.callVI (st := []) (b := 19) (pc' := 8) [.int a1] (g_La_hasDeed a1 w) h ok_m_La_hasDeed lk_X_129 sh_19 rfl rfl rfl (Nat.le_of_ble_eq_true rfl) (Nat.le_of_ble_eq_true rfl) (Nat.le_of_ble_eq_true rfl) (by decide +kernel) rfl (fun v1 w2 h => ?_)
  refine Gz.if_eq (off := 14) (tgt := 22) (pc' := 11) (by decide +kernel) (by decide) rfl (fun c3 => ?_) (fun c3 => ?_)
  · have h := zok_t c3 h
    refine Gz.iconst (n := -1) (v := (-1 : Int32)) (pc' := 23) (by decide +kernel) rfl rfl ?_
    exact Gz.ireturn (by decide +kernel) rfl (zok_sI h)
  · have h := zok_f c3 h
    refine Gz.aload_n (q := 0) (pc' := 12) (by decide +kernel) rfl 0 rfl ?_
    refine Gz.getR (pc' := 15) (j := 7) 88 fd_X_61 sh_0 rfl (by decide +kernel) rfl ?_
    refine Gz.iload_n (q := 1) (pc' := 16) (by decide +kernel) rfl 1 rfl ?_
    refine Gz.callVI (st := []) (b := 88) (pc' := 19) [.int a1] (g_Cs_datesOf a1 w2) h ok_m_Cs_datesOf lk_X_213 sh_88 rfl rfl rfl (Nat.le_of_ble_eq_true rfl) (Nat.le_of_ble_eq_true rfl) (Nat.le_of_ble_eq_true rfl) (by decide +kernel) rfl (fun v4 w5 h => ?_)
    refine Gz.goto (off := 4) (tgt := 23) (by decide +kernel) (by decide) ?_
    exact Gz.ireturn (by decide +kernel) rfl (zok_sI h)
def f_Oa_named (a1 : Int32) (w : gW) : Option (Int32 × gW) :=
zb (f_Oa_has a1 w) (fun v1 w2 =>
if v1 = 0 then
(some ((0 : Int32), w2))
else
(if inb a1 9 then
some (w2.1 17 (ix a1), w2)
else none))
theorem g_Oa_named {l : Launch} (a1 : Int32) (w : gW) : gCt l m_Oa_named 2 [.ref 5, .int a1] w eI (f_Oa_named a1 w) := by
  intro Q h
  unfold f_Oa_named at h
  show Gz l m_Oa_named 2 0 [(0, .ref 5), (1, .int a1)] [] w Q
  refine Gz.aload_n (q := 0) (pc' := 1) (by decide +kernel) rfl 0 rfl ?_
  refine Gz.iload_n (q := 1) (pc' := 2) (by decide +kernel) rfl 1 rfl ?_
  refine Gz.callVI (st := []) (b := 5) (pc' := 5) [.int a1] (g_Oa_has a1 w) h ok_m_Oa_has lk_Oa_30 sh_5 rfl rfl rfl (Nat.le_of_ble_eq_true rfl) (Nat.le_of_ble_eq_true rfl) (Nat.le_of_ble_eq_true rfl) (by decide +kernel) rfl (fun v1 w2 h => ?_)
  refine Gz.if_eq (off := 12) (tgt := 17) (pc' := 8) (by decide +kernel) (by decide) rfl (fun c3 => ?_) (fun c3 => ?_)
  · have h := zok_t c3 h
    refine Gz.iconst (n := 0) (v := (0 : Int32)) (pc' := 18) (by decide +kernel) rfl rfl ?_
    exact Gz.ireturn (by decide +kernel) rfl (zok_sI h)
  · have h := zok_f c3 h
    refine Gz.aload_n (q := 0) (pc' := 9) (by decide +kernel) rfl 0 rfl ?_
    refine Gz.getR (pc' := 12) (j := 2) 17 fd_Oa_20 sh_5 rfl (by decide +kernel) rfl ?_
    refine Gz.iload_n (q := 1) (pc' := 13) (by decide +kernel) rfl 1 rfl ?_
    obtain ⟨c4, h⟩ := zok_c h
    refine Gz.iald (pc' := 14) (n := 9) (by decide +kernel) rfl rfl c4 ?_
    refine Gz.goto (off := 4) (tgt := 18) (by decide +kernel) (by decide) ?_
    exact Gz.ireturn (by decide +kernel) rfl (zok_sI h)
def f_Co_swornWord_b67 (x1 : Int32) (x2 : Int32) (x3 : Int32) (x4 : Int32) (w : gW) : Option (Int64 × gW) :=
zb (f_An_dayOf x1 w) (fun v1 w2 =>
zb (f_Co_wordOf x4 v1 x2 x3 w2) (fun v3 w4 =>
some (v3, w4)))
def f_Co_swornWord_b39 (x1 : Int32) (x2 : Int32) (x3 : Int32) (x4 : Int32) (s0 : Int32) (w : gW) : Option (Int64 × gW) :=
if s0 = 0 then
(f_Co_swornWord_b67 x1 x2 x3 x4 w)
else
(if x1 < 0 then
(f_Co_swornWord_b67 x1 x2 x3 x4 w)
else
(if (10 : Int32) ≤ x1 then
(f_Co_swornWord_b67 x1 x2 x3 x4 w)
else
(if inb x1 10 then
zb (f_Ro_word (77 + 1 + ix x1) x3 w) (fun v5 w6 =>
some (v5, w6))
else none)))
def f_Co_swornWord (a1 : Int32) (a2 : Int32) (a3 : Int32) (w : gW) : Option (Int64 × gW) :=
zb (f_An_oathOf a1 w) (fun v1 w2 =>
zb (f_Oa_named v1 w2) (fun v3 w4 =>
zb (f_An_allSworn w4) (fun v5 w6 =>
if ((v3 &&& v5) &&& (a2 ^^^ (-1 : Int32))) = 0 then
(f_Co_swornWord_b39 a1 a2 a3 v1 (1 : Int32) w6)
else
(f_Co_swornWord_b39 a1 a2 a3 v1 (0 : Int32) w6))))
theorem g_Co_swornWord_b67 {l : Launch} {Q : Option Value → gW → Prop} (x1 : Int32) (x2 : Int32) (x3 : Int32) (x4 : Int32) (w : gW) (h : zok eJ (f_Co_swornWord_b67 x1 x2 x3 x4 w) Q) : Gz l m_Co_swornWord 4 67 [(0, .ref 73), (1, .int x1), (2, .int x2), (3, .int x3), (4, .int x4)] [] w Q := by
  unfold f_Co_swornWord_b67 at h
  refine Gz.aload_n (q := 0) (pc' := 68) (by decide +kernel) rfl 0 rfl ?_
  refine Gz.iload (i := 4) (pc' := 70) (by decide +kernel) rfl 4 rfl ?_
  refine Gz.aload_n (q := 0) (pc' := 71) (by decide +kernel) rfl 0 rfl ?_
  refine Gz.getR (pc' := 74) (j := 2) 59 fd_Co_34 sh_73 rfl (by decide +kernel) rfl ?_
  refine Gz.iload_n (q := 1) (pc' := 75) (by decide +kernel) rfl 1 rfl ?_
  refine Gz.callVI (st := [.int x4, .ref 73]) (b := 59) (pc' := 78) [.int x1] (g_An_dayOf x1 w) h ok_m_An_dayOf lk_Co_100 sh_59 rfl rfl rfl (Nat.le_of_ble_eq_true rfl) (Nat.le_of_ble_eq_true rfl) (Nat.le_of_ble_eq_true rfl) (by decide +kernel) rfl (fun v1 w2 h => ?_)
  refine Gz.iload_n (q := 2) (pc' := 79) (by decide +kernel) rfl 2 rfl ?_
  refine Gz.iload_n (q := 3) (pc' := 80) (by decide +kernel) rfl 3 rfl ?_
  refine Gz.callVJ (st := []) (b := 73) (pc' := 83) [.int x4, .int v1, .int x2, .int x3] (g_Co_wordOf x4 v1 x2 x3 w2) h ok_m_Co_wordOf lk_Co_103 sh_73 rfl rfl rfl (Nat.le_of_ble_eq_true rfl) (Nat.le_of_ble_eq_true rfl) (Nat.le_of_ble_eq_true rfl) (by decide +kernel) rfl (fun v3 w4 h => ?_)
  exact Gz.lreturn (by decide +kernel) rfl (zok_sJ h)
theorem g_Co_swornWord_b39 {l : Launch} {Q : Option Value → gW → Prop} (x1 : Int32) (x2 : Int32) (x3 : Int32) (x4 : Int32) (s0 : Int32) (w : gW) (h : zok eJ (f_Co_swornWord_b39 x1 x2 x3 x4 s0 w) Q) : Gz l m_Co_swornWord 4 39 [(0, .ref 73), (1, .int x1), (2, .int x2), (3, .int x3), (4, .int x4)] [.int s0] w Q := by
  unfold f_Co_swornWord_b39 at h
  refine Gz.istore (i := 5) (pc' := 41) (L' := [(5, .int s0), (0, .ref 73), (1, .int x1), (2, .int x2), (3, .int x3), (4, .int x4)]) (by decide +kernel) rfl (Nat.le_of_ble_eq_true rfl) rfl ?_
  refine Gz.iload (i := 5) (pc' := 43) (by decide +kernel) rfl 0 rfl ?_
  refine Gz.if_eq (off := 24) (tgt := 67) (pc' := 46) (by decide +kernel) (by decide) rfl (fun c1 => ?_) (fun c1 => ?_)
  · have h := zok_t c1 h
    refine Gz.sub (L' := [(0, .ref 73), (1, .int x1), (2, .int x2), (3, .int x3), (4, .int x4)]) [1, 2, 3, 4, 5] rfl ?_
    exact g_Co_swornWord_b67 x1 x2 x3 x4 w h
  · have h := zok_f c1 h
    refine Gz.iload_n (q := 1) (pc' := 47) (by decide +kernel) rfl 2 rfl ?_
    refine Gz.if_lt (off := 20) (tgt := 67) (pc' := 50) (by decide +kernel) (by decide) rfl (fun c2 => ?_) (fun c2 => ?_)
    · have h := zok_t c2 h
      refine Gz.sub (L' := [(0, .ref 73), (1, .int x1), (2, .int x2), (3, .int x3), (4, .int x4)]) [1, 2, 3, 4, 5] rfl ?_
      exact g_Co_swornWord_b67 x1 x2 x3 x4 w h
    · have h := zok_f c2 h
      refine Gz.iload_n (q := 1) (pc' := 51) (by decide +kernel) rfl 2 rfl ?_
      refine Gz.bipush (n := 10) (v := (10 : Int32)) (pc' := 53) (by decide +kernel) rfl rfl ?_
      refine Gz.icmp_ge (off := 14) (tgt := 67) (pc' := 56) (by decide +kernel) (by decide) rfl (fun c3 => ?_) (fun c3 => ?_)
      · have h := zok_t c3 h
        refine Gz.sub (L' := [(0, .ref 73), (1, .int x1), (2, .int x2), (3, .int x3), (4, .int x4)]) [1, 2, 3, 4, 5] rfl ?_
        exact g_Co_swornWord_b67 x1 x2 x3 x4 w h
      · have h := zok_f c3 h
        refine Gz.aload_n (q := 0) (pc' := 57) (by decide +kernel) rfl 1 rfl ?_
        refine Gz.getR (pc' := 60) (j := 6) 77 fd_Co_23 sh_73 rfl (by decide +kernel) rfl ?_
        refine Gz.iload_n (q := 1) (pc' := 61) (by decide +kernel) rfl 2 rfl ?_
        obtain ⟨c4, h⟩ := zok_c h
        refine Gz.aald (pc' := 62) (n := 10) (by decide +kernel) rfl (Or.inr rfl) rfl c4 ?_
        refine Gz.iload_n (q := 3) (pc' := 63) (by decide +kernel) rfl 4 rfl ?_
        refine Gz.callSJ (st := []) (pc' := 66) [.ref (77 + 1 + ix x1), .int x3] (g_Ro_word (77 + 1 + ix x1) x3 w) h ok_m_Ro_word lk_Co_96 rfl (Nat.le_of_ble_eq_true rfl) (Nat.le_of_ble_eq_true rfl) (Nat.le_of_ble_eq_true rfl) (by decide +kernel) rfl (fun v5 w6 h => ?_)
        exact Gz.lreturn (by decide +kernel) rfl (zok_sJ h)
theorem g_Co_swornWord {l : Launch} (a1 : Int32) (a2 : Int32) (a3 : Int32) (w : gW) : gCt l m_Co_swornWord 4 [.ref 73, .int a1, .int a2, .int a3] w eJ (f_Co_swornWord a1 a2 a3 w) := by
  intro Q h
  unfold f_Co_swornWord at h
  show Gz l m_Co_swornWord 4 0 [(0, .ref 73), (1, .int a1), (2, .int a2), (3, .int a3)] [] w Q
  refine Gz.aload_n (q := 0) (pc' := 1) (by decide +kernel) rfl 0 rfl ?_
  refine Gz.getR (pc' := 4) (j := 2) 59 fd_Co_34 sh_73 rfl (by decide +kernel) rfl ?_
  refine Gz.iload_n (q := 1) (pc' := 5) (by decide +kernel) rfl 1 rfl ?_
  refine Gz.callVI (st := []) (b := 59) (pc' := 8) [.int a1] (g_An_oathOf a1 w) h ok_m_An_oathOf lk_Co_85 sh_59 rfl rfl rfl (Nat.le_of_ble_eq_true rfl) (Nat.le_of_ble_eq_true rfl) (Nat.le_of_ble_eq_true rfl) (by decide +kernel) rfl (fun v1 w2 h => ?_)
  refine Gz.istore (i := 4) (pc' := 10) (L' := [(4, .int v1), (0, .ref 73), (1, .int a1), (2, .int a2), (3, .int a3)]) (by decide +kernel) rfl (Nat.le_of_ble_eq_true rfl) rfl ?_
  refine Gz.aload_n (q := 0) (pc' := 11) (by decide +kernel) rfl 1 rfl ?_
  refine Gz.getR (pc' := 14) (j := 1) 5 fd_Co_30 sh_73 rfl (by decide +kernel) rfl ?_
  refine Gz.iload (i := 4) (pc' := 16) (by decide +kernel) rfl 0 rfl ?_
  refine Gz.callVI (st := []) (b := 5) (pc' := 19) [.int v1] (g_Oa_named v1 w2) h ok_m_Oa_named lk_Co_88 sh_5 rfl rfl rfl (Nat.le_of_ble_eq_true rfl) (Nat.le_of_ble_eq_true rfl) (Nat.le_of_ble_eq_true rfl) (by decide +kernel) rfl (fun v3 w4 h => ?_)
  refine Gz.aload_n (q := 0) (pc' := 20) (by decide +kernel) rfl 1 rfl ?_
  refine Gz.getR (pc' := 23) (j := 2) 59 fd_Co_34 sh_73 rfl (by decide +kernel) rfl ?_
  refine Gz.callVI (st := [.int v3]) (b := 59) (pc' := 26) [] (g_An_allSworn w4) h ok_m_An_allSworn lk_Co_93 sh_59 rfl rfl rfl (Nat.le_of_ble_eq_true rfl) (Nat.le_of_ble_eq_true rfl) (Nat.le_of_ble_eq_true rfl) (by decide +kernel) rfl (fun v5 w6 h => ?_)
  refine Gz.iand (pc' := 27) (by decide +kernel) rfl ?_
  refine Gz.iload_n (q := 2) (pc' := 28) (by decide +kernel) rfl 3 rfl ?_
  refine Gz.iconst (n := -1) (v := (-1 : Int32)) (pc' := 29) (by decide +kernel) rfl rfl ?_
  refine Gz.ixor (pc' := 30) (by decide +kernel) rfl ?_
  refine Gz.iand (pc' := 31) (by decide +kernel) rfl ?_
  refine Gz.if_ne (off := 7) (tgt := 38) (pc' := 34) (by decide +kernel) (by decide) rfl (fun c7 => ?_) (fun c7 => ?_)
  · have h := zok_f c7 h
    refine Gz.iconst (n := 0) (v := (0 : Int32)) (pc' := 39) (by decide +kernel) rfl rfl ?_
    refine Gz.sub (L' := [(0, .ref 73), (1, .int a1), (2, .int a2), (3, .int a3), (4, .int v1)]) [1, 2, 3, 4, 0] rfl ?_
    exact g_Co_swornWord_b39 a1 a2 a3 v1 (0 : Int32) w6 h
  · have h := zok_t c7 h
    refine Gz.iconst (n := 1) (v := (1 : Int32)) (pc' := 35) (by decide +kernel) rfl rfl ?_
    refine Gz.goto (off := 4) (tgt := 39) (by decide +kernel) (by decide) ?_
    refine Gz.sub (L' := [(0, .ref 73), (1, .int a1), (2, .int a2), (3, .int a3), (4, .int v1)]) [1, 2, 3, 4, 0] rfl ?_
    exact g_Co_swornWord_b39 a1 a2 a3 v1 (1 : Int32) w6 h
def f_Ro_meetsNot_b3_s (k3 : Nat → Nat → Nat → Int32 → Int32 → gW → Option (Int32 × gW)) (x0 : Nat) (x1 : Nat) (x2 : Nat) (x3 : Int32) (x4 : Int32) (w : gW) : Option (Int32 × gW) :=
if x3 ≤ x4 then
(some ((1 : Int32), w))
else
(if (g_sh x0).1 = 2 then
if (nI (g_len 2 x0)) ≤ x4 then
(some ((1 : Int32), w))
else
(if (g_sh x1).1 = 2 then
if (nI (g_len 2 x1)) ≤ x4 then
(some ((1 : Int32), w))
else
(if (g_sh x2).1 = 2 then
if (nI (g_len 2 x2)) ≤ x4 then
(some ((1 : Int32), w))
else
(if inb x4 (g_len 2 x0) then
if inb x4 (g_len 2 x1) then
if inb x4 (g_len 2 x2) then
if (lg_cmp (((w.2 x0 (ix x4)) &&& (w.2 x1 (ix x4))) &&& (w.2 x2 (ix x4))) (0 : Int64)) = 0 then
(zl (x4 + (1 : Int32)) (fun v12 =>
k3 x0 x1 x2 x3 v12 w))
else
(some ((0 : Int32), w))
else none
else none
else none)
else none)
else none)
else none)
def f_Ro_meetsNot_b3 : Nat → Nat → Nat → Int32 → Int32 → gW → Option (Int32 × gW) := zfx (fun _ _ _ _ _ _ => none) (f_Ro_meetsNot_b3_s) zFU
def f_Ro_meetsNot (a0 : Nat) (a1 : Nat) (a2 : Nat) (a3 : Int32) (w : gW) : Option (Int32 × gW) :=
f_Ro_meetsNot_b3 a0 a1 a2 a3 (0 : Int32) w
theorem g_Ro_meetsNot_b3_s {l : Launch} {Q : Option Value → gW → Prop} (k3 : Nat → Nat → Nat → Int32 → Int32 → gW → Option (Int32 × gW)) (hk3 : ∀ (x0 : Nat) (x1 : Nat) (x2 : Nat) (x3 : Int32) (x4 : Int32) (w : gW), zok eI (k3 x0 x1 x2 x3 x4 w) Q → Gz l m_Ro_meetsNot 1 3 [(0, .ref x0), (1, .ref x1), (2, .ref x2), (3, .int x3), (4, .int x4)] [] w Q) (x0 : Nat) (x1 : Nat) (x2 : Nat) (x3 : Int32) (x4 : Int32) (w : gW) (h : zok eI (f_Ro_meetsNot_b3_s k3 x0 x1 x2 x3 x4 w) Q) : Gz l m_Ro_meetsNot 1 3 [(0, .ref x0), (1, .ref x1), (2, .ref x2), (3, .int x3), (4, .int x4)] [] w Q := by
  unfold f_Ro_meetsNot_b3_s at h
  refine Gz.iload (i := 4) (pc' := 5) (by decide +kernel) rfl 4 rfl ?_
  refine Gz.iload_n (q := 3) (pc' := 6) (by decide +kernel) rfl 3 rfl ?_
  refine Gz.icmp_ge (off := 51) (tgt := 57) (pc' := 9) (by decide +kernel) (by decide) rfl (fun c1 => ?_) (fun c1 => ?_)
  · have h := zok_t c1 h
    refine Gz.iconst (n := 1) (v := (1 : Int32)) (pc' := 58) (by decide +kernel) rfl rfl ?_
    exact Gz.zreturn (by decide +kernel) rfl (by decide) (zok_sI h)
  · have h := zok_f c1 h
    refine Gz.iload (i := 4) (pc' := 11) (by decide +kernel) rfl 4 rfl ?_
    refine Gz.aload_n (q := 0) (pc' := 12) (by decide +kernel) rfl 0 rfl ?_
    obtain ⟨c2, h⟩ := zok_c h
    refine Gz.alen (pc' := 13) (n := g_len 2 x0) (kd := 2) (by decide +kernel) rfl (Or.inr rfl) c2 rfl ?_
    refine Gz.icmp_ge (off := 44) (tgt := 57) (pc' := 16) (by decide +kernel) (by decide) rfl (fun c3 => ?_) (fun c3 => ?_)
    · have h := zok_t c3 h
      refine Gz.iconst (n := 1) (v := (1 : Int32)) (pc' := 58) (by decide +kernel) rfl rfl ?_
      exact Gz.zreturn (by decide +kernel) rfl (by decide) (zok_sI h)
    · have h := zok_f c3 h
      refine Gz.iload (i := 4) (pc' := 18) (by decide +kernel) rfl 4 rfl ?_
      refine Gz.aload_n (q := 1) (pc' := 19) (by decide +kernel) rfl 1 rfl ?_
      obtain ⟨c4, h⟩ := zok_c h
      refine Gz.alen (pc' := 20) (n := g_len 2 x1) (kd := 2) (by decide +kernel) rfl (Or.inr rfl) c4 rfl ?_
      refine Gz.icmp_ge (off := 37) (tgt := 57) (pc' := 23) (by decide +kernel) (by decide) rfl (fun c5 => ?_) (fun c5 => ?_)
      · have h := zok_t c5 h
        refine Gz.iconst (n := 1) (v := (1 : Int32)) (pc' := 58) (by decide +kernel) rfl rfl ?_
        exact Gz.zreturn (by decide +kernel) rfl (by decide) (zok_sI h)
      · have h := zok_f c5 h
        refine Gz.iload (i := 4) (pc' := 25) (by decide +kernel) rfl 4 rfl ?_
        refine Gz.aload_n (q := 2) (pc' := 26) (by decide +kernel) rfl 2 rfl ?_
        obtain ⟨c6, h⟩ := zok_c h
        refine Gz.alen (pc' := 27) (n := g_len 2 x2) (kd := 2) (by decide +kernel) rfl (Or.inr rfl) c6 rfl ?_
        refine Gz.icmp_ge (off := 30) (tgt := 57) (pc' := 30) (by decide +kernel) (by decide) rfl (fun c7 => ?_) (fun c7 => ?_)
        · have h := zok_t c7 h
          refine Gz.iconst (n := 1) (v := (1 : Int32)) (pc' := 58) (by decide +kernel) rfl rfl ?_
          exact Gz.zreturn (by decide +kernel) rfl (by decide) (zok_sI h)
        · have h := zok_f c7 h
          refine Gz.aload_n (q := 0) (pc' := 31) (by decide +kernel) rfl 0 rfl ?_
          refine Gz.iload (i := 4) (pc' := 33) (by decide +kernel) rfl 4 rfl ?_
          obtain ⟨c8, h⟩ := zok_c h
          refine Gz.lald (pc' := 34) (n := (g_len 2 x0)) (by decide +kernel) rfl rfl c8 ?_
          refine Gz.aload_n (q := 1) (pc' := 35) (by decide +kernel) rfl 1 rfl ?_
          refine Gz.iload (i := 4) (pc' := 37) (by decide +kernel) rfl 4 rfl ?_
          obtain ⟨c9, h⟩ := zok_c h
          refine Gz.lald (pc' := 38) (n := (g_len 2 x1)) (by decide +kernel) rfl rfl c9 ?_
          refine Gz.land (pc' := 39) (by decide +kernel) rfl ?_
          refine Gz.aload_n (q := 2) (pc' := 40) (by decide +kernel) rfl 2 rfl ?_
          refine Gz.iload (i := 4) (pc' := 42) (by decide +kernel) rfl 4 rfl ?_
          obtain ⟨c10, h⟩ := zok_c h
          refine Gz.lald (pc' := 43) (n := (g_len 2 x2)) (by decide +kernel) rfl rfl c10 ?_
          refine Gz.land (pc' := 44) (by decide +kernel) rfl ?_
          refine Gz.lconst (n := 0) (v := (0 : Int64)) (pc' := 45) (by decide +kernel) rfl rfl ?_
          refine Gz.lcmp (pc' := 46) (by decide +kernel) rfl ?_
          refine Gz.if_eq (off := 5) (tgt := 51) (pc' := 49) (by decide +kernel) (by decide) rfl (fun c11 => ?_) (fun c11 => ?_)
          · have h := zok_t c11 h
            obtain ⟨v12, e13⟩ : ∃ y : Int32, y = x4 + (1 : Int32) := ⟨_, rfl⟩
            have h := zok_l e13 h
            refine Gz.iinc (i := 4) (n := 1) (pc' := 54) (L' := [(4, .int v12), (0, .ref x0), (1, .ref x1), (2, .ref x2), (3, .int x3)]) v12 (by decide +kernel) rfl 4 rfl (by rw [e13]; rfl) (Nat.le_of_ble_eq_true rfl) rfl ?_
            refine Gz.goto (off := -51) (tgt := 3) (by decide +kernel) (by decide) ?_
            refine Gz.sub (L' := [(0, .ref x0), (1, .ref x1), (2, .ref x2), (3, .int x3), (4, .int v12)]) [1, 2, 3, 4, 0] rfl ?_
            exact hk3 x0 x1 x2 x3 v12 w h
          · have h := zok_f c11 h
            refine Gz.iconst (n := 0) (v := (0 : Int32)) (pc' := 50) (by decide +kernel) rfl rfl ?_
            exact Gz.zreturn (by decide +kernel) rfl (by decide) (zok_sI h)
theorem g_Ro_meetsNot_b3 {l : Launch} {Q : Option Value → gW → Prop} (x0 : Nat) (x1 : Nat) (x2 : Nat) (x3 : Int32) (x4 : Int32) (w : gW) (h : zok eI (f_Ro_meetsNot_b3 x0 x1 x2 x3 x4 w) Q) : Gz l m_Ro_meetsNot 1 3 [(0, .ref x0), (1, .ref x1), (2, .ref x2), (3, .int x3), (4, .int x4)] [] w Q := by
  have key : ∀ (n : Nat) (x0 : Nat) (x1 : Nat) (x2 : Nat) (x3 : Int32) (x4 : Int32) (w : gW), zok eI (zfx (fun _ _ _ _ _ _ => none) (f_Ro_meetsNot_b3_s) n x0 x1 x2 x3 x4 w) Q → Gz l m_Ro_meetsNot 1 3 [(0, .ref x0), (1, .ref x1), (2, .ref x2), (3, .int x3), (4, .int x4)] [] w Q := by
    intro n
    induction n with
    | zero => intro x0 x1 x2 x3 x4 w h; exact zok_n h
    | succ n ih => intro x0 x1 x2 x3 x4 w h; exact g_Ro_meetsNot_b3_s _ ih x0 x1 x2 x3 x4 w h
  exact key zFU x0 x1 x2 x3 x4 w h
theorem g_Ro_meetsNot {l : Launch} (a0 : Nat) (a1 : Nat) (a2 : Nat) (a3 : Int32) (w : gW) : gCt l m_Ro_meetsNot 1 [.ref a0, .ref a1, .ref a2, .int a3] w eI (f_Ro_meetsNot a0 a1 a2 a3 w) := by
  intro Q h
  unfold f_Ro_meetsNot at h
  show Gz l m_Ro_meetsNot 1 0 [(0, .ref a0), (1, .ref a1), (2, .ref a2), (3, .int a3)] [] w Q
  refine Gz.iconst (n := 0) (v := (0 : Int32)) (pc' := 1) (by decide +kernel) rfl rfl ?_
  refine Gz.istore (i := 4) (pc' := 3) (L' := [(4, .int (0 : Int32)), (0, .ref a0), (1, .ref a1), (2, .ref a2), (3, .int a3)]) (by decide +kernel) rfl (Nat.le_of_ble_eq_true rfl) rfl ?_
  refine Gz.sub (L' := [(0, .ref a0), (1, .ref a1), (2, .ref a2), (3, .int a3), (4, .int (0 : Int32))]) [1, 2, 3, 4, 0] rfl ?_
  exact g_Ro_meetsNot_b3 a0 a1 a2 a3 (0 : Int32) w h
def f_Ro_isEmpty (a0 : Nat) (a1 : Int32) (w : gW) : Option (Int32 × gW) :=
zb (f_Ro_meetsNot a0 a0 a0 a1 w) (fun v1 w2 =>
if v1 &&& 1 = v1 then some (v1, w2) else none)
theorem g_Ro_isEmpty {l : Launch} (a0 : Nat) (a1 : Int32) (w : gW) : gCt l m_Ro_isEmpty 2 [.ref a0, .int a1] w eI (f_Ro_isEmpty a0 a1 w) := by
  intro Q h
  unfold f_Ro_isEmpty at h
  show Gz l m_Ro_isEmpty 2 0 [(0, .ref a0), (1, .int a1)] [] w Q
  refine Gz.aload_n (q := 0) (pc' := 1) (by decide +kernel) rfl 0 rfl ?_
  refine Gz.aload_n (q := 0) (pc' := 2) (by decide +kernel) rfl 0 rfl ?_
  refine Gz.aload_n (q := 0) (pc' := 3) (by decide +kernel) rfl 0 rfl ?_
  refine Gz.iload_n (q := 1) (pc' := 4) (by decide +kernel) rfl 1 rfl ?_
  refine Gz.callSI (st := []) (pc' := 7) [.ref a0, .ref a0, .ref a0, .int a1] (g_Ro_meetsNot a0 a0 a0 a1 w) h ok_m_Ro_meetsNot lk_Ro_29 rfl (Nat.le_of_ble_eq_true rfl) (Nat.le_of_ble_eq_true rfl) (Nat.le_of_ble_eq_true rfl) (by decide +kernel) rfl (fun v1 w2 h => ?_)
  obtain ⟨c3, h⟩ := zok_c h
  exact Gz.zreturn (by decide +kernel) rfl c3 (zok_sI h)
def f_Le_firstBreak_b80 (k24 : Int32 → Int32 → gW → Option (Int32 × gW)) (x1 : Int32) (x2 : Int32) (w : gW) : Option (Int32 × gW) :=
zb (f_La_words w) (fun v1 w2 =>
zb (f_Ro_isEmpty 101 v1 w2) (fun v3 w4 =>
if v3 = 0 then
(zl (x2 + (1 : Int32)) (fun v6 =>
k24 x1 v6 w4))
else
(some (x2, w4))))
def f_Le_firstBreak_b37_s (k24 : Int32 → Int32 → gW → Option (Int32 × gW)) (k37 : Int32 → Int32 → Int32 → gW → Option (Int32 × gW)) (x1 : Int32) (x2 : Int32) (x3 : Int32) (w : gW) : Option (Int32 × gW) :=
zb (f_La_words w) (fun v1 w2 =>
if v1 ≤ x3 then
(f_Le_firstBreak_b80 k24 x1 x2 w2)
else
(if (263 : Int32) ≤ x3 then
(f_Le_firstBreak_b80 k24 x1 x2 w2)
else
(if inb x3 263 then
zb (f_Co_swornWord x2 x1 x3 w2) (fun v6 w7 =>
if inb x3 263 then
zl (zsL w7 101 (ix x3) ((w2.2 101 (ix x3)) &&& v6)) (fun w9 =>
zl (x3 + (1 : Int32)) (fun v11 =>
k37 x1 x2 v11 w9))
else none)
else none)))
def f_Le_firstBreak_b37 (k24 : Int32 → Int32 → gW → Option (Int32 × gW)) : Int32 → Int32 → Int32 → gW → Option (Int32 × gW) := zfx (fun _ _ _ _ => none) (f_Le_firstBreak_b37_s k24) zFU
def f_Le_firstBreak_b24_s (k24 : Int32 → Int32 → gW → Option (Int32 × gW)) (x1 : Int32) (x2 : Int32) (w : gW) : Option (Int32 × gW) :=
zb (f_An_swornCount w) (fun v1 w2 =>
if v1 ≤ x2 then
(some ((-1 : Int32), w2))
else
(f_Le_firstBreak_b37 k24 x1 x2 (0 : Int32) w2))
def f_Le_firstBreak_b24 : Int32 → Int32 → gW → Option (Int32 × gW) := zfx (fun _ _ _ => none) (f_Le_firstBreak_b24_s) zFU
def f_Le_firstBreak (w : gW) : Option (Int32 × gW) :=
zb (f_An_allSworn w) (fun v1 w2 =>
zb (f_Co_possible w2) (fun v3 w4 =>
zb (f_Ro_copy v3 101 w4) (fun _ w5 =>
f_Le_firstBreak_b24 v1 (0 : Int32) w5)))
theorem g_Le_firstBreak_b80 {l : Launch} {Q : Option Value → gW → Prop} (k24 : Int32 → Int32 → gW → Option (Int32 × gW)) (hk24 : ∀ (x1 : Int32) (x2 : Int32) (w : gW), zok eI (k24 x1 x2 w) Q → Gz l m_Le_firstBreak 5 24 [(0, .ref 99), (1, .int x1), (2, .int x2)] [] w Q) (x1 : Int32) (x2 : Int32) (w : gW) (h : zok eI (f_Le_firstBreak_b80 k24 x1 x2 w) Q) : Gz l m_Le_firstBreak 5 80 [(0, .ref 99), (1, .int x1), (2, .int x2)] [] w Q := by
  unfold f_Le_firstBreak_b80 at h
  refine Gz.aload_n (q := 0) (pc' := 81) (by decide +kernel) rfl 0 rfl ?_
  refine Gz.getR (pc' := 84) (j := 5) 101 fd_Le_15 sh_99 rfl (by decide +kernel) rfl ?_
  refine Gz.aload_n (q := 0) (pc' := 85) (by decide +kernel) rfl 0 rfl ?_
  refine Gz.getR (pc' := 88) (j := 0) 19 fd_Le_18 sh_99 rfl (by decide +kernel) rfl ?_
  refine Gz.callVI (st := [.ref 101]) (b := 19) (pc' := 91) [] (g_La_words w) h ok_m_La_words lk_Le_55 sh_19 rfl rfl rfl (Nat.le_of_ble_eq_true rfl) (Nat.le_of_ble_eq_true rfl) (Nat.le_of_ble_eq_true rfl) (by decide +kernel) rfl (fun v1 w2 h => ?_)
  refine Gz.callSI (st := []) (pc' := 94) [.ref 101, .int v1] (g_Ro_isEmpty 101 v1 w2) h ok_m_Ro_isEmpty lk_Le_63 rfl (Nat.le_of_ble_eq_true rfl) (Nat.le_of_ble_eq_true rfl) (Nat.le_of_ble_eq_true rfl) (by decide +kernel) rfl (fun v3 w4 h => ?_)
  refine Gz.if_eq (off := 5) (tgt := 99) (pc' := 97) (by decide +kernel) (by decide) rfl (fun c5 => ?_) (fun c5 => ?_)
  · have h := zok_t c5 h
    obtain ⟨v6, e7⟩ : ∃ y : Int32, y = x2 + (1 : Int32) := ⟨_, rfl⟩
    have h := zok_l e7 h
    refine Gz.iinc (i := 2) (n := 1) (pc' := 102) (L' := [(2, .int v6), (0, .ref 99), (1, .int x1)]) v6 (by decide +kernel) rfl 2 rfl (by rw [e7]; rfl) (Nat.le_of_ble_eq_true rfl) rfl ?_
    refine Gz.goto (off := -78) (tgt := 24) (by decide +kernel) (by decide) ?_
    refine Gz.sub (L' := [(0, .ref 99), (1, .int x1), (2, .int v6)]) [1, 2, 0] rfl ?_
    exact hk24 x1 v6 w4 h
  · have h := zok_f c5 h
    refine Gz.iload_n (q := 2) (pc' := 98) (by decide +kernel) rfl 2 rfl ?_
    exact Gz.ireturn (by decide +kernel) rfl (zok_sI h)
theorem g_Le_firstBreak_b37_s {l : Launch} {Q : Option Value → gW → Prop} (k24 : Int32 → Int32 → gW → Option (Int32 × gW)) (hk24 : ∀ (x1 : Int32) (x2 : Int32) (w : gW), zok eI (k24 x1 x2 w) Q → Gz l m_Le_firstBreak 5 24 [(0, .ref 99), (1, .int x1), (2, .int x2)] [] w Q) (k37 : Int32 → Int32 → Int32 → gW → Option (Int32 × gW)) (hk37 : ∀ (x1 : Int32) (x2 : Int32) (x3 : Int32) (w : gW), zok eI (k37 x1 x2 x3 w) Q → Gz l m_Le_firstBreak 5 37 [(0, .ref 99), (1, .int x1), (2, .int x2), (3, .int x3)] [] w Q) (x1 : Int32) (x2 : Int32) (x3 : Int32) (w : gW) (h : zok eI (f_Le_firstBreak_b37_s k24 k37 x1 x2 x3 w) Q) : Gz l m_Le_firstBreak 5 37 [(0, .ref 99), (1, .int x1), (2, .int x2), (3, .int x3)] [] w Q := by
  unfold f_Le_firstBreak_b37_s at h
  refine Gz.iload_n (q := 3) (pc' := 38) (by decide +kernel) rfl 3 rfl ?_
  refine Gz.aload_n (q := 0) (pc' := 39) (by decide +kernel) rfl 0 rfl ?_
  refine Gz.getR (pc' := 42) (j := 0) 19 fd_Le_18 sh_99 rfl (by decide +kernel) rfl ?_
  refine Gz.callVI (st := [.int x3]) (b := 19) (pc' := 45) [] (g_La_words w) h ok_m_La_words lk_Le_55 sh_19 rfl rfl rfl (Nat.le_of_ble_eq_true rfl) (Nat.le_of_ble_eq_true rfl) (Nat.le_of_ble_eq_true rfl) (by decide +kernel) rfl (fun v1 w2 h => ?_)
  refine Gz.icmp_ge (off := 35) (tgt := 80) (pc' := 48) (by decide +kernel) (by decide) rfl (fun c3 => ?_) (fun c3 => ?_)
  · have h := zok_t c3 h
    refine Gz.sub (L' := [(0, .ref 99), (1, .int x1), (2, .int x2)]) [0, 1, 2] rfl ?_
    exact g_Le_firstBreak_b80 k24 hk24 x1 x2 w2 h
  · have h := zok_f c3 h
    refine Gz.iload_n (q := 3) (pc' := 49) (by decide +kernel) rfl 3 rfl ?_
    refine Gz.sipush (n := 263) (v := (263 : Int32)) (pc' := 52) (by decide +kernel) rfl rfl ?_
    refine Gz.icmp_ge (off := 28) (tgt := 80) (pc' := 55) (by decide +kernel) (by decide) rfl (fun c4 => ?_) (fun c4 => ?_)
    · have h := zok_t c4 h
      refine Gz.sub (L' := [(0, .ref 99), (1, .int x1), (2, .int x2)]) [0, 1, 2] rfl ?_
      exact g_Le_firstBreak_b80 k24 hk24 x1 x2 w2 h
    · have h := zok_f c4 h
      refine Gz.aload_n (q := 0) (pc' := 56) (by decide +kernel) rfl 0 rfl ?_
      refine Gz.getR (pc' := 59) (j := 5) 101 fd_Le_15 sh_99 rfl (by decide +kernel) rfl ?_
      refine Gz.iload_n (q := 3) (pc' := 60) (by decide +kernel) rfl 3 rfl ?_
      refine Gz.dup2 (pc' := 61) (by decide +kernel) rfl rfl rfl ?_
      obtain ⟨c5, h⟩ := zok_c h
      refine Gz.lald (pc' := 62) (n := 263) (by decide +kernel) rfl rfl c5 ?_
      refine Gz.aload_n (q := 0) (pc' := 63) (by decide +kernel) rfl 0 rfl ?_
      refine Gz.getR (pc' := 66) (j := 3) 73 fd_Le_30 sh_99 rfl (by decide +kernel) rfl ?_
      refine Gz.iload_n (q := 2) (pc' := 67) (by decide +kernel) rfl 2 rfl ?_
      refine Gz.iload_n (q := 1) (pc' := 68) (by decide +kernel) rfl 1 rfl ?_
      refine Gz.iload_n (q := 3) (pc' := 69) (by decide +kernel) rfl 3 rfl ?_
      refine Gz.callVJ (st := [.long (w2.2 101 (ix x3)), .int x3, .ref 101]) (b := 73) (pc' := 72) [.int x2, .int x1, .int x3] (g_Co_swornWord x2 x1 x3 w2) h ok_m_Co_swornWord lk_Le_59 sh_73 rfl rfl rfl (Nat.le_of_ble_eq_true rfl) (Nat.le_of_ble_eq_true rfl) (Nat.le_of_ble_eq_true rfl) (by decide +kernel) rfl (fun v6 w7 h => ?_)
      refine Gz.land (pc' := 73) (by decide +kernel) rfl ?_
      obtain ⟨c8, h⟩ := zok_c h
      refine Gz.last (pc' := 74) (n := 263) (by decide +kernel) rfl rfl c8 ?_
      refine Gz.nmW (fun w9 e10 => ?_)
      have h := zok_l e10 h
      obtain ⟨v11, e12⟩ : ∃ y : Int32, y = x3 + (1 : Int32) := ⟨_, rfl⟩
      have h := zok_l e12 h
      refine Gz.iinc (i := 3) (n := 1) (pc' := 77) (L' := [(3, .int v11), (0, .ref 99), (1, .int x1), (2, .int x2)]) v11 (by decide +kernel) rfl 3 rfl (by rw [e12]; rfl) (Nat.le_of_ble_eq_true rfl) rfl ?_
      refine Gz.goto (off := -40) (tgt := 37) (by decide +kernel) (by decide) ?_
      refine Gz.sub (L' := [(0, .ref 99), (1, .int x1), (2, .int x2), (3, .int v11)]) [1, 2, 3, 0] rfl ?_
      exact hk37 x1 x2 v11 w9 h
theorem g_Le_firstBreak_b37 {l : Launch} {Q : Option Value → gW → Prop} (k24 : Int32 → Int32 → gW → Option (Int32 × gW)) (hk24 : ∀ (x1 : Int32) (x2 : Int32) (w : gW), zok eI (k24 x1 x2 w) Q → Gz l m_Le_firstBreak 5 24 [(0, .ref 99), (1, .int x1), (2, .int x2)] [] w Q) (x1 : Int32) (x2 : Int32) (x3 : Int32) (w : gW) (h : zok eI (f_Le_firstBreak_b37 k24 x1 x2 x3 w) Q) : Gz l m_Le_firstBreak 5 37 [(0, .ref 99), (1, .int x1), (2, .int x2), (3, .int x3)] [] w Q := by
  have key : ∀ (n : Nat) (x1 : Int32) (x2 : Int32) (x3 : Int32) (w : gW), zok eI (zfx (fun _ _ _ _ => none) (f_Le_firstBreak_b37_s k24) n x1 x2 x3 w) Q → Gz l m_Le_firstBreak 5 37 [(0, .ref 99), (1, .int x1), (2, .int x2), (3, .int x3)] [] w Q := by
    intro n
    induction n with
    | zero => intro x1 x2 x3 w h; exact zok_n h
    | succ n ih => intro x1 x2 x3 w h; exact g_Le_firstBreak_b37_s k24 hk24 _ ih x1 x2 x3 w h
  exact key zFU x1 x2 x3 w h
theorem g_Le_firstBreak_b24_s {l : Launch} {Q : Option Value → gW → Prop} (k24 : Int32 → Int32 → gW → Option (Int32 × gW)) (hk24 : ∀ (x1 : Int32) (x2 : Int32) (w : gW), zok eI (k24 x1 x2 w) Q → Gz l m_Le_firstBreak 5 24 [(0, .ref 99), (1, .int x1), (2, .int x2)] [] w Q) (x1 : Int32) (x2 : Int32) (w : gW) (h : zok eI (f_Le_firstBreak_b24_s k24 x1 x2 w) Q) : Gz l m_Le_firstBreak 5 24 [(0, .ref 99), (1, .int x1), (2, .int x2)] [] w Q := by
  unfold f_Le_firstBreak_b24_s at h
  refine Gz.iload_n (q := 2) (pc' := 25) (by decide +kernel) rfl 2 rfl ?_
  refine Gz.aload_n (q := 0) (pc' := 26) (by decide +kernel) rfl 0 rfl ?_
  refine Gz.getR (pc' := 29) (j := 2) 59 fd_Le_26 sh_99 rfl (by decide +kernel) rfl ?_
  refine Gz.callVI (st := [.int x2]) (b := 59) (pc' := 32) [] (g_An_swornCount w) h ok_m_An_swornCount lk_Le_52 sh_59 rfl rfl rfl (Nat.le_of_ble_eq_true rfl) (Nat.le_of_ble_eq_true rfl) (Nat.le_of_ble_eq_true rfl) (by decide +kernel) rfl (fun v1 w2 h => ?_)
  refine Gz.icmp_ge (off := 73) (tgt := 105) (pc' := 35) (by decide +kernel) (by decide) rfl (fun c3 => ?_) (fun c3 => ?_)
  · have h := zok_t c3 h
    refine Gz.iconst (n := -1) (v := (-1 : Int32)) (pc' := 106) (by decide +kernel) rfl rfl ?_
    exact Gz.ireturn (by decide +kernel) rfl (zok_sI h)
  · have h := zok_f c3 h
    refine Gz.iconst (n := 0) (v := (0 : Int32)) (pc' := 36) (by decide +kernel) rfl rfl ?_
    refine Gz.istore_n (q := 3) (pc' := 37) (L' := [(3, .int (0 : Int32)), (0, .ref 99), (1, .int x1), (2, .int x2)]) (by decide +kernel) rfl (Nat.le_of_ble_eq_true rfl) rfl ?_
    refine Gz.sub (L' := [(0, .ref 99), (1, .int x1), (2, .int x2), (3, .int (0 : Int32))]) [1, 2, 3, 0] rfl ?_
    exact g_Le_firstBreak_b37 k24 hk24 x1 x2 (0 : Int32) w2 h
theorem g_Le_firstBreak_b24 {l : Launch} {Q : Option Value → gW → Prop} (x1 : Int32) (x2 : Int32) (w : gW) (h : zok eI (f_Le_firstBreak_b24 x1 x2 w) Q) : Gz l m_Le_firstBreak 5 24 [(0, .ref 99), (1, .int x1), (2, .int x2)] [] w Q := by
  have key : ∀ (n : Nat) (x1 : Int32) (x2 : Int32) (w : gW), zok eI (zfx (fun _ _ _ => none) (f_Le_firstBreak_b24_s) n x1 x2 w) Q → Gz l m_Le_firstBreak 5 24 [(0, .ref 99), (1, .int x1), (2, .int x2)] [] w Q := by
    intro n
    induction n with
    | zero => intro x1 x2 w h; exact zok_n h
    | succ n ih => intro x1 x2 w h; exact g_Le_firstBreak_b24_s _ ih x1 x2 w h
  exact key zFU x1 x2 w h
theorem g_Le_firstBreak {l : Launch} (w : gW) : gCt l m_Le_firstBreak 5 [.ref 99] w eI (f_Le_firstBreak w) := by
  intro Q h
  unfold f_Le_firstBreak at h
  show Gz l m_Le_firstBreak 5 0 [(0, .ref 99)] [] w Q
  refine Gz.aload_n (q := 0) (pc' := 1) (by decide +kernel) rfl 0 rfl ?_
  refine Gz.getR (pc' := 4) (j := 2) 59 fd_Le_26 sh_99 rfl (by decide +kernel) rfl ?_
  refine Gz.callVI (st := []) (b := 59) (pc' := 7) [] (g_An_allSworn w) h ok_m_An_allSworn lk_Le_34 sh_59 rfl rfl rfl (Nat.le_of_ble_eq_true rfl) (Nat.le_of_ble_eq_true rfl) (Nat.le_of_ble_eq_true rfl) (by decide +kernel) rfl (fun v1 w2 h => ?_)
  refine Gz.istore_n (q := 1) (pc' := 8) (L' := [(1, .int v1), (0, .ref 99)]) (by decide +kernel) rfl (Nat.le_of_ble_eq_true rfl) rfl ?_
  refine Gz.aload_n (q := 0) (pc' := 9) (by decide +kernel) rfl 1 rfl ?_
  refine Gz.getR (pc' := 12) (j := 3) 73 fd_Le_30 sh_99 rfl (by decide +kernel) rfl ?_
  refine Gz.callVR (st := []) (b := 73) (pc' := 15) [] (g_Co_possible w2) h ok_m_Co_possible lk_Le_40 sh_73 rfl rfl rfl (Nat.le_of_ble_eq_true rfl) (Nat.le_of_ble_eq_true rfl) (Nat.le_of_ble_eq_true rfl) (by decide +kernel) rfl (fun v3 w4 h => ?_)
  refine Gz.aload_n (q := 0) (pc' := 16) (by decide +kernel) rfl 1 rfl ?_
  refine Gz.getR (pc' := 19) (j := 5) 101 fd_Le_15 sh_99 rfl (by decide +kernel) rfl ?_
  refine Gz.callSV (st := []) (pc' := 22) [.ref v3, .ref 101] (g_Ro_copy v3 101 w4) h ok_m_Ro_copy lk_Le_46 rfl (Nat.le_of_ble_eq_true rfl) (Nat.le_of_ble_eq_true rfl) (Nat.le_of_ble_eq_true rfl) (by decide +kernel) rfl (fun _ w5 h => ?_)
  refine Gz.iconst (n := 0) (v := (0 : Int32)) (pc' := 23) (by decide +kernel) rfl rfl ?_
  refine Gz.istore_n (q := 2) (pc' := 24) (L' := [(2, .int (0 : Int32)), (1, .int v1), (0, .ref 99)]) (by decide +kernel) rfl (Nat.le_of_ble_eq_true rfl) rfl ?_
  refine Gz.sub (L' := [(0, .ref 99), (1, .int v1), (2, .int (0 : Int32))]) [2, 1, 0] rfl ?_
  exact g_Le_firstBreak_b24 v1 (0 : Int32) w5 h
def f_X_breaks (w : gW) : Option (Int32 × gW) :=
zb (f_La_isThere w) (fun v1 w2 =>
if v1 = 0 then
(some ((-1 : Int32), w2))
else
(zb (f_Le_firstBreak w2) (fun v4 w5 =>
some (v4, w5))))
theorem g_X_breaks {l : Launch} (w : gW) : gCt l m_X_breaks 6 [.ref 0] w eI (f_X_breaks w) := by
  intro Q h
  unfold f_X_breaks at h
  show Gz l m_X_breaks 6 0 [(0, .ref 0)] [] w Q
  refine Gz.aload_n (q := 0) (pc' := 1) (by decide +kernel) rfl 0 rfl ?_
  refine Gz.getR (pc' := 4) (j := 3) 19 fd_X_33 sh_0 rfl (by decide +kernel) rfl ?_
  refine Gz.callVI (st := []) (b := 19) (pc' := 7) [] (g_La_isThere w) h ok_m_La_isThere lk_X_176 sh_19 rfl rfl rfl (Nat.le_of_ble_eq_true rfl) (Nat.le_of_ble_eq_true rfl) (Nat.le_of_ble_eq_true rfl) (by decide +kernel) rfl (fun v1 w2 h => ?_)
  refine Gz.if_eq (off := 13) (tgt := 20) (pc' := 10) (by decide +kernel) (by decide) rfl (fun c3 => ?_) (fun c3 => ?_)
  · have h := zok_t c3 h
    refine Gz.iconst (n := -1) (v := (-1 : Int32)) (pc' := 21) (by decide +kernel) rfl rfl ?_
    exact Gz.ireturn (by decide +kernel) rfl (zok_sI h)
  · have h := zok_f c3 h
    refine Gz.aload_n (q := 0) (pc' := 11) (by decide +kernel) rfl 0 rfl ?_
    refine Gz.getR (pc' := 14) (j := 8) 99 fd_X_70 sh_0 rfl (by decide +kernel) rfl ?_
    refine Gz.callVI (st := []) (b := 99) (pc' := 17) [] (g_Le_firstBreak w2) h ok_m_Le_firstBreak lk_X_216 sh_99 rfl rfl rfl (Nat.le_of_ble_eq_true rfl) (Nat.le_of_ble_eq_true rfl) (Nat.le_of_ble_eq_true rfl) (by decide +kernel) rfl (fun v4 w5 h => ?_)
    refine Gz.goto (off := 4) (tgt := 21) (by decide +kernel) (by decide) ?_
    exact Gz.ireturn (by decide +kernel) rfl (zok_sI h)
def f_Le_canHold_b11_s (k11 : Int32 → Int32 → Int32 → Int32 → gW → Option (Int32 × gW)) (x1 : Int32) (x2 : Int32) (x3 : Int32) (x4 : Int32) (w : gW) : Option (Int32 × gW) :=
zb (f_La_words w) (fun v1 w2 =>
if v1 ≤ x4 then
(some ((0 : Int32), w2))
else
(zb (f_Co_swornWord x1 x3 x4 w2) (fun v4 w5 =>
zb (f_Co_swornWord x2 x3 x4 w5) (fun v6 w7 =>
zl (v4 &&& v6) (fun v8 =>
zb (f_Co_possible w7) (fun v10 w11 =>
zb (f_Ro_word v10 x4 w11) (fun v12 w13 =>
if (lg_cmp (v8 &&& v12) (0 : Int64)) = 0 then
(zl (x4 + (1 : Int32)) (fun v15 =>
k11 x1 x2 x3 v15 w13))
else
(some ((1 : Int32), w13)))))))))
def f_Le_canHold_b11 : Int32 → Int32 → Int32 → Int32 → gW → Option (Int32 × gW) := zfx (fun _ _ _ _ _ => none) (f_Le_canHold_b11_s) zFU
def f_Le_canHold (a1 : Int32) (a2 : Int32) (w : gW) : Option (Int32 × gW) :=
zb (f_An_allSworn w) (fun v1 w2 =>
f_Le_canHold_b11 a1 a2 v1 (0 : Int32) w2)
theorem g_Le_canHold_b11_s {l : Launch} {Q : Option Value → gW → Prop} (k11 : Int32 → Int32 → Int32 → Int32 → gW → Option (Int32 × gW)) (hk11 : ∀ (x1 : Int32) (x2 : Int32) (x3 : Int32) (x4 : Int32) (w : gW), zok eI (k11 x1 x2 x3 x4 w) Q → Gz l m_Le_canHold 5 11 [(0, .ref 99), (1, .int x1), (2, .int x2), (3, .int x3), (4, .int x4)] [] w Q) (x1 : Int32) (x2 : Int32) (x3 : Int32) (x4 : Int32) (w : gW) (h : zok eI (f_Le_canHold_b11_s k11 x1 x2 x3 x4 w) Q) : Gz l m_Le_canHold 5 11 [(0, .ref 99), (1, .int x1), (2, .int x2), (3, .int x3), (4, .int x4)] [] w Q := by
  unfold f_Le_canHold_b11_s at h
  refine Gz.iload (i := 4) (pc' := 13) (by decide +kernel) rfl 4 rfl ?_
  refine Gz.aload_n (q := 0) (pc' := 14) (by decide +kernel) rfl 0 rfl ?_
  refine Gz.getR (pc' := 17) (j := 0) 19 fd_Le_18 sh_99 rfl (by decide +kernel) rfl ?_
  refine Gz.callVI (st := [.int x4]) (b := 19) (pc' := 20) [] (g_La_words w) h ok_m_La_words lk_Le_55 sh_19 rfl rfl rfl (Nat.le_of_ble_eq_true rfl) (Nat.le_of_ble_eq_true rfl) (Nat.le_of_ble_eq_true rfl) (by decide +kernel) rfl (fun v1 w2 h => ?_)
  refine Gz.icmp_ge (off := 56) (tgt := 76) (pc' := 23) (by decide +kernel) (by decide) rfl (fun c3 => ?_) (fun c3 => ?_)
  · have h := zok_t c3 h
    refine Gz.iconst (n := 0) (v := (0 : Int32)) (pc' := 77) (by decide +kernel) rfl rfl ?_
    exact Gz.zreturn (by decide +kernel) rfl (by decide) (zok_sI h)
  · have h := zok_f c3 h
    refine Gz.aload_n (q := 0) (pc' := 24) (by decide +kernel) rfl 0 rfl ?_
    refine Gz.getR (pc' := 27) (j := 3) 73 fd_Le_30 sh_99 rfl (by decide +kernel) rfl ?_
    refine Gz.iload_n (q := 1) (pc' := 28) (by decide +kernel) rfl 1 rfl ?_
    refine Gz.iload_n (q := 3) (pc' := 29) (by decide +kernel) rfl 3 rfl ?_
    refine Gz.iload (i := 4) (pc' := 31) (by decide +kernel) rfl 4 rfl ?_
    refine Gz.callVJ (st := []) (b := 73) (pc' := 34) [.int x1, .int x3, .int x4] (g_Co_swornWord x1 x3 x4 w2) h ok_m_Co_swornWord lk_Le_59 sh_73 rfl rfl rfl (Nat.le_of_ble_eq_true rfl) (Nat.le_of_ble_eq_true rfl) (Nat.le_of_ble_eq_true rfl) (by decide +kernel) rfl (fun v4 w5 h => ?_)
    refine Gz.aload_n (q := 0) (pc' := 35) (by decide +kernel) rfl 0 rfl ?_
    refine Gz.getR (pc' := 38) (j := 3) 73 fd_Le_30 sh_99 rfl (by decide +kernel) rfl ?_
    refine Gz.iload_n (q := 2) (pc' := 39) (by decide +kernel) rfl 2 rfl ?_
    refine Gz.iload_n (q := 3) (pc' := 40) (by decide +kernel) rfl 3 rfl ?_
    refine Gz.iload (i := 4) (pc' := 42) (by decide +kernel) rfl 4 rfl ?_
    refine Gz.callVJ (st := [.long v4]) (b := 73) (pc' := 45) [.int x2, .int x3, .int x4] (g_Co_swornWord x2 x3 x4 w5) h ok_m_Co_swornWord lk_Le_59 sh_73 rfl rfl rfl (Nat.le_of_ble_eq_true rfl) (Nat.le_of_ble_eq_true rfl) (Nat.le_of_ble_eq_true rfl) (by decide +kernel) rfl (fun v6 w7 h => ?_)
    refine Gz.land (pc' := 46) (by decide +kernel) rfl ?_
    refine Gz.nmJ (fun v8 e9 => ?_)
    have h := zok_l e9 h
    refine Gz.lstore (i := 5) (pc' := 48) (L' := [(5, .long v8), (0, .ref 99), (1, .int x1), (2, .int x2), (3, .int x3), (4, .int x4)]) (by decide +kernel) rfl (Nat.le_of_ble_eq_true rfl) rfl ?_
    refine Gz.lload (i := 5) (pc' := 50) (by decide +kernel) rfl 0 rfl ?_
    refine Gz.aload_n (q := 0) (pc' := 51) (by decide +kernel) rfl 1 rfl ?_
    refine Gz.getR (pc' := 54) (j := 3) 73 fd_Le_30 sh_99 rfl (by decide +kernel) rfl ?_
    refine Gz.callVR (st := [.long v8]) (b := 73) (pc' := 57) [] (g_Co_possible w7) h ok_m_Co_possible lk_Le_40 sh_73 rfl rfl rfl (Nat.le_of_ble_eq_true rfl) (Nat.le_of_ble_eq_true rfl) (Nat.le_of_ble_eq_true rfl) (by decide +kernel) rfl (fun v10 w11 h => ?_)
    refine Gz.iload (i := 4) (pc' := 59) (by decide +kernel) rfl 5 rfl ?_
    refine Gz.callSJ (st := [.long v8]) (pc' := 62) [.ref v10, .int x4] (g_Ro_word v10 x4 w11) h ok_m_Ro_word lk_Le_110 rfl (Nat.le_of_ble_eq_true rfl) (Nat.le_of_ble_eq_true rfl) (Nat.le_of_ble_eq_true rfl) (by decide +kernel) rfl (fun v12 w13 h => ?_)
    refine Gz.land (pc' := 63) (by decide +kernel) rfl ?_
    refine Gz.lconst (n := 0) (v := (0 : Int64)) (pc' := 64) (by decide +kernel) rfl rfl ?_
    refine Gz.lcmp (pc' := 65) (by decide +kernel) rfl ?_
    refine Gz.if_eq (off := 5) (tgt := 70) (pc' := 68) (by decide +kernel) (by decide) rfl (fun c14 => ?_) (fun c14 => ?_)
    · have h := zok_t c14 h
      obtain ⟨v15, e16⟩ : ∃ y : Int32, y = x4 + (1 : Int32) := ⟨_, rfl⟩
      have h := zok_l e16 h
      refine Gz.iinc (i := 4) (n := 1) (pc' := 73) (L' := [(4, .int v15), (5, .long v8), (0, .ref 99), (1, .int x1), (2, .int x2), (3, .int x3)]) v15 (by decide +kernel) rfl 5 rfl (by rw [e16]; rfl) (Nat.le_of_ble_eq_true rfl) rfl ?_
      refine Gz.goto (off := -62) (tgt := 11) (by decide +kernel) (by decide) ?_
      refine Gz.sub (L' := [(0, .ref 99), (1, .int x1), (2, .int x2), (3, .int x3), (4, .int v15)]) [2, 3, 4, 5, 0] rfl ?_
      exact hk11 x1 x2 x3 v15 w13 h
    · have h := zok_f c14 h
      refine Gz.iconst (n := 1) (v := (1 : Int32)) (pc' := 69) (by decide +kernel) rfl rfl ?_
      exact Gz.zreturn (by decide +kernel) rfl (by decide) (zok_sI h)
theorem g_Le_canHold_b11 {l : Launch} {Q : Option Value → gW → Prop} (x1 : Int32) (x2 : Int32) (x3 : Int32) (x4 : Int32) (w : gW) (h : zok eI (f_Le_canHold_b11 x1 x2 x3 x4 w) Q) : Gz l m_Le_canHold 5 11 [(0, .ref 99), (1, .int x1), (2, .int x2), (3, .int x3), (4, .int x4)] [] w Q := by
  have key : ∀ (n : Nat) (x1 : Int32) (x2 : Int32) (x3 : Int32) (x4 : Int32) (w : gW), zok eI (zfx (fun _ _ _ _ _ => none) (f_Le_canHold_b11_s) n x1 x2 x3 x4 w) Q → Gz l m_Le_canHold 5 11 [(0, .ref 99), (1, .int x1), (2, .int x2), (3, .int x3), (4, .int x4)] [] w Q := by
    intro n
    induction n with
    | zero => intro x1 x2 x3 x4 w h; exact zok_n h
    | succ n ih => intro x1 x2 x3 x4 w h; exact g_Le_canHold_b11_s _ ih x1 x2 x3 x4 w h
  exact key zFU x1 x2 x3 x4 w h
theorem g_Le_canHold {l : Launch} (a1 : Int32) (a2 : Int32) (w : gW) : gCt l m_Le_canHold 5 [.ref 99, .int a1, .int a2] w eI (f_Le_canHold a1 a2 w) := by
  intro Q h
  unfold f_Le_canHold at h
  show Gz l m_Le_canHold 5 0 [(0, .ref 99), (1, .int a1), (2, .int a2)] [] w Q
  refine Gz.aload_n (q := 0) (pc' := 1) (by decide +kernel) rfl 0 rfl ?_
  refine Gz.getR (pc' := 4) (j := 2) 59 fd_Le_26 sh_99 rfl (by decide +kernel) rfl ?_
  refine Gz.callVI (st := []) (b := 59) (pc' := 7) [] (g_An_allSworn w) h ok_m_An_allSworn lk_Le_34 sh_59 rfl rfl rfl (Nat.le_of_ble_eq_true rfl) (Nat.le_of_ble_eq_true rfl) (Nat.le_of_ble_eq_true rfl) (by decide +kernel) rfl (fun v1 w2 h => ?_)
  refine Gz.istore_n (q := 3) (pc' := 8) (L' := [(3, .int v1), (0, .ref 99), (1, .int a1), (2, .int a2)]) (by decide +kernel) rfl (Nat.le_of_ble_eq_true rfl) rfl ?_
  refine Gz.iconst (n := 0) (v := (0 : Int32)) (pc' := 9) (by decide +kernel) rfl rfl ?_
  refine Gz.istore (i := 4) (pc' := 11) (L' := [(4, .int (0 : Int32)), (3, .int v1), (0, .ref 99), (1, .int a1), (2, .int a2)]) (by decide +kernel) rfl (Nat.le_of_ble_eq_true rfl) rfl ?_
  refine Gz.sub (L' := [(0, .ref 99), (1, .int a1), (2, .int a2), (3, .int v1), (4, .int (0 : Int32))]) [2, 3, 4, 1, 0] rfl ?_
  exact g_Le_canHold_b11 a1 a2 v1 (0 : Int32) w2 h
def f_Le_firstClash_b62 (k2 : Int32 → gW → Option (Int32 × gW)) (k17 : Int32 → Int32 → gW → Option (Int32 × gW)) (x1 : Int32) (x2 : Int32) (w : gW) : Option (Int32 × gW) :=
zl (x2 + (1 : Int32)) (fun v1 =>
k17 x1 v1 w)
def f_Le_firstClash_b17_s (k2 : Int32 → gW → Option (Int32 × gW)) (k17 : Int32 → Int32 → gW → Option (Int32 × gW)) (x1 : Int32) (x2 : Int32) (w : gW) : Option (Int32 × gW) :=
zb (f_An_swornCount w) (fun v1 w2 =>
if v1 ≤ x2 then
(zl (x1 + (1 : Int32)) (fun v4 =>
k2 v4 w2))
else
(zb (f_Le_canHold x1 x1 w2) (fun v6 w7 =>
if v6 = 0 then
(f_Le_firstClash_b62 k2 k17 x1 x2 w7)
else
(zb (f_Le_canHold x2 x2 w7) (fun v9 w10 =>
if v9 = 0 then
(f_Le_firstClash_b62 k2 k17 x1 x2 w10)
else
(zb (f_Le_canHold x1 x2 w10) (fun v12 w13 =>
if v12 = 0 then
(some (((10 : Int32) * x1) + x2, w13))
else
(f_Le_firstClash_b62 k2 k17 x1 x2 w13))))))))
def f_Le_firstClash_b17 (k2 : Int32 → gW → Option (Int32 × gW)) : Int32 → Int32 → gW → Option (Int32 × gW) := zfx (fun _ _ _ => none) (f_Le_firstClash_b17_s k2) zFU
def f_Le_firstClash_b2_s (k2 : Int32 → gW → Option (Int32 × gW)) (x1 : Int32) (w : gW) : Option (Int32 × gW) :=
zb (f_An_swornCount w) (fun v1 w2 =>
if v1 ≤ x1 then
(some ((-1 : Int32), w2))
else
(zl (x1 + (1 : Int32)) (fun v4 =>
f_Le_firstClash_b17 k2 x1 v4 w2)))
def f_Le_firstClash_b2 : Int32 → gW → Option (Int32 × gW) := zfx (fun _ _ => none) (f_Le_firstClash_b2_s) zFU
def f_Le_firstClash (w : gW) : Option (Int32 × gW) :=
f_Le_firstClash_b2 (0 : Int32) w
theorem g_Le_firstClash_b62 {l : Launch} {Q : Option Value → gW → Prop} (k2 : Int32 → gW → Option (Int32 × gW)) (hk2 : ∀ (x1 : Int32) (w : gW), zok eI (k2 x1 w) Q → Gz l m_Le_firstClash 6 2 [(0, .ref 99), (1, .int x1)] [] w Q) (k17 : Int32 → Int32 → gW → Option (Int32 × gW)) (hk17 : ∀ (x1 : Int32) (x2 : Int32) (w : gW), zok eI (k17 x1 x2 w) Q → Gz l m_Le_firstClash 6 17 [(0, .ref 99), (1, .int x1), (2, .int x2)] [] w Q) (x1 : Int32) (x2 : Int32) (w : gW) (h : zok eI (f_Le_firstClash_b62 k2 k17 x1 x2 w) Q) : Gz l m_Le_firstClash 6 62 [(0, .ref 99), (1, .int x1), (2, .int x2)] [] w Q := by
  unfold f_Le_firstClash_b62 at h
  obtain ⟨v1, e2⟩ : ∃ y : Int32, y = x2 + (1 : Int32) := ⟨_, rfl⟩
  have h := zok_l e2 h
  refine Gz.iinc (i := 2) (n := 1) (pc' := 65) (L' := [(2, .int v1), (0, .ref 99), (1, .int x1)]) v1 (by decide +kernel) rfl 2 rfl (by rw [e2]; rfl) (Nat.le_of_ble_eq_true rfl) rfl ?_
  refine Gz.goto (off := -48) (tgt := 17) (by decide +kernel) (by decide) ?_
  refine Gz.sub (L' := [(0, .ref 99), (1, .int x1), (2, .int v1)]) [1, 2, 0] rfl ?_
  exact hk17 x1 v1 w h
theorem g_Le_firstClash_b17_s {l : Launch} {Q : Option Value → gW → Prop} (k2 : Int32 → gW → Option (Int32 × gW)) (hk2 : ∀ (x1 : Int32) (w : gW), zok eI (k2 x1 w) Q → Gz l m_Le_firstClash 6 2 [(0, .ref 99), (1, .int x1)] [] w Q) (k17 : Int32 → Int32 → gW → Option (Int32 × gW)) (hk17 : ∀ (x1 : Int32) (x2 : Int32) (w : gW), zok eI (k17 x1 x2 w) Q → Gz l m_Le_firstClash 6 17 [(0, .ref 99), (1, .int x1), (2, .int x2)] [] w Q) (x1 : Int32) (x2 : Int32) (w : gW) (h : zok eI (f_Le_firstClash_b17_s k2 k17 x1 x2 w) Q) : Gz l m_Le_firstClash 6 17 [(0, .ref 99), (1, .int x1), (2, .int x2)] [] w Q := by
  unfold f_Le_firstClash_b17_s at h
  refine Gz.iload_n (q := 2) (pc' := 18) (by decide +kernel) rfl 2 rfl ?_
  refine Gz.aload_n (q := 0) (pc' := 19) (by decide +kernel) rfl 0 rfl ?_
  refine Gz.getR (pc' := 22) (j := 2) 59 fd_Le_26 sh_99 rfl (by decide +kernel) rfl ?_
  refine Gz.callVI (st := [.int x2]) (b := 59) (pc' := 25) [] (g_An_swornCount w) h ok_m_An_swornCount lk_Le_52 sh_59 rfl rfl rfl (Nat.le_of_ble_eq_true rfl) (Nat.le_of_ble_eq_true rfl) (Nat.le_of_ble_eq_true rfl) (by decide +kernel) rfl (fun v1 w2 h => ?_)
  refine Gz.icmp_ge (off := 43) (tgt := 68) (pc' := 28) (by decide +kernel) (by decide) rfl (fun c3 => ?_) (fun c3 => ?_)
  · have h := zok_t c3 h
    obtain ⟨v4, e5⟩ : ∃ y : Int32, y = x1 + (1 : Int32) := ⟨_, rfl⟩
    have h := zok_l e5 h
    refine Gz.iinc (i := 1) (n := 1) (pc' := 71) (L' := [(1, .int v4), (0, .ref 99), (2, .int x2)]) v4 (by decide +kernel) rfl 1 rfl (by rw [e5]; rfl) (Nat.le_of_ble_eq_true rfl) rfl ?_
    refine Gz.goto (off := -69) (tgt := 2) (by decide +kernel) (by decide) ?_
    refine Gz.sub (L' := [(0, .ref 99), (1, .int v4)]) [1, 0] rfl ?_
    exact hk2 v4 w2 h
  · have h := zok_f c3 h
    refine Gz.aload_n (q := 0) (pc' := 29) (by decide +kernel) rfl 0 rfl ?_
    refine Gz.iload_n (q := 1) (pc' := 30) (by decide +kernel) rfl 1 rfl ?_
    refine Gz.iload_n (q := 1) (pc' := 31) (by decide +kernel) rfl 1 rfl ?_
    refine Gz.callVI (st := []) (b := 99) (pc' := 34) [.int x1, .int x1] (g_Le_canHold x1 x1 w2) h ok_m_Le_canHold lk_Le_67 sh_99 rfl rfl rfl (Nat.le_of_ble_eq_true rfl) (Nat.le_of_ble_eq_true rfl) (Nat.le_of_ble_eq_true rfl) (by decide +kernel) rfl (fun v6 w7 h => ?_)
    refine Gz.if_eq (off := 28) (tgt := 62) (pc' := 37) (by decide +kernel) (by decide) rfl (fun c8 => ?_) (fun c8 => ?_)
    · have h := zok_t c8 h
      exact g_Le_firstClash_b62 k2 hk2 k17 hk17 x1 x2 w7 h
    · have h := zok_f c8 h
      refine Gz.aload_n (q := 0) (pc' := 38) (by decide +kernel) rfl 0 rfl ?_
      refine Gz.iload_n (q := 2) (pc' := 39) (by decide +kernel) rfl 2 rfl ?_
      refine Gz.iload_n (q := 2) (pc' := 40) (by decide +kernel) rfl 2 rfl ?_
      refine Gz.callVI (st := []) (b := 99) (pc' := 43) [.int x2, .int x2] (g_Le_canHold x2 x2 w7) h ok_m_Le_canHold lk_Le_67 sh_99 rfl rfl rfl (Nat.le_of_ble_eq_true rfl) (Nat.le_of_ble_eq_true rfl) (Nat.le_of_ble_eq_true rfl) (by decide +kernel) rfl (fun v9 w10 h => ?_)
      refine Gz.if_eq (off := 19) (tgt := 62) (pc' := 46) (by decide +kernel) (by decide) rfl (fun c11 => ?_) (fun c11 => ?_)
      · have h := zok_t c11 h
        exact g_Le_firstClash_b62 k2 hk2 k17 hk17 x1 x2 w10 h
      · have h := zok_f c11 h
        refine Gz.aload_n (q := 0) (pc' := 47) (by decide +kernel) rfl 0 rfl ?_
        refine Gz.iload_n (q := 1) (pc' := 48) (by decide +kernel) rfl 1 rfl ?_
        refine Gz.iload_n (q := 2) (pc' := 49) (by decide +kernel) rfl 2 rfl ?_
        refine Gz.callVI (st := []) (b := 99) (pc' := 52) [.int x1, .int x2] (g_Le_canHold x1 x2 w10) h ok_m_Le_canHold lk_Le_67 sh_99 rfl rfl rfl (Nat.le_of_ble_eq_true rfl) (Nat.le_of_ble_eq_true rfl) (Nat.le_of_ble_eq_true rfl) (by decide +kernel) rfl (fun v12 w13 h => ?_)
        refine Gz.if_ne (off := 10) (tgt := 62) (pc' := 55) (by decide +kernel) (by decide) rfl (fun c14 => ?_) (fun c14 => ?_)
        · have h := zok_f c14 h
          exact g_Le_firstClash_b62 k2 hk2 k17 hk17 x1 x2 w13 h
        · have h := zok_t c14 h
          refine Gz.bipush (n := 10) (v := (10 : Int32)) (pc' := 57) (by decide +kernel) rfl rfl ?_
          refine Gz.iload_n (q := 1) (pc' := 58) (by decide +kernel) rfl 1 rfl ?_
          refine Gz.imul (pc' := 59) (by decide +kernel) rfl ?_
          refine Gz.iload_n (q := 2) (pc' := 60) (by decide +kernel) rfl 2 rfl ?_
          refine Gz.iadd (pc' := 61) (by decide +kernel) rfl ?_
          exact Gz.ireturn (by decide +kernel) rfl (zok_sI h)
theorem g_Le_firstClash_b17 {l : Launch} {Q : Option Value → gW → Prop} (k2 : Int32 → gW → Option (Int32 × gW)) (hk2 : ∀ (x1 : Int32) (w : gW), zok eI (k2 x1 w) Q → Gz l m_Le_firstClash 6 2 [(0, .ref 99), (1, .int x1)] [] w Q) (x1 : Int32) (x2 : Int32) (w : gW) (h : zok eI (f_Le_firstClash_b17 k2 x1 x2 w) Q) : Gz l m_Le_firstClash 6 17 [(0, .ref 99), (1, .int x1), (2, .int x2)] [] w Q := by
  have key : ∀ (n : Nat) (x1 : Int32) (x2 : Int32) (w : gW), zok eI (zfx (fun _ _ _ => none) (f_Le_firstClash_b17_s k2) n x1 x2 w) Q → Gz l m_Le_firstClash 6 17 [(0, .ref 99), (1, .int x1), (2, .int x2)] [] w Q := by
    intro n
    induction n with
    | zero => intro x1 x2 w h; exact zok_n h
    | succ n ih => intro x1 x2 w h; exact g_Le_firstClash_b17_s k2 hk2 _ ih x1 x2 w h
  exact key zFU x1 x2 w h
theorem g_Le_firstClash_b2_s {l : Launch} {Q : Option Value → gW → Prop} (k2 : Int32 → gW → Option (Int32 × gW)) (hk2 : ∀ (x1 : Int32) (w : gW), zok eI (k2 x1 w) Q → Gz l m_Le_firstClash 6 2 [(0, .ref 99), (1, .int x1)] [] w Q) (x1 : Int32) (w : gW) (h : zok eI (f_Le_firstClash_b2_s k2 x1 w) Q) : Gz l m_Le_firstClash 6 2 [(0, .ref 99), (1, .int x1)] [] w Q := by
  unfold f_Le_firstClash_b2_s at h
  refine Gz.iload_n (q := 1) (pc' := 3) (by decide +kernel) rfl 1 rfl ?_
  refine Gz.aload_n (q := 0) (pc' := 4) (by decide +kernel) rfl 0 rfl ?_
  refine Gz.getR (pc' := 7) (j := 2) 59 fd_Le_26 sh_99 rfl (by decide +kernel) rfl ?_
  refine Gz.callVI (st := [.int x1]) (b := 59) (pc' := 10) [] (g_An_swornCount w) h ok_m_An_swornCount lk_Le_52 sh_59 rfl rfl rfl (Nat.le_of_ble_eq_true rfl) (Nat.le_of_ble_eq_true rfl) (Nat.le_of_ble_eq_true rfl) (by decide +kernel) rfl (fun v1 w2 h => ?_)
  refine Gz.icmp_ge (off := 64) (tgt := 74) (pc' := 13) (by decide +kernel) (by decide) rfl (fun c3 => ?_) (fun c3 => ?_)
  · have h := zok_t c3 h
    refine Gz.iconst (n := -1) (v := (-1 : Int32)) (pc' := 75) (by decide +kernel) rfl rfl ?_
    exact Gz.ireturn (by decide +kernel) rfl (zok_sI h)
  · have h := zok_f c3 h
    refine Gz.iload_n (q := 1) (pc' := 14) (by decide +kernel) rfl 1 rfl ?_
    refine Gz.iconst (n := 1) (v := (1 : Int32)) (pc' := 15) (by decide +kernel) rfl rfl ?_
    refine Gz.iadd (pc' := 16) (by decide +kernel) rfl ?_
    refine Gz.nmI (fun v4 e5 => ?_)
    have h := zok_l e5 h
    refine Gz.istore_n (q := 2) (pc' := 17) (L' := [(2, .int v4), (0, .ref 99), (1, .int x1)]) (by decide +kernel) rfl (Nat.le_of_ble_eq_true rfl) rfl ?_
    refine Gz.sub (L' := [(0, .ref 99), (1, .int x1), (2, .int v4)]) [1, 2, 0] rfl ?_
    exact g_Le_firstClash_b17 k2 hk2 x1 v4 w2 h
theorem g_Le_firstClash_b2 {l : Launch} {Q : Option Value → gW → Prop} (x1 : Int32) (w : gW) (h : zok eI (f_Le_firstClash_b2 x1 w) Q) : Gz l m_Le_firstClash 6 2 [(0, .ref 99), (1, .int x1)] [] w Q := by
  have key : ∀ (n : Nat) (x1 : Int32) (w : gW), zok eI (zfx (fun _ _ => none) (f_Le_firstClash_b2_s) n x1 w) Q → Gz l m_Le_firstClash 6 2 [(0, .ref 99), (1, .int x1)] [] w Q := by
    intro n
    induction n with
    | zero => intro x1 w h; exact zok_n h
    | succ n ih => intro x1 w h; exact g_Le_firstClash_b2_s _ ih x1 w h
  exact key zFU x1 w h
theorem g_Le_firstClash {l : Launch} (w : gW) : gCt l m_Le_firstClash 6 [.ref 99] w eI (f_Le_firstClash w) := by
  intro Q h
  unfold f_Le_firstClash at h
  show Gz l m_Le_firstClash 6 0 [(0, .ref 99)] [] w Q
  refine Gz.iconst (n := 0) (v := (0 : Int32)) (pc' := 1) (by decide +kernel) rfl rfl ?_
  refine Gz.istore_n (q := 1) (pc' := 2) (L' := [(1, .int (0 : Int32)), (0, .ref 99)]) (by decide +kernel) rfl (Nat.le_of_ble_eq_true rfl) rfl ?_
  refine Gz.sub (L' := [(0, .ref 99), (1, .int (0 : Int32))]) [1, 0] rfl ?_
  exact g_Le_firstClash_b2 (0 : Int32) w h
def f_X_clash (w : gW) : Option (Int32 × gW) :=
zb (f_La_isThere w) (fun v1 w2 =>
if v1 = 0 then
(some ((-1 : Int32), w2))
else
(zb (f_Le_firstClash w2) (fun v4 w5 =>
some (v4, w5))))
theorem g_X_clash {l : Launch} (w : gW) : gCt l m_X_clash 7 [.ref 0] w eI (f_X_clash w) := by
  intro Q h
  unfold f_X_clash at h
  show Gz l m_X_clash 7 0 [(0, .ref 0)] [] w Q
  refine Gz.aload_n (q := 0) (pc' := 1) (by decide +kernel) rfl 0 rfl ?_
  refine Gz.getR (pc' := 4) (j := 3) 19 fd_X_33 sh_0 rfl (by decide +kernel) rfl ?_
  refine Gz.callVI (st := []) (b := 19) (pc' := 7) [] (g_La_isThere w) h ok_m_La_isThere lk_X_176 sh_19 rfl rfl rfl (Nat.le_of_ble_eq_true rfl) (Nat.le_of_ble_eq_true rfl) (Nat.le_of_ble_eq_true rfl) (by decide +kernel) rfl (fun v1 w2 h => ?_)
  refine Gz.if_eq (off := 13) (tgt := 20) (pc' := 10) (by decide +kernel) (by decide) rfl (fun c3 => ?_) (fun c3 => ?_)
  · have h := zok_t c3 h
    refine Gz.iconst (n := -1) (v := (-1 : Int32)) (pc' := 21) (by decide +kernel) rfl rfl ?_
    exact Gz.ireturn (by decide +kernel) rfl (zok_sI h)
  · have h := zok_f c3 h
    refine Gz.aload_n (q := 0) (pc' := 11) (by decide +kernel) rfl 0 rfl ?_
    refine Gz.getR (pc' := 14) (j := 8) 99 fd_X_70 sh_0 rfl (by decide +kernel) rfl ?_
    refine Gz.callVI (st := []) (b := 99) (pc' := 17) [] (g_Le_firstClash w2) h ok_m_Le_firstClash lk_X_219 sh_99 rfl rfl rfl (Nat.le_of_ble_eq_true rfl) (Nat.le_of_ble_eq_true rfl) (Nat.le_of_ble_eq_true rfl) (by decide +kernel) rfl (fun v4 w5 h => ?_)
    refine Gz.goto (off := 4) (tgt := 21) (by decide +kernel) (by decide) ?_
    exact Gz.ireturn (by decide +kernel) rfl (zok_sI h)
def f_Co_hear_b12_s (k12 : Int32 → Int32 → Nat → Int32 → Int32 → gW → Option (Unit × gW)) (x1 : Int32) (x2 : Int32) (x3 : Nat) (x4 : Int32) (x5 : Int32) (w : gW) : Option (Unit × gW) :=
zb (f_La_words w) (fun v1 w2 =>
if v1 ≤ x5 then
(some ((), w2))
else
(if (g_sh x3).1 = 2 then
if (nI (g_len 2 x3)) ≤ x5 then
(some ((), w2))
else
(if (263 : Int32) ≤ x5 then
(some ((), w2))
else
(zb (f_Co_wordOf x1 x2 x4 x5 w2) (fun v7 w8 =>
if inb x5 263 then
if inb x5 (g_len 2 x3) then
zl (zsL w8 x3 (ix x5) (v7 &&& (w8.2 75 (ix x5)))) (fun w11 =>
zl (x5 + (1 : Int32)) (fun v13 =>
k12 x1 x2 x3 x4 v13 w11))
else none
else none)))
else none))
def f_Co_hear_b12 : Int32 → Int32 → Nat → Int32 → Int32 → gW → Option (Unit × gW) := zfx (fun _ _ _ _ _ _ => none) (f_Co_hear_b12_s) zFU
def f_Co_hear (a1 : Int32) (a2 : Int32) (a3 : Nat) (w : gW) : Option (Unit × gW) :=
zb (f_An_allSworn w) (fun v1 w2 =>
f_Co_hear_b12 a1 a2 a3 v1 (0 : Int32) w2)
theorem g_Co_hear_b12_s {l : Launch} {Q : Option Value → gW → Prop} (k12 : Int32 → Int32 → Nat → Int32 → Int32 → gW → Option (Unit × gW)) (hk12 : ∀ (x1 : Int32) (x2 : Int32) (x3 : Nat) (x4 : Int32) (x5 : Int32) (w : gW), zok eV (k12 x1 x2 x3 x4 x5 w) Q → Gz l m_Co_hear 4 12 [(0, .ref 73), (1, .int x1), (2, .int x2), (3, .ref x3), (4, .int x4), (5, .int x5)] [] w Q) (x1 : Int32) (x2 : Int32) (x3 : Nat) (x4 : Int32) (x5 : Int32) (w : gW) (h : zok eV (f_Co_hear_b12_s k12 x1 x2 x3 x4 x5 w) Q) : Gz l m_Co_hear 4 12 [(0, .ref 73), (1, .int x1), (2, .int x2), (3, .ref x3), (4, .int x4), (5, .int x5)] [] w Q := by
  unfold f_Co_hear_b12_s at h
  refine Gz.iload (i := 5) (pc' := 14) (by decide +kernel) rfl 5 rfl ?_
  refine Gz.aload_n (q := 0) (pc' := 15) (by decide +kernel) rfl 0 rfl ?_
  refine Gz.getR (pc' := 18) (j := 0) 19 fd_Co_26 sh_73 rfl (by decide +kernel) rfl ?_
  refine Gz.callVI (st := [.int x5]) (b := 19) (pc' := 21) [] (g_La_words w) h ok_m_La_words lk_Co_107 sh_19 rfl rfl rfl (Nat.le_of_ble_eq_true rfl) (Nat.le_of_ble_eq_true rfl) (Nat.le_of_ble_eq_true rfl) (by decide +kernel) rfl (fun v1 w2 h => ?_)
  refine Gz.icmp_ge (off := 46) (tgt := 67) (pc' := 24) (by decide +kernel) (by decide) rfl (fun c3 => ?_) (fun c3 => ?_)
  · have h := zok_t c3 h
    exact Gz.return_ (by decide +kernel) rfl (zok_sV h)
  · have h := zok_f c3 h
    refine Gz.iload (i := 5) (pc' := 26) (by decide +kernel) rfl 5 rfl ?_
    refine Gz.aload_n (q := 3) (pc' := 27) (by decide +kernel) rfl 3 rfl ?_
    obtain ⟨c4, h⟩ := zok_c h
    refine Gz.alen (pc' := 28) (n := g_len 2 x3) (kd := 2) (by decide +kernel) rfl (Or.inr rfl) c4 rfl ?_
    refine Gz.icmp_ge (off := 39) (tgt := 67) (pc' := 31) (by decide +kernel) (by decide) rfl (fun c5 => ?_) (fun c5 => ?_)
    · have h := zok_t c5 h
      exact Gz.return_ (by decide +kernel) rfl (zok_sV h)
    · have h := zok_f c5 h
      refine Gz.iload (i := 5) (pc' := 33) (by decide +kernel) rfl 5 rfl ?_
      refine Gz.sipush (n := 263) (v := (263 : Int32)) (pc' := 36) (by decide +kernel) rfl rfl ?_
      refine Gz.icmp_ge (off := 31) (tgt := 67) (pc' := 39) (by decide +kernel) (by decide) rfl (fun c6 => ?_) (fun c6 => ?_)
      · have h := zok_t c6 h
        exact Gz.return_ (by decide +kernel) rfl (zok_sV h)
      · have h := zok_f c6 h
        refine Gz.aload_n (q := 3) (pc' := 40) (by decide +kernel) rfl 3 rfl ?_
        refine Gz.iload (i := 5) (pc' := 42) (by decide +kernel) rfl 5 rfl ?_
        refine Gz.aload_n (q := 0) (pc' := 43) (by decide +kernel) rfl 0 rfl ?_
        refine Gz.iload_n (q := 1) (pc' := 44) (by decide +kernel) rfl 1 rfl ?_
        refine Gz.iload_n (q := 2) (pc' := 45) (by decide +kernel) rfl 2 rfl ?_
        refine Gz.iload (i := 4) (pc' := 47) (by decide +kernel) rfl 4 rfl ?_
        refine Gz.iload (i := 5) (pc' := 49) (by decide +kernel) rfl 5 rfl ?_
        refine Gz.callVJ (st := [.int x5, .ref x3]) (b := 73) (pc' := 52) [.int x1, .int x2, .int x4, .int x5] (g_Co_wordOf x1 x2 x4 x5 w2) h ok_m_Co_wordOf lk_Co_103 sh_73 rfl rfl rfl (Nat.le_of_ble_eq_true rfl) (Nat.le_of_ble_eq_true rfl) (Nat.le_of_ble_eq_true rfl) (by decide +kernel) rfl (fun v7 w8 h => ?_)
        refine Gz.aload_n (q := 0) (pc' := 53) (by decide +kernel) rfl 0 rfl ?_
        refine Gz.getR (pc' := 56) (j := 4) 75 fd_Co_15 sh_73 rfl (by decide +kernel) rfl ?_
        refine Gz.iload (i := 5) (pc' := 58) (by decide +kernel) rfl 5 rfl ?_
        obtain ⟨c9, h⟩ := zok_c h
        refine Gz.lald (pc' := 59) (n := 263) (by decide +kernel) rfl rfl c9 ?_
        refine Gz.land (pc' := 60) (by decide +kernel) rfl ?_
        obtain ⟨c10, h⟩ := zok_c h
        refine Gz.last (pc' := 61) (n := (g_len 2 x3)) (by decide +kernel) rfl rfl c10 ?_
        refine Gz.nmW (fun w11 e12 => ?_)
        have h := zok_l e12 h
        obtain ⟨v13, e14⟩ : ∃ y : Int32, y = x5 + (1 : Int32) := ⟨_, rfl⟩
        have h := zok_l e14 h
        refine Gz.iinc (i := 5) (n := 1) (pc' := 64) (L' := [(5, .int v13), (0, .ref 73), (1, .int x1), (2, .int x2), (3, .ref x3), (4, .int x4)]) v13 (by decide +kernel) rfl 5 rfl (by rw [e14]; rfl) (Nat.le_of_ble_eq_true rfl) rfl ?_
        refine Gz.goto (off := -52) (tgt := 12) (by decide +kernel) (by decide) ?_
        refine Gz.sub (L' := [(0, .ref 73), (1, .int x1), (2, .int x2), (3, .ref x3), (4, .int x4), (5, .int v13)]) [1, 2, 3, 4, 5, 0] rfl ?_
        exact hk12 x1 x2 x3 x4 v13 w11 h
theorem g_Co_hear_b12 {l : Launch} {Q : Option Value → gW → Prop} (x1 : Int32) (x2 : Int32) (x3 : Nat) (x4 : Int32) (x5 : Int32) (w : gW) (h : zok eV (f_Co_hear_b12 x1 x2 x3 x4 x5 w) Q) : Gz l m_Co_hear 4 12 [(0, .ref 73), (1, .int x1), (2, .int x2), (3, .ref x3), (4, .int x4), (5, .int x5)] [] w Q := by
  have key : ∀ (n : Nat) (x1 : Int32) (x2 : Int32) (x3 : Nat) (x4 : Int32) (x5 : Int32) (w : gW), zok eV (zfx (fun _ _ _ _ _ _ => none) (f_Co_hear_b12_s) n x1 x2 x3 x4 x5 w) Q → Gz l m_Co_hear 4 12 [(0, .ref 73), (1, .int x1), (2, .int x2), (3, .ref x3), (4, .int x4), (5, .int x5)] [] w Q := by
    intro n
    induction n with
    | zero => intro x1 x2 x3 x4 x5 w h; exact zok_n h
    | succ n ih => intro x1 x2 x3 x4 x5 w h; exact g_Co_hear_b12_s _ ih x1 x2 x3 x4 x5 w h
  exact key zFU x1 x2 x3 x4 x5 w h
theorem g_Co_hear {l : Launch} (a1 : Int32) (a2 : Int32) (a3 : Nat) (w : gW) : gCt l m_Co_hear 4 [.ref 73, .int a1, .int a2, .ref a3] w eV (f_Co_hear a1 a2 a3 w) := by
  intro Q h
  unfold f_Co_hear at h
  show Gz l m_Co_hear 4 0 [(0, .ref 73), (1, .int a1), (2, .int a2), (3, .ref a3)] [] w Q
  refine Gz.aload_n (q := 0) (pc' := 1) (by decide +kernel) rfl 0 rfl ?_
  refine Gz.getR (pc' := 4) (j := 2) 59 fd_Co_34 sh_73 rfl (by decide +kernel) rfl ?_
  refine Gz.callVI (st := []) (b := 59) (pc' := 7) [] (g_An_allSworn w) h ok_m_An_allSworn lk_Co_93 sh_59 rfl rfl rfl (Nat.le_of_ble_eq_true rfl) (Nat.le_of_ble_eq_true rfl) (Nat.le_of_ble_eq_true rfl) (by decide +kernel) rfl (fun v1 w2 h => ?_)
  refine Gz.istore (i := 4) (pc' := 9) (L' := [(4, .int v1), (0, .ref 73), (1, .int a1), (2, .int a2), (3, .ref a3)]) (by decide +kernel) rfl (Nat.le_of_ble_eq_true rfl) rfl ?_
  refine Gz.iconst (n := 0) (v := (0 : Int32)) (pc' := 10) (by decide +kernel) rfl rfl ?_
  refine Gz.istore (i := 5) (pc' := 12) (L' := [(5, .int (0 : Int32)), (4, .int v1), (0, .ref 73), (1, .int a1), (2, .int a2), (3, .ref a3)]) (by decide +kernel) rfl (Nat.le_of_ble_eq_true rfl) rfl ?_
  refine Gz.sub (L' := [(0, .ref 73), (1, .int a1), (2, .int a2), (3, .ref a3), (4, .int v1), (5, .int (0 : Int32))]) [2, 3, 4, 5, 1, 0] rfl ?_
  exact g_Co_hear_b12 a1 a2 a3 v1 (0 : Int32) w2 h
def f_Cs_hearAll_b2_s (k2 : Int32 → Int32 → gW → Option (Unit × gW)) (x1 : Int32) (x2 : Int32) (w : gW) : Option (Unit × gW) :=
zb (f_Oa_size w) (fun v1 w2 =>
if v1 ≤ x2 then
(some ((), w2))
else
(if (8 : Int32) ≤ x2 then
(some ((), w2))
else
(if inb x2 8 then
zb (f_Co_hear x2 x1 (90 + 1 + ix x2) w2) (fun _ w6 =>
zl (x2 + (1 : Int32)) (fun v7 =>
k2 x1 v7 w6))
else none)))
def f_Cs_hearAll_b2 : Int32 → Int32 → gW → Option (Unit × gW) := zfx (fun _ _ _ => none) (f_Cs_hearAll_b2_s) zFU
def f_Cs_hearAll (a1 : Int32) (w : gW) : Option (Unit × gW) :=
f_Cs_hearAll_b2 a1 (0 : Int32) w
theorem g_Cs_hearAll_b2_s {l : Launch} {Q : Option Value → gW → Prop} (k2 : Int32 → Int32 → gW → Option (Unit × gW)) (hk2 : ∀ (x1 : Int32) (x2 : Int32) (w : gW), zok eV (k2 x1 x2 w) Q → Gz l m_Cs_hearAll 5 2 [(0, .ref 88), (1, .int x1), (2, .int x2)] [] w Q) (x1 : Int32) (x2 : Int32) (w : gW) (h : zok eV (f_Cs_hearAll_b2_s k2 x1 x2 w) Q) : Gz l m_Cs_hearAll 5 2 [(0, .ref 88), (1, .int x1), (2, .int x2)] [] w Q := by
  unfold f_Cs_hearAll_b2_s at h
  refine Gz.iload_n (q := 2) (pc' := 3) (by decide +kernel) rfl 2 rfl ?_
  refine Gz.aload_n (q := 0) (pc' := 4) (by decide +kernel) rfl 0 rfl ?_
  refine Gz.getR (pc' := 7) (j := 1) 5 fd_Cs_24 sh_88 rfl (by decide +kernel) rfl ?_
  refine Gz.callVI (st := [.int x2]) (b := 5) (pc' := 10) [] (g_Oa_size w) h ok_m_Oa_size lk_Cs_32 sh_5 rfl rfl rfl (Nat.le_of_ble_eq_true rfl) (Nat.le_of_ble_eq_true rfl) (Nat.le_of_ble_eq_true rfl) (by decide +kernel) rfl (fun v1 w2 h => ?_)
  refine Gz.icmp_ge (off := 30) (tgt := 40) (pc' := 13) (by decide +kernel) (by decide) rfl (fun c3 => ?_) (fun c3 => ?_)
  · have h := zok_t c3 h
    exact Gz.return_ (by decide +kernel) rfl (zok_sV h)
  · have h := zok_f c3 h
    refine Gz.iload_n (q := 2) (pc' := 14) (by decide +kernel) rfl 2 rfl ?_
    refine Gz.bipush (n := 8) (v := (8 : Int32)) (pc' := 16) (by decide +kernel) rfl rfl ?_
    refine Gz.icmp_ge (off := 24) (tgt := 40) (pc' := 19) (by decide +kernel) (by decide) rfl (fun c4 => ?_) (fun c4 => ?_)
    · have h := zok_t c4 h
      exact Gz.return_ (by decide +kernel) rfl (zok_sV h)
    · have h := zok_f c4 h
      refine Gz.aload_n (q := 0) (pc' := 20) (by decide +kernel) rfl 0 rfl ?_
      refine Gz.getR (pc' := 23) (j := 2) 73 fd_Cs_28 sh_88 rfl (by decide +kernel) rfl ?_
      refine Gz.iload_n (q := 2) (pc' := 24) (by decide +kernel) rfl 2 rfl ?_
      refine Gz.iload_n (q := 1) (pc' := 25) (by decide +kernel) rfl 1 rfl ?_
      refine Gz.aload_n (q := 0) (pc' := 26) (by decide +kernel) rfl 0 rfl ?_
      refine Gz.getR (pc' := 29) (j := 4) 90 fd_Cs_17 sh_88 rfl (by decide +kernel) rfl ?_
      refine Gz.iload_n (q := 2) (pc' := 30) (by decide +kernel) rfl 2 rfl ?_
      obtain ⟨c5, h⟩ := zok_c h
      refine Gz.aald (pc' := 31) (n := 8) (by decide +kernel) rfl (Or.inr rfl) rfl c5 ?_
      refine Gz.callVV (st := []) (b := 73) (pc' := 34) [.int x2, .int x1, .ref (90 + 1 + ix x2)] (g_Co_hear x2 x1 (90 + 1 + ix x2) w2) h ok_m_Co_hear lk_Cs_38 sh_73 rfl rfl rfl (Nat.le_of_ble_eq_true rfl) (Nat.le_of_ble_eq_true rfl) (Nat.le_of_ble_eq_true rfl) (by decide +kernel) rfl (fun _ w6 h => ?_)
      obtain ⟨v7, e8⟩ : ∃ y : Int32, y = x2 + (1 : Int32) := ⟨_, rfl⟩
      have h := zok_l e8 h
      refine Gz.iinc (i := 2) (n := 1) (pc' := 37) (L' := [(2, .int v7), (0, .ref 88), (1, .int x1)]) v7 (by decide +kernel) rfl 2 rfl (by rw [e8]; rfl) (Nat.le_of_ble_eq_true rfl) rfl ?_
      refine Gz.goto (off := -35) (tgt := 2) (by decide +kernel) (by decide) ?_
      refine Gz.sub (L' := [(0, .ref 88), (1, .int x1), (2, .int v7)]) [1, 2, 0] rfl ?_
      exact hk2 x1 v7 w6 h
theorem g_Cs_hearAll_b2 {l : Launch} {Q : Option Value → gW → Prop} (x1 : Int32) (x2 : Int32) (w : gW) (h : zok eV (f_Cs_hearAll_b2 x1 x2 w) Q) : Gz l m_Cs_hearAll 5 2 [(0, .ref 88), (1, .int x1), (2, .int x2)] [] w Q := by
  have key : ∀ (n : Nat) (x1 : Int32) (x2 : Int32) (w : gW), zok eV (zfx (fun _ _ _ => none) (f_Cs_hearAll_b2_s) n x1 x2 w) Q → Gz l m_Cs_hearAll 5 2 [(0, .ref 88), (1, .int x1), (2, .int x2)] [] w Q := by
    intro n
    induction n with
    | zero => intro x1 x2 w h; exact zok_n h
    | succ n ih => intro x1 x2 w h; exact g_Cs_hearAll_b2_s _ ih x1 x2 w h
  exact key zFU x1 x2 w h
theorem g_Cs_hearAll {l : Launch} (a1 : Int32) (w : gW) : gCt l m_Cs_hearAll 5 [.ref 88, .int a1] w eV (f_Cs_hearAll a1 w) := by
  intro Q h
  unfold f_Cs_hearAll at h
  show Gz l m_Cs_hearAll 5 0 [(0, .ref 88), (1, .int a1)] [] w Q
  refine Gz.iconst (n := 0) (v := (0 : Int32)) (pc' := 1) (by decide +kernel) rfl rfl ?_
  refine Gz.istore_n (q := 2) (pc' := 2) (L' := [(2, .int (0 : Int32)), (0, .ref 88), (1, .int a1)]) (by decide +kernel) rfl (Nat.le_of_ble_eq_true rfl) rfl ?_
  refine Gz.sub (L' := [(0, .ref 88), (1, .int a1), (2, .int (0 : Int32))]) [1, 2, 0] rfl ?_
  exact g_Cs_hearAll_b2 a1 (0 : Int32) w h
def f_Cs_rowOf_b19 (s1 : Int32) (w : gW) : Option (Nat × gW) :=
if inb s1 8 then
some (90 + 1 + ix s1, w)
else none
def f_Cs_rowOf_b18 (w : gW) : Option (Nat × gW) :=
f_Cs_rowOf_b19 (0 : Int32) w
def f_Cs_rowOf (a1 : Int32) (w : gW) : Option (Nat × gW) :=
if a1 < 0 then
(f_Cs_rowOf_b18 w)
else
(if (8 : Int32) ≤ a1 then
(f_Cs_rowOf_b18 w)
else
(f_Cs_rowOf_b19 a1 w))
theorem g_Cs_rowOf_b19 {l : Launch} {Q : Option Value → gW → Prop} (s1 : Int32) (w : gW) (h : zok eR (f_Cs_rowOf_b19 s1 w) Q) : Gz l m_Cs_rowOf 1 19 [] [.int s1, .ref 90] w Q := by
  unfold f_Cs_rowOf_b19 at h
  obtain ⟨c1, h⟩ := zok_c h
  refine Gz.aald (pc' := 20) (n := 8) (by decide +kernel) rfl (Or.inr rfl) rfl c1 ?_
  exact Gz.areturn (by decide +kernel) rfl (zok_sR h)
theorem g_Cs_rowOf_b18 {l : Launch} {Q : Option Value → gW → Prop} (w : gW) (h : zok eR (f_Cs_rowOf_b18 w) Q) : Gz l m_Cs_rowOf 1 18 [] [.ref 90] w Q := by
  unfold f_Cs_rowOf_b18 at h
  refine Gz.iconst (n := 0) (v := (0 : Int32)) (pc' := 19) (by decide +kernel) rfl rfl ?_
  exact g_Cs_rowOf_b19 (0 : Int32) w h
theorem g_Cs_rowOf {l : Launch} (a1 : Int32) (w : gW) : gCt l m_Cs_rowOf 1 [.ref 88, .int a1] w eR (f_Cs_rowOf a1 w) := by
  intro Q h
  unfold f_Cs_rowOf at h
  show Gz l m_Cs_rowOf 1 0 [(0, .ref 88), (1, .int a1)] [] w Q
  refine Gz.aload_n (q := 0) (pc' := 1) (by decide +kernel) rfl 0 rfl ?_
  refine Gz.getR (pc' := 4) (j := 4) 90 fd_Cs_17 sh_88 rfl (by decide +kernel) rfl ?_
  refine Gz.iload_n (q := 1) (pc' := 5) (by decide +kernel) rfl 1 rfl ?_
  refine Gz.if_lt (off := 13) (tgt := 18) (pc' := 8) (by decide +kernel) (by decide) rfl (fun c1 => ?_) (fun c1 => ?_)
  · have h := zok_t c1 h
    refine Gz.sub (L' := []) [] rfl ?_
    exact g_Cs_rowOf_b18 w h
  · have h := zok_f c1 h
    refine Gz.iload_n (q := 1) (pc' := 9) (by decide +kernel) rfl 1 rfl ?_
    refine Gz.bipush (n := 8) (v := (8 : Int32)) (pc' := 11) (by decide +kernel) rfl rfl ?_
    refine Gz.icmp_ge (off := 7) (tgt := 18) (pc' := 14) (by decide +kernel) (by decide) rfl (fun c2 => ?_) (fun c2 => ?_)
    · have h := zok_t c2 h
      refine Gz.sub (L' := []) [] rfl ?_
      exact g_Cs_rowOf_b18 w h
    · have h := zok_f c2 h
      refine Gz.iload_n (q := 1) (pc' := 15) (by decide +kernel) rfl 1 rfl ?_
      refine Gz.goto (off := 4) (tgt := 19) (by decide +kernel) (by decide) ?_
      refine Gz.sub (L' := []) [] rfl ?_
      exact g_Cs_rowOf_b19 a1 w h
def f_Cs_canBoth (a1 : Int32) (a2 : Int32) (w : gW) : Option (Int32 × gW) :=
zb (f_Co_fitting w) (fun v1 w2 =>
zb (f_Cs_rowOf a1 w2) (fun v3 w4 =>
zb (f_Cs_rowOf a2 w4) (fun v5 w6 =>
zb (f_La_words w6) (fun v7 w8 =>
zb (f_Ro_meetsNot v1 v3 v5 v7 w8) (fun v9 w10 =>
if v9 = 0 then
(some ((1 : Int32), w10))
else
(some ((0 : Int32), w10)))))))
theorem g_Cs_canBoth {l : Launch} (a1 : Int32) (a2 : Int32) (w : gW) : gCt l m_Cs_canBoth 2 [.ref 88, .int a1, .int a2] w eI (f_Cs_canBoth a1 a2 w) := by
  intro Q h
  unfold f_Cs_canBoth at h
  show Gz l m_Cs_canBoth 2 0 [(0, .ref 88), (1, .int a1), (2, .int a2)] [] w Q
  refine Gz.aload_n (q := 0) (pc' := 1) (by decide +kernel) rfl 0 rfl ?_
  refine Gz.getR (pc' := 4) (j := 2) 73 fd_Cs_28 sh_88 rfl (by decide +kernel) rfl ?_
  refine Gz.callVR (st := []) (b := 73) (pc' := 7) [] (g_Co_fitting w) h ok_m_Co_fitting lk_Cs_44 sh_73 rfl rfl rfl (Nat.le_of_ble_eq_true rfl) (Nat.le_of_ble_eq_true rfl) (Nat.le_of_ble_eq_true rfl) (by decide +kernel) rfl (fun v1 w2 h => ?_)
  refine Gz.aload_n (q := 0) (pc' := 8) (by decide +kernel) rfl 0 rfl ?_
  refine Gz.iload_n (q := 1) (pc' := 9) (by decide +kernel) rfl 1 rfl ?_
  refine Gz.callVR (st := [.ref v1]) (b := 88) (pc' := 12) [.int a1] (g_Cs_rowOf a1 w2) h ok_m_Cs_rowOf lk_Cs_48 sh_88 rfl rfl rfl (Nat.le_of_ble_eq_true rfl) (Nat.le_of_ble_eq_true rfl) (Nat.le_of_ble_eq_true rfl) (by decide +kernel) rfl (fun v3 w4 h => ?_)
  refine Gz.aload_n (q := 0) (pc' := 13) (by decide +kernel) rfl 0 rfl ?_
  refine Gz.iload_n (q := 2) (pc' := 14) (by decide +kernel) rfl 2 rfl ?_
  refine Gz.callVR (st := [.ref v3, .ref v1]) (b := 88) (pc' := 17) [.int a2] (g_Cs_rowOf a2 w4) h ok_m_Cs_rowOf lk_Cs_48 sh_88 rfl rfl rfl (Nat.le_of_ble_eq_true rfl) (Nat.le_of_ble_eq_true rfl) (Nat.le_of_ble_eq_true rfl) (by decide +kernel) rfl (fun v5 w6 h => ?_)
  refine Gz.aload_n (q := 0) (pc' := 18) (by decide +kernel) rfl 0 rfl ?_
  refine Gz.getR (pc' := 21) (j := 0) 19 fd_Cs_20 sh_88 rfl (by decide +kernel) rfl ?_
  refine Gz.callVI (st := [.ref v5, .ref v3, .ref v1]) (b := 19) (pc' := 24) [] (g_La_words w6) h ok_m_La_words lk_Cs_52 sh_19 rfl rfl rfl (Nat.le_of_ble_eq_true rfl) (Nat.le_of_ble_eq_true rfl) (Nat.le_of_ble_eq_true rfl) (by decide +kernel) rfl (fun v7 w8 h => ?_)
  refine Gz.callSI (st := []) (pc' := 27) [.ref v1, .ref v3, .ref v5, .int v7] (g_Ro_meetsNot v1 v3 v5 v7 w8) h ok_m_Ro_meetsNot lk_Cs_57 rfl (Nat.le_of_ble_eq_true rfl) (Nat.le_of_ble_eq_true rfl) (Nat.le_of_ble_eq_true rfl) (by decide +kernel) rfl (fun v9 w10 h => ?_)
  refine Gz.if_ne (off := 7) (tgt := 34) (pc' := 30) (by decide +kernel) (by decide) rfl (fun c11 => ?_) (fun c11 => ?_)
  · have h := zok_f c11 h
    refine Gz.iconst (n := 0) (v := (0 : Int32)) (pc' := 35) (by decide +kernel) rfl rfl ?_
    exact Gz.zreturn (by decide +kernel) rfl (by decide) (zok_sI h)
  · have h := zok_t c11 h
    refine Gz.iconst (n := 1) (v := (1 : Int32)) (pc' := 31) (by decide +kernel) rfl rfl ?_
    refine Gz.goto (off := 4) (tgt := 35) (by decide +kernel) (by decide) ?_
    exact Gz.zreturn (by decide +kernel) rfl (by decide) (zok_sI h)
def f_Cs_canBe (a1 : Int32) (w : gW) : Option (Int32 × gW) :=
zb (f_Cs_canBoth a1 a1 w) (fun v1 w2 =>
if v1 &&& 1 = v1 then some (v1, w2) else none)
theorem g_Cs_canBe {l : Launch} (a1 : Int32) (w : gW) : gCt l m_Cs_canBe 3 [.ref 88, .int a1] w eI (f_Cs_canBe a1 w) := by
  intro Q h
  unfold f_Cs_canBe at h
  show Gz l m_Cs_canBe 3 0 [(0, .ref 88), (1, .int a1)] [] w Q
  refine Gz.aload_n (q := 0) (pc' := 1) (by decide +kernel) rfl 0 rfl ?_
  refine Gz.iload_n (q := 1) (pc' := 2) (by decide +kernel) rfl 1 rfl ?_
  refine Gz.iload_n (q := 1) (pc' := 3) (by decide +kernel) rfl 1 rfl ?_
  refine Gz.callVI (st := []) (b := 88) (pc' := 6) [.int a1, .int a1] (g_Cs_canBoth a1 a1 w) h ok_m_Cs_canBoth lk_Cs_63 sh_88 rfl rfl rfl (Nat.le_of_ble_eq_true rfl) (Nat.le_of_ble_eq_true rfl) (Nat.le_of_ble_eq_true rfl) (by decide +kernel) rfl (fun v1 w2 h => ?_)
  obtain ⟨c3, h⟩ := zok_c h
  exact Gz.zreturn (by decide +kernel) rfl c3 (zok_sI h)
def f_Cs_openAsHeard_b31 (k4 : Int32 → Int32 → gW → Option (Int32 × gW)) (x2 : Int32) (s0 : Int32) (s1 : Int32) (w : gW) : Option (Int32 × gW) :=
zl (s0 ||| s1) (fun v1 =>
zl (x2 + (1 : Int32)) (fun v3 =>
k4 v1 v3 w))
def f_Cs_openAsHeard_b4_s (k4 : Int32 → Int32 → gW → Option (Int32 × gW)) (x1 : Int32) (x2 : Int32) (w : gW) : Option (Int32 × gW) :=
zb (f_Oa_size w) (fun v1 w2 =>
if v1 ≤ x2 then
(some (x1, w2))
else
(zb (f_Cs_canBe x2 w2) (fun v4 w5 =>
if v4 = 0 then
(f_Cs_openAsHeard_b31 k4 x2 x1 (0 : Int32) w5)
else
(f_Cs_openAsHeard_b31 k4 x2 x1 ((1 : Int32) <<< (x2 &&& 31)) w5))))
def f_Cs_openAsHeard_b4 : Int32 → Int32 → gW → Option (Int32 × gW) := zfx (fun _ _ _ => none) (f_Cs_openAsHeard_b4_s) zFU
def f_Cs_openAsHeard (w : gW) : Option (Int32 × gW) :=
f_Cs_openAsHeard_b4 (0 : Int32) (0 : Int32) w
theorem g_Cs_openAsHeard_b31 {l : Launch} {Q : Option Value → gW → Prop} (k4 : Int32 → Int32 → gW → Option (Int32 × gW)) (hk4 : ∀ (x1 : Int32) (x2 : Int32) (w : gW), zok eI (k4 x1 x2 w) Q → Gz l m_Cs_openAsHeard 4 4 [(0, .ref 88), (1, .int x1), (2, .int x2)] [] w Q) (x2 : Int32) (s0 : Int32) (s1 : Int32) (w : gW) (h : zok eI (f_Cs_openAsHeard_b31 k4 x2 s0 s1 w) Q) : Gz l m_Cs_openAsHeard 4 31 [(0, .ref 88), (2, .int x2)] [.int s1, .int s0] w Q := by
  unfold f_Cs_openAsHeard_b31 at h
  refine Gz.ior (pc' := 32) (by decide +kernel) rfl ?_
  refine Gz.nmI (fun v1 e2 => ?_)
  have h := zok_l e2 h
  refine Gz.istore_n (q := 1) (pc' := 33) (L' := [(1, .int v1), (0, .ref 88), (2, .int x2)]) (by decide +kernel) rfl (Nat.le_of_ble_eq_true rfl) rfl ?_
  obtain ⟨v3, e4⟩ : ∃ y : Int32, y = x2 + (1 : Int32) := ⟨_, rfl⟩
  have h := zok_l e4 h
  refine Gz.iinc (i := 2) (n := 1) (pc' := 36) (L' := [(2, .int v3), (1, .int v1), (0, .ref 88)]) v3 (by decide +kernel) rfl 2 rfl (by rw [e4]; rfl) (Nat.le_of_ble_eq_true rfl) rfl ?_
  refine Gz.goto (off := -32) (tgt := 4) (by decide +kernel) (by decide) ?_
  refine Gz.sub (L' := [(0, .ref 88), (1, .int v1), (2, .int v3)]) [2, 1, 0] rfl ?_
  exact hk4 v1 v3 w h
theorem g_Cs_openAsHeard_b4_s {l : Launch} {Q : Option Value → gW → Prop} (k4 : Int32 → Int32 → gW → Option (Int32 × gW)) (hk4 : ∀ (x1 : Int32) (x2 : Int32) (w : gW), zok eI (k4 x1 x2 w) Q → Gz l m_Cs_openAsHeard 4 4 [(0, .ref 88), (1, .int x1), (2, .int x2)] [] w Q) (x1 : Int32) (x2 : Int32) (w : gW) (h : zok eI (f_Cs_openAsHeard_b4_s k4 x1 x2 w) Q) : Gz l m_Cs_openAsHeard 4 4 [(0, .ref 88), (1, .int x1), (2, .int x2)] [] w Q := by
  unfold f_Cs_openAsHeard_b4_s at h
  refine Gz.iload_n (q := 2) (pc' := 5) (by decide +kernel) rfl 2 rfl ?_
  refine Gz.aload_n (q := 0) (pc' := 6) (by decide +kernel) rfl 0 rfl ?_
  refine Gz.getR (pc' := 9) (j := 1) 5 fd_Cs_24 sh_88 rfl (by decide +kernel) rfl ?_
  refine Gz.callVI (st := [.int x2]) (b := 5) (pc' := 12) [] (g_Oa_size w) h ok_m_Oa_size lk_Cs_32 sh_5 rfl rfl rfl (Nat.le_of_ble_eq_true rfl) (Nat.le_of_ble_eq_true rfl) (Nat.le_of_ble_eq_true rfl) (by decide +kernel) rfl (fun v1 w2 h => ?_)
  refine Gz.icmp_ge (off := 27) (tgt := 39) (pc' := 15) (by decide +kernel) (by decide) rfl (fun c3 => ?_) (fun c3 => ?_)
  · have h := zok_t c3 h
    refine Gz.iload_n (q := 1) (pc' := 40) (by decide +kernel) rfl 1 rfl ?_
    exact Gz.ireturn (by decide +kernel) rfl (zok_sI h)
  · have h := zok_f c3 h
    refine Gz.iload_n (q := 1) (pc' := 16) (by decide +kernel) rfl 1 rfl ?_
    refine Gz.aload_n (q := 0) (pc' := 17) (by decide +kernel) rfl 0 rfl ?_
    refine Gz.iload_n (q := 2) (pc' := 18) (by decide +kernel) rfl 2 rfl ?_
    refine Gz.callVI (st := [.int x1]) (b := 88) (pc' := 21) [.int x2] (g_Cs_canBe x2 w2) h ok_m_Cs_canBe lk_Cs_80 sh_88 rfl rfl rfl (Nat.le_of_ble_eq_true rfl) (Nat.le_of_ble_eq_true rfl) (Nat.le_of_ble_eq_true rfl) (by decide +kernel) rfl (fun v4 w5 h => ?_)
    refine Gz.if_eq (off := 9) (tgt := 30) (pc' := 24) (by decide +kernel) (by decide) rfl (fun c6 => ?_) (fun c6 => ?_)
    · have h := zok_t c6 h
      refine Gz.iconst (n := 0) (v := (0 : Int32)) (pc' := 31) (by decide +kernel) rfl rfl ?_
      refine Gz.sub (L' := [(0, .ref 88), (2, .int x2)]) [0, 2] rfl ?_
      exact g_Cs_openAsHeard_b31 k4 hk4 x2 x1 (0 : Int32) w5 h
    · have h := zok_f c6 h
      refine Gz.iconst (n := 1) (v := (1 : Int32)) (pc' := 25) (by decide +kernel) rfl rfl ?_
      refine Gz.iload_n (q := 2) (pc' := 26) (by decide +kernel) rfl 2 rfl ?_
      refine Gz.ishl (pc' := 27) (by decide +kernel) rfl ?_
      refine Gz.goto (off := 4) (tgt := 31) (by decide +kernel) (by decide) ?_
      refine Gz.sub (L' := [(0, .ref 88), (2, .int x2)]) [0, 2] rfl ?_
      exact g_Cs_openAsHeard_b31 k4 hk4 x2 x1 ((1 : Int32) <<< (x2 &&& 31)) w5 h
theorem g_Cs_openAsHeard_b4 {l : Launch} {Q : Option Value → gW → Prop} (x1 : Int32) (x2 : Int32) (w : gW) (h : zok eI (f_Cs_openAsHeard_b4 x1 x2 w) Q) : Gz l m_Cs_openAsHeard 4 4 [(0, .ref 88), (1, .int x1), (2, .int x2)] [] w Q := by
  have key : ∀ (n : Nat) (x1 : Int32) (x2 : Int32) (w : gW), zok eI (zfx (fun _ _ _ => none) (f_Cs_openAsHeard_b4_s) n x1 x2 w) Q → Gz l m_Cs_openAsHeard 4 4 [(0, .ref 88), (1, .int x1), (2, .int x2)] [] w Q := by
    intro n
    induction n with
    | zero => intro x1 x2 w h; exact zok_n h
    | succ n ih => intro x1 x2 w h; exact g_Cs_openAsHeard_b4_s _ ih x1 x2 w h
  exact key zFU x1 x2 w h
theorem g_Cs_openAsHeard {l : Launch} (w : gW) : gCt l m_Cs_openAsHeard 4 [.ref 88] w eI (f_Cs_openAsHeard w) := by
  intro Q h
  unfold f_Cs_openAsHeard at h
  show Gz l m_Cs_openAsHeard 4 0 [(0, .ref 88)] [] w Q
  refine Gz.iconst (n := 0) (v := (0 : Int32)) (pc' := 1) (by decide +kernel) rfl rfl ?_
  refine Gz.istore_n (q := 1) (pc' := 2) (L' := [(1, .int (0 : Int32)), (0, .ref 88)]) (by decide +kernel) rfl (Nat.le_of_ble_eq_true rfl) rfl ?_
  refine Gz.iconst (n := 0) (v := (0 : Int32)) (pc' := 3) (by decide +kernel) rfl rfl ?_
  refine Gz.istore_n (q := 2) (pc' := 4) (L' := [(2, .int (0 : Int32)), (1, .int (0 : Int32)), (0, .ref 88)]) (by decide +kernel) rfl (Nat.le_of_ble_eq_true rfl) rfl ?_
  refine Gz.sub (L' := [(0, .ref 88), (1, .int (0 : Int32)), (2, .int (0 : Int32))]) [2, 1, 0] rfl ?_
  exact g_Cs_openAsHeard_b4 (0 : Int32) (0 : Int32) w h
def f_Cs_openOn (a1 : Int32) (w : gW) : Option (Int32 × gW) :=
zb (f_Cs_hearAll a1 w) (fun _ w1 =>
zb (f_Cs_openAsHeard w1) (fun v2 w3 =>
some (v2, w3)))
theorem g_Cs_openOn {l : Launch} (a1 : Int32) (w : gW) : gCt l m_Cs_openOn 6 [.ref 88, .int a1] w eI (f_Cs_openOn a1 w) := by
  intro Q h
  unfold f_Cs_openOn at h
  show Gz l m_Cs_openOn 6 0 [(0, .ref 88), (1, .int a1)] [] w Q
  refine Gz.aload_n (q := 0) (pc' := 1) (by decide +kernel) rfl 0 rfl ?_
  refine Gz.iload_n (q := 1) (pc' := 2) (by decide +kernel) rfl 1 rfl ?_
  refine Gz.callVV (st := []) (b := 88) (pc' := 5) [.int a1] (g_Cs_hearAll a1 w) h ok_m_Cs_hearAll lk_Cs_73 sh_88 rfl rfl rfl (Nat.le_of_ble_eq_true rfl) (Nat.le_of_ble_eq_true rfl) (Nat.le_of_ble_eq_true rfl) (by decide +kernel) rfl (fun _ w1 h => ?_)
  refine Gz.aload_n (q := 0) (pc' := 6) (by decide +kernel) rfl 0 rfl ?_
  refine Gz.callVI (st := []) (b := 88) (pc' := 9) [] (g_Cs_openAsHeard w1) h ok_m_Cs_openAsHeard lk_Cs_77 sh_88 rfl rfl rfl (Nat.le_of_ble_eq_true rfl) (Nat.le_of_ble_eq_true rfl) (Nat.le_of_ble_eq_true rfl) (by decide +kernel) rfl (fun v2 w3 h => ?_)
  exact Gz.ireturn (by decide +kernel) rfl (zok_sI h)
def f_X_may (a1 : Int32) (w : gW) : Option (Int32 × gW) :=
zb (f_La_isDay a1 w) (fun v1 w2 =>
if v1 = 0 then
(some ((-1 : Int32), w2))
else
(zb (f_Cs_openOn a1 w2) (fun v4 w5 =>
some (v4, w5))))
theorem g_X_may {l : Launch} (a1 : Int32) (w : gW) : gCt l m_X_may 7 [.ref 0, .int a1] w eI (f_X_may a1 w) := by
  intro Q h
  unfold f_X_may at h
  show Gz l m_X_may 7 0 [(0, .ref 0), (1, .int a1)] [] w Q
  refine Gz.aload_n (q := 0) (pc' := 1) (by decide +kernel) rfl 0 rfl ?_
  refine Gz.getR (pc' := 4) (j := 3) 19 fd_X_33 sh_0 rfl (by decide +kernel) rfl ?_
  refine Gz.iload_n (q := 1) (pc' := 5) (by decide +kernel) rfl 1 rfl ?_
  refine Gz.callVI (st := []) (b := 19) (pc' := 8) [.int a1] (g_La_isDay a1 w) h ok_m_La_isDay lk_X_222 sh_19 rfl rfl rfl (Nat.le_of_ble_eq_true rfl) (Nat.le_of_ble_eq_true rfl) (Nat.le_of_ble_eq_true rfl) (by decide +kernel) rfl (fun v1 w2 h => ?_)
  refine Gz.if_eq (off := 14) (tgt := 22) (pc' := 11) (by decide +kernel) (by decide) rfl (fun c3 => ?_) (fun c3 => ?_)
  · have h := zok_t c3 h
    refine Gz.iconst (n := -1) (v := (-1 : Int32)) (pc' := 23) (by decide +kernel) rfl rfl ?_
    exact Gz.ireturn (by decide +kernel) rfl (zok_sI h)
  · have h := zok_f c3 h
    refine Gz.aload_n (q := 0) (pc' := 12) (by decide +kernel) rfl 0 rfl ?_
    refine Gz.getR (pc' := 15) (j := 7) 88 fd_X_61 sh_0 rfl (by decide +kernel) rfl ?_
    refine Gz.iload_n (q := 1) (pc' := 16) (by decide +kernel) rfl 1 rfl ?_
    refine Gz.callVI (st := []) (b := 88) (pc' := 19) [.int a1] (g_Cs_openOn a1 w2) h ok_m_Cs_openOn lk_X_225 sh_88 rfl rfl rfl (Nat.le_of_ble_eq_true rfl) (Nat.le_of_ble_eq_true rfl) (Nat.le_of_ble_eq_true rfl) (by decide +kernel) rfl (fun v4 w5 h => ?_)
    refine Gz.goto (off := 4) (tgt := 23) (by decide +kernel) (by decide) ?_
    exact Gz.ireturn (by decide +kernel) rfl (zok_sI h)
def f_X_isZeroOrOne_b9 (w : gW) : Option (Int32 × gW) :=
some ((1 : Int32), w)
def f_X_isZeroOrOne (a0 : Int32) (w : gW) : Option (Int32 × gW) :=
if a0 = 0 then
(f_X_isZeroOrOne_b9 w)
else
(if a0 = (1 : Int32) then
(f_X_isZeroOrOne_b9 w)
else
(some ((0 : Int32), w)))
theorem g_X_isZeroOrOne_b9 {l : Launch} {Q : Option Value → gW → Prop} (w : gW) (h : zok eI (f_X_isZeroOrOne_b9 w) Q) : Gz l m_X_isZeroOrOne 1 9 [] [] w Q := by
  unfold f_X_isZeroOrOne_b9 at h
  refine Gz.iconst (n := 1) (v := (1 : Int32)) (pc' := 10) (by decide +kernel) rfl rfl ?_
  refine Gz.goto (off := 4) (tgt := 14) (by decide +kernel) (by decide) ?_
  exact Gz.zreturn (by decide +kernel) rfl (by decide) (zok_sI h)
theorem g_X_isZeroOrOne {l : Launch} (a0 : Int32) (w : gW) : gCt l m_X_isZeroOrOne 1 [.int a0] w eI (f_X_isZeroOrOne a0 w) := by
  intro Q h
  unfold f_X_isZeroOrOne at h
  show Gz l m_X_isZeroOrOne 1 0 [(0, .int a0)] [] w Q
  refine Gz.iload_n (q := 0) (pc' := 1) (by decide +kernel) rfl 0 rfl ?_
  refine Gz.if_eq (off := 8) (tgt := 9) (pc' := 4) (by decide +kernel) (by decide) rfl (fun c1 => ?_) (fun c1 => ?_)
  · have h := zok_t c1 h
    refine Gz.sub (L' := []) [] rfl ?_
    exact g_X_isZeroOrOne_b9 w h
  · have h := zok_f c1 h
    refine Gz.iload_n (q := 0) (pc' := 5) (by decide +kernel) rfl 0 rfl ?_
    refine Gz.iconst (n := 1) (v := (1 : Int32)) (pc' := 6) (by decide +kernel) rfl rfl ?_
    refine Gz.icmp_ne (off := 7) (tgt := 13) (pc' := 9) (by decide +kernel) (by decide) rfl (fun c2 => ?_) (fun c2 => ?_)
    · have h := zok_f c2 h
      refine Gz.iconst (n := 0) (v := (0 : Int32)) (pc' := 14) (by decide +kernel) rfl rfl ?_
      exact Gz.zreturn (by decide +kernel) rfl (by decide) (zok_sI h)
    · have h := zok_t c2 h
      refine Gz.sub (L' := []) [] rfl ?_
      exact g_X_isZeroOrOne_b9 w h
def f_Ro_startLevels (a0 : Nat) (a1 : Int64) (w : gW) : Option (Unit × gW) :=
zb (f_Arr_fill_AJJ a0 (0 : Int64) w) (fun _ w1 =>
if (g_sh a0).1 = 2 then
if (nI (g_len 2 a0)) ≤ 0 then
(some ((), w1))
else
(if inb (0 : Int32) (g_len 2 a0) then
zl (zsL w1 a0 (ix (0 : Int32)) a1) (fun w5 =>
some ((), w5))
else none)
else none)
theorem g_Ro_startLevels {l : Launch} (a0 : Nat) (a1 : Int64) (w : gW) : gCt l m_Ro_startLevels 2 [.ref a0, .long a1] w eV (f_Ro_startLevels a0 a1 w) := by
  intro Q h
  unfold f_Ro_startLevels at h
  show Gz l m_Ro_startLevels 2 0 [(0, .ref a0), (1, .long a1)] [] w Q
  refine Gz.aload_n (q := 0) (pc' := 1) (by decide +kernel) rfl 0 rfl ?_
  refine Gz.lconst (n := 0) (v := (0 : Int64)) (pc' := 2) (by decide +kernel) rfl rfl ?_
  refine Gz.callSV (st := []) (pc' := 5) [.ref a0, .long (0 : Int64)] (g_Arr_fill_AJJ a0 (0 : Int64) w) h ok_m_Arr_fill_AJJ lk_Ro_9 rfl (Nat.le_of_ble_eq_true rfl) (Nat.le_of_ble_eq_true rfl) (Nat.le_of_ble_eq_true rfl) (by decide +kernel) rfl (fun _ w1 h => ?_)
  refine Gz.aload_n (q := 0) (pc' := 6) (by decide +kernel) rfl 0 rfl ?_
  obtain ⟨c2, h⟩ := zok_c h
  refine Gz.alen (pc' := 7) (n := g_len 2 a0) (kd := 2) (by decide +kernel) rfl (Or.inr rfl) c2 rfl ?_
  refine Gz.if_le (off := 7) (tgt := 14) (pc' := 10) (by decide +kernel) (by decide) rfl (fun c3 => ?_) (fun c3 => ?_)
  · have h := zok_t c3 h
    exact Gz.return_ (by decide +kernel) rfl (zok_sV h)
  · have h := zok_f c3 h
    refine Gz.aload_n (q := 0) (pc' := 11) (by decide +kernel) rfl 0 rfl ?_
    refine Gz.iconst (n := 0) (v := (0 : Int32)) (pc' := 12) (by decide +kernel) rfl rfl ?_
    refine Gz.lload_n (q := 1) (pc' := 13) (by decide +kernel) rfl 1 rfl ?_
    obtain ⟨c4, h⟩ := zok_c h
    refine Gz.last (pc' := 14) (n := (g_len 2 a0)) (by decide +kernel) rfl rfl c4 ?_
    refine Gz.nmW (fun w5 e6 => ?_)
    have h := zok_l e6 h
    exact Gz.return_ (by decide +kernel) rfl (zok_sV h)
def f_Ro_addLevel_b5_s (k5 : Nat → Int64 → Int32 → gW → Option (Unit × gW)) (x0 : Nat) (x1 : Int64) (x3 : Int32) (w : gW) : Option (Unit × gW) :=
if x3 < 0 then
(some ((), w))
else
(if inb (x3 + (1 : Int32)) (g_len 2 x0) then
if inb x3 (g_len 2 x0) then
if inb (x3 + (1 : Int32)) (g_len 2 x0) then
zl (zsL w x0 (ix (x3 + (1 : Int32))) ((w.2 x0 (ix (x3 + (1 : Int32)))) ||| ((w.2 x0 (ix x3)) &&& x1))) (fun w5 =>
zl (x3 + (-1 : Int32)) (fun v7 =>
k5 x0 x1 v7 w5))
else none
else none
else none)
def f_Ro_addLevel_b5 : Nat → Int64 → Int32 → gW → Option (Unit × gW) := zfx (fun _ _ _ _ => none) (f_Ro_addLevel_b5_s) zFU
def f_Ro_addLevel (a0 : Nat) (a1 : Int64) (w : gW) : Option (Unit × gW) :=
if (g_sh a0).1 = 2 then
zl ((nI (g_len 2 a0)) - (2 : Int32)) (fun v2 =>
f_Ro_addLevel_b5 a0 a1 v2 w)
else none
theorem g_Ro_addLevel_b5_s {l : Launch} {Q : Option Value → gW → Prop} (k5 : Nat → Int64 → Int32 → gW → Option (Unit × gW)) (hk5 : ∀ (x0 : Nat) (x1 : Int64) (x3 : Int32) (w : gW), zok eV (k5 x0 x1 x3 w) Q → Gz l m_Ro_addLevel 1 5 [(0, .ref x0), (1, .long x1), (3, .int x3)] [] w Q) (x0 : Nat) (x1 : Int64) (x3 : Int32) (w : gW) (h : zok eV (f_Ro_addLevel_b5_s k5 x0 x1 x3 w) Q) : Gz l m_Ro_addLevel 1 5 [(0, .ref x0), (1, .long x1), (3, .int x3)] [] w Q := by
  unfold f_Ro_addLevel_b5_s at h
  refine Gz.iload_n (q := 3) (pc' := 6) (by decide +kernel) rfl 2 rfl ?_
  refine Gz.if_lt (off := 22) (tgt := 28) (pc' := 9) (by decide +kernel) (by decide) rfl (fun c1 => ?_) (fun c1 => ?_)
  · have h := zok_t c1 h
    exact Gz.return_ (by decide +kernel) rfl (zok_sV h)
  · have h := zok_f c1 h
    refine Gz.aload_n (q := 0) (pc' := 10) (by decide +kernel) rfl 0 rfl ?_
    refine Gz.iload_n (q := 3) (pc' := 11) (by decide +kernel) rfl 2 rfl ?_
    refine Gz.iconst (n := 1) (v := (1 : Int32)) (pc' := 12) (by decide +kernel) rfl rfl ?_
    refine Gz.iadd (pc' := 13) (by decide +kernel) rfl ?_
    refine Gz.dup2 (pc' := 14) (by decide +kernel) rfl rfl rfl ?_
    obtain ⟨c2, h⟩ := zok_c h
    refine Gz.lald (pc' := 15) (n := (g_len 2 x0)) (by decide +kernel) rfl rfl c2 ?_
    refine Gz.aload_n (q := 0) (pc' := 16) (by decide +kernel) rfl 0 rfl ?_
    refine Gz.iload_n (q := 3) (pc' := 17) (by decide +kernel) rfl 2 rfl ?_
    obtain ⟨c3, h⟩ := zok_c h
    refine Gz.lald (pc' := 18) (n := (g_len 2 x0)) (by decide +kernel) rfl rfl c3 ?_
    refine Gz.lload_n (q := 1) (pc' := 19) (by decide +kernel) rfl 1 rfl ?_
    refine Gz.land (pc' := 20) (by decide +kernel) rfl ?_
    refine Gz.lor (pc' := 21) (by decide +kernel) rfl ?_
    obtain ⟨c4, h⟩ := zok_c h
    refine Gz.last (pc' := 22) (n := (g_len 2 x0)) (by decide +kernel) rfl rfl c4 ?_
    refine Gz.nmW (fun w5 e6 => ?_)
    have h := zok_l e6 h
    obtain ⟨v7, e8⟩ : ∃ y : Int32, y = x3 + (-1 : Int32) := ⟨_, rfl⟩
    have h := zok_l e8 h
    refine Gz.iinc (i := 3) (n := -1) (pc' := 25) (L' := [(3, .int v7), (0, .ref x0), (1, .long x1)]) v7 (by decide +kernel) rfl 2 rfl (by rw [e8]; rfl) (Nat.le_of_ble_eq_true rfl) rfl ?_
    refine Gz.goto (off := -20) (tgt := 5) (by decide +kernel) (by decide) ?_
    refine Gz.sub (L' := [(0, .ref x0), (1, .long x1), (3, .int v7)]) [1, 2, 0] rfl ?_
    exact hk5 x0 x1 v7 w5 h
theorem g_Ro_addLevel_b5 {l : Launch} {Q : Option Value → gW → Prop} (x0 : Nat) (x1 : Int64) (x3 : Int32) (w : gW) (h : zok eV (f_Ro_addLevel_b5 x0 x1 x3 w) Q) : Gz l m_Ro_addLevel 1 5 [(0, .ref x0), (1, .long x1), (3, .int x3)] [] w Q := by
  have key : ∀ (n : Nat) (x0 : Nat) (x1 : Int64) (x3 : Int32) (w : gW), zok eV (zfx (fun _ _ _ _ => none) (f_Ro_addLevel_b5_s) n x0 x1 x3 w) Q → Gz l m_Ro_addLevel 1 5 [(0, .ref x0), (1, .long x1), (3, .int x3)] [] w Q := by
    intro n
    induction n with
    | zero => intro x0 x1 x3 w h; exact zok_n h
    | succ n ih => intro x0 x1 x3 w h; exact g_Ro_addLevel_b5_s _ ih x0 x1 x3 w h
  exact key zFU x0 x1 x3 w h
theorem g_Ro_addLevel {l : Launch} (a0 : Nat) (a1 : Int64) (w : gW) : gCt l m_Ro_addLevel 1 [.ref a0, .long a1] w eV (f_Ro_addLevel a0 a1 w) := by
  intro Q h
  unfold f_Ro_addLevel at h
  show Gz l m_Ro_addLevel 1 0 [(0, .ref a0), (1, .long a1)] [] w Q
  refine Gz.aload_n (q := 0) (pc' := 1) (by decide +kernel) rfl 0 rfl ?_
  obtain ⟨c1, h⟩ := zok_c h
  refine Gz.alen (pc' := 2) (n := g_len 2 a0) (kd := 2) (by decide +kernel) rfl (Or.inr rfl) c1 rfl ?_
  refine Gz.iconst (n := 2) (v := (2 : Int32)) (pc' := 3) (by decide +kernel) rfl rfl ?_
  refine Gz.isub (pc' := 4) (by decide +kernel) rfl ?_
  refine Gz.nmI (fun v2 e3 => ?_)
  have h := zok_l e3 h
  refine Gz.istore_n (q := 3) (pc' := 5) (L' := [(3, .int v2), (0, .ref a0), (1, .long a1)]) (by decide +kernel) rfl (Nat.le_of_ble_eq_true rfl) rfl ?_
  refine Gz.sub (L' := [(0, .ref a0), (1, .long a1), (3, .int v2)]) [1, 2, 0] rfl ?_
  exact g_Ro_addLevel_b5 a0 a1 v2 w h
