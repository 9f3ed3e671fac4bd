def f_Cs_alike_b91 (k10 : Int32 → Int32 → Int32 → gW → Option (Int32 × gW)) (x1 : Int32) (x4 : Int32) (s0 : Int32) (s1 : Int32) (w : gW) : Option (Int32 × gW) :=
zl (s0 ||| s1) (fun v1 =>
zl (x4 + (1 : Int32)) (fun v3 =>
k10 x1 v1 v3 w))
def f_Cs_alike_b75 (k10 : Int32 → Int32 → Int32 → gW → Option (Int32 × gW)) (x1 : Int32) (x3 : Int32) (x4 : Int32) (s0 : Int32) (w : gW) : Option (Int32 × gW) :=
if s0 = 0 then
(f_Cs_alike_b91 k10 x1 x4 x3 (0 : Int32) w)
else
(f_Cs_alike_b91 k10 x1 x4 x3 ((1 : Int32) <<< (x4 &&& 31)) w)
def f_Cs_alike_b74 (k10 : Int32 → Int32 → Int32 → gW → Option (Int32 × gW)) (x1 : Int32) (x3 : Int32) (x4 : Int32) (w : gW) : Option (Int32 × gW) :=
f_Cs_alike_b75 k10 x1 x3 x4 (0 : Int32) w
def f_Cs_alike_b10_s (k10 : Int32 → Int32 → Int32 → gW → Option (Int32 × gW)) (x1 : Int32) (x3 : Int32) (x4 : Int32) (w : gW) : Option (Int32 × gW) :=
zb (f_Oa_size w) (fun v1 w2 =>
if v1 ≤ x4 then
(some (x3, w2))
else
(zb (f_Cs_rowOf x1 w2) (fun v4 w5 =>
zb (f_Cs_rowOf x4 w5) (fun v6 w7 =>
zb (f_La_words w7) (fun v8 w9 =>
zb (f_Ro_isWithin v4 v6 v8 w9) (fun v10 w11 =>
if v10 = 0 then
(f_Cs_alike_b74 k10 x1 x3 x4 w11)
else
(zb (f_Cs_rowOf x4 w11) (fun v13 w14 =>
zb (f_Cs_rowOf x1 w14) (fun v15 w16 =>
zb (f_La_words w16) (fun v17 w18 =>
zb (f_Ro_isWithin v13 v15 v17 w18) (fun v19 w20 =>
if v19 = 0 then
(f_Cs_alike_b74 k10 x1 x3 x4 w20)
else
(f_Cs_alike_b75 k10 x1 x3 x4 (1 : Int32) w20))))))))))))
def f_Cs_alike_b10 : Int32 → Int32 → Int32 → gW → Option (Int32 × gW) := zfx (fun _ _ _ _ => none) (f_Cs_alike_b10_s) zFU
def f_Cs_alike (a1 : Int32) (a2 : Int32) (w : gW) : Option (Int32 × gW) :=
zb (f_Cs_hearAll a2 w) (fun _ w1 =>
f_Cs_alike_b10 a1 (0 : Int32) (0 : Int32) w1)
theorem g_Cs_alike_b91 {l : Launch} {Q : Option Value → gW → Prop} (k10 : Int32 → Int32 → Int32 → gW → Option (Int32 × gW)) (hk10 : ∀ (x1 : Int32) (x3 : Int32) (x4 : Int32) (w : gW), zok eI (k10 x1 x3 x4 w) Q → Gz l m_Cs_alike 6 10 [(0, .ref 88), (1, .int x1), (3, .int x3), (4, .int x4)] [] w Q) (x1 : Int32) (x4 : Int32) (s0 : Int32) (s1 : Int32) (w : gW) (h : zok eI (f_Cs_alike_b91 k10 x1 x4 s0 s1 w) Q) : Gz l m_Cs_alike 6 91 [(0, .ref 88), (1, .int x1), (4, .int x4)] [.int s1, .int s0] w Q := by
  unfold f_Cs_alike_b91 at h
  refine Gz.ior (pc' := 92) (by decide +kernel) rfl ?_
  refine Gz.nmI (fun v1 e2 => ?_)
  have h := zok_l e2 h
  refine Gz.istore_n (q := 3) (pc' := 93) (L' := [(3, .int v1), (0, .ref 88), (1, .int x1), (4, .int x4)]) (by decide +kernel) rfl (Nat.le_of_ble_eq_true rfl) rfl ?_
  obtain ⟨v3, e4⟩ : ∃ y : Int32, y = x4 + (1 : Int32) := ⟨_, rfl⟩
  have h := zok_l e4 h
  refine Gz.iinc (i := 4) (n := 1) (pc' := 96) (L' := [(4, .int v3), (3, .int v1), (0, .ref 88), (1, .int x1)]) v3 (by decide +kernel) rfl 3 rfl (by rw [e4]; rfl) (Nat.le_of_ble_eq_true rfl) rfl ?_
  refine Gz.goto (off := -86) (tgt := 10) (by decide +kernel) (by decide) ?_
  refine Gz.sub (L' := [(0, .ref 88), (1, .int x1), (3, .int v1), (4, .int v3)]) [2, 3, 1, 0] rfl ?_
  exact hk10 x1 v1 v3 w h
theorem g_Cs_alike_b75 {l : Launch} {Q : Option Value → gW → Prop} (k10 : Int32 → Int32 → Int32 → gW → Option (Int32 × gW)) (hk10 : ∀ (x1 : Int32) (x3 : Int32) (x4 : Int32) (w : gW), zok eI (k10 x1 x3 x4 w) Q → Gz l m_Cs_alike 6 10 [(0, .ref 88), (1, .int x1), (3, .int x3), (4, .int x4)] [] w Q) (x1 : Int32) (x3 : Int32) (x4 : Int32) (s0 : Int32) (w : gW) (h : zok eI (f_Cs_alike_b75 k10 x1 x3 x4 s0 w) Q) : Gz l m_Cs_alike 6 75 [(0, .ref 88), (1, .int x1), (3, .int x3), (4, .int x4)] [.int s0] w Q := by
  unfold f_Cs_alike_b75 at h
  refine Gz.istore (i := 5) (pc' := 77) (L' := [(5, .int s0), (0, .ref 88), (1, .int x1), (3, .int x3), (4, .int x4)]) (by decide +kernel) rfl (Nat.le_of_ble_eq_true rfl) rfl ?_
  refine Gz.iload_n (q := 3) (pc' := 78) (by decide +kernel) rfl 3 rfl ?_
  refine Gz.iload (i := 5) (pc' := 80) (by decide +kernel) rfl 0 rfl ?_
  refine Gz.if_eq (off := 10) (tgt := 90) (pc' := 83) (by decide +kernel) (by decide) rfl (fun c1 => ?_) (fun c1 => ?_)
  · have h := zok_t c1 h
    refine Gz.iconst (n := 0) (v := (0 : Int32)) (pc' := 91) (by decide +kernel) rfl rfl ?_
    refine Gz.sub (L' := [(0, .ref 88), (1, .int x1), (4, .int x4)]) [1, 2, 4] rfl ?_
    exact g_Cs_alike_b91 k10 hk10 x1 x4 x3 (0 : Int32) w h
  · have h := zok_f c1 h
    refine Gz.iconst (n := 1) (v := (1 : Int32)) (pc' := 84) (by decide +kernel) rfl rfl ?_
    refine Gz.iload (i := 4) (pc' := 86) (by decide +kernel) rfl 4 rfl ?_
    refine Gz.ishl (pc' := 87) (by decide +kernel) rfl ?_
    refine Gz.goto (off := 4) (tgt := 91) (by decide +kernel) (by decide) ?_
    refine Gz.sub (L' := [(0, .ref 88), (1, .int x1), (4, .int x4)]) [1, 2, 4] rfl ?_
    exact g_Cs_alike_b91 k10 hk10 x1 x4 x3 ((1 : Int32) <<< (x4 &&& 31)) w h
theorem g_Cs_alike_b74 {l : Launch} {Q : Option Value → gW → Prop} (k10 : Int32 → Int32 → Int32 → gW → Option (Int32 × gW)) (hk10 : ∀ (x1 : Int32) (x3 : Int32) (x4 : Int32) (w : gW), zok eI (k10 x1 x3 x4 w) Q → Gz l m_Cs_alike 6 10 [(0, .ref 88), (1, .int x1), (3, .int x3), (4, .int x4)] [] w Q) (x1 : Int32) (x3 : Int32) (x4 : Int32) (w : gW) (h : zok eI (f_Cs_alike_b74 k10 x1 x3 x4 w) Q) : Gz l m_Cs_alike 6 74 [(0, .ref 88), (1, .int x1), (3, .int x3), (4, .int x4)] [] w Q := by
  unfold f_Cs_alike_b74 at h
  refine Gz.iconst (n := 0) (v := (0 : Int32)) (pc' := 75) (by decide +kernel) rfl rfl ?_
  exact g_Cs_alike_b75 k10 hk10 x1 x3 x4 (0 : Int32) w h
theorem g_Cs_alike_b10_s {l : Launch} {Q : Option Value → gW → Prop} (k10 : Int32 → Int32 → Int32 → gW → Option (Int32 × gW)) (hk10 : ∀ (x1 : Int32) (x3 : Int32) (x4 : Int32) (w : gW), zok eI (k10 x1 x3 x4 w) Q → Gz l m_Cs_alike 6 10 [(0, .ref 88), (1, .int x1), (3, .int x3), (4, .int x4)] [] w Q) (x1 : Int32) (x3 : Int32) (x4 : Int32) (w : gW) (h : zok eI (f_Cs_alike_b10_s k10 x1 x3 x4 w) Q) : Gz l m_Cs_alike 6 10 [(0, .ref 88), (1, .int x1), (3, .int x3), (4, .int x4)] [] w Q := by
  unfold f_Cs_alike_b10_s at h
  refine Gz.iload (i := 4) (pc' := 12) (by decide +kernel) rfl 3 rfl ?_
  refine Gz.aload_n (q := 0) (pc' := 13) (by decide +kernel) rfl 0 rfl ?_
  refine Gz.getR (pc' := 16) (j := 1) 5 fd_Cs_24 sh_88 rfl (by decide +kernel) rfl ?_
  refine Gz.callVI (st := [.int x4]) (b := 5) (pc' := 19) [] (g_Oa_size w) h ok_m_Oa_size lk_Cs_32 sh_5 rfl rfl rfl (Nat.le_of_ble_eq_true rfl) (Nat.le_of_ble_eq_true rfl) (Nat.le_of_ble_eq_true rfl) (by decide +kernel) rfl (fun v1 w2 h => ?_)
  refine Gz.icmp_ge (off := 80) (tgt := 99) (pc' := 22) (by decide +kernel) (by decide) rfl (fun c3 => ?_) (fun c3 => ?_)
  · have h := zok_t c3 h
    refine Gz.iload_n (q := 3) (pc' := 100) (by decide +kernel) rfl 2 rfl ?_
    exact Gz.ireturn (by decide +kernel) rfl (zok_sI h)
  · have h := zok_f c3 h
    refine Gz.aload_n (q := 0) (pc' := 23) (by decide +kernel) rfl 0 rfl ?_
    refine Gz.iload_n (q := 1) (pc' := 24) (by decide +kernel) rfl 1 rfl ?_
    refine Gz.callVR (st := []) (b := 88) (pc' := 27) [.int x1] (g_Cs_rowOf x1 w2) h ok_m_Cs_rowOf lk_Cs_48 sh_88 rfl rfl rfl (Nat.le_of_ble_eq_true rfl) (Nat.le_of_ble_eq_true rfl) (Nat.le_of_ble_eq_true rfl) (by decide +kernel) rfl (fun v4 w5 h => ?_)
    refine Gz.aload_n (q := 0) (pc' := 28) (by decide +kernel) rfl 0 rfl ?_
    refine Gz.iload (i := 4) (pc' := 30) (by decide +kernel) rfl 3 rfl ?_
    refine Gz.callVR (st := [.ref v4]) (b := 88) (pc' := 33) [.int x4] (g_Cs_rowOf x4 w5) h ok_m_Cs_rowOf lk_Cs_48 sh_88 rfl rfl rfl (Nat.le_of_ble_eq_true rfl) (Nat.le_of_ble_eq_true rfl) (Nat.le_of_ble_eq_true rfl) (by decide +kernel) rfl (fun v6 w7 h => ?_)
    refine Gz.aload_n (q := 0) (pc' := 34) (by decide +kernel) rfl 0 rfl ?_
    refine Gz.getR (pc' := 37) (j := 0) 19 fd_Cs_20 sh_88 rfl (by decide +kernel) rfl ?_
    refine Gz.callVI (st := [.ref v6, .ref v4]) (b := 19) (pc' := 40) [] (g_La_words w7) h ok_m_La_words lk_Cs_52 sh_19 rfl rfl rfl (Nat.le_of_ble_eq_true rfl) (Nat.le_of_ble_eq_true rfl) (Nat.le_of_ble_eq_true rfl) (by decide +kernel) rfl (fun v8 w9 h => ?_)
    refine Gz.callSI (st := []) (pc' := 43) [.ref v4, .ref v6, .int v8] (g_Ro_isWithin v4 v6 v8 w9) h ok_m_Ro_isWithin lk_Cs_106 rfl (Nat.le_of_ble_eq_true rfl) (Nat.le_of_ble_eq_true rfl) (Nat.le_of_ble_eq_true rfl) (by decide +kernel) rfl (fun v10 w11 h => ?_)
    refine Gz.if_eq (off := 31) (tgt := 74) (pc' := 46) (by decide +kernel) (by decide) rfl (fun c12 => ?_) (fun c12 => ?_)
    · have h := zok_t c12 h
      exact g_Cs_alike_b74 k10 hk10 x1 x3 x4 w11 h
    · have h := zok_f c12 h
      refine Gz.aload_n (q := 0) (pc' := 47) (by decide +kernel) rfl 0 rfl ?_
      refine Gz.iload (i := 4) (pc' := 49) (by decide +kernel) rfl 3 rfl ?_
      refine Gz.callVR (st := []) (b := 88) (pc' := 52) [.int x4] (g_Cs_rowOf x4 w11) h ok_m_Cs_rowOf lk_Cs_48 sh_88 rfl rfl rfl (Nat.le_of_ble_eq_true rfl) (Nat.le_of_ble_eq_true rfl) (Nat.le_of_ble_eq_true rfl) (by decide +kernel) rfl (fun v13 w14 h => ?_)
      refine Gz.aload_n (q := 0) (pc' := 53) (by decide +kernel) rfl 0 rfl ?_
      refine Gz.iload_n (q := 1) (pc' := 54) (by decide +kernel) rfl 1 rfl ?_
      refine Gz.callVR (st := [.ref v13]) (b := 88) (pc' := 57) [.int x1] (g_Cs_rowOf x1 w14) h ok_m_Cs_rowOf lk_Cs_48 sh_88 rfl rfl rfl (Nat.le_of_ble_eq_true rfl) (Nat.le_of_ble_eq_true rfl) (Nat.le_of_ble_eq_true rfl) (by decide +kernel) rfl (fun v15 w16 h => ?_)
      refine Gz.aload_n (q := 0) (pc' := 58) (by decide +kernel) rfl 0 rfl ?_
      refine Gz.getR (pc' := 61) (j := 0) 19 fd_Cs_20 sh_88 rfl (by decide +kernel) rfl ?_
      refine Gz.callVI (st := [.ref v15, .ref v13]) (b := 19) (pc' := 64) [] (g_La_words w16) h ok_m_La_words lk_Cs_52 sh_19 rfl rfl rfl (Nat.le_of_ble_eq_true rfl) (Nat.le_of_ble_eq_true rfl) (Nat.le_of_ble_eq_true rfl) (by decide +kernel) rfl (fun v17 w18 h => ?_)
      refine Gz.callSI (st := []) (pc' := 67) [.ref v13, .ref v15, .int v17] (g_Ro_isWithin v13 v15 v17 w18) h ok_m_Ro_isWithin lk_Cs_106 rfl (Nat.le_of_ble_eq_true rfl) (Nat.le_of_ble_eq_true rfl) (Nat.le_of_ble_eq_true rfl) (by decide +kernel) rfl (fun v19 w20 h => ?_)
      refine Gz.if_eq (off := 7) (tgt := 74) (pc' := 70) (by decide +kernel) (by decide) rfl (fun c21 => ?_) (fun c21 => ?_)
      · have h := zok_t c21 h
        exact g_Cs_alike_b74 k10 hk10 x1 x3 x4 w20 h
      · have h := zok_f c21 h
        refine Gz.iconst (n := 1) (v := (1 : Int32)) (pc' := 71) (by decide +kernel) rfl rfl ?_
        refine Gz.goto (off := 4) (tgt := 75) (by decide +kernel) (by decide) ?_
        exact g_Cs_alike_b75 k10 hk10 x1 x3 x4 (1 : Int32) w20 h
theorem g_Cs_alike_b10 {l : Launch} {Q : Option Value → gW → Prop} (x1 : Int32) (x3 : Int32) (x4 : Int32) (w : gW) (h : zok eI (f_Cs_alike_b10 x1 x3 x4 w) Q) : Gz l m_Cs_alike 6 10 [(0, .ref 88), (1, .int x1), (3, .int x3), (4, .int x4)] [] w Q := by
  have key : ∀ (n : Nat) (x1 : Int32) (x3 : Int32) (x4 : Int32) (w : gW), zok eI (zfx (fun _ _ _ _ => none) (f_Cs_alike_b10_s) n x1 x3 x4 w) Q → Gz l m_Cs_alike 6 10 [(0, .ref 88), (1, .int x1), (3, .int x3), (4, .int x4)] [] w Q := by
    intro n
    induction n with
    | zero => intro x1 x3 x4 w h; exact zok_n h
    | succ n ih => intro x1 x3 x4 w h; exact g_Cs_alike_b10_s _ ih x1 x3 x4 w h
  exact key zFU x1 x3 x4 w h
theorem g_Cs_alike {l : Launch} (a1 : Int32) (a2 : Int32) (w : gW) : gCt l m_Cs_alike 6 [.ref 88, .int a1, .int a2] w eI (f_Cs_alike a1 a2 w) := by
  intro Q h
  unfold f_Cs_alike at h
  show Gz l m_Cs_alike 6 0 [(0, .ref 88), (1, .int a1), (2, .int a2)] [] w Q
  refine Gz.aload_n (q := 0) (pc' := 1) (by decide +kernel) rfl 0 rfl ?_
  refine Gz.iload_n (q := 2) (pc' := 2) (by decide +kernel) rfl 2 rfl ?_
  refine Gz.callVV (st := []) (b := 88) (pc' := 5) [.int a2] (g_Cs_hearAll a2 w) h ok_m_Cs_hearAll lk_Cs_73 sh_88 rfl rfl rfl (Nat.le_of_ble_eq_true rfl) (Nat.le_of_ble_eq_true rfl) (Nat.le_of_ble_eq_true rfl) (by decide +kernel) rfl (fun _ w1 h => ?_)
  refine Gz.iconst (n := 0) (v := (0 : Int32)) (pc' := 6) (by decide +kernel) rfl rfl ?_
  refine Gz.istore_n (q := 3) (pc' := 7) (L' := [(3, .int (0 : Int32)), (0, .ref 88), (1, .int a1), (2, .int a2)]) (by decide +kernel) rfl (Nat.le_of_ble_eq_true rfl) rfl ?_
  refine Gz.iconst (n := 0) (v := (0 : Int32)) (pc' := 8) (by decide +kernel) rfl rfl ?_
  refine Gz.istore (i := 4) (pc' := 10) (L' := [(4, .int (0 : Int32)), (3, .int (0 : Int32)), (0, .ref 88), (1, .int a1), (2, .int a2)]) (by decide +kernel) rfl (Nat.le_of_ble_eq_true rfl) rfl ?_
  refine Gz.sub (L' := [(0, .ref 88), (1, .int a1), (3, .int (0 : Int32)), (4, .int (0 : Int32))]) [2, 3, 1, 0] rfl ?_
  exact g_Cs_alike_b10 a1 (0 : Int32) (0 : Int32) w1 h
def f_X_same (a1 : Int32) (a2 : Int32) (w : gW) : Option (Int32 × gW) :=
zb (f_X_isSuch a1 a2 w) (fun v1 w2 =>
if v1 = 0 then
(some ((-1 : Int32), w2))
else
(zb (f_Cs_alike a1 a2 w2) (fun v4 w5 =>
some (v4, w5))))
theorem g_X_same {l : Launch} (a1 : Int32) (a2 : Int32) (w : gW) : gCt l m_X_same 7 [.ref 0, .int a1, .int a2] w eI (f_X_same a1 a2 w) := by
  intro Q h
  unfold f_X_same at h
  show Gz l m_X_same 7 0 [(0, .ref 0), (1, .int a1), (2, .int a2)] [] w Q
  refine Gz.aload_n (q := 0) (pc' := 1) (by decide +kernel) rfl 0 rfl ?_
  refine Gz.iload_n (q := 1) (pc' := 2) (by decide +kernel) rfl 1 rfl ?_
  refine Gz.iload_n (q := 2) (pc' := 3) (by decide +kernel) rfl 2 rfl ?_
  refine Gz.callVI (st := []) (b := 0) (pc' := 6) [.int a1, .int a2] (g_X_isSuch a1 a2 w) h ok_m_X_isSuch lk_X_146 sh_0 rfl rfl rfl (Nat.le_of_ble_eq_true rfl) (Nat.le_of_ble_eq_true rfl) (Nat.le_of_ble_eq_true rfl) (by decide +kernel) rfl (fun v1 w2 h => ?_)
  refine Gz.if_eq (off := 15) (tgt := 21) (pc' := 9) (by decide +kernel) (by decide) rfl (fun c3 => ?_) (fun c3 => ?_)
  · have h := zok_t c3 h
    refine Gz.iconst (n := -1) (v := (-1 : Int32)) (pc' := 22) (by decide +kernel) rfl rfl ?_
    exact Gz.ireturn (by decide +kernel) rfl (zok_sI h)
  · have h := zok_f c3 h
    refine Gz.aload_n (q := 0) (pc' := 10) (by decide +kernel) rfl 0 rfl ?_
    refine Gz.getR (pc' := 13) (j := 7) 88 fd_X_61 sh_0 rfl (by decide +kernel) rfl ?_
    refine Gz.iload_n (q := 1) (pc' := 14) (by decide +kernel) rfl 1 rfl ?_
    refine Gz.iload_n (q := 2) (pc' := 15) (by decide +kernel) rfl 2 rfl ?_
    refine Gz.callVI (st := []) (b := 88) (pc' := 18) [.int a1, .int a2] (g_Cs_alike a1 a2 w2) h ok_m_Cs_alike lk_X_310 sh_88 rfl rfl rfl (Nat.le_of_ble_eq_true rfl) (Nat.le_of_ble_eq_true rfl) (Nat.le_of_ble_eq_true rfl) (by decide +kernel) rfl (fun v4 w5 h => ?_)
    refine Gz.goto (off := 4) (tgt := 22) (by decide +kernel) (by decide) ?_
    exact Gz.ireturn (by decide +kernel) rfl (zok_sI h)
def f_Cs_openDays_b45 (k4 : Int32 → Int32 → Int32 → gW → Option (Int32 × gW)) (x1 : Int32) (x3 : Int32) (s0 : Int32) (s1 : Int32) (w : gW) : Option (Int32 × gW) :=
zl (s0 ||| s1) (fun v1 =>
zl (x3 + (1 : Int32)) (fun v3 =>
k4 x1 v1 v3 w))
def f_Cs_openDays_b4_s (k4 : Int32 → Int32 → Int32 → gW → Option (Int32 × gW)) (x1 : Int32) (x2 : Int32) (x3 : Int32) (w : gW) : Option (Int32 × gW) :=
zb (f_La_dayCount w) (fun v1 w2 =>
if v1 < x3 then
(some (x2, w2))
else
(zb (f_Cs_rowOf x1 w2) (fun v4 w5 =>
zb (f_Co_hear x1 x3 v4 w5) (fun _ w6 =>
zb (f_Cs_canBe x1 w6) (fun v7 w8 =>
if v7 = 0 then
(f_Cs_openDays_b45 k4 x1 x3 x2 (0 : Int32) w8)
else
(f_Cs_openDays_b45 k4 x1 x3 x2 ((1 : Int32) <<< (x3 &&& 31)) w8))))))
def f_Cs_openDays_b4 : Int32 → Int32 → Int32 → gW → Option (Int32 × gW) := zfx (fun _ _ _ _ => none) (f_Cs_openDays_b4_s) zFU
def f_Cs_openDays (a1 : Int32) (w : gW) : Option (Int32 × gW) :=
f_Cs_openDays_b4 a1 (0 : Int32) (0 : Int32) w
theorem g_Cs_openDays_b45 {l : Launch} {Q : Option Value → gW → Prop} (k4 : Int32 → Int32 → Int32 → gW → Option (Int32 × gW)) (hk4 : ∀ (x1 : Int32) (x2 : Int32) (x3 : Int32) (w : gW), zok eI (k4 x1 x2 x3 w) Q → Gz l m_Cs_openDays 5 4 [(0, .ref 88), (1, .int x1), (2, .int x2), (3, .int x3)] [] w Q) (x1 : Int32) (x3 : Int32) (s0 : Int32) (s1 : Int32) (w : gW) (h : zok eI (f_Cs_openDays_b45 k4 x1 x3 s0 s1 w) Q) : Gz l m_Cs_openDays 5 45 [(0, .ref 88), (1, .int x1), (3, .int x3)] [.int s1, .int s0] w Q := by
  unfold f_Cs_openDays_b45 at h
  refine Gz.ior (pc' := 46) (by decide +kernel) rfl ?_
  refine Gz.nmI (fun v1 e2 => ?_)
  have h := zok_l e2 h
  refine Gz.istore_n (q := 2) (pc' := 47) (L' := [(2, .int v1), (0, .ref 88), (1, .int x1), (3, .int x3)]) (by decide +kernel) rfl (Nat.le_of_ble_eq_true rfl) rfl ?_
  obtain ⟨v3, e4⟩ : ∃ y : Int32, y = x3 + (1 : Int32) := ⟨_, rfl⟩
  have h := zok_l e4 h
  refine Gz.iinc (i := 3) (n := 1) (pc' := 50) (L' := [(3, .int v3), (2, .int v1), (0, .ref 88), (1, .int x1)]) v3 (by decide +kernel) rfl 3 rfl (by rw [e4]; rfl) (Nat.le_of_ble_eq_true rfl) rfl ?_
  refine Gz.goto (off := -46) (tgt := 4) (by decide +kernel) (by decide) ?_
  refine Gz.sub (L' := [(0, .ref 88), (1, .int x1), (2, .int v1), (3, .int v3)]) [2, 3, 1, 0] rfl ?_
  exact hk4 x1 v1 v3 w h
theorem g_Cs_openDays_b4_s {l : Launch} {Q : Option Value → gW → Prop} (k4 : Int32 → Int32 → Int32 → gW → Option (Int32 × gW)) (hk4 : ∀ (x1 : Int32) (x2 : Int32) (x3 : Int32) (w : gW), zok eI (k4 x1 x2 x3 w) Q → Gz l m_Cs_openDays 5 4 [(0, .ref 88), (1, .int x1), (2, .int x2), (3, .int x3)] [] w Q) (x1 : Int32) (x2 : Int32) (x3 : Int32) (w : gW) (h : zok eI (f_Cs_openDays_b4_s k4 x1 x2 x3 w) Q) : Gz l m_Cs_openDays 5 4 [(0, .ref 88), (1, .int x1), (2, .int x2), (3, .int x3)] [] w Q := by
  unfold f_Cs_openDays_b4_s at h
  refine Gz.iload_n (q := 3) (pc' := 5) (by decide +kernel) rfl 3 rfl ?_
  refine Gz.aload_n (q := 0) (pc' := 6) (by decide +kernel) rfl 0 rfl ?_
  refine Gz.getR (pc' := 9) (j := 0) 19 fd_Cs_20 sh_88 rfl (by decide +kernel) rfl ?_
  refine Gz.callVI (st := [.int x3]) (b := 19) (pc' := 12) [] (g_La_dayCount w) h ok_m_La_dayCount lk_Cs_84 sh_19 rfl rfl rfl (Nat.le_of_ble_eq_true rfl) (Nat.le_of_ble_eq_true rfl) (Nat.le_of_ble_eq_true rfl) (by decide +kernel) rfl (fun v1 w2 h => ?_)
  refine Gz.icmp_gt (off := 41) (tgt := 53) (pc' := 15) (by decide +kernel) (by decide) rfl (fun c3 => ?_) (fun c3 => ?_)
  · have h := zok_t c3 h
    refine Gz.iload_n (q := 2) (pc' := 54) (by decide +kernel) rfl 2 rfl ?_
    exact Gz.ireturn (by decide +kernel) rfl (zok_sI h)
  · have h := zok_f c3 h
    refine Gz.aload_n (q := 0) (pc' := 16) (by decide +kernel) rfl 0 rfl ?_
    refine Gz.getR (pc' := 19) (j := 2) 73 fd_Cs_28 sh_88 rfl (by decide +kernel) rfl ?_
    refine Gz.iload_n (q := 1) (pc' := 20) (by decide +kernel) rfl 1 rfl ?_
    refine Gz.iload_n (q := 3) (pc' := 21) (by decide +kernel) rfl 3 rfl ?_
    refine Gz.aload_n (q := 0) (pc' := 22) (by decide +kernel) rfl 0 rfl ?_
    refine Gz.iload_n (q := 1) (pc' := 23) (by decide +kernel) rfl 1 rfl ?_
    refine Gz.callVR (st := [.int x3, .int x1, .ref 73]) (b := 88) (pc' := 26) [.int x1] (g_Cs_rowOf x1 w2) h ok_m_Cs_rowOf lk_Cs_48 sh_88 rfl rfl rfl (Nat.le_of_ble_eq_true rfl) (Nat.le_of_ble_eq_true rfl) (Nat.le_of_ble_eq_true rfl) (by decide +kernel) rfl (fun v4 w5 h => ?_)
    refine Gz.callVV (st := []) (b := 73) (pc' := 29) [.int x1, .int x3, .ref v4] (g_Co_hear x1 x3 v4 w5) h ok_m_Co_hear lk_Cs_38 sh_73 rfl rfl rfl (Nat.le_of_ble_eq_true rfl) (Nat.le_of_ble_eq_true rfl) (Nat.le_of_ble_eq_true rfl) (by decide +kernel) rfl (fun _ w6 h => ?_)
    refine Gz.iload_n (q := 2) (pc' := 30) (by decide +kernel) rfl 2 rfl ?_
    refine Gz.aload_n (q := 0) (pc' := 31) (by decide +kernel) rfl 0 rfl ?_
    refine Gz.iload_n (q := 1) (pc' := 32) (by decide +kernel) rfl 1 rfl ?_
    refine Gz.callVI (st := [.int x2]) (b := 88) (pc' := 35) [.int x1] (g_Cs_canBe x1 w6) h ok_m_Cs_canBe lk_Cs_80 sh_88 rfl rfl rfl (Nat.le_of_ble_eq_true rfl) (Nat.le_of_ble_eq_true rfl) (Nat.le_of_ble_eq_true rfl) (by decide +kernel) rfl (fun v7 w8 h => ?_)
    refine Gz.if_eq (off := 9) (tgt := 44) (pc' := 38) (by decide +kernel) (by decide) rfl (fun c9 => ?_) (fun c9 => ?_)
    · have h := zok_t c9 h
      refine Gz.iconst (n := 0) (v := (0 : Int32)) (pc' := 45) (by decide +kernel) rfl rfl ?_
      refine Gz.sub (L' := [(0, .ref 88), (1, .int x1), (3, .int x3)]) [0, 1, 3] rfl ?_
      exact g_Cs_openDays_b45 k4 hk4 x1 x3 x2 (0 : Int32) w8 h
    · have h := zok_f c9 h
      refine Gz.iconst (n := 1) (v := (1 : Int32)) (pc' := 39) (by decide +kernel) rfl rfl ?_
      refine Gz.iload_n (q := 3) (pc' := 40) (by decide +kernel) rfl 3 rfl ?_
      refine Gz.ishl (pc' := 41) (by decide +kernel) rfl ?_
      refine Gz.goto (off := 4) (tgt := 45) (by decide +kernel) (by decide) ?_
      refine Gz.sub (L' := [(0, .ref 88), (1, .int x1), (3, .int x3)]) [0, 1, 3] rfl ?_
      exact g_Cs_openDays_b45 k4 hk4 x1 x3 x2 ((1 : Int32) <<< (x3 &&& 31)) w8 h
theorem g_Cs_openDays_b4 {l : Launch} {Q : Option Value → gW → Prop} (x1 : Int32) (x2 : Int32) (x3 : Int32) (w : gW) (h : zok eI (f_Cs_openDays_b4 x1 x2 x3 w) Q) : Gz l m_Cs_openDays 5 4 [(0, .ref 88), (1, .int x1), (2, .int x2), (3, .int x3)] [] w Q := by
  have key : ∀ (n : Nat) (x1 : Int32) (x2 : Int32) (x3 : Int32) (w : gW), zok eI (zfx (fun _ _ _ _ => none) (f_Cs_openDays_b4_s) n x1 x2 x3 w) Q → Gz l m_Cs_openDays 5 4 [(0, .ref 88), (1, .int x1), (2, .int x2), (3, .int x3)] [] w Q := by
    intro n
    induction n with
    | zero => intro x1 x2 x3 w h; exact zok_n h
    | succ n ih => intro x1 x2 x3 w h; exact g_Cs_openDays_b4_s _ ih x1 x2 x3 w h
  exact key zFU x1 x2 x3 w h
theorem g_Cs_openDays {l : Launch} (a1 : Int32) (w : gW) : gCt l m_Cs_openDays 5 [.ref 88, .int a1] w eI (f_Cs_openDays a1 w) := by
  intro Q h
  unfold f_Cs_openDays at h
  show Gz l m_Cs_openDays 5 0 [(0, .ref 88), (1, .int a1)] [] w Q
  refine Gz.iconst (n := 0) (v := (0 : Int32)) (pc' := 1) (by decide +kernel) rfl rfl ?_
  refine Gz.istore_n (q := 2) (pc' := 2) (L' := [(2, .int (0 : Int32)), (0, .ref 88), (1, .int a1)]) (by decide +kernel) rfl (Nat.le_of_ble_eq_true rfl) rfl ?_
  refine Gz.iconst (n := 0) (v := (0 : Int32)) (pc' := 3) (by decide +kernel) rfl rfl ?_
  refine Gz.istore_n (q := 3) (pc' := 4) (L' := [(3, .int (0 : Int32)), (2, .int (0 : Int32)), (0, .ref 88), (1, .int a1)]) (by decide +kernel) rfl (Nat.le_of_ble_eq_true rfl) rfl ?_
  refine Gz.sub (L' := [(0, .ref 88), (1, .int a1), (2, .int (0 : Int32)), (3, .int (0 : Int32))]) [2, 3, 1, 0] rfl ?_
  exact g_Cs_openDays_b4 a1 (0 : Int32) (0 : Int32) w h
def f_X_days (a1 : Int32) (w : gW) : Option (Int32 × gW) :=
zb (f_La_isThere w) (fun v1 w2 =>
if v1 = 0 then
(some ((-1 : Int32), w2))
else
(zb (f_Oa_has a1 w2) (fun v4 w5 =>
if v4 = 0 then
(some ((-1 : Int32), w5))
else
(zb (f_Cs_openDays a1 w5) (fun v7 w8 =>
some (v7, w8))))))
theorem g_X_days {l : Launch} (a1 : Int32) (w : gW) : gCt l m_X_days 6 [.ref 0, .int a1] w eI (f_X_days a1 w) := by
  intro Q h
  unfold f_X_days at h
  show Gz l m_X_days 6 0 [(0, .ref 0), (1, .int a1)] [] w Q
  refine Gz.aload_n (q := 0) (pc' := 1) (by decide +kernel) rfl 0 rfl ?_
  refine Gz.getR (pc' := 4) (j := 3) 19 fd_X_33 sh_0 rfl (by decide +kernel) rfl ?_
  refine Gz.callVI (st := []) (b := 19) (pc' := 7) [] (g_La_isThere w) h ok_m_La_isThere lk_X_176 sh_19 rfl rfl rfl (Nat.le_of_ble_eq_true rfl) (Nat.le_of_ble_eq_true rfl) (Nat.le_of_ble_eq_true rfl) (by decide +kernel) rfl (fun v1 w2 h => ?_)
  refine Gz.if_eq (off := 25) (tgt := 32) (pc' := 10) (by decide +kernel) (by decide) rfl (fun c3 => ?_) (fun c3 => ?_)
  · have h := zok_t c3 h
    refine Gz.iconst (n := -1) (v := (-1 : Int32)) (pc' := 33) (by decide +kernel) rfl rfl ?_
    exact Gz.ireturn (by decide +kernel) rfl (zok_sI h)
  · have h := zok_f c3 h
    refine Gz.aload_n (q := 0) (pc' := 11) (by decide +kernel) rfl 0 rfl ?_
    refine Gz.getR (pc' := 14) (j := 2) 5 fd_X_26 sh_0 rfl (by decide +kernel) rfl ?_
    refine Gz.iload_n (q := 1) (pc' := 15) (by decide +kernel) rfl 1 rfl ?_
    refine Gz.callVI (st := []) (b := 5) (pc' := 18) [.int a1] (g_Oa_has a1 w2) h ok_m_Oa_has lk_X_285 sh_5 rfl rfl rfl (Nat.le_of_ble_eq_true rfl) (Nat.le_of_ble_eq_true rfl) (Nat.le_of_ble_eq_true rfl) (by decide +kernel) rfl (fun v4 w5 h => ?_)
    refine Gz.if_eq (off := 14) (tgt := 32) (pc' := 21) (by decide +kernel) (by decide) rfl (fun c6 => ?_) (fun c6 => ?_)
    · have h := zok_t c6 h
      refine Gz.iconst (n := -1) (v := (-1 : Int32)) (pc' := 33) (by decide +kernel) rfl rfl ?_
      exact Gz.ireturn (by decide +kernel) rfl (zok_sI h)
    · have h := zok_f c6 h
      refine Gz.aload_n (q := 0) (pc' := 22) (by decide +kernel) rfl 0 rfl ?_
      refine Gz.getR (pc' := 25) (j := 7) 88 fd_X_61 sh_0 rfl (by decide +kernel) rfl ?_
      refine Gz.iload_n (q := 1) (pc' := 26) (by decide +kernel) rfl 1 rfl ?_
      refine Gz.callVI (st := []) (b := 88) (pc' := 29) [.int a1] (g_Cs_openDays a1 w5) h ok_m_Cs_openDays lk_X_313 sh_88 rfl rfl rfl (Nat.le_of_ble_eq_true rfl) (Nat.le_of_ble_eq_true rfl) (Nat.le_of_ble_eq_true rfl) (by decide +kernel) rfl (fun v7 w8 h => ?_)
      refine Gz.goto (off := 4) (tgt := 33) (by decide +kernel) (by decide) ?_
      exact Gz.ireturn (by decide +kernel) rfl (zok_sI h)
def f_Ch_nearest_b122 (k8 : Int32 → Int32 → Int32 → Int32 → Int32 → gW → Option (Int32 × gW)) (x1 : Int32) (x2 : Int32) (x3 : Int32) (x4 : Int32) (x5 : Int32) (w : gW) : Option (Int32 × gW) :=
zl (x5 + (1 : Int32)) (fun v1 =>
k8 x1 x2 x3 x4 v1 w)
def f_Ch_nearest_b42_s (k8 : Int32 → Int32 → Int32 → Int32 → Int32 → gW → Option (Int32 × gW)) (k42 : Int32 → Int32 → Int32 → Int32 → Int32 → Int32 → gW → Option (Int32 × gW)) (x1 : Int32) (x2 : Int32) (x3 : Int32) (x4 : Int32) (x5 : Int32) (x6 : Int32) (w : gW) : Option (Int32 × gW) :=
zb (f_La_deedCount w) (fun v1 w2 =>
if v1 ≤ x6 then
(zb (f_Ro_topLevel 103 w2) (fun v4 w5 =>
if v4 ≤ x3 then
(f_Ch_nearest_b122 k8 x1 x2 x3 x4 x5 w5)
else
(zb (f_Ro_topLevel 103 w5) (fun v7 w8 =>
zb (f_Ro_word 103 v7 w8) (fun v9 w10 =>
zb (f_Ro_firstPlace v9 x5 w10) (fun v11 w12 =>
f_Ch_nearest_b122 k8 x1 x2 v7 v11 x5 w12))))))
else
(zb (f_La_dayAt x1 x6 w2) (fun v13 w14 =>
zb (f_La_dateWord x6 v13 x5 w14) (fun v15 w16 =>
zb (f_Ro_addLevel 103 v15 w16) (fun _ w17 =>
zl (x6 + (1 : Int32)) (fun v18 =>
k42 x1 x2 x3 x4 x5 v18 w17))))))
def f_Ch_nearest_b42 (k8 : Int32 → Int32 → Int32 → Int32 → Int32 → gW → Option (Int32 × gW)) : Int32 → Int32 → Int32 → Int32 → Int32 → Int32 → gW → Option (Int32 × gW) := zfx (fun _ _ _ _ _ _ _ => none) (f_Ch_nearest_b42_s k8) zFU
def f_Ch_nearest_b8_s (k8 : Int32 → Int32 → Int32 → Int32 → Int32 → gW → Option (Int32 × gW)) (x1 : Int32) (x2 : Int32) (x3 : Int32) (x4 : Int32) (x5 : Int32) (w : gW) : Option (Int32 × gW) :=
zb (f_La_words w) (fun v1 w2 =>
if v1 ≤ x5 then
(if x4 = (-1 : Int32) then
(some ((-1 : Int32), w2))
else
(if x2 = 0 then
(zb (f_La_deedCount w2) (fun v8 w9 =>
some (v8 - x3, w9)))
else
(zb (f_La_numberAt x4 w2) (fun v6 w7 =>
some (v6, w7)))))
else
(zb (f_Co_fitting w2) (fun v10 w11 =>
zb (f_Ro_word v10 x5 w11) (fun v12 w13 =>
zb (f_Ro_startLevels 103 v12 w13) (fun _ w14 =>
f_Ch_nearest_b42 k8 x1 x2 x3 x4 x5 (0 : Int32) w14)))))
def f_Ch_nearest_b8 : Int32 → Int32 → Int32 → Int32 → Int32 → gW → Option (Int32 × gW) := zfx (fun _ _ _ _ _ _ => none) (f_Ch_nearest_b8_s) zFU
def f_Ch_nearest (a1 : Int32) (a2 : Int32) (w : gW) : Option (Int32 × gW) :=
f_Ch_nearest_b8 a1 a2 (-1 : Int32) (-1 : Int32) (0 : Int32) w
theorem g_Ch_nearest_b122 {l : Launch} {Q : Option Value → gW → Prop} (k8 : Int32 → Int32 → Int32 → Int32 → Int32 → gW → Option (Int32 × gW)) (hk8 : ∀ (x1 : Int32) (x2 : Int32) (x3 : Int32) (x4 : Int32) (x5 : Int32) (w : gW), zok eI (k8 x1 x2 x3 x4 x5 w) Q → Gz l m_Ch_nearest 5 8 [(0, .ref 102), (1, .int x1), (2, .int x2), (3, .int x3), (4, .int x4), (5, .int x5)] [] w Q) (x1 : Int32) (x2 : Int32) (x3 : Int32) (x4 : Int32) (x5 : Int32) (w : gW) (h : zok eI (f_Ch_nearest_b122 k8 x1 x2 x3 x4 x5 w) Q) : Gz l m_Ch_nearest 5 122 [(0, .ref 102), (1, .int x1), (2, .int x2), (3, .int x3), (4, .int x4), (5, .int x5)] [] w Q := by
  unfold f_Ch_nearest_b122 at h
  obtain ⟨v1, e2⟩ : ∃ y : Int32, y = x5 + (1 : Int32) := ⟨_, rfl⟩
  have h := zok_l e2 h
  refine Gz.iinc (i := 5) (n := 1) (pc' := 125) (L' := [(5, .int v1), (0, .ref 102), (1, .int x1), (2, .int x2), (3, .int x3), (4, .int x4)]) v1 (by decide +kernel) rfl 5 rfl (by rw [e2]; rfl) (Nat.le_of_ble_eq_true rfl) rfl ?_
  refine Gz.goto (off := -117) (tgt := 8) (by decide +kernel) (by decide) ?_
  refine Gz.sub (L' := [(0, .ref 102), (1, .int x1), (2, .int x2), (3, .int x3), (4, .int x4), (5, .int v1)]) [1, 2, 3, 4, 5, 0] rfl ?_
  exact hk8 x1 x2 x3 x4 v1 w h
theorem g_Ch_nearest_b42_s {l : Launch} {Q : Option Value → gW → Prop} (k8 : Int32 → Int32 → Int32 → Int32 → Int32 → gW → Option (Int32 × gW)) (hk8 : ∀ (x1 : Int32) (x2 : Int32) (x3 : Int32) (x4 : Int32) (x5 : Int32) (w : gW), zok eI (k8 x1 x2 x3 x4 x5 w) Q → Gz l m_Ch_nearest 5 8 [(0, .ref 102), (1, .int x1), (2, .int x2), (3, .int x3), (4, .int x4), (5, .int x5)] [] w Q) (k42 : Int32 → Int32 → Int32 → Int32 → Int32 → Int32 → gW → Option (Int32 × gW)) (hk42 : ∀ (x1 : Int32) (x2 : Int32) (x3 : Int32) (x4 : Int32) (x5 : Int32) (x6 : Int32) (w : gW), zok eI (k42 x1 x2 x3 x4 x5 x6 w) Q → Gz l m_Ch_nearest 5 42 [(0, .ref 102), (1, .int x1), (2, .int x2), (3, .int x3), (4, .int x4), (5, .int x5), (6, .int x6)] [] w Q) (x1 : Int32) (x2 : Int32) (x3 : Int32) (x4 : Int32) (x5 : Int32) (x6 : Int32) (w : gW) (h : zok eI (f_Ch_nearest_b42_s k8 k42 x1 x2 x3 x4 x5 x6 w) Q) : Gz l m_Ch_nearest 5 42 [(0, .ref 102), (1, .int x1), (2, .int x2), (3, .int x3), (4, .int x4), (5, .int x5), (6, .int x6)] [] w Q := by
  unfold f_Ch_nearest_b42_s at h
  refine Gz.iload (i := 6) (pc' := 44) (by decide +kernel) rfl 6 rfl ?_
  refine Gz.aload_n (q := 0) (pc' := 45) (by decide +kernel) rfl 0 rfl ?_
  refine Gz.getR (pc' := 48) (j := 0) 19 fd_Ch_18 sh_102 rfl (by decide +kernel) rfl ?_
  refine Gz.callVI (st := [.int x6]) (b := 19) (pc' := 51) [] (g_La_deedCount w) h ok_m_La_deedCount lk_Ch_68 sh_19 rfl rfl rfl (Nat.le_of_ble_eq_true rfl) (Nat.le_of_ble_eq_true rfl) (Nat.le_of_ble_eq_true rfl) (by decide +kernel) rfl (fun v1 w2 h => ?_)
  refine Gz.icmp_ge (off := 37) (tgt := 88) (pc' := 54) (by decide +kernel) (by decide) rfl (fun c3 => ?_) (fun c3 => ?_)
  · have h := zok_t c3 h
    refine Gz.aload_n (q := 0) (pc' := 89) (by decide +kernel) rfl 0 rfl ?_
    refine Gz.getR (pc' := 92) (j := 3) 103 fd_Ch_9 sh_102 rfl (by decide +kernel) rfl ?_
    refine Gz.callSI (st := []) (pc' := 95) [.ref 103] (g_Ro_topLevel 103 w2) h ok_m_Ro_topLevel lk_Ch_123 rfl (Nat.le_of_ble_eq_true rfl) (Nat.le_of_ble_eq_true rfl) (Nat.le_of_ble_eq_true rfl) (by decide +kernel) rfl (fun v4 w5 h => ?_)
    refine Gz.iload_n (q := 3) (pc' := 96) (by decide +kernel) rfl 3 rfl ?_
    refine Gz.icmp_le (off := 26) (tgt := 122) (pc' := 99) (by decide +kernel) (by decide) rfl (fun c6 => ?_) (fun c6 => ?_)
    · have h := zok_t c6 h
      refine Gz.sub (L' := [(0, .ref 102), (1, .int x1), (2, .int x2), (3, .int x3), (4, .int x4), (5, .int x5)]) [0, 1, 2, 3, 4, 5] rfl ?_
      exact g_Ch_nearest_b122 k8 hk8 x1 x2 x3 x4 x5 w5 h
    · have h := zok_f c6 h
      refine Gz.aload_n (q := 0) (pc' := 100) (by decide +kernel) rfl 0 rfl ?_
      refine Gz.getR (pc' := 103) (j := 3) 103 fd_Ch_9 sh_102 rfl (by decide +kernel) rfl ?_
      refine Gz.callSI (st := []) (pc' := 106) [.ref 103] (g_Ro_topLevel 103 w5) h ok_m_Ro_topLevel lk_Ch_123 rfl (Nat.le_of_ble_eq_true rfl) (Nat.le_of_ble_eq_true rfl) (Nat.le_of_ble_eq_true rfl) (by decide +kernel) rfl (fun v7 w8 h => ?_)
      refine Gz.istore_n (q := 3) (pc' := 107) (L' := [(3, .int v7), (0, .ref 102), (1, .int x1), (2, .int x2), (4, .int x4), (5, .int x5), (6, .int x6)]) (by decide +kernel) rfl (Nat.le_of_ble_eq_true rfl) rfl ?_
      refine Gz.aload_n (q := 0) (pc' := 108) (by decide +kernel) rfl 1 rfl ?_
      refine Gz.getR (pc' := 111) (j := 3) 103 fd_Ch_9 sh_102 rfl (by decide +kernel) rfl ?_
      refine Gz.iload_n (q := 3) (pc' := 112) (by decide +kernel) rfl 0 rfl ?_
      refine Gz.callSJ (st := []) (pc' := 115) [.ref 103, .int v7] (g_Ro_word 103 v7 w8) h ok_m_Ro_word lk_Ch_40 rfl (Nat.le_of_ble_eq_true rfl) (Nat.le_of_ble_eq_true rfl) (Nat.le_of_ble_eq_true rfl) (by decide +kernel) rfl (fun v9 w10 h => ?_)
      refine Gz.iload (i := 5) (pc' := 117) (by decide +kernel) rfl 5 rfl ?_
      refine Gz.callSI (st := []) (pc' := 120) [.long v9, .int x5] (g_Ro_firstPlace v9 x5 w10) h ok_m_Ro_firstPlace lk_Ch_127 rfl (Nat.le_of_ble_eq_true rfl) (Nat.le_of_ble_eq_true rfl) (Nat.le_of_ble_eq_true rfl) (by decide +kernel) rfl (fun v11 w12 h => ?_)
      refine Gz.istore (i := 4) (pc' := 122) (L' := [(4, .int v11), (3, .int v7), (0, .ref 102), (1, .int x1), (2, .int x2), (5, .int x5), (6, .int x6)]) (by decide +kernel) rfl (Nat.le_of_ble_eq_true rfl) rfl ?_
      refine Gz.sub (L' := [(0, .ref 102), (1, .int x1), (2, .int x2), (3, .int v7), (4, .int v11), (5, .int x5)]) [2, 3, 4, 1, 0, 5] rfl ?_
      exact g_Ch_nearest_b122 k8 hk8 x1 x2 v7 v11 x5 w12 h
  · have h := zok_f c3 h
    refine Gz.aload_n (q := 0) (pc' := 55) (by decide +kernel) rfl 0 rfl ?_
    refine Gz.getR (pc' := 58) (j := 3) 103 fd_Ch_9 sh_102 rfl (by decide +kernel) rfl ?_
    refine Gz.aload_n (q := 0) (pc' := 59) (by decide +kernel) rfl 0 rfl ?_
    refine Gz.getR (pc' := 62) (j := 0) 19 fd_Ch_18 sh_102 rfl (by decide +kernel) rfl ?_
    refine Gz.iload (i := 6) (pc' := 64) (by decide +kernel) rfl 6 rfl ?_
    refine Gz.aload_n (q := 0) (pc' := 65) (by decide +kernel) rfl 0 rfl ?_
    refine Gz.getR (pc' := 68) (j := 0) 19 fd_Ch_18 sh_102 rfl (by decide +kernel) rfl ?_
    refine Gz.iload_n (q := 1) (pc' := 69) (by decide +kernel) rfl 1 rfl ?_
    refine Gz.iload (i := 6) (pc' := 71) (by decide +kernel) rfl 6 rfl ?_
    refine Gz.callVI (st := [.int x6, .ref 19, .ref 103]) (b := 19) (pc' := 74) [.int x1, .int x6] (g_La_dayAt x1 x6 w2) h ok_m_La_dayAt lk_Ch_113 sh_19 rfl rfl rfl (Nat.le_of_ble_eq_true rfl) (Nat.le_of_ble_eq_true rfl) (Nat.le_of_ble_eq_true rfl) (by decide +kernel) rfl (fun v13 w14 h => ?_)
    refine Gz.iload (i := 5) (pc' := 76) (by decide +kernel) rfl 5 rfl ?_
    refine Gz.callVJ (st := [.ref 103]) (b := 19) (pc' := 79) [.int x6, .int v13, .int x5] (g_La_dateWord x6 v13 x5 w14) h ok_m_La_dateWord lk_Ch_116 sh_19 rfl rfl rfl (Nat.le_of_ble_eq_true rfl) (Nat.le_of_ble_eq_true rfl) (Nat.le_of_ble_eq_true rfl) (by decide +kernel) rfl (fun v15 w16 h => ?_)
    refine Gz.callSV (st := []) (pc' := 82) [.ref 103, .long v15] (g_Ro_addLevel 103 v15 w16) h ok_m_Ro_addLevel lk_Ch_120 rfl (Nat.le_of_ble_eq_true rfl) (Nat.le_of_ble_eq_true rfl) (Nat.le_of_ble_eq_true rfl) (by decide +kernel) rfl (fun _ w17 h => ?_)
    obtain ⟨v18, e19⟩ : ∃ y : Int32, y = x6 + (1 : Int32) := ⟨_, rfl⟩
    have h := zok_l e19 h
    refine Gz.iinc (i := 6) (n := 1) (pc' := 85) (L' := [(6, .int v18), (0, .ref 102), (1, .int x1), (2, .int x2), (3, .int x3), (4, .int x4), (5, .int x5)]) v18 (by decide +kernel) rfl 6 rfl (by rw [e19]; rfl) (Nat.le_of_ble_eq_true rfl) rfl ?_
    refine Gz.goto (off := -43) (tgt := 42) (by decide +kernel) (by decide) ?_
    refine Gz.sub (L' := [(0, .ref 102), (1, .int x1), (2, .int x2), (3, .int x3), (4, .int x4), (5, .int x5), (6, .int v18)]) [1, 2, 3, 4, 5, 6, 0] rfl ?_
    exact hk42 x1 x2 x3 x4 x5 v18 w17 h
theorem g_Ch_nearest_b42 {l : Launch} {Q : Option Value → gW → Prop} (k8 : Int32 → Int32 → Int32 → Int32 → Int32 → gW → Option (Int32 × gW)) (hk8 : ∀ (x1 : Int32) (x2 : Int32) (x3 : Int32) (x4 : Int32) (x5 : Int32) (w : gW), zok eI (k8 x1 x2 x3 x4 x5 w) Q → Gz l m_Ch_nearest 5 8 [(0, .ref 102), (1, .int x1), (2, .int x2), (3, .int x3), (4, .int x4), (5, .int x5)] [] w Q) (x1 : Int32) (x2 : Int32) (x3 : Int32) (x4 : Int32) (x5 : Int32) (x6 : Int32) (w : gW) (h : zok eI (f_Ch_nearest_b42 k8 x1 x2 x3 x4 x5 x6 w) Q) : Gz l m_Ch_nearest 5 42 [(0, .ref 102), (1, .int x1), (2, .int x2), (3, .int x3), (4, .int x4), (5, .int x5), (6, .int x6)] [] w Q := by
  have key : ∀ (n : Nat) (x1 : Int32) (x2 : Int32) (x3 : Int32) (x4 : Int32) (x5 : Int32) (x6 : Int32) (w : gW), zok eI (zfx (fun _ _ _ _ _ _ _ => none) (f_Ch_nearest_b42_s k8) n x1 x2 x3 x4 x5 x6 w) Q → Gz l m_Ch_nearest 5 42 [(0, .ref 102), (1, .int x1), (2, .int x2), (3, .int x3), (4, .int x4), (5, .int x5), (6, .int x6)] [] w Q := by
    intro n
    induction n with
    | zero => intro x1 x2 x3 x4 x5 x6 w h; exact zok_n h
    | succ n ih => intro x1 x2 x3 x4 x5 x6 w h; exact g_Ch_nearest_b42_s k8 hk8 _ ih x1 x2 x3 x4 x5 x6 w h
  exact key zFU x1 x2 x3 x4 x5 x6 w h
theorem g_Ch_nearest_b8_s {l : Launch} {Q : Option Value → gW → Prop} (k8 : Int32 → Int32 → Int32 → Int32 → Int32 → gW → Option (Int32 × gW)) (hk8 : ∀ (x1 : Int32) (x2 : Int32) (x3 : Int32) (x4 : Int32) (x5 : Int32) (w : gW), zok eI (k8 x1 x2 x3 x4 x5 w) Q → Gz l m_Ch_nearest 5 8 [(0, .ref 102), (1, .int x1), (2, .int x2), (3, .int x3), (4, .int x4), (5, .int x5)] [] w Q) (x1 : Int32) (x2 : Int32) (x3 : Int32) (x4 : Int32) (x5 : Int32) (w : gW) (h : zok eI (f_Ch_nearest_b8_s k8 x1 x2 x3 x4 x5 w) Q) : Gz l m_Ch_nearest 5 8 [(0, .ref 102), (1, .int x1), (2, .int x2), (3, .int x3), (4, .int x4), (5, .int x5)] [] w Q := by
  unfold f_Ch_nearest_b8_s at h
  refine Gz.iload (i := 5) (pc' := 10) (by decide +kernel) rfl 5 rfl ?_
  refine Gz.aload_n (q := 0) (pc' := 11) (by decide +kernel) rfl 0 rfl ?_
  refine Gz.getR (pc' := 14) (j := 0) 19 fd_Ch_18 sh_102 rfl (by decide +kernel) rfl ?_
  refine Gz.callVI (st := [.int x5]) (b := 19) (pc' := 17) [] (g_La_words w) h ok_m_La_words lk_Ch_58 sh_19 rfl rfl rfl (Nat.le_of_ble_eq_true rfl) (Nat.le_of_ble_eq_true rfl) (Nat.le_of_ble_eq_true rfl) (by decide +kernel) rfl (fun v1 w2 h => ?_)
  refine Gz.icmp_ge (off := 111) (tgt := 128) (pc' := 20) (by decide +kernel) (by decide) rfl (fun c3 => ?_) (fun c3 => ?_)
  · have h := zok_t c3 h
    refine Gz.iload (i := 4) (pc' := 130) (by decide +kernel) rfl 4 rfl ?_
    refine Gz.iconst (n := -1) (v := (-1 : Int32)) (pc' := 131) (by decide +kernel) rfl rfl ?_
    refine Gz.icmp_ne (off := 5) (tgt := 136) (pc' := 134) (by decide +kernel) (by decide) rfl (fun c4 => ?_) (fun c4 => ?_)
    · have h := zok_f c4 h
      refine Gz.iload_n (q := 2) (pc' := 137) (by decide +kernel) rfl 2 rfl ?_
      refine Gz.if_ne (off := 15) (tgt := 152) (pc' := 140) (by decide +kernel) (by decide) rfl (fun c5 => ?_) (fun c5 => ?_)
      · have h := zok_f c5 h
        refine Gz.aload_n (q := 0) (pc' := 153) (by decide +kernel) rfl 0 rfl ?_
        refine Gz.getR (pc' := 156) (j := 0) 19 fd_Ch_18 sh_102 rfl (by decide +kernel) rfl ?_
        refine Gz.iload (i := 4) (pc' := 158) (by decide +kernel) rfl 4 rfl ?_
        refine Gz.callVI (st := []) (b := 19) (pc' := 161) [.int x4] (g_La_numberAt x4 w2) h ok_m_La_numberAt lk_Ch_97 sh_19 rfl rfl rfl (Nat.le_of_ble_eq_true rfl) (Nat.le_of_ble_eq_true rfl) (Nat.le_of_ble_eq_true rfl) (by decide +kernel) rfl (fun v6 w7 h => ?_)
        exact Gz.ireturn (by decide +kernel) rfl (zok_sI h)
      · have h := zok_t c5 h
        refine Gz.aload_n (q := 0) (pc' := 141) (by decide +kernel) rfl 0 rfl ?_
        refine Gz.getR (pc' := 144) (j := 0) 19 fd_Ch_18 sh_102 rfl (by decide +kernel) rfl ?_
        refine Gz.callVI (st := []) (b := 19) (pc' := 147) [] (g_La_deedCount w2) h ok_m_La_deedCount lk_Ch_68 sh_19 rfl rfl rfl (Nat.le_of_ble_eq_true rfl) (Nat.le_of_ble_eq_true rfl) (Nat.le_of_ble_eq_true rfl) (by decide +kernel) rfl (fun v8 w9 h => ?_)
        refine Gz.iload_n (q := 3) (pc' := 148) (by decide +kernel) rfl 3 rfl ?_
        refine Gz.isub (pc' := 149) (by decide +kernel) rfl ?_
        refine Gz.goto (off := 12) (tgt := 161) (by decide +kernel) (by decide) ?_
        exact Gz.ireturn (by decide +kernel) rfl (zok_sI h)
    · have h := zok_t c4 h
      refine Gz.iconst (n := -1) (v := (-1 : Int32)) (pc' := 135) (by decide +kernel) rfl rfl ?_
      exact Gz.ireturn (by decide +kernel) rfl (zok_sI h)
  · have h := zok_f c3 h
    refine Gz.aload_n (q := 0) (pc' := 21) (by decide +kernel) rfl 0 rfl ?_
    refine Gz.getR (pc' := 24) (j := 3) 103 fd_Ch_9 sh_102 rfl (by decide +kernel) rfl ?_
    refine Gz.aload_n (q := 0) (pc' := 25) (by decide +kernel) rfl 0 rfl ?_
    refine Gz.getR (pc' := 28) (j := 2) 73 fd_Ch_26 sh_102 rfl (by decide +kernel) rfl ?_
    refine Gz.callVR (st := [.ref 103]) (b := 73) (pc' := 31) [] (g_Co_fitting w2) h ok_m_Co_fitting lk_Ch_36 sh_73 rfl rfl rfl (Nat.le_of_ble_eq_true rfl) (Nat.le_of_ble_eq_true rfl) (Nat.le_of_ble_eq_true rfl) (by decide +kernel) rfl (fun v10 w11 h => ?_)
    refine Gz.iload (i := 5) (pc' := 33) (by decide +kernel) rfl 5 rfl ?_
    refine Gz.callSJ (st := [.ref 103]) (pc' := 36) [.ref v10, .int x5] (g_Ro_word v10 x5 w11) h ok_m_Ro_word lk_Ch_40 rfl (Nat.le_of_ble_eq_true rfl) (Nat.le_of_ble_eq_true rfl) (Nat.le_of_ble_eq_true rfl) (by decide +kernel) rfl (fun v12 w13 h => ?_)
    refine Gz.callSV (st := []) (pc' := 39) [.ref 103, .long v12] (g_Ro_startLevels 103 v12 w13) h ok_m_Ro_startLevels lk_Ch_109 rfl (Nat.le_of_ble_eq_true rfl) (Nat.le_of_ble_eq_true rfl) (Nat.le_of_ble_eq_true rfl) (by decide +kernel) rfl (fun _ w14 h => ?_)
    refine Gz.iconst (n := 0) (v := (0 : Int32)) (pc' := 40) (by decide +kernel) rfl rfl ?_
    refine Gz.istore (i := 6) (pc' := 42) (L' := [(6, .int (0 : Int32)), (0, .ref 102), (1, .int x1), (2, .int x2), (3, .int x3), (4, .int x4), (5, .int x5)]) (by decide +kernel) rfl (Nat.le_of_ble_eq_true rfl) rfl ?_
    refine Gz.sub (L' := [(0, .ref 102), (1, .int x1), (2, .int x2), (3, .int x3), (4, .int x4), (5, .int x5), (6, .int (0 : Int32))]) [1, 2, 3, 4, 5, 6, 0] rfl ?_
    exact g_Ch_nearest_b42 k8 hk8 x1 x2 x3 x4 x5 (0 : Int32) w14 h
theorem g_Ch_nearest_b8 {l : Launch} {Q : Option Value → gW → Prop} (x1 : Int32) (x2 : Int32) (x3 : Int32) (x4 : Int32) (x5 : Int32) (w : gW) (h : zok eI (f_Ch_nearest_b8 x1 x2 x3 x4 x5 w) Q) : Gz l m_Ch_nearest 5 8 [(0, .ref 102), (1, .int x1), (2, .int x2), (3, .int x3), (4, .int x4), (5, .int x5)] [] w Q := by
  have key : ∀ (n : Nat) (x1 : Int32) (x2 : Int32) (x3 : Int32) (x4 : Int32) (x5 : Int32) (w : gW), zok eI (zfx (fun _ _ _ _ _ _ => none) (f_Ch_nearest_b8_s) n x1 x2 x3 x4 x5 w) Q → Gz l m_Ch_nearest 5 8 [(0, .ref 102), (1, .int x1), (2, .int x2), (3, .int x3), (4, .int x4), (5, .int x5)] [] w Q := by
    intro n
    induction n with
    | zero => intro x1 x2 x3 x4 x5 w h; exact zok_n h
    | succ n ih => intro x1 x2 x3 x4 x5 w h; exact g_Ch_nearest_b8_s _ ih x1 x2 x3 x4 x5 w h
  exact key zFU x1 x2 x3 x4 x5 w h
theorem g_Ch_nearest {l : Launch} (a1 : Int32) (a2 : Int32) (w : gW) : gCt l m_Ch_nearest 5 [.ref 102, .int a1, .int a2] w eI (f_Ch_nearest a1 a2 w) := by
  intro Q h
  unfold f_Ch_nearest at h
  show Gz l m_Ch_nearest 5 0 [(0, .ref 102), (1, .int a1), (2, .int a2)] [] w Q
  refine Gz.iconst (n := -1) (v := (-1 : Int32)) (pc' := 1) (by decide +kernel) rfl rfl ?_
  refine Gz.istore_n (q := 3) (pc' := 2) (L' := [(3, .int (-1 : Int32)), (0, .ref 102), (1, .int a1), (2, .int a2)]) (by decide +kernel) rfl (Nat.le_of_ble_eq_true rfl) rfl ?_
  refine Gz.iconst (n := -1) (v := (-1 : Int32)) (pc' := 3) (by decide +kernel) rfl rfl ?_
  refine Gz.istore (i := 4) (pc' := 5) (L' := [(4, .int (-1 : Int32)), (3, .int (-1 : Int32)), (0, .ref 102), (1, .int a1), (2, .int a2)]) (by decide +kernel) rfl (Nat.le_of_ble_eq_true rfl) rfl ?_
  refine Gz.iconst (n := 0) (v := (0 : Int32)) (pc' := 6) (by decide +kernel) rfl rfl ?_
  refine Gz.istore (i := 5) (pc' := 8) (L' := [(5, .int (0 : Int32)), (4, .int (-1 : Int32)), (3, .int (-1 : Int32)), (0, .ref 102), (1, .int a1), (2, .int a2)]) (by decide +kernel) rfl (Nat.le_of_ble_eq_true rfl) rfl ?_
  refine Gz.sub (L' := [(0, .ref 102), (1, .int a1), (2, .int a2), (3, .int (-1 : Int32)), (4, .int (-1 : Int32)), (5, .int (0 : Int32))]) [3, 4, 5, 2, 1, 0] rfl ?_
  exact g_Ch_nearest_b8 a1 a2 (-1 : Int32) (-1 : Int32) (0 : Int32) w h
def f_X_near (a1 : Int32) (a2 : Int32) (w : gW) : Option (Int32 × gW) :=
zb (f_La_placeOf a1 w) (fun v1 w2 =>
if v1 = (-1 : Int32) then
(some ((-1 : Int32), w2))
else
(zb (f_X_isZeroOrOne a2 w2) (fun v4 w5 =>
if v4 = 0 then
(some ((-1 : Int32), w5))
else
(zb (f_Ch_nearest v1 a2 w5) (fun v7 w8 =>
some (v7, w8))))))
theorem g_X_near {l : Launch} (a1 : Int32) (a2 : Int32) (w : gW) : gCt l m_X_near 6 [.ref 0, .int a1, .int a2] w eI (f_X_near a1 a2 w) := by
  intro Q h
  unfold f_X_near at h
  show Gz l m_X_near 6 0 [(0, .ref 0), (1, .int a1), (2, .int a2)] [] w Q
  refine Gz.aload_n (q := 0) (pc' := 1) (by decide +kernel) rfl 0 rfl ?_
  refine Gz.getR (pc' := 4) (j := 3) 19 fd_X_33 sh_0 rfl (by decide +kernel) rfl ?_
  refine Gz.iload_n (q := 1) (pc' := 5) (by decide +kernel) rfl 1 rfl ?_
  refine Gz.callVI (st := []) (b := 19) (pc' := 8) [.int a1] (g_La_placeOf a1 w) h ok_m_La_placeOf lk_X_203 sh_19 rfl rfl rfl (Nat.le_of_ble_eq_true rfl) (Nat.le_of_ble_eq_true rfl) (Nat.le_of_ble_eq_true rfl) (by decide +kernel) rfl (fun v1 w2 h => ?_)
  refine Gz.istore_n (q := 3) (pc' := 9) (L' := [(3, .int v1), (0, .ref 0), (1, .int a1), (2, .int a2)]) (by decide +kernel) rfl (Nat.le_of_ble_eq_true rfl) rfl ?_
  refine Gz.iload_n (q := 3) (pc' := 10) (by decide +kernel) rfl 0 rfl ?_
  refine Gz.iconst (n := -1) (v := (-1 : Int32)) (pc' := 11) (by decide +kernel) rfl rfl ?_
  refine Gz.icmp_eq (off := 22) (tgt := 33) (pc' := 14) (by decide +kernel) (by decide) rfl (fun c3 => ?_) (fun c3 => ?_)
  · have h := zok_t c3 h
    refine Gz.iconst (n := -1) (v := (-1 : Int32)) (pc' := 34) (by decide +kernel) rfl rfl ?_
    exact Gz.ireturn (by decide +kernel) rfl (zok_sI h)
  · have h := zok_f c3 h
    refine Gz.iload_n (q := 2) (pc' := 15) (by decide +kernel) rfl 3 rfl ?_
    refine Gz.callSI (st := []) (pc' := 18) [.int a2] (g_X_isZeroOrOne a2 w2) h ok_m_X_isZeroOrOne lk_X_228 rfl (Nat.le_of_ble_eq_true rfl) (Nat.le_of_ble_eq_true rfl) (Nat.le_of_ble_eq_true rfl) (by decide +kernel) rfl (fun v4 w5 h => ?_)
    refine Gz.if_eq (off := 15) (tgt := 33) (pc' := 21) (by decide +kernel) (by decide) rfl (fun c6 => ?_) (fun c6 => ?_)
    · have h := zok_t c6 h
      refine Gz.iconst (n := -1) (v := (-1 : Int32)) (pc' := 34) (by decide +kernel) rfl rfl ?_
      exact Gz.ireturn (by decide +kernel) rfl (zok_sI h)
    · have h := zok_f c6 h
      refine Gz.aload_n (q := 0) (pc' := 22) (by decide +kernel) rfl 1 rfl ?_
      refine Gz.getR (pc' := 25) (j := 9) 102 fd_X_79 sh_0 rfl (by decide +kernel) rfl ?_
      refine Gz.iload_n (q := 3) (pc' := 26) (by decide +kernel) rfl 0 rfl ?_
      refine Gz.iload_n (q := 2) (pc' := 27) (by decide +kernel) rfl 3 rfl ?_
      refine Gz.callVI (st := []) (b := 102) (pc' := 30) [.int v1, .int a2] (g_Ch_nearest v1 a2 w5) h ok_m_Ch_nearest lk_X_316 sh_102 rfl rfl rfl (Nat.le_of_ble_eq_true rfl) (Nat.le_of_ble_eq_true rfl) (Nat.le_of_ble_eq_true rfl) (by decide +kernel) rfl (fun v7 w8 h => ?_)
      refine Gz.goto (off := 4) (tgt := 34) (by decide +kernel) (by decide) ?_
      exact Gz.ireturn (by decide +kernel) rfl (zok_sI h)
def f_Ch_isDoer (a1 : Int32) (a2 : Int32) (w : gW) : Option (Int32 × gW) :=
zb (f_La_trait a2 (0 : Int32) w) (fun v1 w2 =>
if v1 = a1 then
(some ((1 : Int32), w2))
else
(some ((0 : Int32), w2)))
theorem g_Ch_isDoer {l : Launch} (a1 : Int32) (a2 : Int32) (w : gW) : gCt l m_Ch_isDoer 2 [.ref 102, .int a1, .int a2] w eI (f_Ch_isDoer a1 a2 w) := by
  intro Q h
  unfold f_Ch_isDoer at h
  show Gz l m_Ch_isDoer 2 0 [(0, .ref 102), (1, .int a1), (2, .int a2)] [] w Q
  refine Gz.aload_n (q := 0) (pc' := 1) (by decide +kernel) rfl 0 rfl ?_
  refine Gz.getR (pc' := 4) (j := 0) 19 fd_Ch_18 sh_102 rfl (by decide +kernel) rfl ?_
  refine Gz.iload_n (q := 2) (pc' := 5) (by decide +kernel) rfl 2 rfl ?_
  refine Gz.iconst (n := 0) (v := (0 : Int32)) (pc' := 6) (by decide +kernel) rfl rfl ?_
  refine Gz.callVI (st := []) (b := 19) (pc' := 9) [.int a2, .int (0 : Int32)] (g_La_trait a2 (0 : Int32) w) h ok_m_La_trait lk_Ch_160 sh_19 rfl rfl rfl (Nat.le_of_ble_eq_true rfl) (Nat.le_of_ble_eq_true rfl) (Nat.le_of_ble_eq_true rfl) (by decide +kernel) rfl (fun v1 w2 h => ?_)
  refine Gz.iload_n (q := 1) (pc' := 10) (by decide +kernel) rfl 1 rfl ?_
  refine Gz.icmp_ne (off := 7) (tgt := 17) (pc' := 13) (by decide +kernel) (by decide) rfl (fun c3 => ?_) (fun c3 => ?_)
  · have h := zok_f c3 h
    refine Gz.iconst (n := 0) (v := (0 : Int32)) (pc' := 18) (by decide +kernel) rfl rfl ?_
    exact Gz.zreturn (by decide +kernel) rfl (by decide) (zok_sI h)
  · have h := zok_t c3 h
    refine Gz.iconst (n := 1) (v := (1 : Int32)) (pc' := 14) (by decide +kernel) rfl rfl ?_
    refine Gz.goto (off := 4) (tgt := 18) (by decide +kernel) (by decide) ?_
    exact Gz.zreturn (by decide +kernel) rfl (by decide) (zok_sI h)
def f_Ch_alibiOf_b58 (k2 : Int32 → Int32 → Int32 → gW → Option (Int32 × gW)) (k19 : Int32 → Int32 → Int32 → Int64 → Int32 → gW → Option (Int32 × gW)) (x1 : Int32) (x2 : Int32) (x3 : Int32) (x6 : Int32) (s0 : Int64) (s1 : Int64) (w : gW) : Option (Int32 × gW) :=
zl (s0 ||| s1) (fun v1 =>
zl (x6 + (1 : Int32)) (fun v3 =>
k19 x1 x2 x3 v1 v3 w))
def f_Ch_alibiOf_b19_s (k2 : Int32 → Int32 → Int32 → gW → Option (Int32 × gW)) (k19 : Int32 → Int32 → Int32 → Int64 → Int32 → gW → Option (Int32 × gW)) (x1 : Int32) (x2 : Int32) (x3 : Int32) (x4 : Int64) (x6 : Int32) (w : gW) : Option (Int32 × gW) :=
zb (f_La_deedCount w) (fun v1 w2 =>
if v1 ≤ x6 then
(zb (f_Co_fitting w2) (fun v4 w5 =>
zb (f_Ro_word v4 x3 w5) (fun v6 w7 =>
if (lg_cmp (x4 &&& v6) (0 : Int64)) = 0 then
(zl (x3 + (1 : Int32)) (fun v9 =>
k2 x1 x2 v9 w7))
else
(some ((0 : Int32), w7)))))
else
(zb (f_Ch_isDoer x1 x6 w2) (fun v11 w12 =>
if v11 = 0 then
(f_Ch_alibiOf_b58 k2 k19 x1 x2 x3 x6 x4 (0 : Int64) w12)
else
(zb (f_La_dateWord x6 x2 x3 w12) (fun v14 w15 =>
f_Ch_alibiOf_b58 k2 k19 x1 x2 x3 x6 x4 v14 w15)))))
def f_Ch_alibiOf_b19 (k2 : Int32 → Int32 → Int32 → gW → Option (Int32 × gW)) : Int32 → Int32 → Int32 → Int64 → Int32 → gW → Option (Int32 × gW) := zfx (fun _ _ _ _ _ _ => none) (f_Ch_alibiOf_b19_s k2) zFU
def f_Ch_alibiOf_b2_s (k2 : Int32 → Int32 → Int32 → gW → Option (Int32 × gW)) (x1 : Int32) (x2 : Int32) (x3 : Int32) (w : gW) : Option (Int32 × gW) :=
zb (f_La_words w) (fun v1 w2 =>
if v1 ≤ x3 then
(some ((1 : Int32), w2))
else
(f_Ch_alibiOf_b19 k2 x1 x2 x3 (0 : Int64) (0 : Int32) w2))
def f_Ch_alibiOf_b2 : Int32 → Int32 → Int32 → gW → Option (Int32 × gW) := zfx (fun _ _ _ _ => none) (f_Ch_alibiOf_b2_s) zFU
def f_Ch_alibiOf (a1 : Int32) (a2 : Int32) (w : gW) : Option (Int32 × gW) :=
f_Ch_alibiOf_b2 a1 a2 (0 : Int32) w
theorem g_Ch_alibiOf_b58 {l : Launch} {Q : Option Value → gW → Prop} (k2 : Int32 → Int32 → Int32 → gW → Option (Int32 × gW)) (hk2 : ∀ (x1 : Int32) (x2 : Int32) (x3 : Int32) (w : gW), zok eI (k2 x1 x2 x3 w) Q → Gz l m_Ch_alibiOf 4 2 [(0, .ref 102), (1, .int x1), (2, .int x2), (3, .int x3)] [] w Q) (k19 : Int32 → Int32 → Int32 → Int64 → Int32 → gW → Option (Int32 × gW)) (hk19 : ∀ (x1 : Int32) (x2 : Int32) (x3 : Int32) (x4 : Int64) (x6 : Int32) (w : gW), zok eI (k19 x1 x2 x3 x4 x6 w) Q → Gz l m_Ch_alibiOf 4 19 [(0, .ref 102), (1, .int x1), (2, .int x2), (3, .int x3), (4, .long x4), (6, .int x6)] [] w Q) (x1 : Int32) (x2 : Int32) (x3 : Int32) (x6 : Int32) (s0 : Int64) (s1 : Int64) (w : gW) (h : zok eI (f_Ch_alibiOf_b58 k2 k19 x1 x2 x3 x6 s0 s1 w) Q) : Gz l m_Ch_alibiOf 4 58 [(0, .ref 102), (1, .int x1), (2, .int x2), (3, .int x3), (6, .int x6)] [.long s1, .long s0] w Q := by
  unfold f_Ch_alibiOf_b58 at h
  refine Gz.lor (pc' := 59) (by decide +kernel) rfl ?_
  refine Gz.nmJ (fun v1 e2 => ?_)
  have h := zok_l e2 h
  refine Gz.lstore (i := 4) (pc' := 61) (L' := [(4, .long v1), (0, .ref 102), (1, .int x1), (2, .int x2), (3, .int x3), (6, .int x6)]) (by decide +kernel) rfl (Nat.le_of_ble_eq_true rfl) rfl ?_
  obtain ⟨v3, e4⟩ : ∃ y : Int32, y = x6 + (1 : Int32) := ⟨_, rfl⟩
  have h := zok_l e4 h
  refine Gz.iinc (i := 6) (n := 1) (pc' := 64) (L' := [(6, .int v3), (4, .long v1), (0, .ref 102), (1, .int x1), (2, .int x2), (3, .int x3)]) v3 (by decide +kernel) rfl 5 rfl (by rw [e4]; rfl) (Nat.le_of_ble_eq_true rfl) rfl ?_
  refine Gz.goto (off := -45) (tgt := 19) (by decide +kernel) (by decide) ?_
  refine Gz.sub (L' := [(0, .ref 102), (1, .int x1), (2, .int x2), (3, .int x3), (4, .long v1), (6, .int v3)]) [2, 3, 4, 5, 1, 0] rfl ?_
  exact hk19 x1 x2 x3 v1 v3 w h
theorem g_Ch_alibiOf_b19_s {l : Launch} {Q : Option Value → gW → Prop} (k2 : Int32 → Int32 → Int32 → gW → Option (Int32 × gW)) (hk2 : ∀ (x1 : Int32) (x2 : Int32) (x3 : Int32) (w : gW), zok eI (k2 x1 x2 x3 w) Q → Gz l m_Ch_alibiOf 4 2 [(0, .ref 102), (1, .int x1), (2, .int x2), (3, .int x3)] [] w Q) (k19 : Int32 → Int32 → Int32 → Int64 → Int32 → gW → Option (Int32 × gW)) (hk19 : ∀ (x1 : Int32) (x2 : Int32) (x3 : Int32) (x4 : Int64) (x6 : Int32) (w : gW), zok eI (k19 x1 x2 x3 x4 x6 w) Q → Gz l m_Ch_alibiOf 4 19 [(0, .ref 102), (1, .int x1), (2, .int x2), (3, .int x3), (4, .long x4), (6, .int x6)] [] w Q) (x1 : Int32) (x2 : Int32) (x3 : Int32) (x4 : Int64) (x6 : Int32) (w : gW) (h : zok eI (f_Ch_alibiOf_b19_s k2 k19 x1 x2 x3 x4 x6 w) Q) : Gz l m_Ch_alibiOf 4 19 [(0, .ref 102), (1, .int x1), (2, .int x2), (3, .int x3), (4, .long x4), (6, .int x6)] [] w Q := by
  unfold f_Ch_alibiOf_b19_s at h
  refine Gz.iload (i := 6) (pc' := 21) (by decide +kernel) rfl 5 rfl ?_
  refine Gz.aload_n (q := 0) (pc' := 22) (by decide +kernel) rfl 0 rfl ?_
  refine Gz.getR (pc' := 25) (j := 0) 19 fd_Ch_18 sh_102 rfl (by decide +kernel) rfl ?_
  refine Gz.callVI (st := [.int x6]) (b := 19) (pc' := 28) [] (g_La_deedCount w) h ok_m_La_deedCount lk_Ch_68 sh_19 rfl rfl rfl (Nat.le_of_ble_eq_true rfl) (Nat.le_of_ble_eq_true rfl) (Nat.le_of_ble_eq_true rfl) (by decide +kernel) rfl (fun v1 w2 h => ?_)
  refine Gz.icmp_ge (off := 39) (tgt := 67) (pc' := 31) (by decide +kernel) (by decide) rfl (fun c3 => ?_) (fun c3 => ?_)
  · have h := zok_t c3 h
    refine Gz.lload (i := 4) (pc' := 69) (by decide +kernel) rfl 4 rfl ?_
    refine Gz.aload_n (q := 0) (pc' := 70) (by decide +kernel) rfl 0 rfl ?_
    refine Gz.getR (pc' := 73) (j := 2) 73 fd_Ch_26 sh_102 rfl (by decide +kernel) rfl ?_
    refine Gz.callVR (st := [.long x4]) (b := 73) (pc' := 76) [] (g_Co_fitting w2) h ok_m_Co_fitting lk_Ch_36 sh_73 rfl rfl rfl (Nat.le_of_ble_eq_true rfl) (Nat.le_of_ble_eq_true rfl) (Nat.le_of_ble_eq_true rfl) (by decide +kernel) rfl (fun v4 w5 h => ?_)
    refine Gz.iload_n (q := 3) (pc' := 77) (by decide +kernel) rfl 3 rfl ?_
    refine Gz.callSJ (st := [.long x4]) (pc' := 80) [.ref v4, .int x3] (g_Ro_word v4 x3 w5) h ok_m_Ro_word lk_Ch_40 rfl (Nat.le_of_ble_eq_true rfl) (Nat.le_of_ble_eq_true rfl) (Nat.le_of_ble_eq_true rfl) (by decide +kernel) rfl (fun v6 w7 h => ?_)
    refine Gz.land (pc' := 81) (by decide +kernel) rfl ?_
    refine Gz.lconst (n := 0) (v := (0 : Int64)) (pc' := 82) (by decide +kernel) rfl rfl ?_
    refine Gz.lcmp (pc' := 83) (by decide +kernel) rfl ?_
    refine Gz.if_eq (off := 5) (tgt := 88) (pc' := 86) (by decide +kernel) (by decide) rfl (fun c8 => ?_) (fun c8 => ?_)
    · have h := zok_t c8 h
      obtain ⟨v9, e10⟩ : ∃ y : Int32, y = x3 + (1 : Int32) := ⟨_, rfl⟩
      have h := zok_l e10 h
      refine Gz.iinc (i := 3) (n := 1) (pc' := 91) (L' := [(3, .int v9), (0, .ref 102), (1, .int x1), (2, .int x2), (4, .long x4), (6, .int x6)]) v9 (by decide +kernel) rfl 3 rfl (by rw [e10]; rfl) (Nat.le_of_ble_eq_true rfl) rfl ?_
      refine Gz.goto (off := -89) (tgt := 2) (by decide +kernel) (by decide) ?_
      refine Gz.sub (L' := [(0, .ref 102), (1, .int x1), (2, .int x2), (3, .int v9)]) [1, 2, 3, 0] rfl ?_
      exact hk2 x1 x2 v9 w7 h
    · have h := zok_f c8 h
      refine Gz.iconst (n := 0) (v := (0 : Int32)) (pc' := 87) (by decide +kernel) rfl rfl ?_
      exact Gz.ireturn (by decide +kernel) rfl (zok_sI h)
  · have h := zok_f c3 h
    refine Gz.lload (i := 4) (pc' := 33) (by decide +kernel) rfl 4 rfl ?_
    refine Gz.aload_n (q := 0) (pc' := 34) (by decide +kernel) rfl 0 rfl ?_
    refine Gz.iload_n (q := 1) (pc' := 35) (by decide +kernel) rfl 1 rfl ?_
    refine Gz.iload (i := 6) (pc' := 37) (by decide +kernel) rfl 5 rfl ?_
    refine Gz.callVI (st := [.long x4]) (b := 102) (pc' := 40) [.int x1, .int x6] (g_Ch_isDoer x1 x6 w2) h ok_m_Ch_isDoer lk_Ch_134 sh_102 rfl rfl rfl (Nat.le_of_ble_eq_true rfl) (Nat.le_of_ble_eq_true rfl) (Nat.le_of_ble_eq_true rfl) (by decide +kernel) rfl (fun v11 w12 h => ?_)
    refine Gz.if_eq (off := 17) (tgt := 57) (pc' := 43) (by decide +kernel) (by decide) rfl (fun c13 => ?_) (fun c13 => ?_)
    · have h := zok_t c13 h
      refine Gz.lconst (n := 0) (v := (0 : Int64)) (pc' := 58) (by decide +kernel) rfl rfl ?_
      refine Gz.sub (L' := [(0, .ref 102), (1, .int x1), (2, .int x2), (3, .int x3), (6, .int x6)]) [0, 1, 2, 3, 5] rfl ?_
      exact g_Ch_alibiOf_b58 k2 hk2 k19 hk19 x1 x2 x3 x6 x4 (0 : Int64) w12 h
    · have h := zok_f c13 h
      refine Gz.aload_n (q := 0) (pc' := 44) (by decide +kernel) rfl 0 rfl ?_
      refine Gz.getR (pc' := 47) (j := 0) 19 fd_Ch_18 sh_102 rfl (by decide +kernel) rfl ?_
      refine Gz.iload (i := 6) (pc' := 49) (by decide +kernel) rfl 5 rfl ?_
      refine Gz.iload_n (q := 2) (pc' := 50) (by decide +kernel) rfl 2 rfl ?_
      refine Gz.iload_n (q := 3) (pc' := 51) (by decide +kernel) rfl 3 rfl ?_
      refine Gz.callVJ (st := [.long x4]) (b := 19) (pc' := 54) [.int x6, .int x2, .int x3] (g_La_dateWord x6 x2 x3 w12) h ok_m_La_dateWord lk_Ch_116 sh_19 rfl rfl rfl (Nat.le_of_ble_eq_true rfl) (Nat.le_of_ble_eq_true rfl) (Nat.le_of_ble_eq_true rfl) (by decide +kernel) rfl (fun v14 w15 h => ?_)
      refine Gz.goto (off := 4) (tgt := 58) (by decide +kernel) (by decide) ?_
      refine Gz.sub (L' := [(0, .ref 102), (1, .int x1), (2, .int x2), (3, .int x3), (6, .int x6)]) [0, 1, 2, 3, 5] rfl ?_
      exact g_Ch_alibiOf_b58 k2 hk2 k19 hk19 x1 x2 x3 x6 x4 v14 w15 h
theorem g_Ch_alibiOf_b19 {l : Launch} {Q : Option Value → gW → Prop} (k2 : Int32 → Int32 → Int32 → gW → Option (Int32 × gW)) (hk2 : ∀ (x1 : Int32) (x2 : Int32) (x3 : Int32) (w : gW), zok eI (k2 x1 x2 x3 w) Q → Gz l m_Ch_alibiOf 4 2 [(0, .ref 102), (1, .int x1), (2, .int x2), (3, .int x3)] [] w Q) (x1 : Int32) (x2 : Int32) (x3 : Int32) (x4 : Int64) (x6 : Int32) (w : gW) (h : zok eI (f_Ch_alibiOf_b19 k2 x1 x2 x3 x4 x6 w) Q) : Gz l m_Ch_alibiOf 4 19 [(0, .ref 102), (1, .int x1), (2, .int x2), (3, .int x3), (4, .long x4), (6, .int x6)] [] w Q := by
  have key : ∀ (n : Nat) (x1 : Int32) (x2 : Int32) (x3 : Int32) (x4 : Int64) (x6 : Int32) (w : gW), zok eI (zfx (fun _ _ _ _ _ _ => none) (f_Ch_alibiOf_b19_s k2) n x1 x2 x3 x4 x6 w) Q → Gz l m_Ch_alibiOf 4 19 [(0, .ref 102), (1, .int x1), (2, .int x2), (3, .int x3), (4, .long x4), (6, .int x6)] [] w Q := by
    intro n
    induction n with
    | zero => intro x1 x2 x3 x4 x6 w h; exact zok_n h
    | succ n ih => intro x1 x2 x3 x4 x6 w h; exact g_Ch_alibiOf_b19_s k2 hk2 _ ih x1 x2 x3 x4 x6 w h
  exact key zFU x1 x2 x3 x4 x6 w h
theorem g_Ch_alibiOf_b2_s {l : Launch} {Q : Option Value → gW → Prop} (k2 : Int32 → Int32 → Int32 → gW → Option (Int32 × gW)) (hk2 : ∀ (x1 : Int32) (x2 : Int32) (x3 : Int32) (w : gW), zok eI (k2 x1 x2 x3 w) Q → Gz l m_Ch_alibiOf 4 2 [(0, .ref 102), (1, .int x1), (2, .int x2), (3, .int x3)] [] w Q) (x1 : Int32) (x2 : Int32) (x3 : Int32) (w : gW) (h : zok eI (f_Ch_alibiOf_b2_s k2 x1 x2 x3 w) Q) : Gz l m_Ch_alibiOf 4 2 [(0, .ref 102), (1, .int x1), (2, .int x2), (3, .int x3)] [] w Q := by
  unfold f_Ch_alibiOf_b2_s at h
  refine Gz.iload_n (q := 3) (pc' := 3) (by decide +kernel) rfl 3 rfl ?_
  refine Gz.aload_n (q := 0) (pc' := 4) (by decide +kernel) rfl 0 rfl ?_
  refine Gz.getR (pc' := 7) (j := 0) 19 fd_Ch_18 sh_102 rfl (by decide +kernel) rfl ?_
  refine Gz.callVI (st := [.int x3]) (b := 19) (pc' := 10) [] (g_La_words w) h ok_m_La_words lk_Ch_58 sh_19 rfl rfl rfl (Nat.le_of_ble_eq_true rfl) (Nat.le_of_ble_eq_true rfl) (Nat.le_of_ble_eq_true rfl) (by decide +kernel) rfl (fun v1 w2 h => ?_)
  refine Gz.icmp_ge (off := 84) (tgt := 94) (pc' := 13) (by decide +kernel) (by decide) rfl (fun c3 => ?_) (fun c3 => ?_)
  · have h := zok_t c3 h
    refine Gz.iconst (n := 1) (v := (1 : Int32)) (pc' := 95) (by decide +kernel) rfl rfl ?_
    exact Gz.ireturn (by decide +kernel) rfl (zok_sI h)
  · have h := zok_f c3 h
    refine Gz.lconst (n := 0) (v := (0 : Int64)) (pc' := 14) (by decide +kernel) rfl rfl ?_
    refine Gz.lstore (i := 4) (pc' := 16) (L' := [(4, .long (0 : Int64)), (0, .ref 102), (1, .int x1), (2, .int x2), (3, .int x3)]) (by decide +kernel) rfl (Nat.le_of_ble_eq_true rfl) rfl ?_
    refine Gz.iconst (n := 0) (v := (0 : Int32)) (pc' := 17) (by decide +kernel) rfl rfl ?_
    refine Gz.istore (i := 6) (pc' := 19) (L' := [(6, .int (0 : Int32)), (4, .long (0 : Int64)), (0, .ref 102), (1, .int x1), (2, .int x2), (3, .int x3)]) (by decide +kernel) rfl (Nat.le_of_ble_eq_true rfl) rfl ?_
    refine Gz.sub (L' := [(0, .ref 102), (1, .int x1), (2, .int x2), (3, .int x3), (4, .long (0 : Int64)), (6, .int (0 : Int32))]) [2, 3, 4, 5, 1, 0] rfl ?_
    exact g_Ch_alibiOf_b19 k2 hk2 x1 x2 x3 (0 : Int64) (0 : Int32) w2 h
theorem g_Ch_alibiOf_b2 {l : Launch} {Q : Option Value → gW → Prop} (x1 : Int32) (x2 : Int32) (x3 : Int32) (w : gW) (h : zok eI (f_Ch_alibiOf_b2 x1 x2 x3 w) Q) : Gz l m_Ch_alibiOf 4 2 [(0, .ref 102), (1, .int x1), (2, .int x2), (3, .int x3)] [] w Q := by
  have key : ∀ (n : Nat) (x1 : Int32) (x2 : Int32) (x3 : Int32) (w : gW), zok eI (zfx (fun _ _ _ _ => none) (f_Ch_alibiOf_b2_s) n x1 x2 x3 w) Q → Gz l m_Ch_alibiOf 4 2 [(0, .ref 102), (1, .int x1), (2, .int x2), (3, .int x3)] [] w Q := by
    intro n
    induction n with
    | zero => intro x1 x2 x3 w h; exact zok_n h
    | succ n ih => intro x1 x2 x3 w h; exact g_Ch_alibiOf_b2_s _ ih x1 x2 x3 w h
  exact key zFU x1 x2 x3 w h
theorem g_Ch_alibiOf {l : Launch} (a1 : Int32) (a2 : Int32) (w : gW) : gCt l m_Ch_alibiOf 4 [.ref 102, .int a1, .int a2] w eI (f_Ch_alibiOf a1 a2 w) := by
  intro Q h
  unfold f_Ch_alibiOf at h
  show Gz l m_Ch_alibiOf 4 0 [(0, .ref 102), (1, .int a1), (2, .int a2)] [] w Q
  refine Gz.iconst (n := 0) (v := (0 : Int32)) (pc' := 1) (by decide +kernel) rfl rfl ?_
  refine Gz.istore_n (q := 3) (pc' := 2) (L' := [(3, .int (0 : Int32)), (0, .ref 102), (1, .int a1), (2, .int a2)]) (by decide +kernel) rfl (Nat.le_of_ble_eq_true rfl) rfl ?_
  refine Gz.sub (L' := [(0, .ref 102), (1, .int a1), (2, .int a2), (3, .int (0 : Int32))]) [1, 2, 3, 0] rfl ?_
  exact g_Ch_alibiOf_b2 a1 a2 (0 : Int32) w h
def f_X_alibi_b27 (x1 : Int32) (x2 : Int32) (s0 : Int32) (w : gW) : Option (Int32 × gW) :=
if s0 = 0 then
(some ((-1 : Int32), w))
else
(zb (f_Ch_alibiOf x1 x2 w) (fun v2 w3 =>
some (v2, w3)))
def f_X_alibi_b26 (x1 : Int32) (x2 : Int32) (w : gW) : Option (Int32 × gW) :=
f_X_alibi_b27 x1 x2 (0 : Int32) w
def f_X_alibi (a1 : Int32) (a2 : Int32) (w : gW) : Option (Int32 × gW) :=
zb (f_X_isPerson a1 w) (fun v1 w2 =>
if v1 = 0 then
(f_X_alibi_b26 a1 a2 w2)
else
(if a2 < 0 then
(f_X_alibi_b26 a1 a2 w2)
else
(zb (f_La_dayCount w2) (fun v5 w6 =>
if v5 ≤ a2 then
(f_X_alibi_b26 a1 a2 w6)
else
(f_X_alibi_b27 a1 a2 (1 : Int32) w6)))))
theorem g_X_alibi_b27 {l : Launch} {Q : Option Value → gW → Prop} (x1 : Int32) (x2 : Int32) (s0 : Int32) (w : gW) (h : zok eI (f_X_alibi_b27 x1 x2 s0 w) Q) : Gz l m_X_alibi 5 27 [(0, .ref 0), (1, .int x1), (2, .int x2)] [.int s0] w Q := by
  unfold f_X_alibi_b27 at h
  refine Gz.istore_n (q := 3) (pc' := 28) (L' := [(3, .int s0), (0, .ref 0), (1, .int x1), (2, .int x2)]) (by decide +kernel) rfl (Nat.le_of_ble_eq_true rfl) rfl ?_
  refine Gz.iload_n (q := 3) (pc' := 29) (by decide +kernel) rfl 0 rfl ?_
  refine Gz.if_eq (off := 15) (tgt := 44) (pc' := 32) (by decide +kernel) (by decide) rfl (fun c1 => ?_) (fun c1 => ?_)
  · have h := zok_t c1 h
    refine Gz.iconst (n := -1) (v := (-1 : Int32)) (pc' := 45) (by decide +kernel) rfl rfl ?_
    exact Gz.ireturn (by decide +kernel) rfl (zok_sI h)
  · have h := zok_f c1 h
    refine Gz.aload_n (q := 0) (pc' := 33) (by decide +kernel) rfl 1 rfl ?_
    refine Gz.getR (pc' := 36) (j := 9) 102 fd_X_79 sh_0 rfl (by decide +kernel) rfl ?_
    refine Gz.iload_n (q := 1) (pc' := 37) (by decide +kernel) rfl 2 rfl ?_
    refine Gz.iload_n (q := 2) (pc' := 38) (by decide +kernel) rfl 3 rfl ?_
    refine Gz.callVI (st := []) (b := 102) (pc' := 41) [.int x1, .int x2] (g_Ch_alibiOf x1 x2 w) h ok_m_Ch_alibiOf lk_X_322 sh_102 rfl rfl rfl (Nat.le_of_ble_eq_true rfl) (Nat.le_of_ble_eq_true rfl) (Nat.le_of_ble_eq_true rfl) (by decide +kernel) rfl (fun v2 w3 h => ?_)
    refine Gz.goto (off := 4) (tgt := 45) (by decide +kernel) (by decide) ?_
    exact Gz.ireturn (by decide +kernel) rfl (zok_sI h)
theorem g_X_alibi_b26 {l : Launch} {Q : Option Value → gW → Prop} (x1 : Int32) (x2 : Int32) (w : gW) (h : zok eI (f_X_alibi_b26 x1 x2 w) Q) : Gz l m_X_alibi 5 26 [(0, .ref 0), (1, .int x1), (2, .int x2)] [] w Q := by
  unfold f_X_alibi_b26 at h
  refine Gz.iconst (n := 0) (v := (0 : Int32)) (pc' := 27) (by decide +kernel) rfl rfl ?_
  exact g_X_alibi_b27 x1 x2 (0 : Int32) w h
theorem g_X_alibi {l : Launch} (a1 : Int32) (a2 : Int32) (w : gW) : gCt l m_X_alibi 5 [.ref 0, .int a1, .int a2] w eI (f_X_alibi a1 a2 w) := by
  intro Q h
  unfold f_X_alibi at h
  show Gz l m_X_alibi 5 0 [(0, .ref 0), (1, .int a1), (2, .int a2)] [] w Q
  refine Gz.iload_n (q := 1) (pc' := 1) (by decide +kernel) rfl 1 rfl ?_
  refine Gz.callSI (st := []) (pc' := 4) [.int a1] (g_X_isPerson a1 w) h ok_m_X_isPerson lk_X_143 rfl (Nat.le_of_ble_eq_true rfl) (Nat.le_of_ble_eq_true rfl) (Nat.le_of_ble_eq_true rfl) (by decide +kernel) rfl (fun v1 w2 h => ?_)
  refine Gz.if_eq (off := 22) (tgt := 26) (pc' := 7) (by decide +kernel) (by decide) rfl (fun c3 => ?_) (fun c3 => ?_)
  · have h := zok_t c3 h
    exact g_X_alibi_b26 a1 a2 w2 h
  · have h := zok_f c3 h
    refine Gz.iload_n (q := 2) (pc' := 8) (by decide +kernel) rfl 2 rfl ?_
    refine Gz.if_lt (off := 18) (tgt := 26) (pc' := 11) (by decide +kernel) (by decide) rfl (fun c4 => ?_) (fun c4 => ?_)
    · have h := zok_t c4 h
      exact g_X_alibi_b26 a1 a2 w2 h
    · have h := zok_f c4 h
      refine Gz.iload_n (q := 2) (pc' := 12) (by decide +kernel) rfl 2 rfl ?_
      refine Gz.aload_n (q := 0) (pc' := 13) (by decide +kernel) rfl 0 rfl ?_
      refine Gz.getR (pc' := 16) (j := 3) 19 fd_X_33 sh_0 rfl (by decide +kernel) rfl ?_
      refine Gz.callVI (st := [.int a2]) (b := 19) (pc' := 19) [] (g_La_dayCount w2) h ok_m_La_dayCount lk_X_319 sh_19 rfl rfl rfl (Nat.le_of_ble_eq_true rfl) (Nat.le_of_ble_eq_true rfl) (Nat.le_of_ble_eq_true rfl) (by decide +kernel) rfl (fun v5 w6 h => ?_)
      refine Gz.icmp_ge (off := 7) (tgt := 26) (pc' := 22) (by decide +kernel) (by decide) rfl (fun c7 => ?_) (fun c7 => ?_)
      · have h := zok_t c7 h
        exact g_X_alibi_b26 a1 a2 w6 h
      · have h := zok_f c7 h
        refine Gz.iconst (n := 1) (v := (1 : Int32)) (pc' := 23) (by decide +kernel) rfl rfl ?_
        refine Gz.goto (off := 4) (tgt := 27) (by decide +kernel) (by decide) ?_
        exact g_X_alibi_b27 a1 a2 (1 : Int32) w6 h
def f_Ch_isSureHand_b62 (k2 : Int32 → Int32 → gW → Option (Int32 × gW)) (k18 : Int32 → Int32 → Int64 → Int32 → gW → Option (Int32 × gW)) (x1 : Int32) (x2 : Int32) (x5 : Int32) (s0 : Int64) (s1 : Int64) (w : gW) : Option (Int32 × gW) :=
zl (s0 ||| s1) (fun v1 =>
zl (x5 + (1 : Int32)) (fun v3 =>
k18 x1 x2 v1 v3 w))
def f_Ch_isSureHand_b18_s (k2 : Int32 → Int32 → gW → Option (Int32 × gW)) (k18 : Int32 → Int32 → Int64 → Int32 → gW → Option (Int32 × gW)) (x1 : Int32) (x2 : Int32) (x3 : Int64) (x5 : Int32) (w : gW) : Option (Int32 × gW) :=
zb (f_La_deedCount w) (fun v1 w2 =>
if v1 ≤ x5 then
(zb (f_Co_fitting w2) (fun v4 w5 =>
zb (f_Ro_word v4 x2 w5) (fun v6 w7 =>
if (lg_cmp (v6 &&& (x3 ^^^ (-1 : Int64))) (0 : Int64)) = 0 then
(zl (x2 + (1 : Int32)) (fun v9 =>
k2 x1 v9 w7))
else
(some ((0 : Int32), w7)))))
else
(zb (f_Ch_isDoer x1 x5 w2) (fun v11 w12 =>
if v11 = 0 then
(f_Ch_isSureHand_b62 k2 k18 x1 x2 x5 x3 (0 : Int64) w12)
else
(zb (f_La_dayCount w12) (fun v14 w15 =>
zb (f_La_seenWord x5 v14 x2 w15) (fun v16 w17 =>
f_Ch_isSureHand_b62 k2 k18 x1 x2 x5 x3 v16 w17))))))
def f_Ch_isSureHand_b18 (k2 : Int32 → Int32 → gW → Option (Int32 × gW)) : Int32 → Int32 → Int64 → Int32 → gW → Option (Int32 × gW) := zfx (fun _ _ _ _ _ => none) (f_Ch_isSureHand_b18_s k2) zFU
def f_Ch_isSureHand_b2_s (k2 : Int32 → Int32 → gW → Option (Int32 × gW)) (x1 : Int32) (x2 : Int32) (w : gW) : Option (Int32 × gW) :=
zb (f_La_words w) (fun v1 w2 =>
if v1 ≤ x2 then
(some ((1 : Int32), w2))
else
(f_Ch_isSureHand_b18 k2 x1 x2 (0 : Int64) (0 : Int32) w2))
def f_Ch_isSureHand_b2 : Int32 → Int32 → gW → Option (Int32 × gW) := zfx (fun _ _ _ => none) (f_Ch_isSureHand_b2_s) zFU
def f_Ch_isSureHand (a1 : Int32) (w : gW) : Option (Int32 × gW) :=
f_Ch_isSureHand_b2 a1 (0 : Int32) w
theorem g_Ch_isSureHand_b62 {l : Launch} {Q : Option Value → gW → Prop} (k2 : Int32 → Int32 → gW → Option (Int32 × gW)) (hk2 : ∀ (x1 : Int32) (x2 : Int32) (w : gW), zok eI (k2 x1 x2 w) Q → Gz l m_Ch_isSureHand 3 2 [(0, .ref 102), (1, .int x1), (2, .int x2)] [] w Q) (k18 : Int32 → Int32 → Int64 → Int32 → gW → Option (Int32 × gW)) (hk18 : ∀ (x1 : Int32) (x2 : Int32) (x3 : Int64) (x5 : Int32) (w : gW), zok eI (k18 x1 x2 x3 x5 w) Q → Gz l m_Ch_isSureHand 3 18 [(0, .ref 102), (1, .int x1), (2, .int x2), (3, .long x3), (5, .int x5)] [] w Q) (x1 : Int32) (x2 : Int32) (x5 : Int32) (s0 : Int64) (s1 : Int64) (w : gW) (h : zok eI (f_Ch_isSureHand_b62 k2 k18 x1 x2 x5 s0 s1 w) Q) : Gz l m_Ch_isSureHand 3 62 [(0, .ref 102), (1, .int x1), (2, .int x2), (5, .int x5)] [.long s1, .long s0] w Q := by
  unfold f_Ch_isSureHand_b62 at h
  refine Gz.lor (pc' := 63) (by decide +kernel) rfl ?_
  refine Gz.nmJ (fun v1 e2 => ?_)
  have h := zok_l e2 h
  refine Gz.lstore_n (q := 3) (pc' := 64) (L' := [(3, .long v1), (0, .ref 102), (1, .int x1), (2, .int x2), (5, .int x5)]) (by decide +kernel) rfl (Nat.le_of_ble_eq_true rfl) rfl ?_
  obtain ⟨v3, e4⟩ : ∃ y : Int32, y = x5 + (1 : Int32) := ⟨_, rfl⟩
  have h := zok_l e4 h
  refine Gz.iinc (i := 5) (n := 1) (pc' := 67) (L' := [(5, .int v3), (3, .long v1), (0, .ref 102), (1, .int x1), (2, .int x2)]) v3 (by decide +kernel) rfl 4 rfl (by rw [e4]; rfl) (Nat.le_of_ble_eq_true rfl) rfl ?_
  refine Gz.goto (off := -49) (tgt := 18) (by decide +kernel) (by decide) ?_
  refine Gz.sub (L' := [(0, .ref 102), (1, .int x1), (2, .int x2), (3, .long v1), (5, .int v3)]) [2, 3, 4, 1, 0] rfl ?_
  exact hk18 x1 x2 v1 v3 w h
theorem g_Ch_isSureHand_b18_s {l : Launch} {Q : Option Value → gW → Prop} (k2 : Int32 → Int32 → gW → Option (Int32 × gW)) (hk2 : ∀ (x1 : Int32) (x2 : Int32) (w : gW), zok eI (k2 x1 x2 w) Q → Gz l m_Ch_isSureHand 3 2 [(0, .ref 102), (1, .int x1), (2, .int x2)] [] w Q) (k18 : Int32 → Int32 → Int64 → Int32 → gW → Option (Int32 × gW)) (hk18 : ∀ (x1 : Int32) (x2 : Int32) (x3 : Int64) (x5 : Int32) (w : gW), zok eI (k18 x1 x2 x3 x5 w) Q → Gz l m_Ch_isSureHand 3 18 [(0, .ref 102), (1, .int x1), (2, .int x2), (3, .long x3), (5, .int x5)] [] w Q) (x1 : Int32) (x2 : Int32) (x3 : Int64) (x5 : Int32) (w : gW) (h : zok eI (f_Ch_isSureHand_b18_s k2 k18 x1 x2 x3 x5 w) Q) : Gz l m_Ch_isSureHand 3 18 [(0, .ref 102), (1, .int x1), (2, .int x2), (3, .long x3), (5, .int x5)] [] w Q := by
  unfold f_Ch_isSureHand_b18_s at h
  refine Gz.iload (i := 5) (pc' := 20) (by decide +kernel) rfl 4 rfl ?_
  refine Gz.aload_n (q := 0) (pc' := 21) (by decide +kernel) rfl 0 rfl ?_
  refine Gz.getR (pc' := 24) (j := 0) 19 fd_Ch_18 sh_102 rfl (by decide +kernel) rfl ?_
  refine Gz.callVI (st := [.int x5]) (b := 19) (pc' := 27) [] (g_La_deedCount w) h ok_m_La_deedCount lk_Ch_68 sh_19 rfl rfl rfl (Nat.le_of_ble_eq_true rfl) (Nat.le_of_ble_eq_true rfl) (Nat.le_of_ble_eq_true rfl) (by decide +kernel) rfl (fun v1 w2 h => ?_)
  refine Gz.icmp_ge (off := 43) (tgt := 70) (pc' := 30) (by decide +kernel) (by decide) rfl (fun c3 => ?_) (fun c3 => ?_)
  · have h := zok_t c3 h
    refine Gz.aload_n (q := 0) (pc' := 71) (by decide +kernel) rfl 0 rfl ?_
    refine Gz.getR (pc' := 74) (j := 2) 73 fd_Ch_26 sh_102 rfl (by decide +kernel) rfl ?_
    refine Gz.callVR (st := []) (b := 73) (pc' := 77) [] (g_Co_fitting w2) h ok_m_Co_fitting lk_Ch_36 sh_73 rfl rfl rfl (Nat.le_of_ble_eq_true rfl) (Nat.le_of_ble_eq_true rfl) (Nat.le_of_ble_eq_true rfl) (by decide +kernel) rfl (fun v4 w5 h => ?_)
    refine Gz.iload_n (q := 2) (pc' := 78) (by decide +kernel) rfl 2 rfl ?_
    refine Gz.callSJ (st := []) (pc' := 81) [.ref v4, .int x2] (g_Ro_word v4 x2 w5) h ok_m_Ro_word lk_Ch_40 rfl (Nat.le_of_ble_eq_true rfl) (Nat.le_of_ble_eq_true rfl) (Nat.le_of_ble_eq_true rfl) (by decide +kernel) rfl (fun v6 w7 h => ?_)
    refine Gz.lload_n (q := 3) (pc' := 82) (by decide +kernel) rfl 3 rfl ?_
    refine Gz.ldc2 (idx := 83) (v := (-1 : Int64)) (pc' := 85) (by decide +kernel) rfl kc_Ch_83 ?_
    refine Gz.lxor (pc' := 86) (by decide +kernel) rfl ?_
    refine Gz.land (pc' := 87) (by decide +kernel) rfl ?_
    refine Gz.lconst (n := 0) (v := (0 : Int64)) (pc' := 88) (by decide +kernel) rfl rfl ?_
    refine Gz.lcmp (pc' := 89) (by decide +kernel) rfl ?_
    refine Gz.if_eq (off := 5) (tgt := 94) (pc' := 92) (by decide +kernel) (by decide) rfl (fun c8 => ?_) (fun c8 => ?_)
    · have h := zok_t c8 h
      obtain ⟨v9, e10⟩ : ∃ y : Int32, y = x2 + (1 : Int32) := ⟨_, rfl⟩
      have h := zok_l e10 h
      refine Gz.iinc (i := 2) (n := 1) (pc' := 97) (L' := [(2, .int v9), (0, .ref 102), (1, .int x1), (3, .long x3), (5, .int x5)]) v9 (by decide +kernel) rfl 2 rfl (by rw [e10]; rfl) (Nat.le_of_ble_eq_true rfl) rfl ?_
      refine Gz.goto (off := -95) (tgt := 2) (by decide +kernel) (by decide) ?_
      refine Gz.sub (L' := [(0, .ref 102), (1, .int x1), (2, .int v9)]) [1, 2, 0] rfl ?_
      exact hk2 x1 v9 w7 h
    · have h := zok_f c8 h
      refine Gz.iconst (n := 0) (v := (0 : Int32)) (pc' := 93) (by decide +kernel) rfl rfl ?_
      exact Gz.zreturn (by decide +kernel) rfl (by decide) (zok_sI h)
  · have h := zok_f c3 h
    refine Gz.lload_n (q := 3) (pc' := 31) (by decide +kernel) rfl 3 rfl ?_
    refine Gz.aload_n (q := 0) (pc' := 32) (by decide +kernel) rfl 0 rfl ?_
    refine Gz.iload_n (q := 1) (pc' := 33) (by decide +kernel) rfl 1 rfl ?_
    refine Gz.iload (i := 5) (pc' := 35) (by decide +kernel) rfl 4 rfl ?_
    refine Gz.callVI (st := [.long x3]) (b := 102) (pc' := 38) [.int x1, .int x5] (g_Ch_isDoer x1 x5 w2) h ok_m_Ch_isDoer lk_Ch_134 sh_102 rfl rfl rfl (Nat.le_of_ble_eq_true rfl) (Nat.le_of_ble_eq_true rfl) (Nat.le_of_ble_eq_true rfl) (by decide +kernel) rfl (fun v11 w12 h => ?_)
    refine Gz.if_eq (off := 23) (tgt := 61) (pc' := 41) (by decide +kernel) (by decide) rfl (fun c13 => ?_) (fun c13 => ?_)
    · have h := zok_t c13 h
      refine Gz.lconst (n := 0) (v := (0 : Int64)) (pc' := 62) (by decide +kernel) rfl rfl ?_
      refine Gz.sub (L' := [(0, .ref 102), (1, .int x1), (2, .int x2), (5, .int x5)]) [0, 1, 2, 4] rfl ?_
      exact g_Ch_isSureHand_b62 k2 hk2 k18 hk18 x1 x2 x5 x3 (0 : Int64) w12 h
    · have h := zok_f c13 h
      refine Gz.aload_n (q := 0) (pc' := 42) (by decide +kernel) rfl 0 rfl ?_
      refine Gz.getR (pc' := 45) (j := 0) 19 fd_Ch_18 sh_102 rfl (by decide +kernel) rfl ?_
      refine Gz.iload (i := 5) (pc' := 47) (by decide +kernel) rfl 4 rfl ?_
      refine Gz.aload_n (q := 0) (pc' := 48) (by decide +kernel) rfl 0 rfl ?_
      refine Gz.getR (pc' := 51) (j := 0) 19 fd_Ch_18 sh_102 rfl (by decide +kernel) rfl ?_
      refine Gz.callVI (st := [.int x5, .ref 19, .long x3]) (b := 19) (pc' := 54) [] (g_La_dayCount w12) h ok_m_La_dayCount lk_Ch_71 sh_19 rfl rfl rfl (Nat.le_of_ble_eq_true rfl) (Nat.le_of_ble_eq_true rfl) (Nat.le_of_ble_eq_true rfl) (by decide +kernel) rfl (fun v14 w15 h => ?_)
      refine Gz.iload_n (q := 2) (pc' := 55) (by decide +kernel) rfl 2 rfl ?_
      refine Gz.callVJ (st := [.long x3]) (b := 19) (pc' := 58) [.int x5, .int v14, .int x2] (g_La_seenWord x5 v14 x2 w15) h ok_m_La_seenWord lk_Ch_155 sh_19 rfl rfl rfl (Nat.le_of_ble_eq_true rfl) (Nat.le_of_ble_eq_true rfl) (Nat.le_of_ble_eq_true rfl) (by decide +kernel) rfl (fun v16 w17 h => ?_)
      refine Gz.goto (off := 4) (tgt := 62) (by decide +kernel) (by decide) ?_
      refine Gz.sub (L' := [(0, .ref 102), (1, .int x1), (2, .int x2), (5, .int x5)]) [0, 1, 2, 4] rfl ?_
      exact g_Ch_isSureHand_b62 k2 hk2 k18 hk18 x1 x2 x5 x3 v16 w17 h
theorem g_Ch_isSureHand_b18 {l : Launch} {Q : Option Value → gW → Prop} (k2 : Int32 → Int32 → gW → Option (Int32 × gW)) (hk2 : ∀ (x1 : Int32) (x2 : Int32) (w : gW), zok eI (k2 x1 x2 w) Q → Gz l m_Ch_isSureHand 3 2 [(0, .ref 102), (1, .int x1), (2, .int x2)] [] w Q) (x1 : Int32) (x2 : Int32) (x3 : Int64) (x5 : Int32) (w : gW) (h : zok eI (f_Ch_isSureHand_b18 k2 x1 x2 x3 x5 w) Q) : Gz l m_Ch_isSureHand 3 18 [(0, .ref 102), (1, .int x1), (2, .int x2), (3, .long x3), (5, .int x5)] [] w Q := by
  have key : ∀ (n : Nat) (x1 : Int32) (x2 : Int32) (x3 : Int64) (x5 : Int32) (w : gW), zok eI (zfx (fun _ _ _ _ _ => none) (f_Ch_isSureHand_b18_s k2) n x1 x2 x3 x5 w) Q → Gz l m_Ch_isSureHand 3 18 [(0, .ref 102), (1, .int x1), (2, .int x2), (3, .long x3), (5, .int x5)] [] w Q := by
    intro n
    induction n with
    | zero => intro x1 x2 x3 x5 w h; exact zok_n h
    | succ n ih => intro x1 x2 x3 x5 w h; exact g_Ch_isSureHand_b18_s k2 hk2 _ ih x1 x2 x3 x5 w h
  exact key zFU x1 x2 x3 x5 w h
theorem g_Ch_isSureHand_b2_s {l : Launch} {Q : Option Value → gW → Prop} (k2 : Int32 → Int32 → gW → Option (Int32 × gW)) (hk2 : ∀ (x1 : Int32) (x2 : Int32) (w : gW), zok eI (k2 x1 x2 w) Q → Gz l m_Ch_isSureHand 3 2 [(0, .ref 102), (1, .int x1), (2, .int x2)] [] w Q) (x1 : Int32) (x2 : Int32) (w : gW) (h : zok eI (f_Ch_isSureHand_b2_s k2 x1 x2 w) Q) : Gz l m_Ch_isSureHand 3 2 [(0, .ref 102), (1, .int x1), (2, .int x2)] [] w Q := by
  unfold f_Ch_isSureHand_b2_s at h
  refine Gz.iload_n (q := 2) (pc' := 3) (by decide +kernel) rfl 2 rfl ?_
  refine Gz.aload_n (q := 0) (pc' := 4) (by decide +kernel) rfl 0 rfl ?_
  refine Gz.getR (pc' := 7) (j := 0) 19 fd_Ch_18 sh_102 rfl (by decide +kernel) rfl ?_
  refine Gz.callVI (st := [.int x2]) (b := 19) (pc' := 10) [] (g_La_words w) h ok_m_La_words lk_Ch_58 sh_19 rfl rfl rfl (Nat.le_of_ble_eq_true rfl) (Nat.le_of_ble_eq_true rfl) (Nat.le_of_ble_eq_true rfl) (by decide +kernel) rfl (fun v1 w2 h => ?_)
  refine Gz.icmp_ge (off := 90) (tgt := 100) (pc' := 13) (by decide +kernel) (by decide) rfl (fun c3 => ?_) (fun c3 => ?_)
  · have h := zok_t c3 h
    refine Gz.iconst (n := 1) (v := (1 : Int32)) (pc' := 101) (by decide +kernel) rfl rfl ?_
    exact Gz.zreturn (by decide +kernel) rfl (by decide) (zok_sI h)
  · have h := zok_f c3 h
    refine Gz.lconst (n := 0) (v := (0 : Int64)) (pc' := 14) (by decide +kernel) rfl rfl ?_
    refine Gz.lstore_n (q := 3) (pc' := 15) (L' := [(3, .long (0 : Int64)), (0, .ref 102), (1, .int x1), (2, .int x2)]) (by decide +kernel) rfl (Nat.le_of_ble_eq_true rfl) rfl ?_
    refine Gz.iconst (n := 0) (v := (0 : Int32)) (pc' := 16) (by decide +kernel) rfl rfl ?_
    refine Gz.istore (i := 5) (pc' := 18) (L' := [(5, .int (0 : Int32)), (3, .long (0 : Int64)), (0, .ref 102), (1, .int x1), (2, .int x2)]) (by decide +kernel) rfl (Nat.le_of_ble_eq_true rfl) rfl ?_
    refine Gz.sub (L' := [(0, .ref 102), (1, .int x1), (2, .int x2), (3, .long (0 : Int64)), (5, .int (0 : Int32))]) [2, 3, 4, 1, 0] rfl ?_
    exact g_Ch_isSureHand_b18 k2 hk2 x1 x2 (0 : Int64) (0 : Int32) w2 h
theorem g_Ch_isSureHand_b2 {l : Launch} {Q : Option Value → gW → Prop} (x1 : Int32) (x2 : Int32) (w : gW) (h : zok eI (f_Ch_isSureHand_b2 x1 x2 w) Q) : Gz l m_Ch_isSureHand 3 2 [(0, .ref 102), (1, .int x1), (2, .int x2)] [] w Q := by
  have key : ∀ (n : Nat) (x1 : Int32) (x2 : Int32) (w : gW), zok eI (zfx (fun _ _ _ => none) (f_Ch_isSureHand_b2_s) n x1 x2 w) Q → Gz l m_Ch_isSureHand 3 2 [(0, .ref 102), (1, .int x1), (2, .int x2)] [] w Q := by
    intro n
    induction n with
    | zero => intro x1 x2 w h; exact zok_n h
    | succ n ih => intro x1 x2 w h; exact g_Ch_isSureHand_b2_s _ ih x1 x2 w h
  exact key zFU x1 x2 w h
theorem g_Ch_isSureHand {l : Launch} (a1 : Int32) (w : gW) : gCt l m_Ch_isSureHand 3 [.ref 102, .int a1] w eI (f_Ch_isSureHand a1 w) := by
  intro Q h
  unfold f_Ch_isSureHand at h
  show Gz l m_Ch_isSureHand 3 0 [(0, .ref 102), (1, .int a1)] [] w Q
  refine Gz.iconst (n := 0) (v := (0 : Int32)) (pc' := 1) (by decide +kernel) rfl rfl ?_
  refine Gz.istore_n (q := 2) (pc' := 2) (L' := [(2, .int (0 : Int32)), (0, .ref 102), (1, .int a1)]) (by decide +kernel) rfl (Nat.le_of_ble_eq_true rfl) rfl ?_
  refine Gz.sub (L' := [(0, .ref 102), (1, .int a1), (2, .int (0 : Int32))]) [1, 2, 0] rfl ?_
  exact g_Ch_isSureHand_b2 a1 (0 : Int32) w h
def f_Ch_sureHands_b26 (k4 : Int32 → Int32 → gW → Option (Int32 × gW)) (x2 : Int32) (s0 : Int32) (s1 : Int32) (w : gW) : Option (Int32 × gW) :=
zl (s0 ||| s1) (fun v1 =>
zl (x2 + (1 : Int32)) (fun v3 =>
k4 v1 v3 w))
def f_Ch_sureHands_b4_s (k4 : Int32 → Int32 → gW → Option (Int32 × gW)) (x1 : Int32) (x2 : Int32) (w : gW) : Option (Int32 × gW) :=
if (6 : Int32) ≤ x2 then
(some (x1, w))
else
(zb (f_Ch_isSureHand x2 w) (fun v2 w3 =>
if v2 = 0 then
(f_Ch_sureHands_b26 k4 x2 x1 (0 : Int32) w3)
else
(f_Ch_sureHands_b26 k4 x2 x1 ((1 : Int32) <<< (x2 &&& 31)) w3)))
def f_Ch_sureHands_b4 : Int32 → Int32 → gW → Option (Int32 × gW) := zfx (fun _ _ _ => none) (f_Ch_sureHands_b4_s) zFU
def f_Ch_sureHands (w : gW) : Option (Int32 × gW) :=
f_Ch_sureHands_b4 (0 : Int32) (0 : Int32) w
theorem g_Ch_sureHands_b26 {l : Launch} {Q : Option Value → gW → Prop} (k4 : Int32 → Int32 → gW → Option (Int32 × gW)) (hk4 : ∀ (x1 : Int32) (x2 : Int32) (w : gW), zok eI (k4 x1 x2 w) Q → Gz l m_Ch_sureHands 4 4 [(0, .ref 102), (1, .int x1), (2, .int x2)] [] w Q) (x2 : Int32) (s0 : Int32) (s1 : Int32) (w : gW) (h : zok eI (f_Ch_sureHands_b26 k4 x2 s0 s1 w) Q) : Gz l m_Ch_sureHands 4 26 [(0, .ref 102), (2, .int x2)] [.int s1, .int s0] w Q := by
  unfold f_Ch_sureHands_b26 at h
  refine Gz.ior (pc' := 27) (by decide +kernel) rfl ?_
  refine Gz.nmI (fun v1 e2 => ?_)
  have h := zok_l e2 h
  refine Gz.istore_n (q := 1) (pc' := 28) (L' := [(1, .int v1), (0, .ref 102), (2, .int x2)]) (by decide +kernel) rfl (Nat.le_of_ble_eq_true rfl) rfl ?_
  obtain ⟨v3, e4⟩ : ∃ y : Int32, y = x2 + (1 : Int32) := ⟨_, rfl⟩
  have h := zok_l e4 h
  refine Gz.iinc (i := 2) (n := 1) (pc' := 31) (L' := [(2, .int v3), (1, .int v1), (0, .ref 102)]) v3 (by decide +kernel) rfl 2 rfl (by rw [e4]; rfl) (Nat.le_of_ble_eq_true rfl) rfl ?_
  refine Gz.goto (off := -27) (tgt := 4) (by decide +kernel) (by decide) ?_
  refine Gz.sub (L' := [(0, .ref 102), (1, .int v1), (2, .int v3)]) [2, 1, 0] rfl ?_
  exact hk4 v1 v3 w h
theorem g_Ch_sureHands_b4_s {l : Launch} {Q : Option Value → gW → Prop} (k4 : Int32 → Int32 → gW → Option (Int32 × gW)) (hk4 : ∀ (x1 : Int32) (x2 : Int32) (w : gW), zok eI (k4 x1 x2 w) Q → Gz l m_Ch_sureHands 4 4 [(0, .ref 102), (1, .int x1), (2, .int x2)] [] w Q) (x1 : Int32) (x2 : Int32) (w : gW) (h : zok eI (f_Ch_sureHands_b4_s k4 x1 x2 w) Q) : Gz l m_Ch_sureHands 4 4 [(0, .ref 102), (1, .int x1), (2, .int x2)] [] w Q := by
  unfold f_Ch_sureHands_b4_s at h
  refine Gz.iload_n (q := 2) (pc' := 5) (by decide +kernel) rfl 2 rfl ?_
  refine Gz.bipush (n := 6) (v := (6 : Int32)) (pc' := 7) (by decide +kernel) rfl rfl ?_
  refine Gz.icmp_ge (off := 27) (tgt := 34) (pc' := 10) (by decide +kernel) (by decide) rfl (fun c1 => ?_) (fun c1 => ?_)
  · have h := zok_t c1 h
    refine Gz.iload_n (q := 1) (pc' := 35) (by decide +kernel) rfl 1 rfl ?_
    exact Gz.ireturn (by decide +kernel) rfl (zok_sI h)
  · have h := zok_f c1 h
    refine Gz.iload_n (q := 1) (pc' := 11) (by decide +kernel) rfl 1 rfl ?_
    refine Gz.aload_n (q := 0) (pc' := 12) (by decide +kernel) rfl 0 rfl ?_
    refine Gz.iload_n (q := 2) (pc' := 13) (by decide +kernel) rfl 2 rfl ?_
    refine Gz.callVI (st := [.int x1]) (b := 102) (pc' := 16) [.int x2] (g_Ch_isSureHand x2 w) h ok_m_Ch_isSureHand lk_Ch_138 sh_102 rfl rfl rfl (Nat.le_of_ble_eq_true rfl) (Nat.le_of_ble_eq_true rfl) (Nat.le_of_ble_eq_true rfl) (by decide +kernel) rfl (fun v2 w3 h => ?_)
    refine Gz.if_eq (off := 9) (tgt := 25) (pc' := 19) (by decide +kernel) (by decide) rfl (fun c4 => ?_) (fun c4 => ?_)
    · have h := zok_t c4 h
      refine Gz.iconst (n := 0) (v := (0 : Int32)) (pc' := 26) (by decide +kernel) rfl rfl ?_
      refine Gz.sub (L' := [(0, .ref 102), (2, .int x2)]) [0, 2] rfl ?_
      exact g_Ch_sureHands_b26 k4 hk4 x2 x1 (0 : Int32) w3 h
    · have h := zok_f c4 h
      refine Gz.iconst (n := 1) (v := (1 : Int32)) (pc' := 20) (by decide +kernel) rfl rfl ?_
      refine Gz.iload_n (q := 2) (pc' := 21) (by decide +kernel) rfl 2 rfl ?_
      refine Gz.ishl (pc' := 22) (by decide +kernel) rfl ?_
      refine Gz.goto (off := 4) (tgt := 26) (by decide +kernel) (by decide) ?_
      refine Gz.sub (L' := [(0, .ref 102), (2, .int x2)]) [0, 2] rfl ?_
      exact g_Ch_sureHands_b26 k4 hk4 x2 x1 ((1 : Int32) <<< (x2 &&& 31)) w3 h
theorem g_Ch_sureHands_b4 {l : Launch} {Q : Option Value → gW → Prop} (x1 : Int32) (x2 : Int32) (w : gW) (h : zok eI (f_Ch_sureHands_b4 x1 x2 w) Q) : Gz l m_Ch_sureHands 4 4 [(0, .ref 102), (1, .int x1), (2, .int x2)] [] w Q := by
  have key : ∀ (n : Nat) (x1 : Int32) (x2 : Int32) (w : gW), zok eI (zfx (fun _ _ _ => none) (f_Ch_sureHands_b4_s) n x1 x2 w) Q → Gz l m_Ch_sureHands 4 4 [(0, .ref 102), (1, .int x1), (2, .int x2)] [] w Q := by
    intro n
    induction n with
    | zero => intro x1 x2 w h; exact zok_n h
    | succ n ih => intro x1 x2 w h; exact g_Ch_sureHands_b4_s _ ih x1 x2 w h
  exact key zFU x1 x2 w h
theorem g_Ch_sureHands {l : Launch} (w : gW) : gCt l m_Ch_sureHands 4 [.ref 102] w eI (f_Ch_sureHands w) := by
  intro Q h
  unfold f_Ch_sureHands at h
  show Gz l m_Ch_sureHands 4 0 [(0, .ref 102)] [] w Q
  refine Gz.iconst (n := 0) (v := (0 : Int32)) (pc' := 1) (by decide +kernel) rfl rfl ?_
  refine Gz.istore_n (q := 1) (pc' := 2) (L' := [(1, .int (0 : Int32)), (0, .ref 102)]) (by decide +kernel) rfl (Nat.le_of_ble_eq_true rfl) rfl ?_
  refine Gz.iconst (n := 0) (v := (0 : Int32)) (pc' := 3) (by decide +kernel) rfl rfl ?_
  refine Gz.istore_n (q := 2) (pc' := 4) (L' := [(2, .int (0 : Int32)), (1, .int (0 : Int32)), (0, .ref 102)]) (by decide +kernel) rfl (Nat.le_of_ble_eq_true rfl) rfl ?_
  refine Gz.sub (L' := [(0, .ref 102), (1, .int (0 : Int32)), (2, .int (0 : Int32))]) [2, 1, 0] rfl ?_
  exact g_Ch_sureHands_b4 (0 : Int32) (0 : Int32) w h
def f_X_hands (w : gW) : Option (Int32 × gW) :=
zb (f_La_isThere w) (fun v1 w2 =>
if v1 = 0 then
(some ((-1 : Int32), w2))
else
(zb (f_Ch_sureHands w2) (fun v4 w5 =>
some (v4, w5))))
theorem g_X_hands {l : Launch} (w : gW) : gCt l m_X_hands 5 [.ref 0] w eI (f_X_hands w) := by
  intro Q h
  unfold f_X_hands at h
  show Gz l m_X_hands 5 0 [(0, .ref 0)] [] w Q
  refine Gz.aload_n (q := 0) (pc' := 1) (by decide +kernel) rfl 0 rfl ?_
  refine Gz.getR (pc' := 4) (j := 3) 19 fd_X_33 sh_0 rfl (by decide +kernel) rfl ?_
  refine Gz.callVI (st := []) (b := 19) (pc' := 7) [] (g_La_isThere w) h ok_m_La_isThere lk_X_176 sh_19 rfl rfl rfl (Nat.le_of_ble_eq_true rfl) (Nat.le_of_ble_eq_true rfl) (Nat.le_of_ble_eq_true rfl) (by decide +kernel) rfl (fun v1 w2 h => ?_)
  refine Gz.if_eq (off := 13) (tgt := 20) (pc' := 10) (by decide +kernel) (by decide) rfl (fun c3 => ?_) (fun c3 => ?_)
  · have h := zok_t c3 h
    refine Gz.iconst (n := -1) (v := (-1 : Int32)) (pc' := 21) (by decide +kernel) rfl rfl ?_
    exact Gz.ireturn (by decide +kernel) rfl (zok_sI h)
  · have h := zok_f c3 h
    refine Gz.aload_n (q := 0) (pc' := 11) (by decide +kernel) rfl 0 rfl ?_
    refine Gz.getR (pc' := 14) (j := 9) 102 fd_X_79 sh_0 rfl (by decide +kernel) rfl ?_
    refine Gz.callVI (st := []) (b := 102) (pc' := 17) [] (g_Ch_sureHands w2) h ok_m_Ch_sureHands lk_X_325 sh_102 rfl rfl rfl (Nat.le_of_ble_eq_true rfl) (Nat.le_of_ble_eq_true rfl) (Nat.le_of_ble_eq_true rfl) (by decide +kernel) rfl (fun v4 w5 h => ?_)
    refine Gz.goto (off := 4) (tgt := 21) (by decide +kernel) (by decide) ?_
    exact Gz.ireturn (by decide +kernel) rfl (zok_sI h)
