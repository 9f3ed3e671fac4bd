def f_Cs_leastDone_b132 (k9 : Int32 → Int32 → Int32 → Int32 → Int32 → Int32 → gW → Option (Int32 × gW)) (x1 : Int32) (x2 : Int32) (x3 : Int32) (x4 : Int32) (x5 : Int32) (x6 : Int32) (w : gW) : Option (Int32 × gW) :=
zl (x6 + (1 : Int32)) (fun v1 =>
k9 x1 x2 x3 x4 x5 v1 w)
def f_Cs_leastDone_b54_s (k9 : Int32 → Int32 → Int32 → Int32 → Int32 → Int32 → gW → Option (Int32 × gW)) (k54 : Int32 → Int32 → Int32 → Int32 → Int32 → Int32 → Int32 → gW → Option (Int32 × gW)) (x1 : Int32) (x2 : Int32) (x3 : Int32) (x4 : Int32) (x5 : Int32) (x6 : Int32) (x7 : Int32) (w : gW) : Option (Int32 × gW) :=
zb (f_La_deedCount w) (fun v1 w2 =>
if v1 ≤ x7 then
(zb (f_Ro_topLevel 89 w2) (fun v4 w5 =>
if v4 ≤ x4 then
(f_Cs_leastDone_b132 k9 x1 x2 x3 x4 x5 x6 w5)
else
(zb (f_Ro_topLevel 89 w5) (fun v7 w8 =>
zb (f_Ro_word 89 v7 w8) (fun v9 w10 =>
zb (f_Ro_firstPlace v9 x6 w10) (fun v11 w12 =>
f_Cs_leastDone_b132 k9 x1 x2 x3 v7 v11 x6 w12))))))
else
(zb (f_La_seenWord x7 x2 x6 w2) (fun v13 w14 =>
zb (f_Ro_addLevel 89 (v13 ^^^ (-1 : Int64)) w14) (fun _ w15 =>
zl (x7 + (1 : Int32)) (fun v16 =>
k54 x1 x2 x3 x4 x5 x6 v16 w15)))))
def f_Cs_leastDone_b54 (k9 : Int32 → Int32 → Int32 → Int32 → Int32 → Int32 → gW → Option (Int32 × gW)) : Int32 → Int32 → Int32 → Int32 → Int32 → Int32 → Int32 → gW → Option (Int32 × gW) := zfx (fun _ _ _ _ _ _ _ _ => none) (f_Cs_leastDone_b54_s k9) zFU
def f_Cs_leastDone_b9_s (k9 : Int32 → Int32 → Int32 → Int32 → Int32 → Int32 → gW → Option (Int32 × gW)) (x1 : Int32) (x2 : Int32) (x3 : Int32) (x4 : Int32) (x5 : Int32) (x6 : Int32) (w : gW) : Option (Int32 × gW) :=
zb (f_La_words w) (fun v1 w2 =>
if v1 ≤ x6 then
(if x3 = 0 then
(zb (f_La_deedCount w2) (fun v7 w8 =>
some (v7 - x4, w8)))
else
(zb (f_La_numberAt x5 w2) (fun v5 w6 =>
some (v5, w6))))
else
(zb (f_Co_fitting w2) (fun v9 w10 =>
zb (f_Ro_word v9 x6 w10) (fun v11 w12 =>
zb (f_Cs_rowOf x1 w12) (fun v13 w14 =>
zb (f_Ro_word v13 x6 w14) (fun v15 w16 =>
zb (f_Ro_startLevels 89 (v11 &&& v15) w16) (fun _ w17 =>
f_Cs_leastDone_b54 k9 x1 x2 x3 x4 x5 x6 (0 : Int32) w17)))))))
def f_Cs_leastDone_b9 : Int32 → Int32 → Int32 → Int32 → Int32 → Int32 → gW → Option (Int32 × gW) := zfx (fun _ _ _ _ _ _ _ => none) (f_Cs_leastDone_b9_s) zFU
def f_Cs_leastDone (a1 : Int32) (a2 : Int32) (a3 : Int32) (w : gW) : Option (Int32 × gW) :=
f_Cs_leastDone_b9 a1 a2 a3 (-1 : Int32) (-1 : Int32) (0 : Int32) w
theorem g_Cs_leastDone_b132 {l : Launch} {Q : Option Value → gW → Prop} (k9 : Int32 → Int32 → Int32 → Int32 → Int32 → Int32 → gW → Option (Int32 × gW)) (hk9 : ∀ (x1 : Int32) (x2 : Int32) (x3 : Int32) (x4 : Int32) (x5 : Int32) (x6 : Int32) (w : gW), zok eI (k9 x1 x2 x3 x4 x5 x6 w) Q → Gz l m_Cs_leastDone 5 9 [(0, .ref 88), (1, .int x1), (2, .int x2), (3, .int x3), (4, .int x4), (5, .int x5), (6, .int x6)] [] w Q) (x1 : Int32) (x2 : Int32) (x3 : Int32) (x4 : Int32) (x5 : Int32) (x6 : Int32) (w : gW) (h : zok eI (f_Cs_leastDone_b132 k9 x1 x2 x3 x4 x5 x6 w) Q) : Gz l m_Cs_leastDone 5 132 [(0, .ref 88), (1, .int x1), (2, .int x2), (3, .int x3), (4, .int x4), (5, .int x5), (6, .int x6)] [] w Q := by
  unfold f_Cs_leastDone_b132 at h
  obtain ⟨v1, e2⟩ : ∃ y : Int32, y = x6 + (1 : Int32) := ⟨_, rfl⟩
  have h := zok_l e2 h
  refine Gz.iinc (i := 6) (n := 1) (pc' := 135) (L' := [(6, .int v1), (0, .ref 88), (1, .int x1), (2, .int x2), (3, .int x3), (4, .int x4), (5, .int x5)]) v1 (by decide +kernel) rfl 6 rfl (by rw [e2]; rfl) (Nat.le_of_ble_eq_true rfl) rfl ?_
  refine Gz.goto (off := -126) (tgt := 9) (by decide +kernel) (by decide) ?_
  refine Gz.sub (L' := [(0, .ref 88), (1, .int x1), (2, .int x2), (3, .int x3), (4, .int x4), (5, .int x5), (6, .int v1)]) [1, 2, 3, 4, 5, 6, 0] rfl ?_
  exact hk9 x1 x2 x3 x4 x5 v1 w h
theorem g_Cs_leastDone_b54_s {l : Launch} {Q : Option Value → gW → Prop} (k9 : Int32 → Int32 → Int32 → Int32 → Int32 → Int32 → gW → Option (Int32 × gW)) (hk9 : ∀ (x1 : Int32) (x2 : Int32) (x3 : Int32) (x4 : Int32) (x5 : Int32) (x6 : Int32) (w : gW), zok eI (k9 x1 x2 x3 x4 x5 x6 w) Q → Gz l m_Cs_leastDone 5 9 [(0, .ref 88), (1, .int x1), (2, .int x2), (3, .int x3), (4, .int x4), (5, .int x5), (6, .int x6)] [] w Q) (k54 : Int32 → Int32 → Int32 → Int32 → Int32 → Int32 → Int32 → gW → Option (Int32 × gW)) (hk54 : ∀ (x1 : Int32) (x2 : Int32) (x3 : Int32) (x4 : Int32) (x5 : Int32) (x6 : Int32) (x7 : Int32) (w : gW), zok eI (k54 x1 x2 x3 x4 x5 x6 x7 w) Q → Gz l m_Cs_leastDone 5 54 [(0, .ref 88), (1, .int x1), (2, .int x2), (3, .int x3), (4, .int x4), (5, .int x5), (6, .int x6), (7, .int x7)] [] w Q) (x1 : Int32) (x2 : Int32) (x3 : Int32) (x4 : Int32) (x5 : Int32) (x6 : Int32) (x7 : Int32) (w : gW) (h : zok eI (f_Cs_leastDone_b54_s k9 k54 x1 x2 x3 x4 x5 x6 x7 w) Q) : Gz l m_Cs_leastDone 5 54 [(0, .ref 88), (1, .int x1), (2, .int x2), (3, .int x3), (4, .int x4), (5, .int x5), (6, .int x6), (7, .int x7)] [] w Q := by
  unfold f_Cs_leastDone_b54_s at h
  refine Gz.iload (i := 7) (pc' := 56) (by decide +kernel) rfl 7 rfl ?_
  refine Gz.aload_n (q := 0) (pc' := 57) (by decide +kernel) rfl 0 rfl ?_
  refine Gz.getR (pc' := 60) (j := 0) 19 fd_Cs_20 sh_88 rfl (by decide +kernel) rfl ?_
  refine Gz.callVI (st := [.int x7]) (b := 19) (pc' := 63) [] (g_La_deedCount w) h ok_m_La_deedCount lk_Cs_136 sh_19 rfl rfl rfl (Nat.le_of_ble_eq_true rfl) (Nat.le_of_ble_eq_true rfl) (Nat.le_of_ble_eq_true rfl) (by decide +kernel) rfl (fun v1 w2 h => ?_)
  refine Gz.icmp_ge (off := 32) (tgt := 95) (pc' := 66) (by decide +kernel) (by decide) rfl (fun c3 => ?_) (fun c3 => ?_)
  · have h := zok_t c3 h
    refine Gz.aload_n (q := 0) (pc' := 96) (by decide +kernel) rfl 0 rfl ?_
    refine Gz.getR (pc' := 99) (j := 3) 89 fd_Cs_9 sh_88 rfl (by decide +kernel) rfl ?_
    refine Gz.callSI (st := []) (pc' := 102) [.ref 89] (g_Ro_topLevel 89 w2) h ok_m_Ro_topLevel lk_Cs_98 rfl (Nat.le_of_ble_eq_true rfl) (Nat.le_of_ble_eq_true rfl) (Nat.le_of_ble_eq_true rfl) (by decide +kernel) rfl (fun v4 w5 h => ?_)
    refine Gz.iload (i := 4) (pc' := 104) (by decide +kernel) rfl 4 rfl ?_
    refine Gz.icmp_le (off := 28) (tgt := 132) (pc' := 107) (by decide +kernel) (by decide) rfl (fun c6 => ?_) (fun c6 => ?_)
    · have h := zok_t c6 h
      refine Gz.sub (L' := [(0, .ref 88), (1, .int x1), (2, .int x2), (3, .int x3), (4, .int x4), (5, .int x5), (6, .int x6)]) [0, 1, 2, 3, 4, 5, 6] rfl ?_
      exact g_Cs_leastDone_b132 k9 hk9 x1 x2 x3 x4 x5 x6 w5 h
    · have h := zok_f c6 h
      refine Gz.aload_n (q := 0) (pc' := 108) (by decide +kernel) rfl 0 rfl ?_
      refine Gz.getR (pc' := 111) (j := 3) 89 fd_Cs_9 sh_88 rfl (by decide +kernel) rfl ?_
      refine Gz.callSI (st := []) (pc' := 114) [.ref 89] (g_Ro_topLevel 89 w5) h ok_m_Ro_topLevel lk_Cs_98 rfl (Nat.le_of_ble_eq_true rfl) (Nat.le_of_ble_eq_true rfl) (Nat.le_of_ble_eq_true rfl) (by decide +kernel) rfl (fun v7 w8 h => ?_)
      refine Gz.istore (i := 4) (pc' := 116) (L' := [(4, .int v7), (0, .ref 88), (1, .int x1), (2, .int x2), (3, .int x3), (5, .int x5), (6, .int x6), (7, .int x7)]) (by decide +kernel) rfl (Nat.le_of_ble_eq_true rfl) rfl ?_
      refine Gz.aload_n (q := 0) (pc' := 117) (by decide +kernel) rfl 1 rfl ?_
      refine Gz.getR (pc' := 120) (j := 3) 89 fd_Cs_9 sh_88 rfl (by decide +kernel) rfl ?_
      refine Gz.iload (i := 4) (pc' := 122) (by decide +kernel) rfl 0 rfl ?_
      refine Gz.callSJ (st := []) (pc' := 125) [.ref 89, .int v7] (g_Ro_word 89 v7 w8) h ok_m_Ro_word lk_Cs_87 rfl (Nat.le_of_ble_eq_true rfl) (Nat.le_of_ble_eq_true rfl) (Nat.le_of_ble_eq_true rfl) (by decide +kernel) rfl (fun v9 w10 h => ?_)
      refine Gz.iload (i := 6) (pc' := 127) (by decide +kernel) rfl 6 rfl ?_
      refine Gz.callSI (st := []) (pc' := 130) [.long v9, .int x6] (g_Ro_firstPlace v9 x6 w10) h ok_m_Ro_firstPlace lk_Cs_142 rfl (Nat.le_of_ble_eq_true rfl) (Nat.le_of_ble_eq_true rfl) (Nat.le_of_ble_eq_true rfl) (by decide +kernel) rfl (fun v11 w12 h => ?_)
      refine Gz.istore (i := 5) (pc' := 132) (L' := [(5, .int v11), (4, .int v7), (0, .ref 88), (1, .int x1), (2, .int x2), (3, .int x3), (6, .int x6), (7, .int x7)]) (by decide +kernel) rfl (Nat.le_of_ble_eq_true rfl) rfl ?_
      refine Gz.sub (L' := [(0, .ref 88), (1, .int x1), (2, .int x2), (3, .int x3), (4, .int v7), (5, .int v11), (6, .int x6)]) [2, 3, 4, 5, 1, 0, 6] rfl ?_
      exact g_Cs_leastDone_b132 k9 hk9 x1 x2 x3 v7 v11 x6 w12 h
  · have h := zok_f c3 h
    refine Gz.aload_n (q := 0) (pc' := 67) (by decide +kernel) rfl 0 rfl ?_
    refine Gz.getR (pc' := 70) (j := 3) 89 fd_Cs_9 sh_88 rfl (by decide +kernel) rfl ?_
    refine Gz.aload_n (q := 0) (pc' := 71) (by decide +kernel) rfl 0 rfl ?_
    refine Gz.getR (pc' := 74) (j := 0) 19 fd_Cs_20 sh_88 rfl (by decide +kernel) rfl ?_
    refine Gz.iload (i := 7) (pc' := 76) (by decide +kernel) rfl 7 rfl ?_
    refine Gz.iload_n (q := 2) (pc' := 77) (by decide +kernel) rfl 2 rfl ?_
    refine Gz.iload (i := 6) (pc' := 79) (by decide +kernel) rfl 6 rfl ?_
    refine Gz.callVJ (st := [.ref 89]) (b := 19) (pc' := 82) [.int x7, .int x2, .int x6] (g_La_seenWord x7 x2 x6 w2) h ok_m_La_seenWord lk_Cs_139 sh_19 rfl rfl rfl (Nat.le_of_ble_eq_true rfl) (Nat.le_of_ble_eq_true rfl) (Nat.le_of_ble_eq_true rfl) (by decide +kernel) rfl (fun v13 w14 h => ?_)
    refine Gz.ldc2 (idx := 134) (v := (-1 : Int64)) (pc' := 85) (by decide +kernel) rfl kc_Cs_134 ?_
    refine Gz.lxor (pc' := 86) (by decide +kernel) rfl ?_
    refine Gz.callSV (st := []) (pc' := 89) [.ref 89, .long (v13 ^^^ (-1 : Int64))] (g_Ro_addLevel 89 (v13 ^^^ (-1 : Int64)) w14) h ok_m_Ro_addLevel lk_Cs_95 rfl (Nat.le_of_ble_eq_true rfl) (Nat.le_of_ble_eq_true rfl) (Nat.le_of_ble_eq_true rfl) (by decide +kernel) rfl (fun _ w15 h => ?_)
    obtain ⟨v16, e17⟩ : ∃ y : Int32, y = x7 + (1 : Int32) := ⟨_, rfl⟩
    have h := zok_l e17 h
    refine Gz.iinc (i := 7) (n := 1) (pc' := 92) (L' := [(7, .int v16), (0, .ref 88), (1, .int x1), (2, .int x2), (3, .int x3), (4, .int x4), (5, .int x5), (6, .int x6)]) v16 (by decide +kernel) rfl 7 rfl (by rw [e17]; rfl) (Nat.le_of_ble_eq_true rfl) rfl ?_
    refine Gz.goto (off := -38) (tgt := 54) (by decide +kernel) (by decide) ?_
    refine Gz.sub (L' := [(0, .ref 88), (1, .int x1), (2, .int x2), (3, .int x3), (4, .int x4), (5, .int x5), (6, .int x6), (7, .int v16)]) [1, 2, 3, 4, 5, 6, 7, 0] rfl ?_
    exact hk54 x1 x2 x3 x4 x5 x6 v16 w15 h
theorem g_Cs_leastDone_b54 {l : Launch} {Q : Option Value → gW → Prop} (k9 : Int32 → Int32 → Int32 → Int32 → Int32 → Int32 → gW → Option (Int32 × gW)) (hk9 : ∀ (x1 : Int32) (x2 : Int32) (x3 : Int32) (x4 : Int32) (x5 : Int32) (x6 : Int32) (w : gW), zok eI (k9 x1 x2 x3 x4 x5 x6 w) Q → Gz l m_Cs_leastDone 5 9 [(0, .ref 88), (1, .int x1), (2, .int x2), (3, .int x3), (4, .int x4), (5, .int x5), (6, .int x6)] [] w Q) (x1 : Int32) (x2 : Int32) (x3 : Int32) (x4 : Int32) (x5 : Int32) (x6 : Int32) (x7 : Int32) (w : gW) (h : zok eI (f_Cs_leastDone_b54 k9 x1 x2 x3 x4 x5 x6 x7 w) Q) : Gz l m_Cs_leastDone 5 54 [(0, .ref 88), (1, .int x1), (2, .int x2), (3, .int x3), (4, .int x4), (5, .int x5), (6, .int x6), (7, .int x7)] [] w Q := by
  have key : ∀ (n : Nat) (x1 : Int32) (x2 : Int32) (x3 : Int32) (x4 : Int32) (x5 : Int32) (x6 : Int32) (x7 : Int32) (w : gW), zok eI (zfx (fun _ _ _ _ _ _ _ _ => none) (f_Cs_leastDone_b54_s k9) n x1 x2 x3 x4 x5 x6 x7 w) Q → Gz l m_Cs_leastDone 5 54 [(0, .ref 88), (1, .int x1), (2, .int x2), (3, .int x3), (4, .int x4), (5, .int x5), (6, .int x6), (7, .int x7)] [] w Q := by
    intro n
    induction n with
    | zero => intro x1 x2 x3 x4 x5 x6 x7 w h; exact zok_n h
    | succ n ih => intro x1 x2 x3 x4 x5 x6 x7 w h; exact g_Cs_leastDone_b54_s k9 hk9 _ ih x1 x2 x3 x4 x5 x6 x7 w h
  exact key zFU x1 x2 x3 x4 x5 x6 x7 w h
theorem g_Cs_leastDone_b9_s {l : Launch} {Q : Option Value → gW → Prop} (k9 : Int32 → Int32 → Int32 → Int32 → Int32 → Int32 → gW → Option (Int32 × gW)) (hk9 : ∀ (x1 : Int32) (x2 : Int32) (x3 : Int32) (x4 : Int32) (x5 : Int32) (x6 : Int32) (w : gW), zok eI (k9 x1 x2 x3 x4 x5 x6 w) Q → Gz l m_Cs_leastDone 5 9 [(0, .ref 88), (1, .int x1), (2, .int x2), (3, .int x3), (4, .int x4), (5, .int x5), (6, .int x6)] [] w Q) (x1 : Int32) (x2 : Int32) (x3 : Int32) (x4 : Int32) (x5 : Int32) (x6 : Int32) (w : gW) (h : zok eI (f_Cs_leastDone_b9_s k9 x1 x2 x3 x4 x5 x6 w) Q) : Gz l m_Cs_leastDone 5 9 [(0, .ref 88), (1, .int x1), (2, .int x2), (3, .int x3), (4, .int x4), (5, .int x5), (6, .int x6)] [] w Q := by
  unfold f_Cs_leastDone_b9_s at h
  refine Gz.iload (i := 6) (pc' := 11) (by decide +kernel) rfl 6 rfl ?_
  refine Gz.aload_n (q := 0) (pc' := 12) (by decide +kernel) rfl 0 rfl ?_
  refine Gz.getR (pc' := 15) (j := 0) 19 fd_Cs_20 sh_88 rfl (by decide +kernel) rfl ?_
  refine Gz.callVI (st := [.int x6]) (b := 19) (pc' := 18) [] (g_La_words w) h ok_m_La_words lk_Cs_52 sh_19 rfl rfl rfl (Nat.le_of_ble_eq_true rfl) (Nat.le_of_ble_eq_true rfl) (Nat.le_of_ble_eq_true rfl) (by decide +kernel) rfl (fun v1 w2 h => ?_)
  refine Gz.icmp_ge (off := 120) (tgt := 138) (pc' := 21) (by decide +kernel) (by decide) rfl (fun c3 => ?_) (fun c3 => ?_)
  · have h := zok_t c3 h
    refine Gz.iload_n (q := 3) (pc' := 139) (by decide +kernel) rfl 3 rfl ?_
    refine Gz.if_ne (off := 16) (tgt := 155) (pc' := 142) (by decide +kernel) (by decide) rfl (fun c4 => ?_) (fun c4 => ?_)
    · have h := zok_f c4 h
      refine Gz.aload_n (q := 0) (pc' := 156) (by decide +kernel) rfl 0 rfl ?_
      refine Gz.getR (pc' := 159) (j := 0) 19 fd_Cs_20 sh_88 rfl (by decide +kernel) rfl ?_
      refine Gz.iload (i := 5) (pc' := 161) (by decide +kernel) rfl 5 rfl ?_
      refine Gz.callVI (st := []) (b := 19) (pc' := 164) [.int x5] (g_La_numberAt x5 w2) h ok_m_La_numberAt lk_Cs_145 sh_19 rfl rfl rfl (Nat.le_of_ble_eq_true rfl) (Nat.le_of_ble_eq_true rfl) (Nat.le_of_ble_eq_true rfl) (by decide +kernel) rfl (fun v5 w6 h => ?_)
      exact Gz.ireturn (by decide +kernel) rfl (zok_sI h)
    · have h := zok_t c4 h
      refine Gz.aload_n (q := 0) (pc' := 143) (by decide +kernel) rfl 0 rfl ?_
      refine Gz.getR (pc' := 146) (j := 0) 19 fd_Cs_20 sh_88 rfl (by decide +kernel) rfl ?_
      refine Gz.callVI (st := []) (b := 19) (pc' := 149) [] (g_La_deedCount w2) h ok_m_La_deedCount lk_Cs_136 sh_19 rfl rfl rfl (Nat.le_of_ble_eq_true rfl) (Nat.le_of_ble_eq_true rfl) (Nat.le_of_ble_eq_true rfl) (by decide +kernel) rfl (fun v7 w8 h => ?_)
      refine Gz.iload (i := 4) (pc' := 151) (by decide +kernel) rfl 4 rfl ?_
      refine Gz.isub (pc' := 152) (by decide +kernel) rfl ?_
      refine Gz.goto (off := 12) (tgt := 164) (by decide +kernel) (by decide) ?_
      exact Gz.ireturn (by decide +kernel) rfl (zok_sI h)
  · have h := zok_f c3 h
    refine Gz.aload_n (q := 0) (pc' := 22) (by decide +kernel) rfl 0 rfl ?_
    refine Gz.getR (pc' := 25) (j := 3) 89 fd_Cs_9 sh_88 rfl (by decide +kernel) rfl ?_
    refine Gz.aload_n (q := 0) (pc' := 26) (by decide +kernel) rfl 0 rfl ?_
    refine Gz.getR (pc' := 29) (j := 2) 73 fd_Cs_28 sh_88 rfl (by decide +kernel) rfl ?_
    refine Gz.callVR (st := [.ref 89]) (b := 73) (pc' := 32) [] (g_Co_fitting w2) h ok_m_Co_fitting lk_Cs_44 sh_73 rfl rfl rfl (Nat.le_of_ble_eq_true rfl) (Nat.le_of_ble_eq_true rfl) (Nat.le_of_ble_eq_true rfl) (by decide +kernel) rfl (fun v9 w10 h => ?_)
    refine Gz.iload (i := 6) (pc' := 34) (by decide +kernel) rfl 6 rfl ?_
    refine Gz.callSJ (st := [.ref 89]) (pc' := 37) [.ref v9, .int x6] (g_Ro_word v9 x6 w10) h ok_m_Ro_word lk_Cs_87 rfl (Nat.le_of_ble_eq_true rfl) (Nat.le_of_ble_eq_true rfl) (Nat.le_of_ble_eq_true rfl) (by decide +kernel) rfl (fun v11 w12 h => ?_)
    refine Gz.aload_n (q := 0) (pc' := 38) (by decide +kernel) rfl 0 rfl ?_
    refine Gz.iload_n (q := 1) (pc' := 39) (by decide +kernel) rfl 1 rfl ?_
    refine Gz.callVR (st := [.long v11, .ref 89]) (b := 88) (pc' := 42) [.int x1] (g_Cs_rowOf x1 w12) h ok_m_Cs_rowOf lk_Cs_48 sh_88 rfl rfl rfl (Nat.le_of_ble_eq_true rfl) (Nat.le_of_ble_eq_true rfl) (Nat.le_of_ble_eq_true rfl) (by decide +kernel) rfl (fun v13 w14 h => ?_)
    refine Gz.iload (i := 6) (pc' := 44) (by decide +kernel) rfl 6 rfl ?_
    refine Gz.callSJ (st := [.long v11, .ref 89]) (pc' := 47) [.ref v13, .int x6] (g_Ro_word v13 x6 w14) h ok_m_Ro_word lk_Cs_87 rfl (Nat.le_of_ble_eq_true rfl) (Nat.le_of_ble_eq_true rfl) (Nat.le_of_ble_eq_true rfl) (by decide +kernel) rfl (fun v15 w16 h => ?_)
    refine Gz.land (pc' := 48) (by decide +kernel) rfl ?_
    refine Gz.callSV (st := []) (pc' := 51) [.ref 89, .long (v11 &&& v15)] (g_Ro_startLevels 89 (v11 &&& v15) w16) h ok_m_Ro_startLevels lk_Cs_91 rfl (Nat.le_of_ble_eq_true rfl) (Nat.le_of_ble_eq_true rfl) (Nat.le_of_ble_eq_true rfl) (by decide +kernel) rfl (fun _ w17 h => ?_)
    refine Gz.iconst (n := 0) (v := (0 : Int32)) (pc' := 52) (by decide +kernel) rfl rfl ?_
    refine Gz.istore (i := 7) (pc' := 54) (L' := [(7, .int (0 : Int32)), (0, .ref 88), (1, .int x1), (2, .int x2), (3, .int x3), (4, .int x4), (5, .int x5), (6, .int x6)]) (by decide +kernel) rfl (Nat.le_of_ble_eq_true rfl) rfl ?_
    refine Gz.sub (L' := [(0, .ref 88), (1, .int x1), (2, .int x2), (3, .int x3), (4, .int x4), (5, .int x5), (6, .int x6), (7, .int (0 : Int32))]) [1, 2, 3, 4, 5, 6, 7, 0] rfl ?_
    exact g_Cs_leastDone_b54 k9 hk9 x1 x2 x3 x4 x5 x6 (0 : Int32) w17 h
theorem g_Cs_leastDone_b9 {l : Launch} {Q : Option Value → gW → Prop} (x1 : Int32) (x2 : Int32) (x3 : Int32) (x4 : Int32) (x5 : Int32) (x6 : Int32) (w : gW) (h : zok eI (f_Cs_leastDone_b9 x1 x2 x3 x4 x5 x6 w) Q) : Gz l m_Cs_leastDone 5 9 [(0, .ref 88), (1, .int x1), (2, .int x2), (3, .int x3), (4, .int x4), (5, .int x5), (6, .int x6)] [] w Q := by
  have key : ∀ (n : Nat) (x1 : Int32) (x2 : Int32) (x3 : Int32) (x4 : Int32) (x5 : Int32) (x6 : Int32) (w : gW), zok eI (zfx (fun _ _ _ _ _ _ _ => none) (f_Cs_leastDone_b9_s) n x1 x2 x3 x4 x5 x6 w) Q → Gz l m_Cs_leastDone 5 9 [(0, .ref 88), (1, .int x1), (2, .int x2), (3, .int x3), (4, .int x4), (5, .int x5), (6, .int x6)] [] w Q := by
    intro n
    induction n with
    | zero => intro x1 x2 x3 x4 x5 x6 w h; exact zok_n h
    | succ n ih => intro x1 x2 x3 x4 x5 x6 w h; exact g_Cs_leastDone_b9_s _ ih x1 x2 x3 x4 x5 x6 w h
  exact key zFU x1 x2 x3 x4 x5 x6 w h
theorem g_Cs_leastDone {l : Launch} (a1 : Int32) (a2 : Int32) (a3 : Int32) (w : gW) : gCt l m_Cs_leastDone 5 [.ref 88, .int a1, .int a2, .int a3] w eI (f_Cs_leastDone a1 a2 a3 w) := by
  intro Q h
  unfold f_Cs_leastDone at h
  show Gz l m_Cs_leastDone 5 0 [(0, .ref 88), (1, .int a1), (2, .int a2), (3, .int a3)] [] w Q
  refine Gz.iconst (n := -1) (v := (-1 : Int32)) (pc' := 1) (by decide +kernel) rfl rfl ?_
  refine Gz.istore (i := 4) (pc' := 3) (L' := [(4, .int (-1 : Int32)), (0, .ref 88), (1, .int a1), (2, .int a2), (3, .int a3)]) (by decide +kernel) rfl (Nat.le_of_ble_eq_true rfl) rfl ?_
  refine Gz.iconst (n := -1) (v := (-1 : Int32)) (pc' := 4) (by decide +kernel) rfl rfl ?_
  refine Gz.istore (i := 5) (pc' := 6) (L' := [(5, .int (-1 : Int32)), (4, .int (-1 : Int32)), (0, .ref 88), (1, .int a1), (2, .int a2), (3, .int a3)]) (by decide +kernel) rfl (Nat.le_of_ble_eq_true rfl) rfl ?_
  refine Gz.iconst (n := 0) (v := (0 : Int32)) (pc' := 7) (by decide +kernel) rfl rfl ?_
  refine Gz.istore (i := 6) (pc' := 9) (L' := [(6, .int (0 : Int32)), (5, .int (-1 : Int32)), (4, .int (-1 : Int32)), (0, .ref 88), (1, .int a1), (2, .int a2), (3, .int a3)]) (by decide +kernel) rfl (Nat.le_of_ble_eq_true rfl) rfl ?_
  refine Gz.sub (L' := [(0, .ref 88), (1, .int a1), (2, .int a2), (3, .int a3), (4, .int (-1 : Int32)), (5, .int (-1 : Int32)), (6, .int (0 : Int32))]) [3, 4, 5, 6, 2, 1, 0] rfl ?_
  exact g_Cs_leastDone_b9 a1 a2 a3 (-1 : Int32) (-1 : Int32) (0 : Int32) w h
def f_Cs_careful (a1 : Int32) (a2 : Int32) (a3 : Int32) (w : gW) : Option (Int32 × gW) :=
zb (f_Cs_rowOf a1 w) (fun v1 w2 =>
zb (f_Co_hear a1 a2 v1 w2) (fun _ w3 =>
zb (f_Cs_canBe a1 w3) (fun v4 w5 =>
if v4 = 0 then
(some ((-1 : Int32), w5))
else
(if a3 = (2 : Int32) then
(zb (f_Cs_keptOpen a1 w5) (fun v10 w11 =>
some (v10, w11)))
else
(zb (f_Cs_leastDone a1 a2 a3 w5) (fun v8 w9 =>
some (v8, w9)))))))
theorem g_Cs_careful {l : Launch} (a1 : Int32) (a2 : Int32) (a3 : Int32) (w : gW) : gCt l m_Cs_careful 6 [.ref 88, .int a1, .int a2, .int a3] w eI (f_Cs_careful a1 a2 a3 w) := by
  intro Q h
  unfold f_Cs_careful at h
  show Gz l m_Cs_careful 6 0 [(0, .ref 88), (1, .int a1), (2, .int a2), (3, .int a3)] [] w Q
  refine Gz.aload_n (q := 0) (pc' := 1) (by decide +kernel) rfl 0 rfl ?_
  refine Gz.getR (pc' := 4) (j := 2) 73 fd_Cs_28 sh_88 rfl (by decide +kernel) rfl ?_
  refine Gz.iload_n (q := 1) (pc' := 5) (by decide +kernel) rfl 1 rfl ?_
  refine Gz.iload_n (q := 2) (pc' := 6) (by decide +kernel) rfl 2 rfl ?_
  refine Gz.aload_n (q := 0) (pc' := 7) (by decide +kernel) rfl 0 rfl ?_
  refine Gz.iload_n (q := 1) (pc' := 8) (by decide +kernel) rfl 1 rfl ?_
  refine Gz.callVR (st := [.int a2, .int a1, .ref 73]) (b := 88) (pc' := 11) [.int a1] (g_Cs_rowOf a1 w) h ok_m_Cs_rowOf lk_Cs_48 sh_88 rfl rfl rfl (Nat.le_of_ble_eq_true rfl) (Nat.le_of_ble_eq_true rfl) (Nat.le_of_ble_eq_true rfl) (by decide +kernel) rfl (fun v1 w2 h => ?_)
  refine Gz.callVV (st := []) (b := 73) (pc' := 14) [.int a1, .int a2, .ref v1] (g_Co_hear a1 a2 v1 w2) h ok_m_Co_hear lk_Cs_38 sh_73 rfl rfl rfl (Nat.le_of_ble_eq_true rfl) (Nat.le_of_ble_eq_true rfl) (Nat.le_of_ble_eq_true rfl) (by decide +kernel) rfl (fun _ w3 h => ?_)
  refine Gz.aload_n (q := 0) (pc' := 15) (by decide +kernel) rfl 0 rfl ?_
  refine Gz.iload_n (q := 1) (pc' := 16) (by decide +kernel) rfl 1 rfl ?_
  refine Gz.callVI (st := []) (b := 88) (pc' := 19) [.int a1] (g_Cs_canBe a1 w3) h ok_m_Cs_canBe lk_Cs_80 sh_88 rfl rfl rfl (Nat.le_of_ble_eq_true rfl) (Nat.le_of_ble_eq_true rfl) (Nat.le_of_ble_eq_true rfl) (by decide +kernel) rfl (fun v4 w5 h => ?_)
  refine Gz.if_ne (off := 5) (tgt := 24) (pc' := 22) (by decide +kernel) (by decide) rfl (fun c6 => ?_) (fun c6 => ?_)
  · have h := zok_f c6 h
    refine Gz.iload_n (q := 3) (pc' := 25) (by decide +kernel) rfl 3 rfl ?_
    refine Gz.iconst (n := 2) (v := (2 : Int32)) (pc' := 26) (by decide +kernel) rfl rfl ?_
    refine Gz.icmp_ne (off := 11) (tgt := 37) (pc' := 29) (by decide +kernel) (by decide) rfl (fun c7 => ?_) (fun c7 => ?_)
    · have h := zok_f c7 h
      refine Gz.aload_n (q := 0) (pc' := 38) (by decide +kernel) rfl 0 rfl ?_
      refine Gz.iload_n (q := 1) (pc' := 39) (by decide +kernel) rfl 1 rfl ?_
      refine Gz.iload_n (q := 2) (pc' := 40) (by decide +kernel) rfl 2 rfl ?_
      refine Gz.iload_n (q := 3) (pc' := 41) (by decide +kernel) rfl 3 rfl ?_
      refine Gz.callVI (st := []) (b := 88) (pc' := 44) [.int a1, .int a2, .int a3] (g_Cs_leastDone a1 a2 a3 w5) h ok_m_Cs_leastDone lk_Cs_118 sh_88 rfl rfl rfl (Nat.le_of_ble_eq_true rfl) (Nat.le_of_ble_eq_true rfl) (Nat.le_of_ble_eq_true rfl) (by decide +kernel) rfl (fun v8 w9 h => ?_)
      exact Gz.ireturn (by decide +kernel) rfl (zok_sI h)
    · have h := zok_t c7 h
      refine Gz.aload_n (q := 0) (pc' := 30) (by decide +kernel) rfl 0 rfl ?_
      refine Gz.iload_n (q := 1) (pc' := 31) (by decide +kernel) rfl 1 rfl ?_
      refine Gz.callVI (st := []) (b := 88) (pc' := 34) [.int a1] (g_Cs_keptOpen a1 w5) h ok_m_Cs_keptOpen lk_Cs_114 sh_88 rfl rfl rfl (Nat.le_of_ble_eq_true rfl) (Nat.le_of_ble_eq_true rfl) (Nat.le_of_ble_eq_true rfl) (by decide +kernel) rfl (fun v10 w11 h => ?_)
      refine Gz.goto (off := 10) (tgt := 44) (by decide +kernel) (by decide) ?_
      exact Gz.ireturn (by decide +kernel) rfl (zok_sI h)
  · have h := zok_t c6 h
    refine Gz.iconst (n := -1) (v := (-1 : Int32)) (pc' := 23) (by decide +kernel) rfl rfl ?_
    exact Gz.ireturn (by decide +kernel) rfl (zok_sI h)
def f_X_care_b23 (x1 : Int32) (x2 : Int32) (x3 : Int32) (s0 : Int32) (w : gW) : Option (Int32 × gW) :=
if s0 = 0 then
(some ((-1 : Int32), w))
else
(zb (f_Cs_careful x1 x2 x3 w) (fun v2 w3 =>
some (v2, w3)))
def f_X_care_b22 (x1 : Int32) (x2 : Int32) (x3 : Int32) (w : gW) : Option (Int32 × gW) :=
f_X_care_b23 x1 x2 x3 (0 : Int32) w
def f_X_care (a1 : Int32) (a2 : Int32) (a3 : Int32) (w : gW) : Option (Int32 × gW) :=
zb (f_X_isSuch a1 a2 w) (fun v1 w2 =>
if v1 = 0 then
(f_X_care_b22 a1 a2 a3 w2)
else
(if a3 < 0 then
(f_X_care_b22 a1 a2 a3 w2)
else
(if (2 : Int32) < a3 then
(f_X_care_b22 a1 a2 a3 w2)
else
(f_X_care_b23 a1 a2 a3 (1 : Int32) w2))))
theorem g_X_care_b23 {l : Launch} {Q : Option Value → gW → Prop} (x1 : Int32) (x2 : Int32) (x3 : Int32) (s0 : Int32) (w : gW) (h : zok eI (f_X_care_b23 x1 x2 x3 s0 w) Q) : Gz l m_X_care 7 23 [(0, .ref 0), (1, .int x1), (2, .int x2), (3, .int x3)] [.int s0] w Q := by
  unfold f_X_care_b23 at h
  refine Gz.istore (i := 4) (pc' := 25) (L' := [(4, .int s0), (0, .ref 0), (1, .int x1), (2, .int x2), (3, .int x3)]) (by decide +kernel) rfl (Nat.le_of_ble_eq_true rfl) rfl ?_
  refine Gz.iload (i := 4) (pc' := 27) (by decide +kernel) rfl 0 rfl ?_
  refine Gz.if_eq (off := 16) (tgt := 43) (pc' := 30) (by decide +kernel) (by decide) rfl (fun c1 => ?_) (fun c1 => ?_)
  · have h := zok_t c1 h
    refine Gz.iconst (n := -1) (v := (-1 : Int32)) (pc' := 44) (by decide +kernel) rfl rfl ?_
    exact Gz.ireturn (by decide +kernel) rfl (zok_sI h)
  · have h := zok_f c1 h
    refine Gz.aload_n (q := 0) (pc' := 31) (by decide +kernel) rfl 1 rfl ?_
    refine Gz.getR (pc' := 34) (j := 7) 88 fd_X_61 sh_0 rfl (by decide +kernel) rfl ?_
    refine Gz.iload_n (q := 1) (pc' := 35) (by decide +kernel) rfl 2 rfl ?_
    refine Gz.iload_n (q := 2) (pc' := 36) (by decide +kernel) rfl 3 rfl ?_
    refine Gz.iload_n (q := 3) (pc' := 37) (by decide +kernel) rfl 4 rfl ?_
    refine Gz.callVI (st := []) (b := 88) (pc' := 40) [.int x1, .int x2, .int x3] (g_Cs_careful x1 x2 x3 w) h ok_m_Cs_careful lk_X_240 sh_88 rfl rfl rfl (Nat.le_of_ble_eq_true rfl) (Nat.le_of_ble_eq_true rfl) (Nat.le_of_ble_eq_true rfl) (by decide +kernel) rfl (fun v2 w3 h => ?_)
    refine Gz.goto (off := 4) (tgt := 44) (by decide +kernel) (by decide) ?_
    exact Gz.ireturn (by decide +kernel) rfl (zok_sI h)
theorem g_X_care_b22 {l : Launch} {Q : Option Value → gW → Prop} (x1 : Int32) (x2 : Int32) (x3 : Int32) (w : gW) (h : zok eI (f_X_care_b22 x1 x2 x3 w) Q) : Gz l m_X_care 7 22 [(0, .ref 0), (1, .int x1), (2, .int x2), (3, .int x3)] [] w Q := by
  unfold f_X_care_b22 at h
  refine Gz.iconst (n := 0) (v := (0 : Int32)) (pc' := 23) (by decide +kernel) rfl rfl ?_
  exact g_X_care_b23 x1 x2 x3 (0 : Int32) w h
theorem g_X_care {l : Launch} (a1 : Int32) (a2 : Int32) (a3 : Int32) (w : gW) : gCt l m_X_care 7 [.ref 0, .int a1, .int a2, .int a3] w eI (f_X_care a1 a2 a3 w) := by
  intro Q h
  unfold f_X_care at h
  show Gz l m_X_care 7 0 [(0, .ref 0), (1, .int a1), (2, .int a2), (3, .int a3)] [] w Q
  refine Gz.aload_n (q := 0) (pc' := 1) (by decide +kernel) rfl 0 rfl ?_
  refine Gz.iload_n (q := 1) (pc' := 2) (by decide +kernel) rfl 1 rfl ?_
  refine Gz.iload_n (q := 2) (pc' := 3) (by decide +kernel) rfl 2 rfl ?_
  refine Gz.callVI (st := []) (b := 0) (pc' := 6) [.int a1, .int a2] (g_X_isSuch a1 a2 w) h ok_m_X_isSuch lk_X_146 sh_0 rfl rfl rfl (Nat.le_of_ble_eq_true rfl) (Nat.le_of_ble_eq_true rfl) (Nat.le_of_ble_eq_true rfl) (by decide +kernel) rfl (fun v1 w2 h => ?_)
  refine Gz.if_eq (off := 16) (tgt := 22) (pc' := 9) (by decide +kernel) (by decide) rfl (fun c3 => ?_) (fun c3 => ?_)
  · have h := zok_t c3 h
    exact g_X_care_b22 a1 a2 a3 w2 h
  · have h := zok_f c3 h
    refine Gz.iload_n (q := 3) (pc' := 10) (by decide +kernel) rfl 3 rfl ?_
    refine Gz.if_lt (off := 12) (tgt := 22) (pc' := 13) (by decide +kernel) (by decide) rfl (fun c4 => ?_) (fun c4 => ?_)
    · have h := zok_t c4 h
      exact g_X_care_b22 a1 a2 a3 w2 h
    · have h := zok_f c4 h
      refine Gz.iload_n (q := 3) (pc' := 14) (by decide +kernel) rfl 3 rfl ?_
      refine Gz.iconst (n := 2) (v := (2 : Int32)) (pc' := 15) (by decide +kernel) rfl rfl ?_
      refine Gz.icmp_gt (off := 7) (tgt := 22) (pc' := 18) (by decide +kernel) (by decide) rfl (fun c5 => ?_) (fun c5 => ?_)
      · have h := zok_t c5 h
        exact g_X_care_b22 a1 a2 a3 w2 h
      · have h := zok_f c5 h
        refine Gz.iconst (n := 1) (v := (1 : Int32)) (pc' := 19) (by decide +kernel) rfl rfl ?_
        refine Gz.goto (off := 4) (tgt := 23) (by decide +kernel) (by decide) ?_
        exact g_X_care_b23 a1 a2 a3 (1 : Int32) w2 h
def f_An_costOf (a1 : Int32) (w : gW) : Option (Int32 × gW) :=
zb (f_An_swornPart a1 (3 : Int32) w) (fun v1 w2 =>
some (v1, w2))
theorem g_An_costOf {l : Launch} (a1 : Int32) (w : gW) : gCt l m_An_costOf 2 [.ref 59, .int a1] w eI (f_An_costOf a1 w) := by
  intro Q h
  unfold f_An_costOf at h
  show Gz l m_An_costOf 2 0 [(0, .ref 59), (1, .int a1)] [] w Q
  refine Gz.aload_n (q := 0) (pc' := 1) (by decide +kernel) rfl 0 rfl ?_
  refine Gz.iload_n (q := 1) (pc' := 2) (by decide +kernel) rfl 1 rfl ?_
  refine Gz.iconst (n := 3) (v := (3 : Int32)) (pc' := 3) (by decide +kernel) rfl rfl ?_
  refine Gz.callVI (st := []) (b := 59) (pc' := 6) [.int a1, .int (3 : Int32)] (g_An_swornPart a1 (3 : Int32) w) h ok_m_An_swornPart lk_An_58 sh_59 rfl rfl rfl (Nat.le_of_ble_eq_true rfl) (Nat.le_of_ble_eq_true rfl) (Nat.le_of_ble_eq_true rfl) (by decide +kernel) rfl (fun v1 w2 h => ?_)
  exact Gz.ireturn (by decide +kernel) rfl (zok_sI h)
def f_Le_part_b65 (rK : Int64 → Int32 → Int32 → Int32 → gW → Option (Unit × gW)) (x5 : Int32) (x6 : Int32) (w : gW) : Option (Unit × gW) :=
zl (zsI w 99 6 x5) (fun w1 =>
zl (zsI w1 99 7 x6) (fun w3 =>
some ((), w3)))
def f_Le_part_b40 (rK : Int64 → Int32 → Int32 → Int32 → gW → Option (Unit × gW)) (x1 : Int64) (x3 : Int32) (x5 : Int32) (w : gW) : Option (Unit × gW) :=
zb (f_Ro_firstPlace x1 x3 w) (fun v1 w2 =>
if x5 < (w2.1 99 6) then
(f_Le_part_b65 rK x5 v1 w2)
else
(if (w2.1 99 7) ≤ v1 then
(some ((), w2))
else
(f_Le_part_b65 rK x5 v1 w2)))
def f_Le_part_rec (rK : Int64 → Int32 → Int32 → Int32 → gW → Option (Unit × gW)) (a1 : Int64) (a3 : Int32) (a4 : Int32) (a5 : Int32) (w : gW) : Option (Unit × gW) :=
if (lg_cmp a1 (0 : Int64)) = 0 then
(some ((), w))
else
(if a5 ≤ (w.1 99 6) then
(if a4 < 0 then
(f_Le_part_b40 rK a1 a3 a5 w)
else
(zb (f_An_swornCount w) (fun v4 w5 =>
if v4 ≤ a4 then
(f_Le_part_b40 rK a1 a3 a5 w5)
else
(if a4 < (10 : Int32) then
(if inb a4 10 then
zb (rK (a1 &&& (w5.2 100 (ix a4))) a3 (a4 + (1 : Int32)) a5 w5) (fun _ w9 =>
if inb a4 10 then
zb (f_An_costOf a4 w9) (fun v11 w12 =>
zb (rK (a1 &&& ((w9.2 100 (ix a4)) ^^^ (-1 : Int64))) a3 (a4 + (1 : Int32)) (a5 + v11) w12) (fun _ w13 =>
some ((), w13)))
else none)
else none)
else
(f_Le_part_b40 rK a1 a3 a5 w5)))))
else
(some ((), w)))
def f_Le_part (a1 : Int64) (a3 : Int32) (a4 : Int32) (a5 : Int32) (w : gW) : Option (Unit × gW) := zfx (fun _ _ _ _ _ => none) f_Le_part_rec 16 a1 a3 a4 a5 w
theorem g_Le_part_b65 {l : Launch} {Q : Option Value → gW → Prop} (rK : Int64 → Int32 → Int32 → Int32 → gW → Option (Unit × gW)) {dK : Nat} (hd0 : 3 ≤ dK) (hK : ∀ (a1 : Int64) (a3 : Int32) (a4 : Int32) (a5 : Int32) (w : gW), gCt l m_Le_part dK [.ref 99, .long a1, .int a3, .int a4, .int a5] w eV (rK a1 a3 a4 a5 w)) (x5 : Int32) (x6 : Int32) (w : gW) (h : zok eV (f_Le_part_b65 rK x5 x6 w) Q) : Gz l m_Le_part (dK + 1) 65 [(0, .ref 99), (5, .int x5), (6, .int x6)] [] w Q := by
  unfold f_Le_part_b65 at h
  refine Gz.aload_n (q := 0) (pc' := 66) (by decide +kernel) rfl 0 rfl ?_
  refine Gz.iload (i := 5) (pc' := 68) (by decide +kernel) rfl 1 rfl ?_
  refine Gz.putI (pc' := 71) (j := 6) fd_Le_83 sh_99 rfl (by decide +kernel) rfl ?_
  refine Gz.nmW (fun w1 e2 => ?_)
  have h := zok_l e2 h
  refine Gz.aload_n (q := 0) (pc' := 72) (by decide +kernel) rfl 0 rfl ?_
  refine Gz.iload (i := 6) (pc' := 74) (by decide +kernel) rfl 2 rfl ?_
  refine Gz.putI (pc' := 77) (j := 7) fd_Le_75 sh_99 rfl (by decide +kernel) rfl ?_
  refine Gz.nmW (fun w3 e4 => ?_)
  have h := zok_l e4 h
  exact Gz.return_ (by decide +kernel) rfl (zok_sV h)
theorem g_Le_part_b40 {l : Launch} {Q : Option Value → gW → Prop} (rK : Int64 → Int32 → Int32 → Int32 → gW → Option (Unit × gW)) {dK : Nat} (hd0 : 3 ≤ dK) (hK : ∀ (a1 : Int64) (a3 : Int32) (a4 : Int32) (a5 : Int32) (w : gW), gCt l m_Le_part dK [.ref 99, .long a1, .int a3, .int a4, .int a5] w eV (rK a1 a3 a4 a5 w)) (x1 : Int64) (x3 : Int32) (x5 : Int32) (w : gW) (h : zok eV (f_Le_part_b40 rK x1 x3 x5 w) Q) : Gz l m_Le_part (dK + 1) 40 [(0, .ref 99), (1, .long x1), (3, .int x3), (5, .int x5)] [] w Q := by
  unfold f_Le_part_b40 at h
  refine Gz.lload_n (q := 1) (pc' := 41) (by decide +kernel) rfl 1 rfl ?_
  refine Gz.iload_n (q := 3) (pc' := 42) (by decide +kernel) rfl 2 rfl ?_
  refine Gz.callSI (st := []) (pc' := 45) [.long x1, .int x3] (g_Ro_firstPlace x1 x3 w) h ok_m_Ro_firstPlace lk_Le_129 rfl (Nat.le_of_ble_eq_true rfl) (by omega) (Nat.le_of_ble_eq_true rfl) (by decide +kernel) rfl (fun v1 w2 h => ?_)
  refine Gz.istore (i := 6) (pc' := 47) (L' := [(6, .int v1), (0, .ref 99), (1, .long x1), (3, .int x3), (5, .int x5)]) (by decide +kernel) rfl (Nat.le_of_ble_eq_true rfl) rfl ?_
  refine Gz.iload (i := 5) (pc' := 49) (by decide +kernel) rfl 4 rfl ?_
  refine Gz.aload_n (q := 0) (pc' := 50) (by decide +kernel) rfl 1 rfl ?_
  refine Gz.getI (pc' := 53) (j := 6) fd_Le_83 sh_99 rfl (by decide +kernel) rfl ?_
  refine Gz.icmp_lt (off := 12) (tgt := 65) (pc' := 56) (by decide +kernel) (by decide) rfl (fun c3 => ?_) (fun c3 => ?_)
  · have h := zok_t c3 h
    refine Gz.sub (L' := [(0, .ref 99), (5, .int x5), (6, .int v1)]) [1, 4, 0] rfl ?_
    exact g_Le_part_b65 rK hd0 hK x5 v1 w2 h
  · have h := zok_f c3 h
    refine Gz.iload (i := 6) (pc' := 58) (by decide +kernel) rfl 0 rfl ?_
    refine Gz.aload_n (q := 0) (pc' := 59) (by decide +kernel) rfl 1 rfl ?_
    refine Gz.getI (pc' := 62) (j := 7) fd_Le_75 sh_99 rfl (by decide +kernel) rfl ?_
    refine Gz.icmp_ge (off := 15) (tgt := 77) (pc' := 65) (by decide +kernel) (by decide) rfl (fun c4 => ?_) (fun c4 => ?_)
    · have h := zok_t c4 h
      exact Gz.return_ (by decide +kernel) rfl (zok_sV h)
    · have h := zok_f c4 h
      refine Gz.sub (L' := [(0, .ref 99), (5, .int x5), (6, .int v1)]) [1, 4, 0] rfl ?_
      exact g_Le_part_b65 rK hd0 hK x5 v1 w2 h
theorem g_Le_part_rec {l : Launch} (rK : Int64 → Int32 → Int32 → Int32 → gW → Option (Unit × gW)) {dK : Nat} (hd0 : 3 ≤ dK) (hK : ∀ (a1 : Int64) (a3 : Int32) (a4 : Int32) (a5 : Int32) (w : gW), gCt l m_Le_part dK [.ref 99, .long a1, .int a3, .int a4, .int a5] w eV (rK a1 a3 a4 a5 w)) (a1 : Int64) (a3 : Int32) (a4 : Int32) (a5 : Int32) (w : gW) : gCt l m_Le_part (dK + 1) [.ref 99, .long a1, .int a3, .int a4, .int a5] w eV (f_Le_part_rec rK a1 a3 a4 a5 w) := by
  intro Q h
  unfold f_Le_part_rec at h
  show Gz l m_Le_part (dK + 1) 0 [(0, .ref 99), (1, .long a1), (3, .int a3), (4, .int a4), (5, .int a5)] [] w Q
  refine Gz.lload_n (q := 1) (pc' := 1) (by decide +kernel) rfl 1 rfl ?_
  refine Gz.lconst (n := 0) (v := (0 : Int64)) (pc' := 2) (by decide +kernel) rfl rfl ?_
  refine Gz.lcmp (pc' := 3) (by decide +kernel) rfl ?_
  refine Gz.if_eq (off := 12) (tgt := 15) (pc' := 6) (by decide +kernel) (by decide) rfl (fun c1 => ?_) (fun c1 => ?_)
  · have h := zok_t c1 h
    exact Gz.return_ (by decide +kernel) rfl (zok_sV h)
  · have h := zok_f c1 h
    refine Gz.iload (i := 5) (pc' := 8) (by decide +kernel) rfl 4 rfl ?_
    refine Gz.aload_n (q := 0) (pc' := 9) (by decide +kernel) rfl 0 rfl ?_
    refine Gz.getI (pc' := 12) (j := 6) fd_Le_83 sh_99 rfl (by decide +kernel) rfl ?_
    refine Gz.icmp_le (off := 4) (tgt := 16) (pc' := 15) (by decide +kernel) (by decide) rfl (fun c2 => ?_) (fun c2 => ?_)
    · have h := zok_t c2 h
      refine Gz.iload (i := 4) (pc' := 18) (by decide +kernel) rfl 3 rfl ?_
      refine Gz.if_lt (off := 22) (tgt := 40) (pc' := 21) (by decide +kernel) (by decide) rfl (fun c3 => ?_) (fun c3 => ?_)
      · have h := zok_t c3 h
        refine Gz.sub (L' := [(0, .ref 99), (1, .long a1), (3, .int a3), (5, .int a5)]) [0, 1, 2, 4] rfl ?_
        exact g_Le_part_b40 rK hd0 hK a1 a3 a5 w h
      · have h := zok_f c3 h
        refine Gz.iload (i := 4) (pc' := 23) (by decide +kernel) rfl 3 rfl ?_
        refine Gz.aload_n (q := 0) (pc' := 24) (by decide +kernel) rfl 0 rfl ?_
        refine Gz.getR (pc' := 27) (j := 2) 59 fd_Le_26 sh_99 rfl (by decide +kernel) rfl ?_
        refine Gz.callVI (st := [.int a4]) (b := 59) (pc' := 30) [] (g_An_swornCount w) h ok_m_An_swornCount lk_Le_52 sh_59 rfl rfl rfl (Nat.le_of_ble_eq_true rfl) (by omega) (Nat.le_of_ble_eq_true rfl) (by decide +kernel) rfl (fun v4 w5 h => ?_)
        refine Gz.icmp_ge (off := 10) (tgt := 40) (pc' := 33) (by decide +kernel) (by decide) rfl (fun c6 => ?_) (fun c6 => ?_)
        · have h := zok_t c6 h
          refine Gz.sub (L' := [(0, .ref 99), (1, .long a1), (3, .int a3), (5, .int a5)]) [0, 1, 2, 4] rfl ?_
          exact g_Le_part_b40 rK hd0 hK a1 a3 a5 w5 h
        · have h := zok_f c6 h
          refine Gz.iload (i := 4) (pc' := 35) (by decide +kernel) rfl 3 rfl ?_
          refine Gz.bipush (n := 10) (v := (10 : Int32)) (pc' := 37) (by decide +kernel) rfl rfl ?_
          refine Gz.icmp_lt (off := 41) (tgt := 78) (pc' := 40) (by decide +kernel) (by decide) rfl (fun c7 => ?_) (fun c7 => ?_)
          · have h := zok_t c7 h
            refine Gz.aload_n (q := 0) (pc' := 79) (by decide +kernel) rfl 0 rfl ?_
            refine Gz.lload_n (q := 1) (pc' := 80) (by decide +kernel) rfl 1 rfl ?_
            refine Gz.aload_n (q := 0) (pc' := 81) (by decide +kernel) rfl 0 rfl ?_
            refine Gz.getR (pc' := 84) (j := 4) 100 fd_Le_9 sh_99 rfl (by decide +kernel) rfl ?_
            refine Gz.iload (i := 4) (pc' := 86) (by decide +kernel) rfl 3 rfl ?_
            obtain ⟨c8, h⟩ := zok_c h
            refine Gz.lald (pc' := 87) (n := 10) (by decide +kernel) rfl rfl c8 ?_
            refine Gz.land (pc' := 88) (by decide +kernel) rfl ?_
            refine Gz.iload_n (q := 3) (pc' := 89) (by decide +kernel) rfl 2 rfl ?_
            refine Gz.iload (i := 4) (pc' := 91) (by decide +kernel) rfl 3 rfl ?_
            refine Gz.iconst (n := 1) (v := (1 : Int32)) (pc' := 92) (by decide +kernel) rfl rfl ?_
            refine Gz.iadd (pc' := 93) (by decide +kernel) rfl ?_
            refine Gz.iload (i := 5) (pc' := 95) (by decide +kernel) rfl 4 rfl ?_
            refine Gz.callVV (st := []) (b := 99) (pc' := 98) [.long (a1 &&& (w5.2 100 (ix a4))), .int a3, .int (a4 + (1 : Int32)), .int a5] (hK (a1 &&& (w5.2 100 (ix a4))) a3 (a4 + (1 : Int32)) a5 w5) h ok_m_Le_part lk_Le_125 sh_99 rfl rfl rfl (Nat.le_of_ble_eq_true rfl) (by omega) (Nat.le_of_ble_eq_true rfl) (by decide +kernel) rfl (fun _ w9 h => ?_)
            refine Gz.aload_n (q := 0) (pc' := 99) (by decide +kernel) rfl 0 rfl ?_
            refine Gz.lload_n (q := 1) (pc' := 100) (by decide +kernel) rfl 1 rfl ?_
            refine Gz.aload_n (q := 0) (pc' := 101) (by decide +kernel) rfl 0 rfl ?_
            refine Gz.getR (pc' := 104) (j := 4) 100 fd_Le_9 sh_99 rfl (by decide +kernel) rfl ?_
            refine Gz.iload (i := 4) (pc' := 106) (by decide +kernel) rfl 3 rfl ?_
            obtain ⟨c10, h⟩ := zok_c h
            refine Gz.lald (pc' := 107) (n := 10) (by decide +kernel) rfl rfl c10 ?_
            refine Gz.ldc2 (idx := 114) (v := (-1 : Int64)) (pc' := 110) (by decide +kernel) rfl kc_Le_114 ?_
            refine Gz.lxor (pc' := 111) (by decide +kernel) rfl ?_
            refine Gz.land (pc' := 112) (by decide +kernel) rfl ?_
            refine Gz.iload_n (q := 3) (pc' := 113) (by decide +kernel) rfl 2 rfl ?_
            refine Gz.iload (i := 4) (pc' := 115) (by decide +kernel) rfl 3 rfl ?_
            refine Gz.iconst (n := 1) (v := (1 : Int32)) (pc' := 116) (by decide +kernel) rfl rfl ?_
            refine Gz.iadd (pc' := 117) (by decide +kernel) rfl ?_
            refine Gz.iload (i := 5) (pc' := 119) (by decide +kernel) rfl 4 rfl ?_
            refine Gz.aload_n (q := 0) (pc' := 120) (by decide +kernel) rfl 0 rfl ?_
            refine Gz.getR (pc' := 123) (j := 2) 59 fd_Le_26 sh_99 rfl (by decide +kernel) rfl ?_
            refine Gz.iload (i := 4) (pc' := 125) (by decide +kernel) rfl 3 rfl ?_
            refine Gz.callVI (st := [.int a5, .int (a4 + (1 : Int32)), .int a3, .long (a1 &&& ((w9.2 100 (ix a4)) ^^^ (-1 : Int64))), .ref 99]) (b := 59) (pc' := 128) [.int a4] (g_An_costOf a4 w9) h ok_m_An_costOf lk_Le_133 sh_59 rfl rfl rfl (Nat.le_of_ble_eq_true rfl) (by omega) (Nat.le_of_ble_eq_true rfl) (by decide +kernel) rfl (fun v11 w12 h => ?_)
            refine Gz.iadd (pc' := 129) (by decide +kernel) rfl ?_
            refine Gz.callVV (st := []) (b := 99) (pc' := 132) [.long (a1 &&& ((w9.2 100 (ix a4)) ^^^ (-1 : Int64))), .int a3, .int (a4 + (1 : Int32)), .int (a5 + v11)] (hK (a1 &&& ((w9.2 100 (ix a4)) ^^^ (-1 : Int64))) a3 (a4 + (1 : Int32)) (a5 + v11) w12) h ok_m_Le_part lk_Le_125 sh_99 rfl rfl rfl (Nat.le_of_ble_eq_true rfl) (by omega) (Nat.le_of_ble_eq_true rfl) (by decide +kernel) rfl (fun _ w13 h => ?_)
            exact Gz.return_ (by decide +kernel) rfl (zok_sV h)
          · have h := zok_f c7 h
            refine Gz.sub (L' := [(0, .ref 99), (1, .long a1), (3, .int a3), (5, .int a5)]) [0, 1, 2, 4] rfl ?_
            exact g_Le_part_b40 rK hd0 hK a1 a3 a5 w5 h
    · have h := zok_f c2 h
      exact Gz.return_ (by decide +kernel) rfl (zok_sV h)
theorem g_Le_part_n {l : Launch} : ∀ (n : Nat) (a1 : Int64) (a3 : Int32) (a4 : Int32) (a5 : Int32) (w : gW), gCt l m_Le_part (3 + n * 1) [.ref 99, .long a1, .int a3, .int a4, .int a5] w eV (zfx (fun _ _ _ _ _ => none) f_Le_part_rec n a1 a3 a4 a5 w) := by
  intro n
  induction n with
  | zero => intro a1 a3 a4 a5 w Q h; exact zok_n h
  | succ n ih =>
    intro a1 a3 a4 a5 w
    have hh := g_Le_part_rec (l := l) _ (dK := 3 + n * 1) (by omega) ih a1 a3 a4 a5 w
    rw [show 3 + (n + 1) * 1 = 3 + n * 1 + 1 by omega]
    exact hh
theorem g_Le_part {l : Launch} (a1 : Int64) (a3 : Int32) (a4 : Int32) (a5 : Int32) (w : gW) : gCt l m_Le_part 19 [.ref 99, .long a1, .int a3, .int a4, .int a5] w eV (f_Le_part a1 a3 a4 a5 w) := g_Le_part_n 16 a1 a3 a4 a5 w
def f_Le_findLeast_b110 (k14 : Nat → Int32 → Int32 → Int32 → gW → Option (Unit × gW)) (x1 : Nat) (x2 : Int32) (x3 : Int32) (x4 : Int32) (x5 : Int64) (w : gW) : Option (Unit × gW) :=
zb (f_Le_part x5 x4 (0 : Int32) (0 : Int32) w) (fun _ w1 =>
zl (x4 + (1 : Int32)) (fun v2 =>
k14 x1 x2 x3 v2 w1))
def f_Le_findLeast_b103 (k14 : Nat → Int32 → Int32 → Int32 → gW → Option (Unit × gW)) (k44 : Nat → Int32 → Int32 → Int32 → Int64 → Int32 → gW → Option (Unit × gW)) (x1 : Nat) (x2 : Int32) (x3 : Int32) (x4 : Int32) (x5 : Int64) (x7 : Int32) (s1 : Int32) (s2 : Int64) (w : gW) : Option (Unit × gW) :=
if inb s1 10 then
zl (zsL w 100 (ix s1) s2) (fun w2 =>
zl (x7 + (1 : Int32)) (fun v4 =>
k44 x1 x2 x3 x4 x5 v4 w2))
else none
def f_Le_findLeast_b44_s (k14 : Nat → Int32 → Int32 → Int32 → gW → Option (Unit × gW)) (k44 : Nat → Int32 → Int32 → Int32 → Int64 → Int32 → gW → Option (Unit × gW)) (x1 : Nat) (x2 : Int32) (x3 : Int32) (x4 : Int32) (x5 : Int64) (x7 : Int32) (w : gW) : Option (Unit × gW) :=
if (lg_cmp x5 (0 : Int64)) = 0 then
(f_Le_findLeast_b110 k14 x1 x2 x3 x4 x5 w)
else
(zb (f_An_swornCount w) (fun v2 w3 =>
if v2 ≤ x7 then
(f_Le_findLeast_b110 k14 x1 x2 x3 x4 x5 w3)
else
(if (10 : Int32) ≤ x7 then
(f_Le_findLeast_b110 k14 x1 x2 x3 x4 x5 w3)
else
(if ((x2 >>> (x7 &&& 31)) &&& (1 : Int32)) = 0 then
(f_Le_findLeast_b103 k14 k44 x1 x2 x3 x4 x5 x7 x7 (-1 : Int64) w3)
else
(zb (f_Co_swornWord x7 x3 x4 w3) (fun v7 w8 =>
f_Le_findLeast_b103 k14 k44 x1 x2 x3 x4 x5 x7 x7 v7 w8))))))
def f_Le_findLeast_b44 (k14 : Nat → Int32 → Int32 → Int32 → gW → Option (Unit × gW)) : Nat → Int32 → Int32 → Int32 → Int64 → Int32 → gW → Option (Unit × gW) := zfx (fun _ _ _ _ _ _ _ => none) (f_Le_findLeast_b44_s k14) zFU
def f_Le_findLeast_b14_s (k14 : Nat → Int32 → Int32 → Int32 → gW → Option (Unit × gW)) (x1 : Nat) (x2 : Int32) (x3 : Int32) (x4 : Int32) (w : gW) : Option (Unit × gW) :=
if (w.1 99 6) ≤ 0 then
(some ((), w))
else
(zb (f_La_words w) (fun v2 w3 =>
if v2 ≤ x4 then
(some ((), w3))
else
(zb (f_Ro_word x1 x4 w3) (fun v5 w6 =>
f_Le_findLeast_b44 k14 x1 x2 x3 x4 v5 (0 : Int32) w6))))
def f_Le_findLeast_b14 : Nat → Int32 → Int32 → Int32 → gW → Option (Unit × gW) := zfx (fun _ _ _ _ _ => none) (f_Le_findLeast_b14_s) zFU
def f_Le_findLeast (a1 : Nat) (a2 : Int32) (a3 : Int32) (w : gW) : Option (Unit × gW) :=
zl (zsI w 99 6 (1000000 : Int32)) (fun w1 =>
zl (zsI w1 99 7 (-1 : Int32)) (fun w3 =>
f_Le_findLeast_b14 a1 a2 a3 (0 : Int32) w3))
theorem g_Le_findLeast_b110 {l : Launch} {Q : Option Value → gW → Prop} (k14 : Nat → Int32 → Int32 → Int32 → gW → Option (Unit × gW)) (hk14 : ∀ (x1 : Nat) (x2 : Int32) (x3 : Int32) (x4 : Int32) (w : gW), zok eV (k14 x1 x2 x3 x4 w) Q → Gz l m_Le_findLeast 20 14 [(0, .ref 99), (1, .ref x1), (2, .int x2), (3, .int x3), (4, .int x4)] [] w Q) (x1 : Nat) (x2 : Int32) (x3 : Int32) (x4 : Int32) (x5 : Int64) (w : gW) (h : zok eV (f_Le_findLeast_b110 k14 x1 x2 x3 x4 x5 w) Q) : Gz l m_Le_findLeast 20 110 [(0, .ref 99), (1, .ref x1), (2, .int x2), (3, .int x3), (4, .int x4), (5, .long x5)] [] w Q := by
  unfold f_Le_findLeast_b110 at h
  refine Gz.aload_n (q := 0) (pc' := 111) (by decide +kernel) rfl 0 rfl ?_
  refine Gz.lload (i := 5) (pc' := 113) (by decide +kernel) rfl 5 rfl ?_
  refine Gz.iload (i := 4) (pc' := 115) (by decide +kernel) rfl 4 rfl ?_
  refine Gz.iconst (n := 0) (v := (0 : Int32)) (pc' := 116) (by decide +kernel) rfl rfl ?_
  refine Gz.iconst (n := 0) (v := (0 : Int32)) (pc' := 117) (by decide +kernel) rfl rfl ?_
  refine Gz.callVV (st := []) (b := 99) (pc' := 120) [.long x5, .int x4, .int (0 : Int32), .int (0 : Int32)] (g_Le_part x5 x4 (0 : Int32) (0 : Int32) w) h ok_m_Le_part lk_Le_125 sh_99 rfl rfl rfl (Nat.le_of_ble_eq_true rfl) (Nat.le_of_ble_eq_true rfl) (Nat.le_of_ble_eq_true rfl) (by decide +kernel) rfl (fun _ w1 h => ?_)
  obtain ⟨v2, e3⟩ : ∃ y : Int32, y = x4 + (1 : Int32) := ⟨_, rfl⟩
  have h := zok_l e3 h
  refine Gz.iinc (i := 4) (n := 1) (pc' := 123) (L' := [(4, .int v2), (0, .ref 99), (1, .ref x1), (2, .int x2), (3, .int x3), (5, .long x5)]) v2 (by decide +kernel) rfl 4 rfl (by rw [e3]; rfl) (Nat.le_of_ble_eq_true rfl) rfl ?_
  refine Gz.goto (off := -109) (tgt := 14) (by decide +kernel) (by decide) ?_
  refine Gz.sub (L' := [(0, .ref 99), (1, .ref x1), (2, .int x2), (3, .int x3), (4, .int v2)]) [1, 2, 3, 4, 0] rfl ?_
  exact hk14 x1 x2 x3 v2 w1 h
theorem g_Le_findLeast_b103 {l : Launch} {Q : Option Value → gW → Prop} (k14 : Nat → Int32 → Int32 → Int32 → gW → Option (Unit × gW)) (hk14 : ∀ (x1 : Nat) (x2 : Int32) (x3 : Int32) (x4 : Int32) (w : gW), zok eV (k14 x1 x2 x3 x4 w) Q → Gz l m_Le_findLeast 20 14 [(0, .ref 99), (1, .ref x1), (2, .int x2), (3, .int x3), (4, .int x4)] [] w Q) (k44 : Nat → Int32 → Int32 → Int32 → Int64 → Int32 → gW → Option (Unit × gW)) (hk44 : ∀ (x1 : Nat) (x2 : Int32) (x3 : Int32) (x4 : Int32) (x5 : Int64) (x7 : Int32) (w : gW), zok eV (k44 x1 x2 x3 x4 x5 x7 w) Q → Gz l m_Le_findLeast 20 44 [(0, .ref 99), (1, .ref x1), (2, .int x2), (3, .int x3), (4, .int x4), (5, .long x5), (7, .int x7)] [] w Q) (x1 : Nat) (x2 : Int32) (x3 : Int32) (x4 : Int32) (x5 : Int64) (x7 : Int32) (s1 : Int32) (s2 : Int64) (w : gW) (h : zok eV (f_Le_findLeast_b103 k14 k44 x1 x2 x3 x4 x5 x7 s1 s2 w) Q) : Gz l m_Le_findLeast 20 103 [(0, .ref 99), (1, .ref x1), (2, .int x2), (3, .int x3), (4, .int x4), (5, .long x5), (7, .int x7)] [.long s2, .int s1, .ref 100] w Q := by
  unfold f_Le_findLeast_b103 at h
  obtain ⟨c1, h⟩ := zok_c h
  refine Gz.last (pc' := 104) (n := 10) (by decide +kernel) rfl rfl c1 ?_
  refine Gz.nmW (fun w2 e3 => ?_)
  have h := zok_l e3 h
  obtain ⟨v4, e5⟩ : ∃ y : Int32, y = x7 + (1 : Int32) := ⟨_, rfl⟩
  have h := zok_l e5 h
  refine Gz.iinc (i := 7) (n := 1) (pc' := 107) (L' := [(7, .int v4), (0, .ref 99), (1, .ref x1), (2, .int x2), (3, .int x3), (4, .int x4), (5, .long x5)]) v4 (by decide +kernel) rfl 6 rfl (by rw [e5]; rfl) (Nat.le_of_ble_eq_true rfl) rfl ?_
  refine Gz.goto (off := -63) (tgt := 44) (by decide +kernel) (by decide) ?_
  refine Gz.sub (L' := [(0, .ref 99), (1, .ref x1), (2, .int x2), (3, .int x3), (4, .int x4), (5, .long x5), (7, .int v4)]) [1, 2, 3, 4, 5, 6, 0] rfl ?_
  exact hk44 x1 x2 x3 x4 x5 v4 w2 h
theorem g_Le_findLeast_b44_s {l : Launch} {Q : Option Value → gW → Prop} (k14 : Nat → Int32 → Int32 → Int32 → gW → Option (Unit × gW)) (hk14 : ∀ (x1 : Nat) (x2 : Int32) (x3 : Int32) (x4 : Int32) (w : gW), zok eV (k14 x1 x2 x3 x4 w) Q → Gz l m_Le_findLeast 20 14 [(0, .ref 99), (1, .ref x1), (2, .int x2), (3, .int x3), (4, .int x4)] [] w Q) (k44 : Nat → Int32 → Int32 → Int32 → Int64 → Int32 → gW → Option (Unit × gW)) (hk44 : ∀ (x1 : Nat) (x2 : Int32) (x3 : Int32) (x4 : Int32) (x5 : Int64) (x7 : Int32) (w : gW), zok eV (k44 x1 x2 x3 x4 x5 x7 w) Q → Gz l m_Le_findLeast 20 44 [(0, .ref 99), (1, .ref x1), (2, .int x2), (3, .int x3), (4, .int x4), (5, .long x5), (7, .int x7)] [] w Q) (x1 : Nat) (x2 : Int32) (x3 : Int32) (x4 : Int32) (x5 : Int64) (x7 : Int32) (w : gW) (h : zok eV (f_Le_findLeast_b44_s k14 k44 x1 x2 x3 x4 x5 x7 w) Q) : Gz l m_Le_findLeast 20 44 [(0, .ref 99), (1, .ref x1), (2, .int x2), (3, .int x3), (4, .int x4), (5, .long x5), (7, .int x7)] [] w Q := by
  unfold f_Le_findLeast_b44_s at h
  refine Gz.lload (i := 5) (pc' := 46) (by decide +kernel) rfl 5 rfl ?_
  refine Gz.lconst (n := 0) (v := (0 : Int64)) (pc' := 47) (by decide +kernel) rfl rfl ?_
  refine Gz.lcmp (pc' := 48) (by decide +kernel) rfl ?_
  refine Gz.if_eq (off := 62) (tgt := 110) (pc' := 51) (by decide +kernel) (by decide) rfl (fun c1 => ?_) (fun c1 => ?_)
  · have h := zok_t c1 h
    refine Gz.sub (L' := [(0, .ref 99), (1, .ref x1), (2, .int x2), (3, .int x3), (4, .int x4), (5, .long x5)]) [0, 1, 2, 3, 4, 5] rfl ?_
    exact g_Le_findLeast_b110 k14 hk14 x1 x2 x3 x4 x5 w h
  · have h := zok_f c1 h
    refine Gz.iload (i := 7) (pc' := 53) (by decide +kernel) rfl 6 rfl ?_
    refine Gz.aload_n (q := 0) (pc' := 54) (by decide +kernel) rfl 0 rfl ?_
    refine Gz.getR (pc' := 57) (j := 2) 59 fd_Le_26 sh_99 rfl (by decide +kernel) rfl ?_
    refine Gz.callVI (st := [.int x7]) (b := 59) (pc' := 60) [] (g_An_swornCount w) h ok_m_An_swornCount lk_Le_52 sh_59 rfl rfl rfl (Nat.le_of_ble_eq_true rfl) (Nat.le_of_ble_eq_true rfl) (Nat.le_of_ble_eq_true rfl) (by decide +kernel) rfl (fun v2 w3 h => ?_)
    refine Gz.icmp_ge (off := 50) (tgt := 110) (pc' := 63) (by decide +kernel) (by decide) rfl (fun c4 => ?_) (fun c4 => ?_)
    · have h := zok_t c4 h
      refine Gz.sub (L' := [(0, .ref 99), (1, .ref x1), (2, .int x2), (3, .int x3), (4, .int x4), (5, .long x5)]) [0, 1, 2, 3, 4, 5] rfl ?_
      exact g_Le_findLeast_b110 k14 hk14 x1 x2 x3 x4 x5 w3 h
    · have h := zok_f c4 h
      refine Gz.iload (i := 7) (pc' := 65) (by decide +kernel) rfl 6 rfl ?_
      refine Gz.bipush (n := 10) (v := (10 : Int32)) (pc' := 67) (by decide +kernel) rfl rfl ?_
      refine Gz.icmp_ge (off := 43) (tgt := 110) (pc' := 70) (by decide +kernel) (by decide) rfl (fun c5 => ?_) (fun c5 => ?_)
      · have h := zok_t c5 h
        refine Gz.sub (L' := [(0, .ref 99), (1, .ref x1), (2, .int x2), (3, .int x3), (4, .int x4), (5, .long x5)]) [0, 1, 2, 3, 4, 5] rfl ?_
        exact g_Le_findLeast_b110 k14 hk14 x1 x2 x3 x4 x5 w3 h
      · have h := zok_f c5 h
        refine Gz.aload_n (q := 0) (pc' := 71) (by decide +kernel) rfl 0 rfl ?_
        refine Gz.getR (pc' := 74) (j := 4) 100 fd_Le_9 sh_99 rfl (by decide +kernel) rfl ?_
        refine Gz.iload (i := 7) (pc' := 76) (by decide +kernel) rfl 6 rfl ?_
        refine Gz.iload_n (q := 2) (pc' := 77) (by decide +kernel) rfl 2 rfl ?_
        refine Gz.iload (i := 7) (pc' := 79) (by decide +kernel) rfl 6 rfl ?_
        refine Gz.ishr (pc' := 80) (by decide +kernel) rfl ?_
        refine Gz.iconst (n := 1) (v := (1 : Int32)) (pc' := 81) (by decide +kernel) rfl rfl ?_
        refine Gz.iand (pc' := 82) (by decide +kernel) rfl ?_
        refine Gz.if_ne (off := 9) (tgt := 91) (pc' := 85) (by decide +kernel) (by decide) rfl (fun c6 => ?_) (fun c6 => ?_)
        · have h := zok_f c6 h
          refine Gz.aload_n (q := 0) (pc' := 92) (by decide +kernel) rfl 0 rfl ?_
          refine Gz.getR (pc' := 95) (j := 3) 73 fd_Le_30 sh_99 rfl (by decide +kernel) rfl ?_
          refine Gz.iload (i := 7) (pc' := 97) (by decide +kernel) rfl 6 rfl ?_
          refine Gz.iload_n (q := 3) (pc' := 98) (by decide +kernel) rfl 3 rfl ?_
          refine Gz.iload (i := 4) (pc' := 100) (by decide +kernel) rfl 4 rfl ?_
          refine Gz.callVJ (st := [.int x7, .ref 100]) (b := 73) (pc' := 103) [.int x7, .int x3, .int x4] (g_Co_swornWord x7 x3 x4 w3) h ok_m_Co_swornWord lk_Le_59 sh_73 rfl rfl rfl (Nat.le_of_ble_eq_true rfl) (Nat.le_of_ble_eq_true rfl) (Nat.le_of_ble_eq_true rfl) (by decide +kernel) rfl (fun v7 w8 h => ?_)
          exact g_Le_findLeast_b103 k14 hk14 k44 hk44 x1 x2 x3 x4 x5 x7 x7 v7 w8 h
        · have h := zok_t c6 h
          refine Gz.ldc2 (idx := 114) (v := (-1 : Int64)) (pc' := 88) (by decide +kernel) rfl kc_Le_114 ?_
          refine Gz.goto (off := 15) (tgt := 103) (by decide +kernel) (by decide) ?_
          exact g_Le_findLeast_b103 k14 hk14 k44 hk44 x1 x2 x3 x4 x5 x7 x7 (-1 : Int64) w3 h
theorem g_Le_findLeast_b44 {l : Launch} {Q : Option Value → gW → Prop} (k14 : Nat → Int32 → Int32 → Int32 → gW → Option (Unit × gW)) (hk14 : ∀ (x1 : Nat) (x2 : Int32) (x3 : Int32) (x4 : Int32) (w : gW), zok eV (k14 x1 x2 x3 x4 w) Q → Gz l m_Le_findLeast 20 14 [(0, .ref 99), (1, .ref x1), (2, .int x2), (3, .int x3), (4, .int x4)] [] w Q) (x1 : Nat) (x2 : Int32) (x3 : Int32) (x4 : Int32) (x5 : Int64) (x7 : Int32) (w : gW) (h : zok eV (f_Le_findLeast_b44 k14 x1 x2 x3 x4 x5 x7 w) Q) : Gz l m_Le_findLeast 20 44 [(0, .ref 99), (1, .ref x1), (2, .int x2), (3, .int x3), (4, .int x4), (5, .long x5), (7, .int x7)] [] w Q := by
  have key : ∀ (n : Nat) (x1 : Nat) (x2 : Int32) (x3 : Int32) (x4 : Int32) (x5 : Int64) (x7 : Int32) (w : gW), zok eV (zfx (fun _ _ _ _ _ _ _ => none) (f_Le_findLeast_b44_s k14) n x1 x2 x3 x4 x5 x7 w) Q → Gz l m_Le_findLeast 20 44 [(0, .ref 99), (1, .ref x1), (2, .int x2), (3, .int x3), (4, .int x4), (5, .long x5), (7, .int x7)] [] w Q := by
    intro n
    induction n with
    | zero => intro x1 x2 x3 x4 x5 x7 w h; exact zok_n h
    | succ n ih => intro x1 x2 x3 x4 x5 x7 w h; exact g_Le_findLeast_b44_s k14 hk14 _ ih x1 x2 x3 x4 x5 x7 w h
  exact key zFU x1 x2 x3 x4 x5 x7 w h
theorem g_Le_findLeast_b14_s {l : Launch} {Q : Option Value → gW → Prop} (k14 : Nat → Int32 → Int32 → Int32 → gW → Option (Unit × gW)) (hk14 : ∀ (x1 : Nat) (x2 : Int32) (x3 : Int32) (x4 : Int32) (w : gW), zok eV (k14 x1 x2 x3 x4 w) Q → Gz l m_Le_findLeast 20 14 [(0, .ref 99), (1, .ref x1), (2, .int x2), (3, .int x3), (4, .int x4)] [] w Q) (x1 : Nat) (x2 : Int32) (x3 : Int32) (x4 : Int32) (w : gW) (h : zok eV (f_Le_findLeast_b14_s k14 x1 x2 x3 x4 w) Q) : Gz l m_Le_findLeast 20 14 [(0, .ref 99), (1, .ref x1), (2, .int x2), (3, .int x3), (4, .int x4)] [] w Q := by
  unfold f_Le_findLeast_b14_s at h
  refine Gz.aload_n (q := 0) (pc' := 15) (by decide +kernel) rfl 0 rfl ?_
  refine Gz.getI (pc' := 18) (j := 6) fd_Le_83 sh_99 rfl (by decide +kernel) rfl ?_
  refine Gz.if_le (off := 108) (tgt := 126) (pc' := 21) (by decide +kernel) (by decide) rfl (fun c1 => ?_) (fun c1 => ?_)
  · have h := zok_t c1 h
    exact Gz.return_ (by decide +kernel) rfl (zok_sV h)
  · have h := zok_f c1 h
    refine Gz.iload (i := 4) (pc' := 23) (by decide +kernel) rfl 4 rfl ?_
    refine Gz.aload_n (q := 0) (pc' := 24) (by decide +kernel) rfl 0 rfl ?_
    refine Gz.getR (pc' := 27) (j := 0) 19 fd_Le_18 sh_99 rfl (by decide +kernel) rfl ?_
    refine Gz.callVI (st := [.int x4]) (b := 19) (pc' := 30) [] (g_La_words w) h ok_m_La_words lk_Le_55 sh_19 rfl rfl rfl (Nat.le_of_ble_eq_true rfl) (Nat.le_of_ble_eq_true rfl) (Nat.le_of_ble_eq_true rfl) (by decide +kernel) rfl (fun v2 w3 h => ?_)
    refine Gz.icmp_ge (off := 96) (tgt := 126) (pc' := 33) (by decide +kernel) (by decide) rfl (fun c4 => ?_) (fun c4 => ?_)
    · have h := zok_t c4 h
      exact Gz.return_ (by decide +kernel) rfl (zok_sV h)
    · have h := zok_f c4 h
      refine Gz.aload_n (q := 1) (pc' := 34) (by decide +kernel) rfl 1 rfl ?_
      refine Gz.iload (i := 4) (pc' := 36) (by decide +kernel) rfl 4 rfl ?_
      refine Gz.callSJ (st := []) (pc' := 39) [.ref x1, .int x4] (g_Ro_word x1 x4 w3) h ok_m_Ro_word lk_Le_110 rfl (Nat.le_of_ble_eq_true rfl) (Nat.le_of_ble_eq_true rfl) (Nat.le_of_ble_eq_true rfl) (by decide +kernel) rfl (fun v5 w6 h => ?_)
      refine Gz.lstore (i := 5) (pc' := 41) (L' := [(5, .long v5), (0, .ref 99), (1, .ref x1), (2, .int x2), (3, .int x3), (4, .int x4)]) (by decide +kernel) rfl (Nat.le_of_ble_eq_true rfl) rfl ?_
      refine Gz.iconst (n := 0) (v := (0 : Int32)) (pc' := 42) (by decide +kernel) rfl rfl ?_
      refine Gz.istore (i := 7) (pc' := 44) (L' := [(7, .int (0 : Int32)), (5, .long v5), (0, .ref 99), (1, .ref x1), (2, .int x2), (3, .int x3), (4, .int x4)]) (by decide +kernel) rfl (Nat.le_of_ble_eq_true rfl) rfl ?_
      refine Gz.sub (L' := [(0, .ref 99), (1, .ref x1), (2, .int x2), (3, .int x3), (4, .int x4), (5, .long v5), (7, .int (0 : Int32))]) [2, 3, 4, 5, 6, 1, 0] rfl ?_
      exact g_Le_findLeast_b44 k14 hk14 x1 x2 x3 x4 v5 (0 : Int32) w6 h
theorem g_Le_findLeast_b14 {l : Launch} {Q : Option Value → gW → Prop} (x1 : Nat) (x2 : Int32) (x3 : Int32) (x4 : Int32) (w : gW) (h : zok eV (f_Le_findLeast_b14 x1 x2 x3 x4 w) Q) : Gz l m_Le_findLeast 20 14 [(0, .ref 99), (1, .ref x1), (2, .int x2), (3, .int x3), (4, .int x4)] [] w Q := by
  have key : ∀ (n : Nat) (x1 : Nat) (x2 : Int32) (x3 : Int32) (x4 : Int32) (w : gW), zok eV (zfx (fun _ _ _ _ _ => none) (f_Le_findLeast_b14_s) n x1 x2 x3 x4 w) Q → Gz l m_Le_findLeast 20 14 [(0, .ref 99), (1, .ref x1), (2, .int x2), (3, .int x3), (4, .int x4)] [] w Q := by
    intro n
    induction n with
    | zero => intro x1 x2 x3 x4 w h; exact zok_n h
    | succ n ih => intro x1 x2 x3 x4 w h; exact g_Le_findLeast_b14_s _ ih x1 x2 x3 x4 w h
  exact key zFU x1 x2 x3 x4 w h
theorem g_Le_findLeast {l : Launch} (a1 : Nat) (a2 : Int32) (a3 : Int32) (w : gW) : gCt l m_Le_findLeast 20 [.ref 99, .ref a1, .int a2, .int a3] w eV (f_Le_findLeast a1 a2 a3 w) := by
  intro Q h
  unfold f_Le_findLeast at h
  show Gz l m_Le_findLeast 20 0 [(0, .ref 99), (1, .ref a1), (2, .int a2), (3, .int a3)] [] w Q
  refine Gz.aload_n (q := 0) (pc' := 1) (by decide +kernel) rfl 0 rfl ?_
  refine Gz.ldc (idx := 124) (v := (1000000 : Int32)) (pc' := 3) (by decide +kernel) rfl kc_Le_124 ?_
  refine Gz.putI (pc' := 6) (j := 6) fd_Le_83 sh_99 rfl (by decide +kernel) rfl ?_
  refine Gz.nmW (fun w1 e2 => ?_)
  have h := zok_l e2 h
  refine Gz.aload_n (q := 0) (pc' := 7) (by decide +kernel) rfl 0 rfl ?_
  refine Gz.iconst (n := -1) (v := (-1 : Int32)) (pc' := 8) (by decide +kernel) rfl rfl ?_
  refine Gz.putI (pc' := 11) (j := 7) fd_Le_75 sh_99 rfl (by decide +kernel) rfl ?_
  refine Gz.nmW (fun w3 e4 => ?_)
  have h := zok_l e4 h
  refine Gz.iconst (n := 0) (v := (0 : Int32)) (pc' := 12) (by decide +kernel) rfl rfl ?_
  refine Gz.istore (i := 4) (pc' := 14) (L' := [(4, .int (0 : Int32)), (0, .ref 99), (1, .ref a1), (2, .int a2), (3, .int a3)]) (by decide +kernel) rfl (Nat.le_of_ble_eq_true rfl) rfl ?_
  refine Gz.sub (L' := [(0, .ref 99), (1, .ref a1), (2, .int a2), (3, .int a3), (4, .int (0 : Int32))]) [1, 2, 3, 4, 0] rfl ?_
  exact g_Le_findLeast_b14 a1 a2 a3 (0 : Int32) w3 h
def f_Le_holdingAt_b61 (k6 : Int32 → Int32 → Int32 → Int32 → Int32 → gW → Option (Int32 × gW)) (x1 : Int32) (x2 : Int32) (x3 : Int32) (x4 : Int32) (x5 : Int32) (w : gW) : Option (Int32 × gW) :=
zl (x5 + (1 : Int32)) (fun v1 =>
k6 x1 x2 x3 x4 v1 w)
def f_Le_holdingAt_b6_s (k6 : Int32 → Int32 → Int32 → Int32 → Int32 → gW → Option (Int32 × gW)) (x1 : Int32) (x2 : Int32) (x3 : Int32) (x4 : Int32) (x5 : Int32) (w : gW) : Option (Int32 × gW) :=
zb (f_An_swornCount w) (fun v1 w2 =>
if v1 ≤ x5 then
(some (x4, w2))
else
(if ((x2 >>> (x5 &&& 31)) &&& (1 : Int32)) = 0 then
(f_Le_holdingAt_b61 k6 x1 x2 x3 x4 x5 w2)
else
(zb (f_Co_swornWord x5 x3 (x1 >>> ((6 : Int32) &&& 31)) w2) (fun v5 w6 =>
zl (x4 ||| ((((zusL v5 (x1 &&& (63 : Int32))) &&& (1 : Int64)).toInt32) <<< (x5 &&& 31))) (fun v7 =>
f_Le_holdingAt_b61 k6 x1 x2 x3 v7 x5 w6)))))
def f_Le_holdingAt_b6 : Int32 → Int32 → Int32 → Int32 → Int32 → gW → Option (Int32 × gW) := zfx (fun _ _ _ _ _ _ => none) (f_Le_holdingAt_b6_s) zFU
def f_Le_holdingAt (a1 : Int32) (a2 : Int32) (a3 : Int32) (w : gW) : Option (Int32 × gW) :=
f_Le_holdingAt_b6 a1 a2 a3 (0 : Int32) (0 : Int32) w
theorem g_Le_holdingAt_b61 {l : Launch} {Q : Option Value → gW → Prop} (k6 : Int32 → Int32 → Int32 → Int32 → Int32 → gW → Option (Int32 × gW)) (hk6 : ∀ (x1 : Int32) (x2 : Int32) (x3 : Int32) (x4 : Int32) (x5 : Int32) (w : gW), zok eI (k6 x1 x2 x3 x4 x5 w) Q → Gz l m_Le_holdingAt 5 6 [(0, .ref 99), (1, .int x1), (2, .int x2), (3, .int x3), (4, .int x4), (5, .int x5)] [] w Q) (x1 : Int32) (x2 : Int32) (x3 : Int32) (x4 : Int32) (x5 : Int32) (w : gW) (h : zok eI (f_Le_holdingAt_b61 k6 x1 x2 x3 x4 x5 w) Q) : Gz l m_Le_holdingAt 5 61 [(0, .ref 99), (1, .int x1), (2, .int x2), (3, .int x3), (4, .int x4), (5, .int x5)] [] w Q := by
  unfold f_Le_holdingAt_b61 at h
  obtain ⟨v1, e2⟩ : ∃ y : Int32, y = x5 + (1 : Int32) := ⟨_, rfl⟩
  have h := zok_l e2 h
  refine Gz.iinc (i := 5) (n := 1) (pc' := 64) (L' := [(5, .int v1), (0, .ref 99), (1, .int x1), (2, .int x2), (3, .int x3), (4, .int x4)]) v1 (by decide +kernel) rfl 5 rfl (by rw [e2]; rfl) (Nat.le_of_ble_eq_true rfl) rfl ?_
  refine Gz.goto (off := -58) (tgt := 6) (by decide +kernel) (by decide) ?_
  refine Gz.sub (L' := [(0, .ref 99), (1, .int x1), (2, .int x2), (3, .int x3), (4, .int x4), (5, .int v1)]) [1, 2, 3, 4, 5, 0] rfl ?_
  exact hk6 x1 x2 x3 x4 v1 w h
theorem g_Le_holdingAt_b6_s {l : Launch} {Q : Option Value → gW → Prop} (k6 : Int32 → Int32 → Int32 → Int32 → Int32 → gW → Option (Int32 × gW)) (hk6 : ∀ (x1 : Int32) (x2 : Int32) (x3 : Int32) (x4 : Int32) (x5 : Int32) (w : gW), zok eI (k6 x1 x2 x3 x4 x5 w) Q → Gz l m_Le_holdingAt 5 6 [(0, .ref 99), (1, .int x1), (2, .int x2), (3, .int x3), (4, .int x4), (5, .int x5)] [] w Q) (x1 : Int32) (x2 : Int32) (x3 : Int32) (x4 : Int32) (x5 : Int32) (w : gW) (h : zok eI (f_Le_holdingAt_b6_s k6 x1 x2 x3 x4 x5 w) Q) : Gz l m_Le_holdingAt 5 6 [(0, .ref 99), (1, .int x1), (2, .int x2), (3, .int x3), (4, .int x4), (5, .int x5)] [] w Q := by
  unfold f_Le_holdingAt_b6_s at h
  refine Gz.iload (i := 5) (pc' := 8) (by decide +kernel) rfl 5 rfl ?_
  refine Gz.aload_n (q := 0) (pc' := 9) (by decide +kernel) rfl 0 rfl ?_
  refine Gz.getR (pc' := 12) (j := 2) 59 fd_Le_26 sh_99 rfl (by decide +kernel) rfl ?_
  refine Gz.callVI (st := [.int x5]) (b := 59) (pc' := 15) [] (g_An_swornCount w) h ok_m_An_swornCount lk_Le_52 sh_59 rfl rfl rfl (Nat.le_of_ble_eq_true rfl) (Nat.le_of_ble_eq_true rfl) (Nat.le_of_ble_eq_true rfl) (by decide +kernel) rfl (fun v1 w2 h => ?_)
  refine Gz.icmp_ge (off := 52) (tgt := 67) (pc' := 18) (by decide +kernel) (by decide) rfl (fun c3 => ?_) (fun c3 => ?_)
  · have h := zok_t c3 h
    refine Gz.iload (i := 4) (pc' := 69) (by decide +kernel) rfl 4 rfl ?_
    exact Gz.ireturn (by decide +kernel) rfl (zok_sI h)
  · have h := zok_f c3 h
    refine Gz.iload_n (q := 2) (pc' := 19) (by decide +kernel) rfl 2 rfl ?_
    refine Gz.iload (i := 5) (pc' := 21) (by decide +kernel) rfl 5 rfl ?_
    refine Gz.ishr (pc' := 22) (by decide +kernel) rfl ?_
    refine Gz.iconst (n := 1) (v := (1 : Int32)) (pc' := 23) (by decide +kernel) rfl rfl ?_
    refine Gz.iand (pc' := 24) (by decide +kernel) rfl ?_
    refine Gz.if_eq (off := 37) (tgt := 61) (pc' := 27) (by decide +kernel) (by decide) rfl (fun c4 => ?_) (fun c4 => ?_)
    · have h := zok_t c4 h
      exact g_Le_holdingAt_b61 k6 hk6 x1 x2 x3 x4 x5 w2 h
    · have h := zok_f c4 h
      refine Gz.aload_n (q := 0) (pc' := 28) (by decide +kernel) rfl 0 rfl ?_
      refine Gz.getR (pc' := 31) (j := 3) 73 fd_Le_30 sh_99 rfl (by decide +kernel) rfl ?_
      refine Gz.iload (i := 5) (pc' := 33) (by decide +kernel) rfl 5 rfl ?_
      refine Gz.iload_n (q := 3) (pc' := 34) (by decide +kernel) rfl 3 rfl ?_
      refine Gz.iload_n (q := 1) (pc' := 35) (by decide +kernel) rfl 1 rfl ?_
      refine Gz.bipush (n := 6) (v := (6 : Int32)) (pc' := 37) (by decide +kernel) rfl rfl ?_
      refine Gz.ishr (pc' := 38) (by decide +kernel) rfl ?_
      refine Gz.callVJ (st := []) (b := 73) (pc' := 41) [.int x5, .int x3, .int (x1 >>> ((6 : Int32) &&& 31))] (g_Co_swornWord x5 x3 (x1 >>> ((6 : Int32) &&& 31)) w2) h ok_m_Co_swornWord lk_Le_59 sh_73 rfl rfl rfl (Nat.le_of_ble_eq_true rfl) (Nat.le_of_ble_eq_true rfl) (Nat.le_of_ble_eq_true rfl) (by decide +kernel) rfl (fun v5 w6 h => ?_)
      refine Gz.lstore (i := 6) (pc' := 43) (L' := [(6, .long v5), (0, .ref 99), (1, .int x1), (2, .int x2), (3, .int x3), (4, .int x4), (5, .int x5)]) (by decide +kernel) rfl (Nat.le_of_ble_eq_true rfl) rfl ?_
      refine Gz.iload (i := 4) (pc' := 45) (by decide +kernel) rfl 5 rfl ?_
      refine Gz.lload (i := 6) (pc' := 47) (by decide +kernel) rfl 0 rfl ?_
      refine Gz.iload_n (q := 1) (pc' := 48) (by decide +kernel) rfl 2 rfl ?_
      refine Gz.bipush (n := 63) (v := (63 : Int32)) (pc' := 50) (by decide +kernel) rfl rfl ?_
      refine Gz.iand (pc' := 51) (by decide +kernel) rfl ?_
      refine Gz.lushr (pc' := 52) (by decide +kernel) rfl ?_
      refine Gz.lconst (n := 1) (v := (1 : Int64)) (pc' := 53) (by decide +kernel) rfl rfl ?_
      refine Gz.land (pc' := 54) (by decide +kernel) rfl ?_
      refine Gz.l2i (pc' := 55) (by decide +kernel) rfl ?_
      refine Gz.iload (i := 5) (pc' := 57) (by decide +kernel) rfl 6 rfl ?_
      refine Gz.ishl (pc' := 58) (by decide +kernel) rfl ?_
      refine Gz.ior (pc' := 59) (by decide +kernel) rfl ?_
      refine Gz.nmI (fun v7 e8 => ?_)
      have h := zok_l e8 h
      refine Gz.istore (i := 4) (pc' := 61) (L' := [(4, .int v7), (6, .long v5), (0, .ref 99), (1, .int x1), (2, .int x2), (3, .int x3), (5, .int x5)]) (by decide +kernel) rfl (Nat.le_of_ble_eq_true rfl) rfl ?_
      refine Gz.sub (L' := [(0, .ref 99), (1, .int x1), (2, .int x2), (3, .int x3), (4, .int v7), (5, .int x5)]) [2, 3, 4, 5, 0, 6] rfl ?_
      exact g_Le_holdingAt_b61 k6 hk6 x1 x2 x3 v7 x5 w6 h
theorem g_Le_holdingAt_b6 {l : Launch} {Q : Option Value → gW → Prop} (x1 : Int32) (x2 : Int32) (x3 : Int32) (x4 : Int32) (x5 : Int32) (w : gW) (h : zok eI (f_Le_holdingAt_b6 x1 x2 x3 x4 x5 w) Q) : Gz l m_Le_holdingAt 5 6 [(0, .ref 99), (1, .int x1), (2, .int x2), (3, .int x3), (4, .int x4), (5, .int x5)] [] w Q := by
  have key : ∀ (n : Nat) (x1 : Int32) (x2 : Int32) (x3 : Int32) (x4 : Int32) (x5 : Int32) (w : gW), zok eI (zfx (fun _ _ _ _ _ _ => none) (f_Le_holdingAt_b6_s) n x1 x2 x3 x4 x5 w) Q → Gz l m_Le_holdingAt 5 6 [(0, .ref 99), (1, .int x1), (2, .int x2), (3, .int x3), (4, .int x4), (5, .int x5)] [] w Q := by
    intro n
    induction n with
    | zero => intro x1 x2 x3 x4 x5 w h; exact zok_n h
    | succ n ih => intro x1 x2 x3 x4 x5 w h; exact g_Le_holdingAt_b6_s _ ih x1 x2 x3 x4 x5 w h
  exact key zFU x1 x2 x3 x4 x5 w h
theorem g_Le_holdingAt {l : Launch} (a1 : Int32) (a2 : Int32) (a3 : Int32) (w : gW) : gCt l m_Le_holdingAt 5 [.ref 99, .int a1, .int a2, .int a3] w eI (f_Le_holdingAt a1 a2 a3 w) := by
  intro Q h
  unfold f_Le_holdingAt at h
  show Gz l m_Le_holdingAt 5 0 [(0, .ref 99), (1, .int a1), (2, .int a2), (3, .int a3)] [] w Q
  refine Gz.iconst (n := 0) (v := (0 : Int32)) (pc' := 1) (by decide +kernel) rfl rfl ?_
  refine Gz.istore (i := 4) (pc' := 3) (L' := [(4, .int (0 : Int32)), (0, .ref 99), (1, .int a1), (2, .int a2), (3, .int a3)]) (by decide +kernel) rfl (Nat.le_of_ble_eq_true rfl) rfl ?_
  refine Gz.iconst (n := 0) (v := (0 : Int32)) (pc' := 4) (by decide +kernel) rfl rfl ?_
  refine Gz.istore (i := 5) (pc' := 6) (L' := [(5, .int (0 : Int32)), (4, .int (0 : Int32)), (0, .ref 99), (1, .int a1), (2, .int a2), (3, .int a3)]) (by decide +kernel) rfl (Nat.le_of_ble_eq_true rfl) rfl ?_
  refine Gz.sub (L' := [(0, .ref 99), (1, .int a1), (2, .int a2), (3, .int a3), (4, .int (0 : Int32)), (5, .int (0 : Int32))]) [2, 3, 4, 5, 1, 0] rfl ?_
  exact g_Le_holdingAt_b6 a1 a2 a3 (0 : Int32) (0 : Int32) w h
def f_Le_cheapest (a1 : Int32) (w : gW) : Option (Int32 × gW) :=
zb (f_An_allSworn w) (fun v1 w2 =>
zb (f_Co_possible w2) (fun v3 w4 =>
zb (f_Le_findLeast v3 v1 v1 w4) (fun _ w5 =>
if (w5.1 99 7) = (-1 : Int32) then
(some ((-1 : Int32), w5))
else
(if a1 = (2 : Int32) then
(zb (f_Le_holdingAt (w5.1 99 7) v1 v1 w5) (fun v11 w12 =>
some (v1 &&& (v11 ^^^ (-1 : Int32)), w12)))
else
(if a1 = 0 then
(some (w5.1 99 6, w5))
else
(zb (f_La_numberAt (w5.1 99 7) w5) (fun v9 w10 =>
some (v9, w10))))))))
theorem g_Le_cheapest {l : Launch} (a1 : Int32) (w : gW) : gCt l m_Le_cheapest 21 [.ref 99, .int a1] w eI (f_Le_cheapest a1 w) := by
  intro Q h
  unfold f_Le_cheapest at h
  show Gz l m_Le_cheapest 21 0 [(0, .ref 99), (1, .int a1)] [] w Q
  refine Gz.aload_n (q := 0) (pc' := 1) (by decide +kernel) rfl 0 rfl ?_
  refine Gz.getR (pc' := 4) (j := 2) 59 fd_Le_26 sh_99 rfl (by decide +kernel) rfl ?_
  refine Gz.callVI (st := []) (b := 59) (pc' := 7) [] (g_An_allSworn w) h ok_m_An_allSworn lk_Le_34 sh_59 rfl rfl rfl (Nat.le_of_ble_eq_true rfl) (Nat.le_of_ble_eq_true rfl) (Nat.le_of_ble_eq_true rfl) (by decide +kernel) rfl (fun v1 w2 h => ?_)
  refine Gz.istore_n (q := 2) (pc' := 8) (L' := [(2, .int v1), (0, .ref 99), (1, .int a1)]) (by decide +kernel) rfl (Nat.le_of_ble_eq_true rfl) rfl ?_
  refine Gz.aload_n (q := 0) (pc' := 9) (by decide +kernel) rfl 1 rfl ?_
  refine Gz.aload_n (q := 0) (pc' := 10) (by decide +kernel) rfl 1 rfl ?_
  refine Gz.getR (pc' := 13) (j := 3) 73 fd_Le_30 sh_99 rfl (by decide +kernel) rfl ?_
  refine Gz.callVR (st := [.ref 99]) (b := 73) (pc' := 16) [] (g_Co_possible w2) h ok_m_Co_possible lk_Le_40 sh_73 rfl rfl rfl (Nat.le_of_ble_eq_true rfl) (Nat.le_of_ble_eq_true rfl) (Nat.le_of_ble_eq_true rfl) (by decide +kernel) rfl (fun v3 w4 h => ?_)
  refine Gz.iload_n (q := 2) (pc' := 17) (by decide +kernel) rfl 0 rfl ?_
  refine Gz.iload_n (q := 2) (pc' := 18) (by decide +kernel) rfl 0 rfl ?_
  refine Gz.callVV (st := []) (b := 99) (pc' := 21) [.ref v3, .int v1, .int v1] (g_Le_findLeast v3 v1 v1 w4) h ok_m_Le_findLeast lk_Le_71 sh_99 rfl rfl rfl (Nat.le_of_ble_eq_true rfl) (Nat.le_of_ble_eq_true rfl) (Nat.le_of_ble_eq_true rfl) (by decide +kernel) rfl (fun _ w5 h => ?_)
  refine Gz.aload_n (q := 0) (pc' := 22) (by decide +kernel) rfl 1 rfl ?_
  refine Gz.getI (pc' := 25) (j := 7) fd_Le_75 sh_99 rfl (by decide +kernel) rfl ?_
  refine Gz.iconst (n := -1) (v := (-1 : Int32)) (pc' := 26) (by decide +kernel) rfl rfl ?_
  refine Gz.icmp_ne (off := 5) (tgt := 31) (pc' := 29) (by decide +kernel) (by decide) rfl (fun c6 => ?_) (fun c6 => ?_)
  · have h := zok_f c6 h
    refine Gz.iload_n (q := 1) (pc' := 32) (by decide +kernel) rfl 2 rfl ?_
    refine Gz.iconst (n := 2) (v := (2 : Int32)) (pc' := 33) (by decide +kernel) rfl rfl ?_
    refine Gz.icmp_ne (off := 18) (tgt := 51) (pc' := 36) (by decide +kernel) (by decide) rfl (fun c7 => ?_) (fun c7 => ?_)
    · have h := zok_f c7 h
      refine Gz.iload_n (q := 1) (pc' := 52) (by decide +kernel) rfl 2 rfl ?_
      refine Gz.if_ne (off := 10) (tgt := 62) (pc' := 55) (by decide +kernel) (by decide) rfl (fun c8 => ?_) (fun c8 => ?_)
      · have h := zok_f c8 h
        refine Gz.aload_n (q := 0) (pc' := 63) (by decide +kernel) rfl 1 rfl ?_
        refine Gz.getR (pc' := 66) (j := 0) 19 fd_Le_18 sh_99 rfl (by decide +kernel) rfl ?_
        refine Gz.aload_n (q := 0) (pc' := 67) (by decide +kernel) rfl 1 rfl ?_
        refine Gz.getI (pc' := 70) (j := 7) fd_Le_75 sh_99 rfl (by decide +kernel) rfl ?_
        refine Gz.callVI (st := []) (b := 19) (pc' := 73) [.int (w5.1 99 7)] (g_La_numberAt (w5.1 99 7) w5) h ok_m_La_numberAt lk_Le_86 sh_19 rfl rfl rfl (Nat.le_of_ble_eq_true rfl) (Nat.le_of_ble_eq_true rfl) (Nat.le_of_ble_eq_true rfl) (by decide +kernel) rfl (fun v9 w10 h => ?_)
        exact Gz.ireturn (by decide +kernel) rfl (zok_sI h)
      · have h := zok_t c8 h
        refine Gz.aload_n (q := 0) (pc' := 56) (by decide +kernel) rfl 1 rfl ?_
        refine Gz.getI (pc' := 59) (j := 6) fd_Le_83 sh_99 rfl (by decide +kernel) rfl ?_
        refine Gz.goto (off := 14) (tgt := 73) (by decide +kernel) (by decide) ?_
        exact Gz.ireturn (by decide +kernel) rfl (zok_sI h)
    · have h := zok_t c7 h
      refine Gz.iload_n (q := 2) (pc' := 37) (by decide +kernel) rfl 0 rfl ?_
      refine Gz.aload_n (q := 0) (pc' := 38) (by decide +kernel) rfl 1 rfl ?_
      refine Gz.aload_n (q := 0) (pc' := 39) (by decide +kernel) rfl 1 rfl ?_
      refine Gz.getI (pc' := 42) (j := 7) fd_Le_75 sh_99 rfl (by decide +kernel) rfl ?_
      refine Gz.iload_n (q := 2) (pc' := 43) (by decide +kernel) rfl 0 rfl ?_
      refine Gz.iload_n (q := 2) (pc' := 44) (by decide +kernel) rfl 0 rfl ?_
      refine Gz.callVI (st := [.int v1]) (b := 99) (pc' := 47) [.int (w5.1 99 7), .int v1, .int v1] (g_Le_holdingAt (w5.1 99 7) v1 v1 w5) h ok_m_Le_holdingAt lk_Le_79 sh_99 rfl rfl rfl (Nat.le_of_ble_eq_true rfl) (Nat.le_of_ble_eq_true rfl) (Nat.le_of_ble_eq_true rfl) (by decide +kernel) rfl (fun v11 w12 h => ?_)
      refine Gz.iconst (n := -1) (v := (-1 : Int32)) (pc' := 48) (by decide +kernel) rfl rfl ?_
      refine Gz.ixor (pc' := 49) (by decide +kernel) rfl ?_
      refine Gz.iand (pc' := 50) (by decide +kernel) rfl ?_
      exact Gz.ireturn (by decide +kernel) rfl (zok_sI h)
  · have h := zok_t c6 h
    refine Gz.iconst (n := -1) (v := (-1 : Int32)) (pc' := 30) (by decide +kernel) rfl rfl ?_
    exact Gz.ireturn (by decide +kernel) rfl (zok_sI h)
def f_X_perjured_b24 (x1 : Int32) (s0 : Int32) (w : gW) : Option (Int32 × gW) :=
if s0 = 0 then
(some ((-1 : Int32), w))
else
(zb (f_Le_cheapest x1 w) (fun v2 w3 =>
some (v2, w3)))
def f_X_perjured_b23 (x1 : Int32) (w : gW) : Option (Int32 × gW) :=
f_X_perjured_b24 x1 (0 : Int32) w
def f_X_perjured (a1 : Int32) (w : gW) : Option (Int32 × gW) :=
zb (f_La_isThere w) (fun v1 w2 =>
if v1 = 0 then
(f_X_perjured_b23 a1 w2)
else
(if a1 < 0 then
(f_X_perjured_b23 a1 w2)
else
(if (2 : Int32) < a1 then
(f_X_perjured_b23 a1 w2)
else
(f_X_perjured_b24 a1 (1 : Int32) w2))))
theorem g_X_perjured_b24 {l : Launch} {Q : Option Value → gW → Prop} (x1 : Int32) (s0 : Int32) (w : gW) (h : zok eI (f_X_perjured_b24 x1 s0 w) Q) : Gz l m_X_perjured 22 24 [(0, .ref 0), (1, .int x1)] [.int s0] w Q := by
  unfold f_X_perjured_b24 at h
  refine Gz.istore_n (q := 2) (pc' := 25) (L' := [(2, .int s0), (0, .ref 0), (1, .int x1)]) (by decide +kernel) rfl (Nat.le_of_ble_eq_true rfl) rfl ?_
  refine Gz.iload_n (q := 2) (pc' := 26) (by decide +kernel) rfl 0 rfl ?_
  refine Gz.if_eq (off := 14) (tgt := 40) (pc' := 29) (by decide +kernel) (by decide) rfl (fun c1 => ?_) (fun c1 => ?_)
  · have h := zok_t c1 h
    refine Gz.iconst (n := -1) (v := (-1 : Int32)) (pc' := 41) (by decide +kernel) rfl rfl ?_
    exact Gz.ireturn (by decide +kernel) rfl (zok_sI h)
  · have h := zok_f c1 h
    refine Gz.aload_n (q := 0) (pc' := 30) (by decide +kernel) rfl 1 rfl ?_
    refine Gz.getR (pc' := 33) (j := 8) 99 fd_X_70 sh_0 rfl (by decide +kernel) rfl ?_
    refine Gz.iload_n (q := 1) (pc' := 34) (by decide +kernel) rfl 2 rfl ?_
    refine Gz.callVI (st := []) (b := 99) (pc' := 37) [.int x1] (g_Le_cheapest x1 w) h ok_m_Le_cheapest lk_X_244 sh_99 rfl rfl rfl (Nat.le_of_ble_eq_true rfl) (Nat.le_of_ble_eq_true rfl) (Nat.le_of_ble_eq_true rfl) (by decide +kernel) rfl (fun v2 w3 h => ?_)
    refine Gz.goto (off := 4) (tgt := 41) (by decide +kernel) (by decide) ?_
    exact Gz.ireturn (by decide +kernel) rfl (zok_sI h)
theorem g_X_perjured_b23 {l : Launch} {Q : Option Value → gW → Prop} (x1 : Int32) (w : gW) (h : zok eI (f_X_perjured_b23 x1 w) Q) : Gz l m_X_perjured 22 23 [(0, .ref 0), (1, .int x1)] [] w Q := by
  unfold f_X_perjured_b23 at h
  refine Gz.iconst (n := 0) (v := (0 : Int32)) (pc' := 24) (by decide +kernel) rfl rfl ?_
  exact g_X_perjured_b24 x1 (0 : Int32) w h
theorem g_X_perjured {l : Launch} (a1 : Int32) (w : gW) : gCt l m_X_perjured 22 [.ref 0, .int a1] w eI (f_X_perjured a1 w) := by
  intro Q h
  unfold f_X_perjured at h
  show Gz l m_X_perjured 22 0 [(0, .ref 0), (1, .int a1)] [] w Q
  refine Gz.aload_n (q := 0) (pc' := 1) (by decide +kernel) rfl 0 rfl ?_
  refine Gz.getR (pc' := 4) (j := 3) 19 fd_X_33 sh_0 rfl (by decide +kernel) rfl ?_
  refine Gz.callVI (st := []) (b := 19) (pc' := 7) [] (g_La_isThere w) h ok_m_La_isThere lk_X_176 sh_19 rfl rfl rfl (Nat.le_of_ble_eq_true rfl) (Nat.le_of_ble_eq_true rfl) (Nat.le_of_ble_eq_true rfl) (by decide +kernel) rfl (fun v1 w2 h => ?_)
  refine Gz.if_eq (off := 16) (tgt := 23) (pc' := 10) (by decide +kernel) (by decide) rfl (fun c3 => ?_) (fun c3 => ?_)
  · have h := zok_t c3 h
    exact g_X_perjured_b23 a1 w2 h
  · have h := zok_f c3 h
    refine Gz.iload_n (q := 1) (pc' := 11) (by decide +kernel) rfl 1 rfl ?_
    refine Gz.if_lt (off := 12) (tgt := 23) (pc' := 14) (by decide +kernel) (by decide) rfl (fun c4 => ?_) (fun c4 => ?_)
    · have h := zok_t c4 h
      exact g_X_perjured_b23 a1 w2 h
    · have h := zok_f c4 h
      refine Gz.iload_n (q := 1) (pc' := 15) (by decide +kernel) rfl 1 rfl ?_
      refine Gz.iconst (n := 2) (v := (2 : Int32)) (pc' := 16) (by decide +kernel) rfl rfl ?_
      refine Gz.icmp_gt (off := 7) (tgt := 23) (pc' := 19) (by decide +kernel) (by decide) rfl (fun c5 => ?_) (fun c5 => ?_)
      · have h := zok_t c5 h
        exact g_X_perjured_b23 a1 w2 h
      · have h := zok_f c5 h
        refine Gz.iconst (n := 1) (v := (1 : Int32)) (pc' := 20) (by decide +kernel) rfl rfl ?_
        refine Gz.goto (off := 4) (tgt := 24) (by decide +kernel) (by decide) ?_
        exact g_X_perjured_b24 a1 (1 : Int32) w2 h
def f_An_personOf (a1 : Int32) (w : gW) : Option (Int32 × gW) :=
zb (f_An_swornPart a1 (0 : Int32) w) (fun v1 w2 =>
some (v1, w2))
theorem g_An_personOf {l : Launch} (a1 : Int32) (w : gW) : gCt l m_An_personOf 2 [.ref 59, .int a1] w eI (f_An_personOf a1 w) := by
  intro Q h
  unfold f_An_personOf at h
  show Gz l m_An_personOf 2 0 [(0, .ref 59), (1, .int a1)] [] w Q
  refine Gz.aload_n (q := 0) (pc' := 1) (by decide +kernel) rfl 0 rfl ?_
  refine Gz.iload_n (q := 1) (pc' := 2) (by decide +kernel) rfl 1 rfl ?_
  refine Gz.iconst (n := 0) (v := (0 : Int32)) (pc' := 3) (by decide +kernel) rfl rfl ?_
  refine Gz.callVI (st := []) (b := 59) (pc' := 6) [.int a1, .int (0 : Int32)] (g_An_swornPart a1 (0 : Int32) w) h ok_m_An_swornPart lk_An_58 sh_59 rfl rfl rfl (Nat.le_of_ble_eq_true rfl) (Nat.le_of_ble_eq_true rfl) (Nat.le_of_ble_eq_true rfl) (by decide +kernel) rfl (fun v1 w2 h => ?_)
  exact Gz.ireturn (by decide +kernel) rfl (zok_sI h)
def f_An_swornBy_b29 (k4 : Int32 → Int32 → Int32 → gW → Option (Int32 × gW)) (x1 : Int32) (x3 : Int32) (s0 : Int32) (s1 : Int32) (w : gW) : Option (Int32 × gW) :=
zl (s0 ||| s1) (fun v1 =>
zl (x3 + (1 : Int32)) (fun v3 =>
k4 x1 v1 v3 w))
def f_An_swornBy_b4_s (k4 : Int32 → Int32 → Int32 → gW → Option (Int32 × gW)) (x1 : Int32) (x2 : Int32) (x3 : Int32) (w : gW) : Option (Int32 × gW) :=
if (w.1 59 6) ≤ x3 then
(some (x2, w))
else
(zb (f_An_personOf x3 w) (fun v2 w3 =>
if v2 = x1 then
(f_An_swornBy_b29 k4 x1 x3 x2 ((1 : Int32) <<< (x3 &&& 31)) w3)
else
(f_An_swornBy_b29 k4 x1 x3 x2 (0 : Int32) w3)))
def f_An_swornBy_b4 : Int32 → Int32 → Int32 → gW → Option (Int32 × gW) := zfx (fun _ _ _ _ => none) (f_An_swornBy_b4_s) zFU
def f_An_swornBy (a1 : Int32) (w : gW) : Option (Int32 × gW) :=
f_An_swornBy_b4 a1 (0 : Int32) (0 : Int32) w
theorem g_An_swornBy_b29 {l : Launch} {Q : Option Value → gW → Prop} (k4 : Int32 → Int32 → Int32 → gW → Option (Int32 × gW)) (hk4 : ∀ (x1 : Int32) (x2 : Int32) (x3 : Int32) (w : gW), zok eI (k4 x1 x2 x3 w) Q → Gz l m_An_swornBy 3 4 [(0, .ref 59), (1, .int x1), (2, .int x2), (3, .int x3)] [] w Q) (x1 : Int32) (x3 : Int32) (s0 : Int32) (s1 : Int32) (w : gW) (h : zok eI (f_An_swornBy_b29 k4 x1 x3 s0 s1 w) Q) : Gz l m_An_swornBy 3 29 [(0, .ref 59), (1, .int x1), (3, .int x3)] [.int s1, .int s0] w Q := by
  unfold f_An_swornBy_b29 at h
  refine Gz.ior (pc' := 30) (by decide +kernel) rfl ?_
  refine Gz.nmI (fun v1 e2 => ?_)
  have h := zok_l e2 h
  refine Gz.istore_n (q := 2) (pc' := 31) (L' := [(2, .int v1), (0, .ref 59), (1, .int x1), (3, .int x3)]) (by decide +kernel) rfl (Nat.le_of_ble_eq_true rfl) rfl ?_
  obtain ⟨v3, e4⟩ : ∃ y : Int32, y = x3 + (1 : Int32) := ⟨_, rfl⟩
  have h := zok_l e4 h
  refine Gz.iinc (i := 3) (n := 1) (pc' := 34) (L' := [(3, .int v3), (2, .int v1), (0, .ref 59), (1, .int x1)]) v3 (by decide +kernel) rfl 3 rfl (by rw [e4]; rfl) (Nat.le_of_ble_eq_true rfl) rfl ?_
  refine Gz.goto (off := -30) (tgt := 4) (by decide +kernel) (by decide) ?_
  refine Gz.sub (L' := [(0, .ref 59), (1, .int x1), (2, .int v1), (3, .int v3)]) [2, 3, 1, 0] rfl ?_
  exact hk4 x1 v1 v3 w h
theorem g_An_swornBy_b4_s {l : Launch} {Q : Option Value → gW → Prop} (k4 : Int32 → Int32 → Int32 → gW → Option (Int32 × gW)) (hk4 : ∀ (x1 : Int32) (x2 : Int32) (x3 : Int32) (w : gW), zok eI (k4 x1 x2 x3 w) Q → Gz l m_An_swornBy 3 4 [(0, .ref 59), (1, .int x1), (2, .int x2), (3, .int x3)] [] w Q) (x1 : Int32) (x2 : Int32) (x3 : Int32) (w : gW) (h : zok eI (f_An_swornBy_b4_s k4 x1 x2 x3 w) Q) : Gz l m_An_swornBy 3 4 [(0, .ref 59), (1, .int x1), (2, .int x2), (3, .int x3)] [] w Q := by
  unfold f_An_swornBy_b4_s at h
  refine Gz.iload_n (q := 3) (pc' := 5) (by decide +kernel) rfl 3 rfl ?_
  refine Gz.aload_n (q := 0) (pc' := 6) (by decide +kernel) rfl 0 rfl ?_
  refine Gz.getI (pc' := 9) (j := 6) fd_An_37 sh_59 rfl (by decide +kernel) rfl ?_
  refine Gz.icmp_ge (off := 28) (tgt := 37) (pc' := 12) (by decide +kernel) (by decide) rfl (fun c1 => ?_) (fun c1 => ?_)
  · have h := zok_t c1 h
    refine Gz.iload_n (q := 2) (pc' := 38) (by decide +kernel) rfl 2 rfl ?_
    exact Gz.ireturn (by decide +kernel) rfl (zok_sI h)
  · have h := zok_f c1 h
    refine Gz.iload_n (q := 2) (pc' := 13) (by decide +kernel) rfl 2 rfl ?_
    refine Gz.aload_n (q := 0) (pc' := 14) (by decide +kernel) rfl 0 rfl ?_
    refine Gz.iload_n (q := 3) (pc' := 15) (by decide +kernel) rfl 3 rfl ?_
    refine Gz.callVI (st := [.int x2]) (b := 59) (pc' := 18) [.int x3] (g_An_personOf x3 w) h ok_m_An_personOf lk_An_62 sh_59 rfl rfl rfl (Nat.le_of_ble_eq_true rfl) (Nat.le_of_ble_eq_true rfl) (Nat.le_of_ble_eq_true rfl) (by decide +kernel) rfl (fun v2 w3 h => ?_)
    refine Gz.iload_n (q := 1) (pc' := 19) (by decide +kernel) rfl 1 rfl ?_
    refine Gz.icmp_ne (off := 9) (tgt := 28) (pc' := 22) (by decide +kernel) (by decide) rfl (fun c4 => ?_) (fun c4 => ?_)
    · have h := zok_f c4 h
      refine Gz.iconst (n := 0) (v := (0 : Int32)) (pc' := 29) (by decide +kernel) rfl rfl ?_
      refine Gz.sub (L' := [(0, .ref 59), (1, .int x1), (3, .int x3)]) [0, 1, 3] rfl ?_
      exact g_An_swornBy_b29 k4 hk4 x1 x3 x2 (0 : Int32) w3 h
    · have h := zok_t c4 h
      refine Gz.iconst (n := 1) (v := (1 : Int32)) (pc' := 23) (by decide +kernel) rfl rfl ?_
      refine Gz.iload_n (q := 3) (pc' := 24) (by decide +kernel) rfl 3 rfl ?_
      refine Gz.ishl (pc' := 25) (by decide +kernel) rfl ?_
      refine Gz.goto (off := 4) (tgt := 29) (by decide +kernel) (by decide) ?_
      refine Gz.sub (L' := [(0, .ref 59), (1, .int x1), (3, .int x3)]) [0, 1, 3] rfl ?_
      exact g_An_swornBy_b29 k4 hk4 x1 x3 x2 ((1 : Int32) <<< (x3 &&& 31)) w3 h
theorem g_An_swornBy_b4 {l : Launch} {Q : Option Value → gW → Prop} (x1 : Int32) (x2 : Int32) (x3 : Int32) (w : gW) (h : zok eI (f_An_swornBy_b4 x1 x2 x3 w) Q) : Gz l m_An_swornBy 3 4 [(0, .ref 59), (1, .int x1), (2, .int x2), (3, .int x3)] [] w Q := by
  have key : ∀ (n : Nat) (x1 : Int32) (x2 : Int32) (x3 : Int32) (w : gW), zok eI (zfx (fun _ _ _ _ => none) (f_An_swornBy_b4_s) n x1 x2 x3 w) Q → Gz l m_An_swornBy 3 4 [(0, .ref 59), (1, .int x1), (2, .int x2), (3, .int x3)] [] w Q := by
    intro n
    induction n with
    | zero => intro x1 x2 x3 w h; exact zok_n h
    | succ n ih => intro x1 x2 x3 w h; exact g_An_swornBy_b4_s _ ih x1 x2 x3 w h
  exact key zFU x1 x2 x3 w h
theorem g_An_swornBy {l : Launch} (a1 : Int32) (w : gW) : gCt l m_An_swornBy 3 [.ref 59, .int a1] w eI (f_An_swornBy a1 w) := by
  intro Q h
  unfold f_An_swornBy at h
  show Gz l m_An_swornBy 3 0 [(0, .ref 59), (1, .int a1)] [] w Q
  refine Gz.iconst (n := 0) (v := (0 : Int32)) (pc' := 1) (by decide +kernel) rfl rfl ?_
  refine Gz.istore_n (q := 2) (pc' := 2) (L' := [(2, .int (0 : Int32)), (0, .ref 59), (1, .int a1)]) (by decide +kernel) rfl (Nat.le_of_ble_eq_true rfl) rfl ?_
  refine Gz.iconst (n := 0) (v := (0 : Int32)) (pc' := 3) (by decide +kernel) rfl rfl ?_
  refine Gz.istore_n (q := 3) (pc' := 4) (L' := [(3, .int (0 : Int32)), (2, .int (0 : Int32)), (0, .ref 59), (1, .int a1)]) (by decide +kernel) rfl (Nat.le_of_ble_eq_true rfl) rfl ?_
  refine Gz.sub (L' := [(0, .ref 59), (1, .int a1), (2, .int (0 : Int32)), (3, .int (0 : Int32))]) [2, 3, 1, 0] rfl ?_
  exact g_An_swornBy_b4 a1 (0 : Int32) (0 : Int32) w h
def f_Int_bitCount (a0 : Int32) (w : gW) : Option (Int32 × gW) :=
zl (a0 - ((zusI a0 (1 : Int32)) &&& (1431655765 : Int32))) (fun v1 =>
zl ((v1 &&& (858993459 : Int32)) + ((zusI v1 (2 : Int32)) &&& (858993459 : Int32))) (fun v3 =>
zl ((v3 + (zusI v3 (4 : Int32))) &&& (252645135 : Int32)) (fun v5 =>
zl (v5 + (zusI v5 (8 : Int32))) (fun v7 =>
zl (v7 + (zusI v7 (16 : Int32))) (fun v9 =>
some (v9 &&& (63 : Int32), w))))))
theorem g_Int_bitCount {l : Launch} (a0 : Int32) (w : gW) : gCt l m_Int_bitCount 1 [.int a0] w eI (f_Int_bitCount a0 w) := by
  intro Q h
  unfold f_Int_bitCount at h
  show Gz l m_Int_bitCount 1 0 [(0, .int a0)] [] w Q
  refine Gz.iload_n (q := 0) (pc' := 1) (by decide +kernel) rfl 0 rfl ?_
  refine Gz.iload_n (q := 0) (pc' := 2) (by decide +kernel) rfl 0 rfl ?_
  refine Gz.iconst (n := 1) (v := (1 : Int32)) (pc' := 3) (by decide +kernel) rfl rfl ?_
  refine Gz.iushr (pc' := 4) (by decide +kernel) rfl ?_
  refine Gz.ldcw (idx := 265) (v := (1431655765 : Int32)) (pc' := 7) (by decide +kernel) rfl kc_Int_265 ?_
  refine Gz.iand (pc' := 8) (by decide +kernel) rfl ?_
  refine Gz.isub (pc' := 9) (by decide +kernel) rfl ?_
  refine Gz.nmI (fun v1 e2 => ?_)
  have h := zok_l e2 h
  refine Gz.istore_n (q := 0) (pc' := 10) (L' := [(0, .int v1)]) (by decide +kernel) rfl (Nat.le_of_ble_eq_true rfl) rfl ?_
  refine Gz.iload_n (q := 0) (pc' := 11) (by decide +kernel) rfl 0 rfl ?_
  refine Gz.ldcw (idx := 266) (v := (858993459 : Int32)) (pc' := 14) (by decide +kernel) rfl kc_Int_266 ?_
  refine Gz.iand (pc' := 15) (by decide +kernel) rfl ?_
  refine Gz.iload_n (q := 0) (pc' := 16) (by decide +kernel) rfl 0 rfl ?_
  refine Gz.iconst (n := 2) (v := (2 : Int32)) (pc' := 17) (by decide +kernel) rfl rfl ?_
  refine Gz.iushr (pc' := 18) (by decide +kernel) rfl ?_
  refine Gz.ldcw (idx := 266) (v := (858993459 : Int32)) (pc' := 21) (by decide +kernel) rfl kc_Int_266 ?_
  refine Gz.iand (pc' := 22) (by decide +kernel) rfl ?_
  refine Gz.iadd (pc' := 23) (by decide +kernel) rfl ?_
  refine Gz.nmI (fun v3 e4 => ?_)
  have h := zok_l e4 h
  refine Gz.istore_n (q := 0) (pc' := 24) (L' := [(0, .int v3)]) (by decide +kernel) rfl (Nat.le_of_ble_eq_true rfl) rfl ?_
  refine Gz.iload_n (q := 0) (pc' := 25) (by decide +kernel) rfl 0 rfl ?_
  refine Gz.iload_n (q := 0) (pc' := 26) (by decide +kernel) rfl 0 rfl ?_
  refine Gz.iconst (n := 4) (v := (4 : Int32)) (pc' := 27) (by decide +kernel) rfl rfl ?_
  refine Gz.iushr (pc' := 28) (by decide +kernel) rfl ?_
  refine Gz.iadd (pc' := 29) (by decide +kernel) rfl ?_
  refine Gz.ldcw (idx := 267) (v := (252645135 : Int32)) (pc' := 32) (by decide +kernel) rfl kc_Int_267 ?_
  refine Gz.iand (pc' := 33) (by decide +kernel) rfl ?_
  refine Gz.nmI (fun v5 e6 => ?_)
  have h := zok_l e6 h
  refine Gz.istore_n (q := 0) (pc' := 34) (L' := [(0, .int v5)]) (by decide +kernel) rfl (Nat.le_of_ble_eq_true rfl) rfl ?_
  refine Gz.iload_n (q := 0) (pc' := 35) (by decide +kernel) rfl 0 rfl ?_
  refine Gz.iload_n (q := 0) (pc' := 36) (by decide +kernel) rfl 0 rfl ?_
  refine Gz.bipush (n := 8) (v := (8 : Int32)) (pc' := 38) (by decide +kernel) rfl rfl ?_
  refine Gz.iushr (pc' := 39) (by decide +kernel) rfl ?_
  refine Gz.iadd (pc' := 40) (by decide +kernel) rfl ?_
  refine Gz.nmI (fun v7 e8 => ?_)
  have h := zok_l e8 h
  refine Gz.istore_n (q := 0) (pc' := 41) (L' := [(0, .int v7)]) (by decide +kernel) rfl (Nat.le_of_ble_eq_true rfl) rfl ?_
  refine Gz.iload_n (q := 0) (pc' := 42) (by decide +kernel) rfl 0 rfl ?_
  refine Gz.iload_n (q := 0) (pc' := 43) (by decide +kernel) rfl 0 rfl ?_
  refine Gz.bipush (n := 16) (v := (16 : Int32)) (pc' := 45) (by decide +kernel) rfl rfl ?_
  refine Gz.iushr (pc' := 46) (by decide +kernel) rfl ?_
  refine Gz.iadd (pc' := 47) (by decide +kernel) rfl ?_
  refine Gz.nmI (fun v9 e10 => ?_)
  have h := zok_l e10 h
  refine Gz.istore_n (q := 0) (pc' := 48) (L' := [(0, .int v9)]) (by decide +kernel) rfl (Nat.le_of_ble_eq_true rfl) rfl ?_
  refine Gz.iload_n (q := 0) (pc' := 49) (by decide +kernel) rfl 0 rfl ?_
  refine Gz.bipush (n := 63) (v := (63 : Int32)) (pc' := 51) (by decide +kernel) rfl rfl ?_
  refine Gz.iand (pc' := 52) (by decide +kernel) rfl ?_
  exact Gz.ireturn (by decide +kernel) rfl (zok_sI h)
def f_X_guilt_b29 (x1 : Int32) (s0 : Int32) (w : gW) : Option (Int32 × gW) :=
if s0 = (-1 : Int32) then
(some ((-1 : Int32), w))
else
(zb (f_An_swornBy x1 w) (fun v2 w3 =>
zb (f_Int_bitCount (s0 &&& v2) w3) (fun v4 w5 =>
some (v4, w5))))
def f_X_guilt_b28 (x1 : Int32) (w : gW) : Option (Int32 × gW) :=
f_X_guilt_b29 x1 (-1 : Int32) w
def f_X_guilt (a1 : Int32) (w : gW) : Option (Int32 × gW) :=
zb (f_La_isThere w) (fun v1 w2 =>
if v1 = 0 then
(f_X_guilt_b28 a1 w2)
else
(zb (f_X_isPerson a1 w2) (fun v4 w5 =>
if v4 = 0 then
(f_X_guilt_b28 a1 w5)
else
(zb (f_Le_cheapest (2 : Int32) w5) (fun v7 w8 =>
f_X_guilt_b29 a1 v7 w8)))))
theorem g_X_guilt_b29 {l : Launch} {Q : Option Value → gW → Prop} (x1 : Int32) (s0 : Int32) (w : gW) (h : zok eI (f_X_guilt_b29 x1 s0 w) Q) : Gz l m_X_guilt 22 29 [(0, .ref 0), (1, .int x1)] [.int s0] w Q := by
  unfold f_X_guilt_b29 at h
  refine Gz.istore_n (q := 2) (pc' := 30) (L' := [(2, .int s0), (0, .ref 0), (1, .int x1)]) (by decide +kernel) rfl (Nat.le_of_ble_eq_true rfl) rfl ?_
  refine Gz.iload_n (q := 2) (pc' := 31) (by decide +kernel) rfl 0 rfl ?_
  refine Gz.iconst (n := -1) (v := (-1 : Int32)) (pc' := 32) (by decide +kernel) rfl rfl ?_
  refine Gz.icmp_ne (off := 7) (tgt := 39) (pc' := 35) (by decide +kernel) (by decide) rfl (fun c1 => ?_) (fun c1 => ?_)
  · have h := zok_f c1 h
    refine Gz.iload_n (q := 2) (pc' := 40) (by decide +kernel) rfl 0 rfl ?_
    refine Gz.aload_n (q := 0) (pc' := 41) (by decide +kernel) rfl 1 rfl ?_
    refine Gz.getR (pc' := 44) (j := 4) 59 fd_X_40 sh_0 rfl (by decide +kernel) rfl ?_
    refine Gz.iload_n (q := 1) (pc' := 45) (by decide +kernel) rfl 2 rfl ?_
    refine Gz.callVI (st := [.int s0]) (b := 59) (pc' := 48) [.int x1] (g_An_swornBy x1 w) h ok_m_An_swornBy lk_X_247 sh_59 rfl rfl rfl (Nat.le_of_ble_eq_true rfl) (Nat.le_of_ble_eq_true rfl) (Nat.le_of_ble_eq_true rfl) (by decide +kernel) rfl (fun v2 w3 h => ?_)
    refine Gz.iand (pc' := 49) (by decide +kernel) rfl ?_
    refine Gz.callSI (st := []) (pc' := 52) [.int (s0 &&& v2)] (g_Int_bitCount (s0 &&& v2) w3) h ok_m_Int_bitCount lk_X_250 rfl (Nat.le_of_ble_eq_true rfl) (Nat.le_of_ble_eq_true rfl) (Nat.le_of_ble_eq_true rfl) (by decide +kernel) rfl (fun v4 w5 h => ?_)
    exact Gz.ireturn (by decide +kernel) rfl (zok_sI h)
  · have h := zok_t c1 h
    refine Gz.iconst (n := -1) (v := (-1 : Int32)) (pc' := 36) (by decide +kernel) rfl rfl ?_
    refine Gz.goto (off := 16) (tgt := 52) (by decide +kernel) (by decide) ?_
    exact Gz.ireturn (by decide +kernel) rfl (zok_sI h)
theorem g_X_guilt_b28 {l : Launch} {Q : Option Value → gW → Prop} (x1 : Int32) (w : gW) (h : zok eI (f_X_guilt_b28 x1 w) Q) : Gz l m_X_guilt 22 28 [(0, .ref 0), (1, .int x1)] [] w Q := by
  unfold f_X_guilt_b28 at h
  refine Gz.iconst (n := -1) (v := (-1 : Int32)) (pc' := 29) (by decide +kernel) rfl rfl ?_
  exact g_X_guilt_b29 x1 (-1 : Int32) w h
theorem g_X_guilt {l : Launch} (a1 : Int32) (w : gW) : gCt l m_X_guilt 22 [.ref 0, .int a1] w eI (f_X_guilt a1 w) := by
  intro Q h
  unfold f_X_guilt at h
  show Gz l m_X_guilt 22 0 [(0, .ref 0), (1, .int a1)] [] w Q
  refine Gz.aload_n (q := 0) (pc' := 1) (by decide +kernel) rfl 0 rfl ?_
  refine Gz.getR (pc' := 4) (j := 3) 19 fd_X_33 sh_0 rfl (by decide +kernel) rfl ?_
  refine Gz.callVI (st := []) (b := 19) (pc' := 7) [] (g_La_isThere w) h ok_m_La_isThere lk_X_176 sh_19 rfl rfl rfl (Nat.le_of_ble_eq_true rfl) (Nat.le_of_ble_eq_true rfl) (Nat.le_of_ble_eq_true rfl) (by decide +kernel) rfl (fun v1 w2 h => ?_)
  refine Gz.if_eq (off := 21) (tgt := 28) (pc' := 10) (by decide +kernel) (by decide) rfl (fun c3 => ?_) (fun c3 => ?_)
  · have h := zok_t c3 h
    exact g_X_guilt_b28 a1 w2 h
  · have h := zok_f c3 h
    refine Gz.iload_n (q := 1) (pc' := 11) (by decide +kernel) rfl 1 rfl ?_
    refine Gz.callSI (st := []) (pc' := 14) [.int a1] (g_X_isPerson a1 w2) h ok_m_X_isPerson lk_X_143 rfl (Nat.le_of_ble_eq_true rfl) (Nat.le_of_ble_eq_true rfl) (Nat.le_of_ble_eq_true rfl) (by decide +kernel) rfl (fun v4 w5 h => ?_)
    refine Gz.if_eq (off := 14) (tgt := 28) (pc' := 17) (by decide +kernel) (by decide) rfl (fun c6 => ?_) (fun c6 => ?_)
    · have h := zok_t c6 h
      exact g_X_guilt_b28 a1 w5 h
    · have h := zok_f c6 h
      refine Gz.aload_n (q := 0) (pc' := 18) (by decide +kernel) rfl 0 rfl ?_
      refine Gz.getR (pc' := 21) (j := 8) 99 fd_X_70 sh_0 rfl (by decide +kernel) rfl ?_
      refine Gz.iconst (n := 2) (v := (2 : Int32)) (pc' := 22) (by decide +kernel) rfl rfl ?_
      refine Gz.callVI (st := []) (b := 99) (pc' := 25) [.int (2 : Int32)] (g_Le_cheapest (2 : Int32) w5) h ok_m_Le_cheapest lk_X_244 sh_99 rfl rfl rfl (Nat.le_of_ble_eq_true rfl) (Nat.le_of_ble_eq_true rfl) (Nat.le_of_ble_eq_true rfl) (by decide +kernel) rfl (fun v7 w8 h => ?_)
      refine Gz.goto (off := 4) (tgt := 29) (by decide +kernel) (by decide) ?_
      exact g_X_guilt_b29 a1 v7 w8 h
