def f_M_partOf_b16_s (k16 : Int64 → Int64 → Int32 → Int64 → Int64 → gW → Option (Int64 × gW)) (x0 : Int64) (x2 : Int64) (x4 : Int32) (x5 : Int64) (x7 : Int64) (w : gW) : Option (Int64 × gW) :=
if (lg_cmp x7 (0 : Int64)) = 0 then
(if x4 = 0 then
(if ¬ x5 = 0 then
some (x0 / x5, w)
else none)
else
(if ¬ x5 = 0 then
some (x2 / x5, w)
else none))
else
(if ¬ x7 = 0 then
zl (x5 - x5 / x7 * x7) (fun v6 =>
k16 x0 x2 x4 x7 v6 w)
else none)
def f_M_partOf_b16 : Int64 → Int64 → Int32 → Int64 → Int64 → gW → Option (Int64 × gW) := zfx (fun _ _ _ _ _ _ => none) (f_M_partOf_b16_s) zFU
def f_M_partOf (a0 : Int64) (a2 : Int64) (a4 : Int32) (w : gW) : Option (Int64 × gW) :=
if (lg_cmp a2 (0 : Int64)) = 0 then
(some ((-1 : Int64), w))
else
(f_M_partOf_b16 a0 a2 a4 a0 a2 w)
theorem g_M_partOf_b16_s {l : Launch} {Q : Option Value → gW → Prop} (k16 : Int64 → Int64 → Int32 → Int64 → Int64 → gW → Option (Int64 × gW)) (hk16 : ∀ (x0 : Int64) (x2 : Int64) (x4 : Int32) (x5 : Int64) (x7 : Int64) (w : gW), zok eJ (k16 x0 x2 x4 x5 x7 w) Q → Gz l m_M_partOf 1 16 [(0, .long x0), (2, .long x2), (4, .int x4), (5, .long x5), (7, .long x7)] [] w Q) (x0 : Int64) (x2 : Int64) (x4 : Int32) (x5 : Int64) (x7 : Int64) (w : gW) (h : zok eJ (f_M_partOf_b16_s k16 x0 x2 x4 x5 x7 w) Q) : Gz l m_M_partOf 1 16 [(0, .long x0), (2, .long x2), (4, .int x4), (5, .long x5), (7, .long x7)] [] w Q := by
  unfold f_M_partOf_b16_s at h
  refine Gz.lload (i := 7) (pc' := 18) (by decide +kernel) rfl 4 rfl ?_
  refine Gz.lconst (n := 0) (v := (0 : Int64)) (pc' := 19) (by decide +kernel) rfl rfl ?_
  refine Gz.lcmp (pc' := 20) (by decide +kernel) rfl ?_
  refine Gz.if_eq (off := 21) (tgt := 41) (pc' := 23) (by decide +kernel) (by decide) rfl (fun c1 => ?_) (fun c1 => ?_)
  · have h := zok_t c1 h
    refine Gz.iload (i := 4) (pc' := 43) (by decide +kernel) rfl 2 rfl ?_
    refine Gz.if_ne (off := 10) (tgt := 53) (pc' := 46) (by decide +kernel) (by decide) rfl (fun c2 => ?_) (fun c2 => ?_)
    · have h := zok_f c2 h
      refine Gz.lload_n (q := 2) (pc' := 54) (by decide +kernel) rfl 1 rfl ?_
      refine Gz.lload (i := 5) (pc' := 56) (by decide +kernel) rfl 3 rfl ?_
      obtain ⟨c3, h⟩ := zok_c h
      refine Gz.ldiv (pc' := 57) (by decide +kernel) rfl c3 ?_
      exact Gz.lreturn (by decide +kernel) rfl (zok_sJ h)
    · have h := zok_t c2 h
      refine Gz.lload_n (q := 0) (pc' := 47) (by decide +kernel) rfl 0 rfl ?_
      refine Gz.lload (i := 5) (pc' := 49) (by decide +kernel) rfl 3 rfl ?_
      obtain ⟨c4, h⟩ := zok_c h
      refine Gz.ldiv (pc' := 50) (by decide +kernel) rfl c4 ?_
      refine Gz.goto (off := 7) (tgt := 57) (by decide +kernel) (by decide) ?_
      exact Gz.lreturn (by decide +kernel) rfl (zok_sJ h)
  · have h := zok_f c1 h
    refine Gz.lload (i := 5) (pc' := 25) (by decide +kernel) rfl 3 rfl ?_
    refine Gz.lload (i := 7) (pc' := 27) (by decide +kernel) rfl 4 rfl ?_
    obtain ⟨c5, h⟩ := zok_c h
    refine Gz.lrem (pc' := 28) (by decide +kernel) rfl c5 ?_
    refine Gz.nmJ (fun v6 e7 => ?_)
    have h := zok_l e7 h
    refine Gz.lstore (i := 9) (pc' := 30) (L' := [(9, .long v6), (0, .long x0), (2, .long x2), (4, .int x4), (5, .long x5), (7, .long x7)]) (by decide +kernel) rfl (Nat.le_of_ble_eq_true rfl) rfl ?_
    refine Gz.lload (i := 7) (pc' := 32) (by decide +kernel) rfl 5 rfl ?_
    refine Gz.lstore (i := 5) (pc' := 34) (L' := [(5, .long x7), (9, .long v6), (0, .long x0), (2, .long x2), (4, .int x4), (7, .long x7)]) (by decide +kernel) rfl (Nat.le_of_ble_eq_true rfl) rfl ?_
    refine Gz.lload (i := 9) (pc' := 36) (by decide +kernel) rfl 1 rfl ?_
    refine Gz.lstore (i := 7) (pc' := 38) (L' := [(7, .long v6), (5, .long x7), (9, .long v6), (0, .long x0), (2, .long x2), (4, .int x4)]) (by decide +kernel) rfl (Nat.le_of_ble_eq_true rfl) rfl ?_
    refine Gz.goto (off := -22) (tgt := 16) (by decide +kernel) (by decide) ?_
    refine Gz.sub (L' := [(0, .long x0), (2, .long x2), (4, .int x4), (5, .long x7), (7, .long v6)]) [3, 4, 5, 1, 0] rfl ?_
    exact hk16 x0 x2 x4 x7 v6 w h
theorem g_M_partOf_b16 {l : Launch} {Q : Option Value → gW → Prop} (x0 : Int64) (x2 : Int64) (x4 : Int32) (x5 : Int64) (x7 : Int64) (w : gW) (h : zok eJ (f_M_partOf_b16 x0 x2 x4 x5 x7 w) Q) : Gz l m_M_partOf 1 16 [(0, .long x0), (2, .long x2), (4, .int x4), (5, .long x5), (7, .long x7)] [] w Q := by
  have key : ∀ (n : Nat) (x0 : Int64) (x2 : Int64) (x4 : Int32) (x5 : Int64) (x7 : Int64) (w : gW), zok eJ (zfx (fun _ _ _ _ _ _ => none) (f_M_partOf_b16_s) n x0 x2 x4 x5 x7 w) Q → Gz l m_M_partOf 1 16 [(0, .long x0), (2, .long x2), (4, .int x4), (5, .long x5), (7, .long x7)] [] w Q := by
    intro n
    induction n with
    | zero => intro x0 x2 x4 x5 x7 w h; exact zok_n h
    | succ n ih => intro x0 x2 x4 x5 x7 w h; exact g_M_partOf_b16_s _ ih x0 x2 x4 x5 x7 w h
  exact key zFU x0 x2 x4 x5 x7 w h
theorem g_M_partOf {l : Launch} (a0 : Int64) (a2 : Int64) (a4 : Int32) (w : gW) : gCt l m_M_partOf 1 [.long a0, .long a2, .int a4] w eJ (f_M_partOf a0 a2 a4 w) := by
  intro Q h
  unfold f_M_partOf at h
  show Gz l m_M_partOf 1 0 [(0, .long a0), (2, .long a2), (4, .int a4)] [] w Q
  refine Gz.lload_n (q := 2) (pc' := 1) (by decide +kernel) rfl 1 rfl ?_
  refine Gz.lconst (n := 0) (v := (0 : Int64)) (pc' := 2) (by decide +kernel) rfl rfl ?_
  refine Gz.lcmp (pc' := 3) (by decide +kernel) rfl ?_
  refine Gz.if_ne (off := 7) (tgt := 10) (pc' := 6) (by decide +kernel) (by decide) rfl (fun c1 => ?_) (fun c1 => ?_)
  · have h := zok_f c1 h
    refine Gz.lload_n (q := 0) (pc' := 11) (by decide +kernel) rfl 0 rfl ?_
    refine Gz.lstore (i := 5) (pc' := 13) (L' := [(5, .long a0), (0, .long a0), (2, .long a2), (4, .int a4)]) (by decide +kernel) rfl (Nat.le_of_ble_eq_true rfl) rfl ?_
    refine Gz.lload_n (q := 2) (pc' := 14) (by decide +kernel) rfl 2 rfl ?_
    refine Gz.lstore (i := 7) (pc' := 16) (L' := [(7, .long a2), (5, .long a0), (0, .long a0), (2, .long a2), (4, .int a4)]) (by decide +kernel) rfl (Nat.le_of_ble_eq_true rfl) rfl ?_
    refine Gz.sub (L' := [(0, .long a0), (2, .long a2), (4, .int a4), (5, .long a0), (7, .long a2)]) [2, 3, 4, 1, 0] rfl ?_
    exact g_M_partOf_b16 a0 a2 a4 a0 a2 w h
  · have h := zok_t c1 h
    refine Gz.ldc2 (idx := 331) (v := (-1 : Int64)) (pc' := 9) (by decide +kernel) rfl kc_M_331 ?_
    exact Gz.lreturn (by decide +kernel) rfl (zok_sJ h)
def f_M_odds_b31 (w : gW) : Option (Int64 × gW) :=
some ((-1 : Int64), w)
def f_M_odds_b105 (k44 : Int32 → Int32 → Int32 → Int64 → Int64 → Int32 → gW → Option (Int64 × gW)) (x1 : Int32) (x2 : Int32) (x3 : Int32) (x4 : Int64) (x6 : Int64) (x8 : Int32) (w : gW) : Option (Int64 × gW) :=
zl (x8 + (1 : Int32)) (fun v1 =>
k44 x1 x2 x3 x4 x6 v1 w)
def f_M_odds_b44_s (k44 : Int32 → Int32 → Int32 → Int64 → Int64 → Int32 → gW → Option (Int64 × gW)) (x1 : Int32) (x2 : Int32) (x3 : Int32) (x4 : Int64) (x6 : Int64) (x8 : Int32) (w : gW) : Option (Int64 × gW) :=
if (w.1 107 26) ≤ x8 then
(zb (f_M_partOf x4 x6 x3 w) (fun v2 w3 =>
some (v2, w3)))
else
(if inb x8 16807 then
zb (f_M_live (w.1 118 (ix x8)) w) (fun _ w5 =>
zb (f_M_fits w5) (fun v6 w7 =>
if v6 = 0 then
(f_M_odds_b105 k44 x1 x2 x3 x4 x6 x8 w7)
else
(zb (f_M_weight w7) (fun v9 w10 =>
zl (x6 + v9) (fun v11 =>
zb (f_M_all w10) (fun v13 w14 =>
zb (f_M_keeps x1 x2 v13 w14) (fun v15 w16 =>
if v15 = 0 then
(f_M_odds_b105 k44 x1 x2 x3 x4 v11 x8 w16)
else
(zb (f_M_weight w16) (fun v18 w19 =>
zl (x4 + v18) (fun v20 =>
f_M_odds_b105 k44 x1 x2 x3 v20 v11 x8 w19))))))))))
else none)
def f_M_odds_b44 : Int32 → Int32 → Int32 → Int64 → Int64 → Int32 → gW → Option (Int64 × gW) := zfx (fun _ _ _ _ _ _ _ => none) (f_M_odds_b44_s) zFU
def f_M_odds (a1 : Int32) (a2 : Int32) (a3 : Int32) (w : gW) : Option (Int64 × gW) :=
zl (zsI w 107 0 (0 : Int32)) (fun w1 =>
zb (f_M_isOath a1 w1) (fun v3 w4 =>
if v3 = 0 then
(f_M_odds_b31 w4)
else
(zb (f_M_isSeenDay a2 w4) (fun v6 w7 =>
if v6 = 0 then
(f_M_odds_b31 w7)
else
(zb (f_M_isIn (a3.toInt64) (0 : Int64) (1 : Int64) w7) (fun v9 w10 =>
if v9 = 0 then
(f_M_odds_b31 w10)
else
(f_M_odds_b44 a1 a2 a3 (0 : Int64) (0 : Int64) (0 : Int32) w10)))))))
theorem g_M_odds_b31 {l : Launch} {Q : Option Value → gW → Prop} (w : gW) (h : zok eJ (f_M_odds_b31 w) Q) : Gz l m_M_odds 57 31 [] [] w Q := by
  unfold f_M_odds_b31 at h
  refine Gz.ldc2 (idx := 331) (v := (-1 : Int64)) (pc' := 34) (by decide +kernel) rfl kc_M_331 ?_
  exact Gz.lreturn (by decide +kernel) rfl (zok_sJ h)
theorem g_M_odds_b105 {l : Launch} {Q : Option Value → gW → Prop} (k44 : Int32 → Int32 → Int32 → Int64 → Int64 → Int32 → gW → Option (Int64 × gW)) (hk44 : ∀ (x1 : Int32) (x2 : Int32) (x3 : Int32) (x4 : Int64) (x6 : Int64) (x8 : Int32) (w : gW), zok eJ (k44 x1 x2 x3 x4 x6 x8 w) Q → Gz l m_M_odds 57 44 [(0, .ref 107), (1, .int x1), (2, .int x2), (3, .int x3), (4, .long x4), (6, .long x6), (8, .int x8)] [] w Q) (x1 : Int32) (x2 : Int32) (x3 : Int32) (x4 : Int64) (x6 : Int64) (x8 : Int32) (w : gW) (h : zok eJ (f_M_odds_b105 k44 x1 x2 x3 x4 x6 x8 w) Q) : Gz l m_M_odds 57 105 [(0, .ref 107), (1, .int x1), (2, .int x2), (3, .int x3), (4, .long x4), (6, .long x6), (8, .int x8)] [] w Q := by
  unfold f_M_odds_b105 at h
  obtain ⟨v1, e2⟩ : ∃ y : Int32, y = x8 + (1 : Int32) := ⟨_, rfl⟩
  have h := zok_l e2 h
  refine Gz.iinc (i := 8) (n := 1) (pc' := 108) (L' := [(8, .int v1), (0, .ref 107), (1, .int x1), (2, .int x2), (3, .int x3), (4, .long x4), (6, .long x6)]) v1 (by decide +kernel) rfl 6 rfl (by rw [e2]; rfl) (Nat.le_of_ble_eq_true rfl) rfl ?_
  refine Gz.goto (off := -64) (tgt := 44) (by decide +kernel) (by decide) ?_
  refine Gz.sub (L' := [(0, .ref 107), (1, .int x1), (2, .int x2), (3, .int x3), (4, .long x4), (6, .long x6), (8, .int v1)]) [1, 2, 3, 4, 5, 6, 0] rfl ?_
  exact hk44 x1 x2 x3 x4 x6 v1 w h
theorem g_M_odds_b44_s {l : Launch} {Q : Option Value → gW → Prop} (k44 : Int32 → Int32 → Int32 → Int64 → Int64 → Int32 → gW → Option (Int64 × gW)) (hk44 : ∀ (x1 : Int32) (x2 : Int32) (x3 : Int32) (x4 : Int64) (x6 : Int64) (x8 : Int32) (w : gW), zok eJ (k44 x1 x2 x3 x4 x6 x8 w) Q → Gz l m_M_odds 57 44 [(0, .ref 107), (1, .int x1), (2, .int x2), (3, .int x3), (4, .long x4), (6, .long x6), (8, .int x8)] [] w Q) (x1 : Int32) (x2 : Int32) (x3 : Int32) (x4 : Int64) (x6 : Int64) (x8 : Int32) (w : gW) (h : zok eJ (f_M_odds_b44_s k44 x1 x2 x3 x4 x6 x8 w) Q) : Gz l m_M_odds 57 44 [(0, .ref 107), (1, .int x1), (2, .int x2), (3, .int x3), (4, .long x4), (6, .long x6), (8, .int x8)] [] w Q := by
  unfold f_M_odds_b44_s at h
  refine Gz.iload (i := 8) (pc' := 46) (by decide +kernel) rfl 6 rfl ?_
  refine Gz.aload_n (q := 0) (pc' := 47) (by decide +kernel) rfl 0 rfl ?_
  refine Gz.getI (pc' := 50) (j := 26) fd_M_224 sh_107 rfl (by decide +kernel) rfl ?_
  refine Gz.icmp_ge (off := 61) (tgt := 111) (pc' := 53) (by decide +kernel) (by decide) rfl (fun c1 => ?_) (fun c1 => ?_)
  · have h := zok_t c1 h
    refine Gz.lload (i := 4) (pc' := 113) (by decide +kernel) rfl 4 rfl ?_
    refine Gz.lload (i := 6) (pc' := 115) (by decide +kernel) rfl 5 rfl ?_
    refine Gz.iload_n (q := 3) (pc' := 116) (by decide +kernel) rfl 3 rfl ?_
    refine Gz.callSJ (st := []) (pc' := 119) [.long x4, .long x6, .int x3] (g_M_partOf x4 x6 x3 w) h ok_m_M_partOf lk_M_337 rfl (Nat.le_of_ble_eq_true rfl) (Nat.le_of_ble_eq_true rfl) (Nat.le_of_ble_eq_true rfl) (by decide +kernel) rfl (fun v2 w3 h => ?_)
    exact Gz.lreturn (by decide +kernel) rfl (zok_sJ h)
  · have h := zok_f c1 h
    refine Gz.aload_n (q := 0) (pc' := 54) (by decide +kernel) rfl 0 rfl ?_
    refine Gz.aload_n (q := 0) (pc' := 55) (by decide +kernel) rfl 0 rfl ?_
    refine Gz.getR (pc' := 58) (j := 25) 118 fd_M_44 sh_107 rfl (by decide +kernel) rfl ?_
    refine Gz.iload (i := 8) (pc' := 60) (by decide +kernel) rfl 6 rfl ?_
    obtain ⟨c4, h⟩ := zok_c h
    refine Gz.iald (pc' := 61) (n := 16807) (by decide +kernel) rfl rfl c4 ?_
    refine Gz.callVV (st := []) (b := 107) (pc' := 64) [.int (w.1 118 (ix x8))] (g_M_live (w.1 118 (ix x8)) w) h ok_m_M_live lk_M_231 sh_107 rfl rfl rfl (Nat.le_of_ble_eq_true rfl) (Nat.le_of_ble_eq_true rfl) (Nat.le_of_ble_eq_true rfl) (by decide +kernel) rfl (fun _ w5 h => ?_)
    refine Gz.aload_n (q := 0) (pc' := 65) (by decide +kernel) rfl 0 rfl ?_
    refine Gz.callVI (st := []) (b := 107) (pc' := 68) [] (g_M_fits w5) h ok_m_M_fits lk_M_267 sh_107 rfl rfl rfl (Nat.le_of_ble_eq_true rfl) (Nat.le_of_ble_eq_true rfl) (Nat.le_of_ble_eq_true rfl) (by decide +kernel) rfl (fun v6 w7 h => ?_)
    refine Gz.if_ne (off := 6) (tgt := 74) (pc' := 71) (by decide +kernel) (by decide) rfl (fun c8 => ?_) (fun c8 => ?_)
    · have h := zok_f c8 h
      refine Gz.lload (i := 6) (pc' := 76) (by decide +kernel) rfl 5 rfl ?_
      refine Gz.aload_n (q := 0) (pc' := 77) (by decide +kernel) rfl 0 rfl ?_
      refine Gz.callVJ (st := [.long x6]) (b := 107) (pc' := 80) [] (g_M_weight w7) h ok_m_M_weight lk_M_333 sh_107 rfl rfl rfl (Nat.le_of_ble_eq_true rfl) (Nat.le_of_ble_eq_true rfl) (Nat.le_of_ble_eq_true rfl) (by decide +kernel) rfl (fun v9 w10 h => ?_)
      refine Gz.ladd (pc' := 81) (by decide +kernel) rfl ?_
      refine Gz.nmJ (fun v11 e12 => ?_)
      have h := zok_l e12 h
      refine Gz.lstore (i := 6) (pc' := 83) (L' := [(6, .long v11), (0, .ref 107), (1, .int x1), (2, .int x2), (3, .int x3), (4, .long x4), (8, .int x8)]) (by decide +kernel) rfl (Nat.le_of_ble_eq_true rfl) rfl ?_
      refine Gz.aload_n (q := 0) (pc' := 84) (by decide +kernel) rfl 1 rfl ?_
      refine Gz.iload_n (q := 1) (pc' := 85) (by decide +kernel) rfl 2 rfl ?_
      refine Gz.iload_n (q := 2) (pc' := 86) (by decide +kernel) rfl 3 rfl ?_
      refine Gz.aload_n (q := 0) (pc' := 87) (by decide +kernel) rfl 1 rfl ?_
      refine Gz.callVI (st := [.int x2, .int x1, .ref 107]) (b := 107) (pc' := 90) [] (g_M_all w10) h ok_m_M_all lk_M_261 sh_107 rfl rfl rfl (Nat.le_of_ble_eq_true rfl) (Nat.le_of_ble_eq_true rfl) (Nat.le_of_ble_eq_true rfl) (by decide +kernel) rfl (fun v13 w14 h => ?_)
      refine Gz.callVI (st := []) (b := 107) (pc' := 93) [.int x1, .int x2, .int v13] (g_M_keeps x1 x2 v13 w14) h ok_m_M_keeps lk_M_254 sh_107 rfl rfl rfl (Nat.le_of_ble_eq_true rfl) (Nat.le_of_ble_eq_true rfl) (Nat.le_of_ble_eq_true rfl) (by decide +kernel) rfl (fun v15 w16 h => ?_)
      refine Gz.if_eq (off := 12) (tgt := 105) (pc' := 96) (by decide +kernel) (by decide) rfl (fun c17 => ?_) (fun c17 => ?_)
      · have h := zok_t c17 h
        refine Gz.sub (L' := [(0, .ref 107), (1, .int x1), (2, .int x2), (3, .int x3), (4, .long x4), (6, .long v11), (8, .int x8)]) [1, 2, 3, 4, 5, 0, 6] rfl ?_
        exact g_M_odds_b105 k44 hk44 x1 x2 x3 x4 v11 x8 w16 h
      · have h := zok_f c17 h
        refine Gz.lload (i := 4) (pc' := 98) (by decide +kernel) rfl 5 rfl ?_
        refine Gz.aload_n (q := 0) (pc' := 99) (by decide +kernel) rfl 1 rfl ?_
        refine Gz.callVJ (st := [.long x4]) (b := 107) (pc' := 102) [] (g_M_weight w16) h ok_m_M_weight lk_M_333 sh_107 rfl rfl rfl (Nat.le_of_ble_eq_true rfl) (Nat.le_of_ble_eq_true rfl) (Nat.le_of_ble_eq_true rfl) (by decide +kernel) rfl (fun v18 w19 h => ?_)
        refine Gz.ladd (pc' := 103) (by decide +kernel) rfl ?_
        refine Gz.nmJ (fun v20 e21 => ?_)
        have h := zok_l e21 h
        refine Gz.lstore (i := 4) (pc' := 105) (L' := [(4, .long v20), (6, .long v11), (0, .ref 107), (1, .int x1), (2, .int x2), (3, .int x3), (8, .int x8)]) (by decide +kernel) rfl (Nat.le_of_ble_eq_true rfl) rfl ?_
        refine Gz.sub (L' := [(0, .ref 107), (1, .int x1), (2, .int x2), (3, .int x3), (4, .long v20), (6, .long v11), (8, .int x8)]) [2, 3, 4, 5, 0, 1, 6] rfl ?_
        exact g_M_odds_b105 k44 hk44 x1 x2 x3 v20 v11 x8 w19 h
    · have h := zok_t c8 h
      refine Gz.goto (off := 34) (tgt := 105) (by decide +kernel) (by decide) ?_
      exact g_M_odds_b105 k44 hk44 x1 x2 x3 x4 x6 x8 w7 h
theorem g_M_odds_b44 {l : Launch} {Q : Option Value → gW → Prop} (x1 : Int32) (x2 : Int32) (x3 : Int32) (x4 : Int64) (x6 : Int64) (x8 : Int32) (w : gW) (h : zok eJ (f_M_odds_b44 x1 x2 x3 x4 x6 x8 w) Q) : Gz l m_M_odds 57 44 [(0, .ref 107), (1, .int x1), (2, .int x2), (3, .int x3), (4, .long x4), (6, .long x6), (8, .int x8)] [] w Q := by
  have key : ∀ (n : Nat) (x1 : Int32) (x2 : Int32) (x3 : Int32) (x4 : Int64) (x6 : Int64) (x8 : Int32) (w : gW), zok eJ (zfx (fun _ _ _ _ _ _ _ => none) (f_M_odds_b44_s) n x1 x2 x3 x4 x6 x8 w) Q → Gz l m_M_odds 57 44 [(0, .ref 107), (1, .int x1), (2, .int x2), (3, .int x3), (4, .long x4), (6, .long x6), (8, .int x8)] [] w Q := by
    intro n
    induction n with
    | zero => intro x1 x2 x3 x4 x6 x8 w h; exact zok_n h
    | succ n ih => intro x1 x2 x3 x4 x6 x8 w h; exact g_M_odds_b44_s _ ih x1 x2 x3 x4 x6 x8 w h
  exact key zFU x1 x2 x3 x4 x6 x8 w h
theorem g_M_odds {l : Launch} (a1 : Int32) (a2 : Int32) (a3 : Int32) (w : gW) : gCt l m_M_odds 57 [.ref 107, .int a1, .int a2, .int a3] w eJ (f_M_odds a1 a2 a3 w) := by
  intro Q h
  unfold f_M_odds at h
  show Gz l m_M_odds 57 0 [(0, .ref 107), (1, .int a1), (2, .int a2), (3, .int a3)] [] w Q
  refine Gz.aload_n (q := 0) (pc' := 1) (by decide +kernel) rfl 0 rfl ?_
  refine Gz.iconst (n := 0) (v := (0 : Int32)) (pc' := 2) (by decide +kernel) rfl rfl ?_
  refine Gz.putI (pc' := 5) (j := 0) fd_M_96 sh_107 rfl (by decide +kernel) rfl ?_
  refine Gz.nmW (fun w1 e2 => ?_)
  have h := zok_l e2 h
  refine Gz.aload_n (q := 0) (pc' := 6) (by decide +kernel) rfl 0 rfl ?_
  refine Gz.iload_n (q := 1) (pc' := 7) (by decide +kernel) rfl 1 rfl ?_
  refine Gz.callVI (st := []) (b := 107) (pc' := 10) [.int a1] (g_M_isOath a1 w1) h ok_m_M_isOath lk_M_241 sh_107 rfl rfl rfl (Nat.le_of_ble_eq_true rfl) (Nat.le_of_ble_eq_true rfl) (Nat.le_of_ble_eq_true rfl) (by decide +kernel) rfl (fun v3 w4 h => ?_)
  refine Gz.if_eq (off := 21) (tgt := 31) (pc' := 13) (by decide +kernel) (by decide) rfl (fun c5 => ?_) (fun c5 => ?_)
  · have h := zok_t c5 h
    refine Gz.sub (L' := []) [] rfl ?_
    exact g_M_odds_b31 w4 h
  · have h := zok_f c5 h
    refine Gz.aload_n (q := 0) (pc' := 14) (by decide +kernel) rfl 0 rfl ?_
    refine Gz.iload_n (q := 2) (pc' := 15) (by decide +kernel) rfl 2 rfl ?_
    refine Gz.callVI (st := []) (b := 107) (pc' := 18) [.int a2] (g_M_isSeenDay a2 w4) h ok_m_M_isSeenDay lk_M_244 sh_107 rfl rfl rfl (Nat.le_of_ble_eq_true rfl) (Nat.le_of_ble_eq_true rfl) (Nat.le_of_ble_eq_true rfl) (by decide +kernel) rfl (fun v6 w7 h => ?_)
    refine Gz.if_eq (off := 13) (tgt := 31) (pc' := 21) (by decide +kernel) (by decide) rfl (fun c8 => ?_) (fun c8 => ?_)
    · have h := zok_t c8 h
      refine Gz.sub (L' := []) [] rfl ?_
      exact g_M_odds_b31 w7 h
    · have h := zok_f c8 h
      refine Gz.iload_n (q := 3) (pc' := 22) (by decide +kernel) rfl 3 rfl ?_
      refine Gz.i2l (pc' := 23) (by decide +kernel) rfl ?_
      refine Gz.lconst (n := 0) (v := (0 : Int64)) (pc' := 24) (by decide +kernel) rfl rfl ?_
      refine Gz.lconst (n := 1) (v := (1 : Int64)) (pc' := 25) (by decide +kernel) rfl rfl ?_
      refine Gz.callSI (st := []) (pc' := 28) [.long (a3.toInt64), .long (0 : Int64), .long (1 : Int64)] (g_M_isIn (a3.toInt64) (0 : Int64) (1 : Int64) w7) h ok_m_M_isIn lk_M_137 rfl (Nat.le_of_ble_eq_true rfl) (Nat.le_of_ble_eq_true rfl) (Nat.le_of_ble_eq_true rfl) (by decide +kernel) rfl (fun v9 w10 h => ?_)
      refine Gz.if_ne (off := 7) (tgt := 35) (pc' := 31) (by decide +kernel) (by decide) rfl (fun c11 => ?_) (fun c11 => ?_)
      · have h := zok_f c11 h
        refine Gz.lconst (n := 0) (v := (0 : Int64)) (pc' := 36) (by decide +kernel) rfl rfl ?_
        refine Gz.lstore (i := 4) (pc' := 38) (L' := [(4, .long (0 : Int64)), (0, .ref 107), (1, .int a1), (2, .int a2), (3, .int a3)]) (by decide +kernel) rfl (Nat.le_of_ble_eq_true rfl) rfl ?_
        refine Gz.lconst (n := 0) (v := (0 : Int64)) (pc' := 39) (by decide +kernel) rfl rfl ?_
        refine Gz.lstore (i := 6) (pc' := 41) (L' := [(6, .long (0 : Int64)), (4, .long (0 : Int64)), (0, .ref 107), (1, .int a1), (2, .int a2), (3, .int a3)]) (by decide +kernel) rfl (Nat.le_of_ble_eq_true rfl) rfl ?_
        refine Gz.iconst (n := 0) (v := (0 : Int32)) (pc' := 42) (by decide +kernel) rfl rfl ?_
        refine Gz.istore (i := 8) (pc' := 44) (L' := [(8, .int (0 : Int32)), (6, .long (0 : Int64)), (4, .long (0 : Int64)), (0, .ref 107), (1, .int a1), (2, .int a2), (3, .int a3)]) (by decide +kernel) rfl (Nat.le_of_ble_eq_true rfl) rfl ?_
        refine Gz.sub (L' := [(0, .ref 107), (1, .int a1), (2, .int a2), (3, .int a3), (4, .long (0 : Int64)), (6, .long (0 : Int64)), (8, .int (0 : Int32))]) [3, 4, 5, 6, 2, 1, 0] rfl ?_
        exact g_M_odds_b44 a1 a2 a3 (0 : Int64) (0 : Int64) (0 : Int32) w10 h
      · have h := zok_t c11 h
        refine Gz.sub (L' := []) [] rfl ?_
        exact g_M_odds_b31 w10 h
def f_M_layFits_b2_s (k2 : Int32 → gW → Option (Unit × gW)) (x1 : Int32) (w : gW) : Option (Unit × gW) :=
if (w.1 107 26) ≤ x1 then
(some ((), w))
else
(if inb x1 16807 then
zb (f_M_live (w.1 118 (ix x1)) w) (fun _ w3 =>
zb (f_M_fits w3) (fun v4 w5 =>
if inb x1 16807 then
zl (zsI w5 130 (ix x1) (v4 &&& 1)) (fun w7 =>
zl (x1 + (1 : Int32)) (fun v9 =>
k2 v9 w7))
else none))
else none)
def f_M_layFits_b2 : Int32 → gW → Option (Unit × gW) := zfx (fun _ _ => none) (f_M_layFits_b2_s) zFU
def f_M_layFits (w : gW) : Option (Unit × gW) :=
f_M_layFits_b2 (0 : Int32) w
theorem g_M_layFits_b2_s {l : Launch} {Q : Option Value → gW → Prop} (k2 : Int32 → gW → Option (Unit × gW)) (hk2 : ∀ (x1 : Int32) (w : gW), zok eV (k2 x1 w) Q → Gz l m_M_layFits 57 2 [(0, .ref 107), (1, .int x1)] [] w Q) (x1 : Int32) (w : gW) (h : zok eV (f_M_layFits_b2_s k2 x1 w) Q) : Gz l m_M_layFits 57 2 [(0, .ref 107), (1, .int x1)] [] w Q := by
  unfold f_M_layFits_b2_s at h
  refine Gz.iload_n (q := 1) (pc' := 3) (by decide +kernel) rfl 1 rfl ?_
  refine Gz.aload_n (q := 0) (pc' := 4) (by decide +kernel) rfl 0 rfl ?_
  refine Gz.getI (pc' := 7) (j := 26) fd_M_224 sh_107 rfl (by decide +kernel) rfl ?_
  refine Gz.icmp_ge (off := 29) (tgt := 36) (pc' := 10) (by decide +kernel) (by decide) rfl (fun c1 => ?_) (fun c1 => ?_)
  · have h := zok_t c1 h
    exact Gz.return_ (by decide +kernel) rfl (zok_sV h)
  · have h := zok_f c1 h
    refine Gz.aload_n (q := 0) (pc' := 11) (by decide +kernel) rfl 0 rfl ?_
    refine Gz.aload_n (q := 0) (pc' := 12) (by decide +kernel) rfl 0 rfl ?_
    refine Gz.getR (pc' := 15) (j := 25) 118 fd_M_44 sh_107 rfl (by decide +kernel) rfl ?_
    refine Gz.iload_n (q := 1) (pc' := 16) (by decide +kernel) rfl 1 rfl ?_
    obtain ⟨c2, h⟩ := zok_c h
    refine Gz.iald (pc' := 17) (n := 16807) (by decide +kernel) rfl rfl c2 ?_
    refine Gz.callVV (st := []) (b := 107) (pc' := 20) [.int (w.1 118 (ix x1))] (g_M_live (w.1 118 (ix x1)) w) h ok_m_M_live lk_M_231 sh_107 rfl rfl rfl (Nat.le_of_ble_eq_true rfl) (Nat.le_of_ble_eq_true rfl) (Nat.le_of_ble_eq_true rfl) (by decide +kernel) rfl (fun _ w3 h => ?_)
    refine Gz.aload_n (q := 0) (pc' := 21) (by decide +kernel) rfl 0 rfl ?_
    refine Gz.getR (pc' := 24) (j := 50) 130 fd_M_81 sh_107 rfl (by decide +kernel) rfl ?_
    refine Gz.iload_n (q := 1) (pc' := 25) (by decide +kernel) rfl 1 rfl ?_
    refine Gz.aload_n (q := 0) (pc' := 26) (by decide +kernel) rfl 0 rfl ?_
    refine Gz.callVI (st := [.int x1, .ref 130]) (b := 107) (pc' := 29) [] (g_M_fits w3) h ok_m_M_fits lk_M_267 sh_107 rfl rfl rfl (Nat.le_of_ble_eq_true rfl) (Nat.le_of_ble_eq_true rfl) (Nat.le_of_ble_eq_true rfl) (by decide +kernel) rfl (fun v4 w5 h => ?_)
    obtain ⟨c6, h⟩ := zok_c h
    refine Gz.zast (pc' := 30) (n := 16807) (by decide +kernel) rfl rfl c6 ?_
    refine Gz.nmW (fun w7 e8 => ?_)
    have h := zok_l e8 h
    obtain ⟨v9, e10⟩ : ∃ y : Int32, y = x1 + (1 : Int32) := ⟨_, rfl⟩
    have h := zok_l e10 h
    refine Gz.iinc (i := 1) (n := 1) (pc' := 33) (L' := [(1, .int v9), (0, .ref 107)]) v9 (by decide +kernel) rfl 1 rfl (by rw [e10]; rfl) (Nat.le_of_ble_eq_true rfl) rfl ?_
    refine Gz.goto (off := -31) (tgt := 2) (by decide +kernel) (by decide) ?_
    refine Gz.sub (L' := [(0, .ref 107), (1, .int v9)]) [1, 0] rfl ?_
    exact hk2 v9 w7 h
theorem g_M_layFits_b2 {l : Launch} {Q : Option Value → gW → Prop} (x1 : Int32) (w : gW) (h : zok eV (f_M_layFits_b2 x1 w) Q) : Gz l m_M_layFits 57 2 [(0, .ref 107), (1, .int x1)] [] w Q := by
  have key : ∀ (n : Nat) (x1 : Int32) (w : gW), zok eV (zfx (fun _ _ => none) (f_M_layFits_b2_s) n x1 w) Q → Gz l m_M_layFits 57 2 [(0, .ref 107), (1, .int x1)] [] w Q := by
    intro n
    induction n with
    | zero => intro x1 w h; exact zok_n h
    | succ n ih => intro x1 w h; exact g_M_layFits_b2_s _ ih x1 w h
  exact key zFU x1 w h
theorem g_M_layFits {l : Launch} (w : gW) : gCt l m_M_layFits 57 [.ref 107] w eV (f_M_layFits w) := by
  intro Q h
  unfold f_M_layFits at h
  show Gz l m_M_layFits 57 0 [(0, .ref 107)] [] w Q
  refine Gz.iconst (n := 0) (v := (0 : Int32)) (pc' := 1) (by decide +kernel) rfl rfl ?_
  refine Gz.istore_n (q := 1) (pc' := 2) (L' := [(1, .int (0 : Int32)), (0, .ref 107)]) (by decide +kernel) rfl (Nat.le_of_ble_eq_true rfl) rfl ?_
  refine Gz.sub (L' := [(0, .ref 107), (1, .int (0 : Int32))]) [1, 0] rfl ?_
  exact g_M_layFits_b2 (0 : Int32) w h
def f_M_question_b119 (k35 : Int32 → Int32 → Int32 → Int32 → gW → Option (Int32 × gW)) (k47 : Int32 → Int32 → Int32 → Int32 → Int32 → gW → Option (Int32 × gW)) (k65 : Int32 → Int32 → Int32 → Int32 → Int32 → Int32 → Int32 → Int32 → gW → Option (Int32 × gW)) (x1 : Int32) (x2 : Int32) (x3 : Int32) (x4 : Int32) (x5 : Int32) (x6 : Int32) (x7 : Int32) (x8 : Int32) (w : gW) : Option (Int32 × gW) :=
zl (x8 + (1 : Int32)) (fun v1 =>
k65 x1 x2 x3 x4 x5 x6 x7 v1 w)
def f_M_question_b171 (k35 : Int32 → Int32 → Int32 → Int32 → gW → Option (Int32 × gW)) (k47 : Int32 → Int32 → Int32 → Int32 → Int32 → gW → Option (Int32 × gW)) (x1 : Int32) (x2 : Int32) (x3 : Int32) (x4 : Int32) (x5 : Int32) (w : gW) : Option (Int32 × gW) :=
zl (x5 + (1 : Int32)) (fun v1 =>
k47 x1 x2 x3 x4 v1 w)
def f_M_question_b154 (k35 : Int32 → Int32 → Int32 → Int32 → gW → Option (Int32 × gW)) (k47 : Int32 → Int32 → Int32 → Int32 → Int32 → gW → Option (Int32 × gW)) (x1 : Int32) (x4 : Int32) (x5 : Int32) (x6 : Int32) (x7 : Int32) (w : gW) : Option (Int32 × gW) :=
zl (((10 : Int32) * x4) + x5) (fun v1 =>
zl (if x6 < x7 then x7 else x6) (fun v3 =>
f_M_question_b171 k35 k47 x1 v1 v3 x4 x5 w))
def f_M_question_b65_s (k35 : Int32 → Int32 → Int32 → Int32 → gW → Option (Int32 × gW)) (k47 : Int32 → Int32 → Int32 → Int32 → Int32 → gW → Option (Int32 × gW)) (k65 : Int32 → Int32 → Int32 → Int32 → Int32 → Int32 → Int32 → Int32 → gW → Option (Int32 × gW)) (x1 : Int32) (x2 : Int32) (x3 : Int32) (x4 : Int32) (x5 : Int32) (x6 : Int32) (x7 : Int32) (x8 : Int32) (w : gW) : Option (Int32 × gW) :=
if (w.1 107 26) ≤ x8 then
(if x6 = 0 then
(f_M_question_b171 k35 k47 x1 x2 x3 x4 x5 w)
else
(if x7 = 0 then
(f_M_question_b171 k35 k47 x1 x2 x3 x4 x5 w)
else
(if x2 = (-1 : Int32) then
(f_M_question_b154 k35 k47 x1 x4 x5 x6 x7 w)
else
(zl (if x6 < x7 then x7 else x6) (fun v5 =>
if v5 < x3 then
(f_M_question_b154 k35 k47 x1 x4 x5 x6 x7 w)
else
(f_M_question_b171 k35 k47 x1 x2 x3 x4 x5 w))))))
else
(if inb x8 16807 then
if (w.1 130 (ix x8)) = 0 then
(f_M_question_b119 k35 k47 k65 x1 x2 x3 x4 x5 x6 x7 x8 w)
else
(if inb x8 16807 then
zb (f_M_live (w.1 118 (ix x8)) w) (fun _ w11 =>
if inb x4 5 then
if x5 < (w11.1 111 (ix x4)) then
(zl (x7 + (1 : Int32)) (fun v14 =>
f_M_question_b119 k35 k47 k65 x1 x2 x3 x4 x5 x6 v14 x8 w11))
else
(zl (x6 + (1 : Int32)) (fun v16 =>
f_M_question_b119 k35 k47 k65 x1 x2 x3 x4 x5 v16 x7 x8 w11))
else none)
else none)
else none)
def f_M_question_b65 (k35 : Int32 → Int32 → Int32 → Int32 → gW → Option (Int32 × gW)) (k47 : Int32 → Int32 → Int32 → Int32 → Int32 → gW → Option (Int32 × gW)) : Int32 → Int32 → Int32 → Int32 → Int32 → Int32 → Int32 → Int32 → gW → Option (Int32 × gW) := zfx (fun _ _ _ _ _ _ _ _ _ => none) (f_M_question_b65_s k35 k47) zFU
def f_M_question_b47_s (k35 : Int32 → Int32 → Int32 → Int32 → gW → Option (Int32 × gW)) (k47 : Int32 → Int32 → Int32 → Int32 → Int32 → gW → Option (Int32 × gW)) (x1 : Int32) (x2 : Int32) (x3 : Int32) (x4 : Int32) (x5 : Int32) (w : gW) : Option (Int32 × gW) :=
if (w.1 107 22) ≤ x5 then
(zl (x4 + (1 : Int32)) (fun v2 =>
k35 x1 x2 x3 v2 w))
else
(f_M_question_b65 k35 k47 x1 x2 x3 x4 x5 (0 : Int32) (0 : Int32) (0 : Int32) w)
def f_M_question_b47 (k35 : Int32 → Int32 → Int32 → Int32 → gW → Option (Int32 × gW)) : Int32 → Int32 → Int32 → Int32 → Int32 → gW → Option (Int32 × gW) := zfx (fun _ _ _ _ _ _ => none) (f_M_question_b47_s k35) zFU
def f_M_question_b35_s (k35 : Int32 → Int32 → Int32 → Int32 → gW → Option (Int32 × gW)) (x1 : Int32) (x2 : Int32) (x3 : Int32) (x4 : Int32) (w : gW) : Option (Int32 × gW) :=
if (w.1 107 21) ≤ x4 then
(if x2 = (-1 : Int32) then
(some ((-1 : Int32), w))
else
(if x1 = 0 then
(some (x2, w))
else
(some (x3, w))))
else
(f_M_question_b47 k35 x1 x2 x3 x4 (0 : Int32) w)
def f_M_question_b35 : Int32 → Int32 → Int32 → Int32 → gW → Option (Int32 × gW) := zfx (fun _ _ _ _ _ => none) (f_M_question_b35_s) zFU
def f_M_question (a1 : Int32) (w : gW) : Option (Int32 × gW) :=
zl (zsI w 107 0 (0 : Int32)) (fun w1 =>
if (w1.1 107 21) = 0 then
(some ((-1 : Int32), w1))
else
(zb (f_M_isIn (a1.toInt64) (0 : Int64) (1 : Int64) w1) (fun v4 w5 =>
if v4 = 0 then
(some ((-1 : Int32), w5))
else
(zb (f_M_layFits w5) (fun _ w7 =>
f_M_question_b35 a1 (-1 : Int32) (0 : Int32) (0 : Int32) w7)))))
theorem g_M_question_b119 {l : Launch} {Q : Option Value → gW → Prop} (k35 : Int32 → Int32 → Int32 → Int32 → gW → Option (Int32 × gW)) (hk35 : ∀ (x1 : Int32) (x2 : Int32) (x3 : Int32) (x4 : Int32) (w : gW), zok eI (k35 x1 x2 x3 x4 w) Q → Gz l m_M_question 58 35 [(0, .ref 107), (1, .int x1), (2, .int x2), (3, .int x3), (4, .int x4)] [] w Q) (k47 : Int32 → Int32 → Int32 → Int32 → Int32 → gW → Option (Int32 × gW)) (hk47 : ∀ (x1 : Int32) (x2 : Int32) (x3 : Int32) (x4 : Int32) (x5 : Int32) (w : gW), zok eI (k47 x1 x2 x3 x4 x5 w) Q → Gz l m_M_question 58 47 [(0, .ref 107), (1, .int x1), (2, .int x2), (3, .int x3), (4, .int x4), (5, .int x5)] [] w Q) (k65 : Int32 → Int32 → Int32 → Int32 → Int32 → Int32 → Int32 → Int32 → gW → Option (Int32 × gW)) (hk65 : ∀ (x1 : Int32) (x2 : Int32) (x3 : Int32) (x4 : Int32) (x5 : Int32) (x6 : Int32) (x7 : Int32) (x8 : Int32) (w : gW), zok eI (k65 x1 x2 x3 x4 x5 x6 x7 x8 w) Q → Gz l m_M_question 58 65 [(0, .ref 107), (1, .int x1), (2, .int x2), (3, .int x3), (4, .int x4), (5, .int x5), (6, .int x6), (7, .int x7), (8, .int x8)] [] w Q) (x1 : Int32) (x2 : Int32) (x3 : Int32) (x4 : Int32) (x5 : Int32) (x6 : Int32) (x7 : Int32) (x8 : Int32) (w : gW) (h : zok eI (f_M_question_b119 k35 k47 k65 x1 x2 x3 x4 x5 x6 x7 x8 w) Q) : Gz l m_M_question 58 119 [(0, .ref 107), (1, .int x1), (2, .int x2), (3, .int x3), (4, .int x4), (5, .int x5), (6, .int x6), (7, .int x7), (8, .int x8)] [] w Q := by
  unfold f_M_question_b119 at h
  obtain ⟨v1, e2⟩ : ∃ y : Int32, y = x8 + (1 : Int32) := ⟨_, rfl⟩
  have h := zok_l e2 h
  refine Gz.iinc (i := 8) (n := 1) (pc' := 122) (L' := [(8, .int v1), (0, .ref 107), (1, .int x1), (2, .int x2), (3, .int x3), (4, .int x4), (5, .int x5), (6, .int x6), (7, .int x7)]) v1 (by decide +kernel) rfl 8 rfl (by rw [e2]; rfl) (Nat.le_of_ble_eq_true rfl) rfl ?_
  refine Gz.goto (off := -57) (tgt := 65) (by decide +kernel) (by decide) ?_
  refine Gz.sub (L' := [(0, .ref 107), (1, .int x1), (2, .int x2), (3, .int x3), (4, .int x4), (5, .int x5), (6, .int x6), (7, .int x7), (8, .int v1)]) [1, 2, 3, 4, 5, 6, 7, 8, 0] rfl ?_
  exact hk65 x1 x2 x3 x4 x5 x6 x7 v1 w h
theorem g_M_question_b171 {l : Launch} {Q : Option Value → gW → Prop} (k35 : Int32 → Int32 → Int32 → Int32 → gW → Option (Int32 × gW)) (hk35 : ∀ (x1 : Int32) (x2 : Int32) (x3 : Int32) (x4 : Int32) (w : gW), zok eI (k35 x1 x2 x3 x4 w) Q → Gz l m_M_question 58 35 [(0, .ref 107), (1, .int x1), (2, .int x2), (3, .int x3), (4, .int x4)] [] w Q) (k47 : Int32 → Int32 → Int32 → Int32 → Int32 → gW → Option (Int32 × gW)) (hk47 : ∀ (x1 : Int32) (x2 : Int32) (x3 : Int32) (x4 : Int32) (x5 : Int32) (w : gW), zok eI (k47 x1 x2 x3 x4 x5 w) Q → Gz l m_M_question 58 47 [(0, .ref 107), (1, .int x1), (2, .int x2), (3, .int x3), (4, .int x4), (5, .int x5)] [] w Q) (x1 : Int32) (x2 : Int32) (x3 : Int32) (x4 : Int32) (x5 : Int32) (w : gW) (h : zok eI (f_M_question_b171 k35 k47 x1 x2 x3 x4 x5 w) Q) : Gz l m_M_question 58 171 [(0, .ref 107), (1, .int x1), (2, .int x2), (3, .int x3), (4, .int x4), (5, .int x5)] [] w Q := by
  unfold f_M_question_b171 at h
  obtain ⟨v1, e2⟩ : ∃ y : Int32, y = x5 + (1 : Int32) := ⟨_, rfl⟩
  have h := zok_l e2 h
  refine Gz.iinc (i := 5) (n := 1) (pc' := 174) (L' := [(5, .int v1), (0, .ref 107), (1, .int x1), (2, .int x2), (3, .int x3), (4, .int x4)]) v1 (by decide +kernel) rfl 5 rfl (by rw [e2]; rfl) (Nat.le_of_ble_eq_true rfl) rfl ?_
  refine Gz.goto (off := -127) (tgt := 47) (by decide +kernel) (by decide) ?_
  refine Gz.sub (L' := [(0, .ref 107), (1, .int x1), (2, .int x2), (3, .int x3), (4, .int x4), (5, .int v1)]) [1, 2, 3, 4, 5, 0] rfl ?_
  exact hk47 x1 x2 x3 x4 v1 w h
theorem g_M_question_b154 {l : Launch} {Q : Option Value → gW → Prop} (k35 : Int32 → Int32 → Int32 → Int32 → gW → Option (Int32 × gW)) (hk35 : ∀ (x1 : Int32) (x2 : Int32) (x3 : Int32) (x4 : Int32) (w : gW), zok eI (k35 x1 x2 x3 x4 w) Q → Gz l m_M_question 58 35 [(0, .ref 107), (1, .int x1), (2, .int x2), (3, .int x3), (4, .int x4)] [] w Q) (k47 : Int32 → Int32 → Int32 → Int32 → Int32 → gW → Option (Int32 × gW)) (hk47 : ∀ (x1 : Int32) (x2 : Int32) (x3 : Int32) (x4 : Int32) (x5 : Int32) (w : gW), zok eI (k47 x1 x2 x3 x4 x5 w) Q → Gz l m_M_question 58 47 [(0, .ref 107), (1, .int x1), (2, .int x2), (3, .int x3), (4, .int x4), (5, .int x5)] [] w Q) (x1 : Int32) (x4 : Int32) (x5 : Int32) (x6 : Int32) (x7 : Int32) (w : gW) (h : zok eI (f_M_question_b154 k35 k47 x1 x4 x5 x6 x7 w) Q) : Gz l m_M_question 58 154 [(0, .ref 107), (1, .int x1), (4, .int x4), (5, .int x5), (6, .int x6), (7, .int x7)] [] w Q := by
  unfold f_M_question_b154 at h
  refine Gz.bipush (n := 10) (v := (10 : Int32)) (pc' := 156) (by decide +kernel) rfl rfl ?_
  refine Gz.iload (i := 4) (pc' := 158) (by decide +kernel) rfl 2 rfl ?_
  refine Gz.imul (pc' := 159) (by decide +kernel) rfl ?_
  refine Gz.iload (i := 5) (pc' := 161) (by decide +kernel) rfl 3 rfl ?_
  refine Gz.iadd (pc' := 162) (by decide +kernel) rfl ?_
  refine Gz.nmI (fun v1 e2 => ?_)
  have h := zok_l e2 h
  refine Gz.istore_n (q := 2) (pc' := 163) (L' := [(2, .int v1), (0, .ref 107), (1, .int x1), (4, .int x4), (5, .int x5), (6, .int x6), (7, .int x7)]) (by decide +kernel) rfl (Nat.le_of_ble_eq_true rfl) rfl ?_
  refine Gz.iload (i := 6) (pc' := 165) (by decide +kernel) rfl 5 rfl ?_
  refine Gz.iload (i := 7) (pc' := 167) (by decide +kernel) rfl 6 rfl ?_
  refine Gz.mmax (pc' := 170) (by decide +kernel) rfl lk_M_344 mmax_s math_i mmax_c (Nat.le_of_ble_eq_true rfl) (Nat.le_of_ble_eq_true rfl) ?_
  refine Gz.nmI (fun v3 e4 => ?_)
  have h := zok_l e4 h
  refine Gz.istore_n (q := 3) (pc' := 171) (L' := [(3, .int v3), (2, .int v1), (0, .ref 107), (1, .int x1), (4, .int x4), (5, .int x5), (6, .int x6), (7, .int x7)]) (by decide +kernel) rfl (Nat.le_of_ble_eq_true rfl) rfl ?_
  refine Gz.sub (L' := [(0, .ref 107), (1, .int x1), (2, .int v1), (3, .int v3), (4, .int x4), (5, .int x5)]) [2, 3, 1, 0, 4, 5] rfl ?_
  exact g_M_question_b171 k35 hk35 k47 hk47 x1 v1 v3 x4 x5 w h
theorem g_M_question_b65_s {l : Launch} {Q : Option Value → gW → Prop} (k35 : Int32 → Int32 → Int32 → Int32 → gW → Option (Int32 × gW)) (hk35 : ∀ (x1 : Int32) (x2 : Int32) (x3 : Int32) (x4 : Int32) (w : gW), zok eI (k35 x1 x2 x3 x4 w) Q → Gz l m_M_question 58 35 [(0, .ref 107), (1, .int x1), (2, .int x2), (3, .int x3), (4, .int x4)] [] w Q) (k47 : Int32 → Int32 → Int32 → Int32 → Int32 → gW → Option (Int32 × gW)) (hk47 : ∀ (x1 : Int32) (x2 : Int32) (x3 : Int32) (x4 : Int32) (x5 : Int32) (w : gW), zok eI (k47 x1 x2 x3 x4 x5 w) Q → Gz l m_M_question 58 47 [(0, .ref 107), (1, .int x1), (2, .int x2), (3, .int x3), (4, .int x4), (5, .int x5)] [] w Q) (k65 : Int32 → Int32 → Int32 → Int32 → Int32 → Int32 → Int32 → Int32 → gW → Option (Int32 × gW)) (hk65 : ∀ (x1 : Int32) (x2 : Int32) (x3 : Int32) (x4 : Int32) (x5 : Int32) (x6 : Int32) (x7 : Int32) (x8 : Int32) (w : gW), zok eI (k65 x1 x2 x3 x4 x5 x6 x7 x8 w) Q → Gz l m_M_question 58 65 [(0, .ref 107), (1, .int x1), (2, .int x2), (3, .int x3), (4, .int x4), (5, .int x5), (6, .int x6), (7, .int x7), (8, .int x8)] [] w Q) (x1 : Int32) (x2 : Int32) (x3 : Int32) (x4 : Int32) (x5 : Int32) (x6 : Int32) (x7 : Int32) (x8 : Int32) (w : gW) (h : zok eI (f_M_question_b65_s k35 k47 k65 x1 x2 x3 x4 x5 x6 x7 x8 w) Q) : Gz l m_M_question 58 65 [(0, .ref 107), (1, .int x1), (2, .int x2), (3, .int x3), (4, .int x4), (5, .int x5), (6, .int x6), (7, .int x7), (8, .int x8)] [] w Q := by
  unfold f_M_question_b65_s at h
  refine Gz.iload (i := 8) (pc' := 67) (by decide +kernel) rfl 8 rfl ?_
  refine Gz.aload_n (q := 0) (pc' := 68) (by decide +kernel) rfl 0 rfl ?_
  refine Gz.getI (pc' := 71) (j := 26) fd_M_224 sh_107 rfl (by decide +kernel) rfl ?_
  refine Gz.icmp_ge (off := 54) (tgt := 125) (pc' := 74) (by decide +kernel) (by decide) rfl (fun c1 => ?_) (fun c1 => ?_)
  · have h := zok_t c1 h
    refine Gz.iload (i := 6) (pc' := 127) (by decide +kernel) rfl 6 rfl ?_
    refine Gz.if_eq (off := 44) (tgt := 171) (pc' := 130) (by decide +kernel) (by decide) rfl (fun c2 => ?_) (fun c2 => ?_)
    · have h := zok_t c2 h
      refine Gz.sub (L' := [(0, .ref 107), (1, .int x1), (2, .int x2), (3, .int x3), (4, .int x4), (5, .int x5)]) [0, 1, 2, 3, 4, 5] rfl ?_
      exact g_M_question_b171 k35 hk35 k47 hk47 x1 x2 x3 x4 x5 w h
    · have h := zok_f c2 h
      refine Gz.iload (i := 7) (pc' := 132) (by decide +kernel) rfl 7 rfl ?_
      refine Gz.if_eq (off := 39) (tgt := 171) (pc' := 135) (by decide +kernel) (by decide) rfl (fun c3 => ?_) (fun c3 => ?_)
      · have h := zok_t c3 h
        refine Gz.sub (L' := [(0, .ref 107), (1, .int x1), (2, .int x2), (3, .int x3), (4, .int x4), (5, .int x5)]) [0, 1, 2, 3, 4, 5] rfl ?_
        exact g_M_question_b171 k35 hk35 k47 hk47 x1 x2 x3 x4 x5 w h
      · have h := zok_f c3 h
        refine Gz.iload_n (q := 2) (pc' := 136) (by decide +kernel) rfl 2 rfl ?_
        refine Gz.iconst (n := -1) (v := (-1 : Int32)) (pc' := 137) (by decide +kernel) rfl rfl ?_
        refine Gz.icmp_eq (off := 17) (tgt := 154) (pc' := 140) (by decide +kernel) (by decide) rfl (fun c4 => ?_) (fun c4 => ?_)
        · have h := zok_t c4 h
          refine Gz.sub (L' := [(0, .ref 107), (1, .int x1), (4, .int x4), (5, .int x5), (6, .int x6), (7, .int x7)]) [0, 1, 4, 5, 6, 7] rfl ?_
          exact g_M_question_b154 k35 hk35 k47 hk47 x1 x4 x5 x6 x7 w h
        · have h := zok_f c4 h
          refine Gz.iload (i := 6) (pc' := 142) (by decide +kernel) rfl 6 rfl ?_
          refine Gz.iload (i := 7) (pc' := 144) (by decide +kernel) rfl 7 rfl ?_
          refine Gz.mmax (pc' := 147) (by decide +kernel) rfl lk_M_344 mmax_s math_i mmax_c (Nat.le_of_ble_eq_true rfl) (Nat.le_of_ble_eq_true rfl) ?_
          refine Gz.nmI (fun v5 e6 => ?_)
          have h := zok_l e6 h
          refine Gz.iload_n (q := 3) (pc' := 148) (by decide +kernel) rfl 3 rfl ?_
          refine Gz.icmp_lt (off := 6) (tgt := 154) (pc' := 151) (by decide +kernel) (by decide) rfl (fun c7 => ?_) (fun c7 => ?_)
          · have h := zok_t c7 h
            refine Gz.sub (L' := [(0, .ref 107), (1, .int x1), (4, .int x4), (5, .int x5), (6, .int x6), (7, .int x7)]) [0, 1, 4, 5, 6, 7] rfl ?_
            exact g_M_question_b154 k35 hk35 k47 hk47 x1 x4 x5 x6 x7 w h
          · have h := zok_f c7 h
            refine Gz.goto (off := 20) (tgt := 171) (by decide +kernel) (by decide) ?_
            refine Gz.sub (L' := [(0, .ref 107), (1, .int x1), (2, .int x2), (3, .int x3), (4, .int x4), (5, .int x5)]) [0, 1, 2, 3, 4, 5] rfl ?_
            exact g_M_question_b171 k35 hk35 k47 hk47 x1 x2 x3 x4 x5 w h
  · have h := zok_f c1 h
    refine Gz.aload_n (q := 0) (pc' := 75) (by decide +kernel) rfl 0 rfl ?_
    refine Gz.getR (pc' := 78) (j := 50) 130 fd_M_81 sh_107 rfl (by decide +kernel) rfl ?_
    refine Gz.iload (i := 8) (pc' := 80) (by decide +kernel) rfl 8 rfl ?_
    obtain ⟨c8, h⟩ := zok_c h
    refine Gz.zald (pc' := 81) (n := 16807) (by decide +kernel) rfl rfl c8 ?_
    refine Gz.if_ne (off := 6) (tgt := 87) (pc' := 84) (by decide +kernel) (by decide) rfl (fun c9 => ?_) (fun c9 => ?_)
    · have h := zok_f c9 h
      refine Gz.aload_n (q := 0) (pc' := 88) (by decide +kernel) rfl 0 rfl ?_
      refine Gz.aload_n (q := 0) (pc' := 89) (by decide +kernel) rfl 0 rfl ?_
      refine Gz.getR (pc' := 92) (j := 25) 118 fd_M_44 sh_107 rfl (by decide +kernel) rfl ?_
      refine Gz.iload (i := 8) (pc' := 94) (by decide +kernel) rfl 8 rfl ?_
      obtain ⟨c10, h⟩ := zok_c h
      refine Gz.iald (pc' := 95) (n := 16807) (by decide +kernel) rfl rfl c10 ?_
      refine Gz.callVV (st := []) (b := 107) (pc' := 98) [.int (w.1 118 (ix x8))] (g_M_live (w.1 118 (ix x8)) w) h ok_m_M_live lk_M_231 sh_107 rfl rfl rfl (Nat.le_of_ble_eq_true rfl) (Nat.le_of_ble_eq_true rfl) (Nat.le_of_ble_eq_true rfl) (by decide +kernel) rfl (fun _ w11 h => ?_)
      refine Gz.aload_n (q := 0) (pc' := 99) (by decide +kernel) rfl 0 rfl ?_
      refine Gz.getR (pc' := 102) (j := 12) 111 fd_M_23 sh_107 rfl (by decide +kernel) rfl ?_
      refine Gz.iload (i := 4) (pc' := 104) (by decide +kernel) rfl 4 rfl ?_
      obtain ⟨c12, h⟩ := zok_c h
      refine Gz.iald (pc' := 105) (n := 5) (by decide +kernel) rfl rfl c12 ?_
      refine Gz.iload (i := 5) (pc' := 107) (by decide +kernel) rfl 5 rfl ?_
      refine Gz.icmp_gt (off := 9) (tgt := 116) (pc' := 110) (by decide +kernel) (by decide) rfl (fun c13 => ?_) (fun c13 => ?_)
      · have h := zok_t c13 h
        obtain ⟨v14, e15⟩ : ∃ y : Int32, y = x7 + (1 : Int32) := ⟨_, rfl⟩
        have h := zok_l e15 h
        refine Gz.iinc (i := 7) (n := 1) (pc' := 119) (L' := [(7, .int v14), (0, .ref 107), (1, .int x1), (2, .int x2), (3, .int x3), (4, .int x4), (5, .int x5), (6, .int x6), (8, .int x8)]) v14 (by decide +kernel) rfl 7 rfl (by rw [e15]; rfl) (Nat.le_of_ble_eq_true rfl) rfl ?_
        refine Gz.sub (L' := [(0, .ref 107), (1, .int x1), (2, .int x2), (3, .int x3), (4, .int x4), (5, .int x5), (6, .int x6), (7, .int v14), (8, .int x8)]) [1, 2, 3, 4, 5, 6, 7, 0, 8] rfl ?_
        exact g_M_question_b119 k35 hk35 k47 hk47 k65 hk65 x1 x2 x3 x4 x5 x6 v14 x8 w11 h
      · have h := zok_f c13 h
        obtain ⟨v16, e17⟩ : ∃ y : Int32, y = x6 + (1 : Int32) := ⟨_, rfl⟩
        have h := zok_l e17 h
        refine Gz.iinc (i := 6) (n := 1) (pc' := 113) (L' := [(6, .int v16), (0, .ref 107), (1, .int x1), (2, .int x2), (3, .int x3), (4, .int x4), (5, .int x5), (7, .int x7), (8, .int x8)]) v16 (by decide +kernel) rfl 6 rfl (by rw [e17]; rfl) (Nat.le_of_ble_eq_true rfl) rfl ?_
        refine Gz.goto (off := 6) (tgt := 119) (by decide +kernel) (by decide) ?_
        refine Gz.sub (L' := [(0, .ref 107), (1, .int x1), (2, .int x2), (3, .int x3), (4, .int x4), (5, .int x5), (6, .int v16), (7, .int x7), (8, .int x8)]) [1, 2, 3, 4, 5, 6, 0, 7, 8] rfl ?_
        exact g_M_question_b119 k35 hk35 k47 hk47 k65 hk65 x1 x2 x3 x4 x5 v16 x7 x8 w11 h
    · have h := zok_t c9 h
      refine Gz.goto (off := 35) (tgt := 119) (by decide +kernel) (by decide) ?_
      exact g_M_question_b119 k35 hk35 k47 hk47 k65 hk65 x1 x2 x3 x4 x5 x6 x7 x8 w h
theorem g_M_question_b65 {l : Launch} {Q : Option Value → gW → Prop} (k35 : Int32 → Int32 → Int32 → Int32 → gW → Option (Int32 × gW)) (hk35 : ∀ (x1 : Int32) (x2 : Int32) (x3 : Int32) (x4 : Int32) (w : gW), zok eI (k35 x1 x2 x3 x4 w) Q → Gz l m_M_question 58 35 [(0, .ref 107), (1, .int x1), (2, .int x2), (3, .int x3), (4, .int x4)] [] w Q) (k47 : Int32 → Int32 → Int32 → Int32 → Int32 → gW → Option (Int32 × gW)) (hk47 : ∀ (x1 : Int32) (x2 : Int32) (x3 : Int32) (x4 : Int32) (x5 : Int32) (w : gW), zok eI (k47 x1 x2 x3 x4 x5 w) Q → Gz l m_M_question 58 47 [(0, .ref 107), (1, .int x1), (2, .int x2), (3, .int x3), (4, .int x4), (5, .int x5)] [] w Q) (x1 : Int32) (x2 : Int32) (x3 : Int32) (x4 : Int32) (x5 : Int32) (x6 : Int32) (x7 : Int32) (x8 : Int32) (w : gW) (h : zok eI (f_M_question_b65 k35 k47 x1 x2 x3 x4 x5 x6 x7 x8 w) Q) : Gz l m_M_question 58 65 [(0, .ref 107), (1, .int x1), (2, .int x2), (3, .int x3), (4, .int x4), (5, .int x5), (6, .int x6), (7, .int x7), (8, .int x8)] [] w Q := by
  have key : ∀ (n : Nat) (x1 : Int32) (x2 : Int32) (x3 : Int32) (x4 : Int32) (x5 : Int32) (x6 : Int32) (x7 : Int32) (x8 : Int32) (w : gW), zok eI (zfx (fun _ _ _ _ _ _ _ _ _ => none) (f_M_question_b65_s k35 k47) n x1 x2 x3 x4 x5 x6 x7 x8 w) Q → Gz l m_M_question 58 65 [(0, .ref 107), (1, .int x1), (2, .int x2), (3, .int x3), (4, .int x4), (5, .int x5), (6, .int x6), (7, .int x7), (8, .int x8)] [] w Q := by
    intro n
    induction n with
    | zero => intro x1 x2 x3 x4 x5 x6 x7 x8 w h; exact zok_n h
    | succ n ih => intro x1 x2 x3 x4 x5 x6 x7 x8 w h; exact g_M_question_b65_s k35 hk35 k47 hk47 _ ih x1 x2 x3 x4 x5 x6 x7 x8 w h
  exact key zFU x1 x2 x3 x4 x5 x6 x7 x8 w h
theorem g_M_question_b47_s {l : Launch} {Q : Option Value → gW → Prop} (k35 : Int32 → Int32 → Int32 → Int32 → gW → Option (Int32 × gW)) (hk35 : ∀ (x1 : Int32) (x2 : Int32) (x3 : Int32) (x4 : Int32) (w : gW), zok eI (k35 x1 x2 x3 x4 w) Q → Gz l m_M_question 58 35 [(0, .ref 107), (1, .int x1), (2, .int x2), (3, .int x3), (4, .int x4)] [] w Q) (k47 : Int32 → Int32 → Int32 → Int32 → Int32 → gW → Option (Int32 × gW)) (hk47 : ∀ (x1 : Int32) (x2 : Int32) (x3 : Int32) (x4 : Int32) (x5 : Int32) (w : gW), zok eI (k47 x1 x2 x3 x4 x5 w) Q → Gz l m_M_question 58 47 [(0, .ref 107), (1, .int x1), (2, .int x2), (3, .int x3), (4, .int x4), (5, .int x5)] [] w Q) (x1 : Int32) (x2 : Int32) (x3 : Int32) (x4 : Int32) (x5 : Int32) (w : gW) (h : zok eI (f_M_question_b47_s k35 k47 x1 x2 x3 x4 x5 w) Q) : Gz l m_M_question 58 47 [(0, .ref 107), (1, .int x1), (2, .int x2), (3, .int x3), (4, .int x4), (5, .int x5)] [] w Q := by
  unfold f_M_question_b47_s at h
  refine Gz.iload (i := 5) (pc' := 49) (by decide +kernel) rfl 5 rfl ?_
  refine Gz.aload_n (q := 0) (pc' := 50) (by decide +kernel) rfl 0 rfl ?_
  refine Gz.getI (pc' := 53) (j := 22) fd_M_208 sh_107 rfl (by decide +kernel) rfl ?_
  refine Gz.icmp_ge (off := 124) (tgt := 177) (pc' := 56) (by decide +kernel) (by decide) rfl (fun c1 => ?_) (fun c1 => ?_)
  · have h := zok_t c1 h
    obtain ⟨v2, e3⟩ : ∃ y : Int32, y = x4 + (1 : Int32) := ⟨_, rfl⟩
    have h := zok_l e3 h
    refine Gz.iinc (i := 4) (n := 1) (pc' := 180) (L' := [(4, .int v2), (0, .ref 107), (1, .int x1), (2, .int x2), (3, .int x3), (5, .int x5)]) v2 (by decide +kernel) rfl 4 rfl (by rw [e3]; rfl) (Nat.le_of_ble_eq_true rfl) rfl ?_
    refine Gz.goto (off := -145) (tgt := 35) (by decide +kernel) (by decide) ?_
    refine Gz.sub (L' := [(0, .ref 107), (1, .int x1), (2, .int x2), (3, .int x3), (4, .int v2)]) [1, 2, 3, 4, 0] rfl ?_
    exact hk35 x1 x2 x3 v2 w h
  · have h := zok_f c1 h
    refine Gz.iconst (n := 0) (v := (0 : Int32)) (pc' := 57) (by decide +kernel) rfl rfl ?_
    refine Gz.istore (i := 6) (pc' := 59) (L' := [(6, .int (0 : Int32)), (0, .ref 107), (1, .int x1), (2, .int x2), (3, .int x3), (4, .int x4), (5, .int x5)]) (by decide +kernel) rfl (Nat.le_of_ble_eq_true rfl) rfl ?_
    refine Gz.iconst (n := 0) (v := (0 : Int32)) (pc' := 60) (by decide +kernel) rfl rfl ?_
    refine Gz.istore (i := 7) (pc' := 62) (L' := [(7, .int (0 : Int32)), (6, .int (0 : Int32)), (0, .ref 107), (1, .int x1), (2, .int x2), (3, .int x3), (4, .int x4), (5, .int x5)]) (by decide +kernel) rfl (Nat.le_of_ble_eq_true rfl) rfl ?_
    refine Gz.iconst (n := 0) (v := (0 : Int32)) (pc' := 63) (by decide +kernel) rfl rfl ?_
    refine Gz.istore (i := 8) (pc' := 65) (L' := [(8, .int (0 : Int32)), (7, .int (0 : Int32)), (6, .int (0 : Int32)), (0, .ref 107), (1, .int x1), (2, .int x2), (3, .int x3), (4, .int x4), (5, .int x5)]) (by decide +kernel) rfl (Nat.le_of_ble_eq_true rfl) rfl ?_
    refine Gz.sub (L' := [(0, .ref 107), (1, .int x1), (2, .int x2), (3, .int x3), (4, .int x4), (5, .int x5), (6, .int (0 : Int32)), (7, .int (0 : Int32)), (8, .int (0 : Int32))]) [3, 4, 5, 6, 7, 8, 2, 1, 0] rfl ?_
    exact g_M_question_b65 k35 hk35 k47 hk47 x1 x2 x3 x4 x5 (0 : Int32) (0 : Int32) (0 : Int32) w h
theorem g_M_question_b47 {l : Launch} {Q : Option Value → gW → Prop} (k35 : Int32 → Int32 → Int32 → Int32 → gW → Option (Int32 × gW)) (hk35 : ∀ (x1 : Int32) (x2 : Int32) (x3 : Int32) (x4 : Int32) (w : gW), zok eI (k35 x1 x2 x3 x4 w) Q → Gz l m_M_question 58 35 [(0, .ref 107), (1, .int x1), (2, .int x2), (3, .int x3), (4, .int x4)] [] w Q) (x1 : Int32) (x2 : Int32) (x3 : Int32) (x4 : Int32) (x5 : Int32) (w : gW) (h : zok eI (f_M_question_b47 k35 x1 x2 x3 x4 x5 w) Q) : Gz l m_M_question 58 47 [(0, .ref 107), (1, .int x1), (2, .int x2), (3, .int x3), (4, .int x4), (5, .int x5)] [] w Q := by
  have key : ∀ (n : Nat) (x1 : Int32) (x2 : Int32) (x3 : Int32) (x4 : Int32) (x5 : Int32) (w : gW), zok eI (zfx (fun _ _ _ _ _ _ => none) (f_M_question_b47_s k35) n x1 x2 x3 x4 x5 w) Q → Gz l m_M_question 58 47 [(0, .ref 107), (1, .int x1), (2, .int x2), (3, .int x3), (4, .int x4), (5, .int x5)] [] w Q := by
    intro n
    induction n with
    | zero => intro x1 x2 x3 x4 x5 w h; exact zok_n h
    | succ n ih => intro x1 x2 x3 x4 x5 w h; exact g_M_question_b47_s k35 hk35 _ ih x1 x2 x3 x4 x5 w h
  exact key zFU x1 x2 x3 x4 x5 w h
theorem g_M_question_b35_s {l : Launch} {Q : Option Value → gW → Prop} (k35 : Int32 → Int32 → Int32 → Int32 → gW → Option (Int32 × gW)) (hk35 : ∀ (x1 : Int32) (x2 : Int32) (x3 : Int32) (x4 : Int32) (w : gW), zok eI (k35 x1 x2 x3 x4 w) Q → Gz l m_M_question 58 35 [(0, .ref 107), (1, .int x1), (2, .int x2), (3, .int x3), (4, .int x4)] [] w Q) (x1 : Int32) (x2 : Int32) (x3 : Int32) (x4 : Int32) (w : gW) (h : zok eI (f_M_question_b35_s k35 x1 x2 x3 x4 w) Q) : Gz l m_M_question 58 35 [(0, .ref 107), (1, .int x1), (2, .int x2), (3, .int x3), (4, .int x4)] [] w Q := by
  unfold f_M_question_b35_s at h
  refine Gz.iload (i := 4) (pc' := 37) (by decide +kernel) rfl 4 rfl ?_
  refine Gz.aload_n (q := 0) (pc' := 38) (by decide +kernel) rfl 0 rfl ?_
  refine Gz.getI (pc' := 41) (j := 21) fd_M_141 sh_107 rfl (by decide +kernel) rfl ?_
  refine Gz.icmp_ge (off := 142) (tgt := 183) (pc' := 44) (by decide +kernel) (by decide) rfl (fun c1 => ?_) (fun c1 => ?_)
  · have h := zok_t c1 h
    refine Gz.iload_n (q := 2) (pc' := 184) (by decide +kernel) rfl 2 rfl ?_
    refine Gz.iconst (n := -1) (v := (-1 : Int32)) (pc' := 185) (by decide +kernel) rfl rfl ?_
    refine Gz.icmp_ne (off := 7) (tgt := 192) (pc' := 188) (by decide +kernel) (by decide) rfl (fun c2 => ?_) (fun c2 => ?_)
    · have h := zok_f c2 h
      refine Gz.iload_n (q := 1) (pc' := 193) (by decide +kernel) rfl 1 rfl ?_
      refine Gz.if_ne (off := 7) (tgt := 200) (pc' := 196) (by decide +kernel) (by decide) rfl (fun c3 => ?_) (fun c3 => ?_)
      · have h := zok_f c3 h
        refine Gz.iload_n (q := 3) (pc' := 201) (by decide +kernel) rfl 3 rfl ?_
        exact Gz.ireturn (by decide +kernel) rfl (zok_sI h)
      · have h := zok_t c3 h
        refine Gz.iload_n (q := 2) (pc' := 197) (by decide +kernel) rfl 2 rfl ?_
        refine Gz.goto (off := 4) (tgt := 201) (by decide +kernel) (by decide) ?_
        exact Gz.ireturn (by decide +kernel) rfl (zok_sI h)
    · have h := zok_t c2 h
      refine Gz.iconst (n := -1) (v := (-1 : Int32)) (pc' := 189) (by decide +kernel) rfl rfl ?_
      refine Gz.goto (off := 12) (tgt := 201) (by decide +kernel) (by decide) ?_
      exact Gz.ireturn (by decide +kernel) rfl (zok_sI h)
  · have h := zok_f c1 h
    refine Gz.iconst (n := 0) (v := (0 : Int32)) (pc' := 45) (by decide +kernel) rfl rfl ?_
    refine Gz.istore (i := 5) (pc' := 47) (L' := [(5, .int (0 : Int32)), (0, .ref 107), (1, .int x1), (2, .int x2), (3, .int x3), (4, .int x4)]) (by decide +kernel) rfl (Nat.le_of_ble_eq_true rfl) rfl ?_
    refine Gz.sub (L' := [(0, .ref 107), (1, .int x1), (2, .int x2), (3, .int x3), (4, .int x4), (5, .int (0 : Int32))]) [1, 2, 3, 4, 5, 0] rfl ?_
    exact g_M_question_b47 k35 hk35 x1 x2 x3 x4 (0 : Int32) w h
theorem g_M_question_b35 {l : Launch} {Q : Option Value → gW → Prop} (x1 : Int32) (x2 : Int32) (x3 : Int32) (x4 : Int32) (w : gW) (h : zok eI (f_M_question_b35 x1 x2 x3 x4 w) Q) : Gz l m_M_question 58 35 [(0, .ref 107), (1, .int x1), (2, .int x2), (3, .int x3), (4, .int x4)] [] w Q := by
  have key : ∀ (n : Nat) (x1 : Int32) (x2 : Int32) (x3 : Int32) (x4 : Int32) (w : gW), zok eI (zfx (fun _ _ _ _ _ => none) (f_M_question_b35_s) n x1 x2 x3 x4 w) Q → Gz l m_M_question 58 35 [(0, .ref 107), (1, .int x1), (2, .int x2), (3, .int x3), (4, .int x4)] [] w Q := by
    intro n
    induction n with
    | zero => intro x1 x2 x3 x4 w h; exact zok_n h
    | succ n ih => intro x1 x2 x3 x4 w h; exact g_M_question_b35_s _ ih x1 x2 x3 x4 w h
  exact key zFU x1 x2 x3 x4 w h
theorem g_M_question {l : Launch} (a1 : Int32) (w : gW) : gCt l m_M_question 58 [.ref 107, .int a1] w eI (f_M_question a1 w) := by
  intro Q h
  unfold f_M_question at h
  show Gz l m_M_question 58 0 [(0, .ref 107), (1, .int a1)] [] w Q
  refine Gz.aload_n (q := 0) (pc' := 1) (by decide +kernel) rfl 0 rfl ?_
  refine Gz.iconst (n := 0) (v := (0 : Int32)) (pc' := 2) (by decide +kernel) rfl rfl ?_
  refine Gz.putI (pc' := 5) (j := 0) fd_M_96 sh_107 rfl (by decide +kernel) rfl ?_
  refine Gz.nmW (fun w1 e2 => ?_)
  have h := zok_l e2 h
  refine Gz.aload_n (q := 0) (pc' := 6) (by decide +kernel) rfl 0 rfl ?_
  refine Gz.getI (pc' := 9) (j := 21) fd_M_141 sh_107 rfl (by decide +kernel) rfl ?_
  refine Gz.if_eq (off := 13) (tgt := 22) (pc' := 12) (by decide +kernel) (by decide) rfl (fun c3 => ?_) (fun c3 => ?_)
  · have h := zok_t c3 h
    refine Gz.iconst (n := -1) (v := (-1 : Int32)) (pc' := 23) (by decide +kernel) rfl rfl ?_
    exact Gz.ireturn (by decide +kernel) rfl (zok_sI h)
  · have h := zok_f c3 h
    refine Gz.iload_n (q := 1) (pc' := 13) (by decide +kernel) rfl 1 rfl ?_
    refine Gz.i2l (pc' := 14) (by decide +kernel) rfl ?_
    refine Gz.lconst (n := 0) (v := (0 : Int64)) (pc' := 15) (by decide +kernel) rfl rfl ?_
    refine Gz.lconst (n := 1) (v := (1 : Int64)) (pc' := 16) (by decide +kernel) rfl rfl ?_
    refine Gz.callSI (st := []) (pc' := 19) [.long (a1.toInt64), .long (0 : Int64), .long (1 : Int64)] (g_M_isIn (a1.toInt64) (0 : Int64) (1 : Int64) w1) h ok_m_M_isIn lk_M_137 rfl (Nat.le_of_ble_eq_true rfl) (Nat.le_of_ble_eq_true rfl) (Nat.le_of_ble_eq_true rfl) (by decide +kernel) rfl (fun v4 w5 h => ?_)
    refine Gz.if_ne (off := 5) (tgt := 24) (pc' := 22) (by decide +kernel) (by decide) rfl (fun c6 => ?_) (fun c6 => ?_)
    · have h := zok_f c6 h
      refine Gz.aload_n (q := 0) (pc' := 25) (by decide +kernel) rfl 0 rfl ?_
      refine Gz.callVV (st := []) (b := 107) (pc' := 28) [] (g_M_layFits w5) h ok_m_M_layFits lk_M_341 sh_107 rfl rfl rfl (Nat.le_of_ble_eq_true rfl) (Nat.le_of_ble_eq_true rfl) (Nat.le_of_ble_eq_true rfl) (by decide +kernel) rfl (fun _ w7 h => ?_)
      refine Gz.iconst (n := -1) (v := (-1 : Int32)) (pc' := 29) (by decide +kernel) rfl rfl ?_
      refine Gz.istore_n (q := 2) (pc' := 30) (L' := [(2, .int (-1 : Int32)), (0, .ref 107), (1, .int a1)]) (by decide +kernel) rfl (Nat.le_of_ble_eq_true rfl) rfl ?_
      refine Gz.iconst (n := 0) (v := (0 : Int32)) (pc' := 31) (by decide +kernel) rfl rfl ?_
      refine Gz.istore_n (q := 3) (pc' := 32) (L' := [(3, .int (0 : Int32)), (2, .int (-1 : Int32)), (0, .ref 107), (1, .int a1)]) (by decide +kernel) rfl (Nat.le_of_ble_eq_true rfl) rfl ?_
      refine Gz.iconst (n := 0) (v := (0 : Int32)) (pc' := 33) (by decide +kernel) rfl rfl ?_
      refine Gz.istore (i := 4) (pc' := 35) (L' := [(4, .int (0 : Int32)), (3, .int (0 : Int32)), (2, .int (-1 : Int32)), (0, .ref 107), (1, .int a1)]) (by decide +kernel) rfl (Nat.le_of_ble_eq_true rfl) rfl ?_
      refine Gz.sub (L' := [(0, .ref 107), (1, .int a1), (2, .int (-1 : Int32)), (3, .int (0 : Int32)), (4, .int (0 : Int32))]) [3, 4, 2, 1, 0] rfl ?_
      exact g_M_question_b35 a1 (-1 : Int32) (0 : Int32) (0 : Int32) w7 h
    · have h := zok_t c6 h
      refine Gz.iconst (n := -1) (v := (-1 : Int32)) (pc' := 23) (by decide +kernel) rfl rfl ?_
      exact Gz.ireturn (by decide +kernel) rfl (zok_sI h)
def f_M_settled_b83 (k31 : Int32 → Int32 → Int32 → Int32 → Int32 → gW → Option (Int32 × gW)) (x1 : Int32) (x2 : Int32) (x3 : Int32) (x4 : Int32) (x5 : Int32) (w : gW) : Option (Int32 × gW) :=
zl (x5 + (1 : Int32)) (fun v1 =>
k31 x1 x2 x3 x4 v1 w)
def f_M_settled_b31_s (k31 : Int32 → Int32 → Int32 → Int32 → Int32 → gW → Option (Int32 × gW)) (x1 : Int32) (x2 : Int32) (x3 : Int32) (x4 : Int32) (x5 : Int32) (w : gW) : Option (Int32 × gW) :=
if (w.1 107 26) ≤ x5 then
(if (x3 + x4) = 0 then
(some ((-1 : Int32), w))
else
(if x4 = 0 then
(some ((1 : Int32), w))
else
(if x3 = 0 then
(some ((0 : Int32), w))
else
(some ((2 : Int32), w)))))
else
(if inb x5 16807 then
zb (f_M_live (w.1 118 (ix x5)) w) (fun _ w6 =>
zb (f_M_fits w6) (fun v7 w8 =>
if v7 = 0 then
(f_M_settled_b83 k31 x1 x2 x3 x4 x5 w8)
else
(zb (f_M_all w8) (fun v10 w11 =>
zb (f_M_keeps x1 x2 v10 w11) (fun v12 w13 =>
if v12 = 0 then
(zl (x4 + (1 : Int32)) (fun v15 =>
f_M_settled_b83 k31 x1 x2 x3 v15 x5 w13))
else
(zl (x3 + (1 : Int32)) (fun v17 =>
f_M_settled_b83 k31 x1 x2 v17 x4 x5 w13)))))))
else none)
def f_M_settled_b31 : Int32 → Int32 → Int32 → Int32 → Int32 → gW → Option (Int32 × gW) := zfx (fun _ _ _ _ _ _ => none) (f_M_settled_b31_s) zFU
def f_M_settled (a1 : Int32) (a2 : Int32) (w : gW) : Option (Int32 × gW) :=
zl (zsI w 107 0 (0 : Int32)) (fun w1 =>
zb (f_M_isOath a1 w1) (fun v3 w4 =>
if v3 = 0 then
(some ((-1 : Int32), w4))
else
(zb (f_M_isSeenDay a2 w4) (fun v6 w7 =>
if v6 = 0 then
(some ((-1 : Int32), w7))
else
(f_M_settled_b31 a1 a2 (0 : Int32) (0 : Int32) (0 : Int32) w7)))))
theorem g_M_settled_b83 {l : Launch} {Q : Option Value → gW → Prop} (k31 : Int32 → Int32 → Int32 → Int32 → Int32 → gW → Option (Int32 × gW)) (hk31 : ∀ (x1 : Int32) (x2 : Int32) (x3 : Int32) (x4 : Int32) (x5 : Int32) (w : gW), zok eI (k31 x1 x2 x3 x4 x5 w) Q → Gz l m_M_settled 57 31 [(0, .ref 107), (1, .int x1), (2, .int x2), (3, .int x3), (4, .int x4), (5, .int x5)] [] w Q) (x1 : Int32) (x2 : Int32) (x3 : Int32) (x4 : Int32) (x5 : Int32) (w : gW) (h : zok eI (f_M_settled_b83 k31 x1 x2 x3 x4 x5 w) Q) : Gz l m_M_settled 57 83 [(0, .ref 107), (1, .int x1), (2, .int x2), (3, .int x3), (4, .int x4), (5, .int x5)] [] w Q := by
  unfold f_M_settled_b83 at h
  obtain ⟨v1, e2⟩ : ∃ y : Int32, y = x5 + (1 : Int32) := ⟨_, rfl⟩
  have h := zok_l e2 h
  refine Gz.iinc (i := 5) (n := 1) (pc' := 86) (L' := [(5, .int v1), (0, .ref 107), (1, .int x1), (2, .int x2), (3, .int x3), (4, .int x4)]) v1 (by decide +kernel) rfl 5 rfl (by rw [e2]; rfl) (Nat.le_of_ble_eq_true rfl) rfl ?_
  refine Gz.goto (off := -55) (tgt := 31) (by decide +kernel) (by decide) ?_
  refine Gz.sub (L' := [(0, .ref 107), (1, .int x1), (2, .int x2), (3, .int x3), (4, .int x4), (5, .int v1)]) [1, 2, 3, 4, 5, 0] rfl ?_
  exact hk31 x1 x2 x3 x4 v1 w h
theorem g_M_settled_b31_s {l : Launch} {Q : Option Value → gW → Prop} (k31 : Int32 → Int32 → Int32 → Int32 → Int32 → gW → Option (Int32 × gW)) (hk31 : ∀ (x1 : Int32) (x2 : Int32) (x3 : Int32) (x4 : Int32) (x5 : Int32) (w : gW), zok eI (k31 x1 x2 x3 x4 x5 w) Q → Gz l m_M_settled 57 31 [(0, .ref 107), (1, .int x1), (2, .int x2), (3, .int x3), (4, .int x4), (5, .int x5)] [] w Q) (x1 : Int32) (x2 : Int32) (x3 : Int32) (x4 : Int32) (x5 : Int32) (w : gW) (h : zok eI (f_M_settled_b31_s k31 x1 x2 x3 x4 x5 w) Q) : Gz l m_M_settled 57 31 [(0, .ref 107), (1, .int x1), (2, .int x2), (3, .int x3), (4, .int x4), (5, .int x5)] [] w Q := by
  unfold f_M_settled_b31_s at h
  refine Gz.iload (i := 5) (pc' := 33) (by decide +kernel) rfl 5 rfl ?_
  refine Gz.aload_n (q := 0) (pc' := 34) (by decide +kernel) rfl 0 rfl ?_
  refine Gz.getI (pc' := 37) (j := 26) fd_M_224 sh_107 rfl (by decide +kernel) rfl ?_
  refine Gz.icmp_ge (off := 52) (tgt := 89) (pc' := 40) (by decide +kernel) (by decide) rfl (fun c1 => ?_) (fun c1 => ?_)
  · have h := zok_t c1 h
    refine Gz.iload_n (q := 3) (pc' := 90) (by decide +kernel) rfl 3 rfl ?_
    refine Gz.iload (i := 4) (pc' := 92) (by decide +kernel) rfl 4 rfl ?_
    refine Gz.iadd (pc' := 93) (by decide +kernel) rfl ?_
    refine Gz.if_ne (off := 7) (tgt := 100) (pc' := 96) (by decide +kernel) (by decide) rfl (fun c2 => ?_) (fun c2 => ?_)
    · have h := zok_f c2 h
      refine Gz.iload (i := 4) (pc' := 102) (by decide +kernel) rfl 4 rfl ?_
      refine Gz.if_ne (off := 7) (tgt := 109) (pc' := 105) (by decide +kernel) (by decide) rfl (fun c3 => ?_) (fun c3 => ?_)
      · have h := zok_f c3 h
        refine Gz.iload_n (q := 3) (pc' := 110) (by decide +kernel) rfl 3 rfl ?_
        refine Gz.if_ne (off := 7) (tgt := 117) (pc' := 113) (by decide +kernel) (by decide) rfl (fun c4 => ?_) (fun c4 => ?_)
        · have h := zok_f c4 h
          refine Gz.iconst (n := 2) (v := (2 : Int32)) (pc' := 118) (by decide +kernel) rfl rfl ?_
          exact Gz.ireturn (by decide +kernel) rfl (zok_sI h)
        · have h := zok_t c4 h
          refine Gz.iconst (n := 0) (v := (0 : Int32)) (pc' := 114) (by decide +kernel) rfl rfl ?_
          refine Gz.goto (off := 4) (tgt := 118) (by decide +kernel) (by decide) ?_
          exact Gz.ireturn (by decide +kernel) rfl (zok_sI h)
      · have h := zok_t c3 h
        refine Gz.iconst (n := 1) (v := (1 : Int32)) (pc' := 106) (by decide +kernel) rfl rfl ?_
        refine Gz.goto (off := 12) (tgt := 118) (by decide +kernel) (by decide) ?_
        exact Gz.ireturn (by decide +kernel) rfl (zok_sI h)
    · have h := zok_t c2 h
      refine Gz.iconst (n := -1) (v := (-1 : Int32)) (pc' := 97) (by decide +kernel) rfl rfl ?_
      refine Gz.goto (off := 21) (tgt := 118) (by decide +kernel) (by decide) ?_
      exact Gz.ireturn (by decide +kernel) rfl (zok_sI h)
  · have h := zok_f c1 h
    refine Gz.aload_n (q := 0) (pc' := 41) (by decide +kernel) rfl 0 rfl ?_
    refine Gz.aload_n (q := 0) (pc' := 42) (by decide +kernel) rfl 0 rfl ?_
    refine Gz.getR (pc' := 45) (j := 25) 118 fd_M_44 sh_107 rfl (by decide +kernel) rfl ?_
    refine Gz.iload (i := 5) (pc' := 47) (by decide +kernel) rfl 5 rfl ?_
    obtain ⟨c5, h⟩ := zok_c h
    refine Gz.iald (pc' := 48) (n := 16807) (by decide +kernel) rfl rfl c5 ?_
    refine Gz.callVV (st := []) (b := 107) (pc' := 51) [.int (w.1 118 (ix x5))] (g_M_live (w.1 118 (ix x5)) w) h ok_m_M_live lk_M_231 sh_107 rfl rfl rfl (Nat.le_of_ble_eq_true rfl) (Nat.le_of_ble_eq_true rfl) (Nat.le_of_ble_eq_true rfl) (by decide +kernel) rfl (fun _ w6 h => ?_)
    refine Gz.aload_n (q := 0) (pc' := 52) (by decide +kernel) rfl 0 rfl ?_
    refine Gz.callVI (st := []) (b := 107) (pc' := 55) [] (g_M_fits w6) h ok_m_M_fits lk_M_267 sh_107 rfl rfl rfl (Nat.le_of_ble_eq_true rfl) (Nat.le_of_ble_eq_true rfl) (Nat.le_of_ble_eq_true rfl) (by decide +kernel) rfl (fun v7 w8 h => ?_)
    refine Gz.if_ne (off := 6) (tgt := 61) (pc' := 58) (by decide +kernel) (by decide) rfl (fun c9 => ?_) (fun c9 => ?_)
    · have h := zok_f c9 h
      refine Gz.aload_n (q := 0) (pc' := 62) (by decide +kernel) rfl 0 rfl ?_
      refine Gz.iload_n (q := 1) (pc' := 63) (by decide +kernel) rfl 1 rfl ?_
      refine Gz.iload_n (q := 2) (pc' := 64) (by decide +kernel) rfl 2 rfl ?_
      refine Gz.aload_n (q := 0) (pc' := 65) (by decide +kernel) rfl 0 rfl ?_
      refine Gz.callVI (st := [.int x2, .int x1, .ref 107]) (b := 107) (pc' := 68) [] (g_M_all w8) h ok_m_M_all lk_M_261 sh_107 rfl rfl rfl (Nat.le_of_ble_eq_true rfl) (Nat.le_of_ble_eq_true rfl) (Nat.le_of_ble_eq_true rfl) (by decide +kernel) rfl (fun v10 w11 h => ?_)
      refine Gz.callVI (st := []) (b := 107) (pc' := 71) [.int x1, .int x2, .int v10] (g_M_keeps x1 x2 v10 w11) h ok_m_M_keeps lk_M_254 sh_107 rfl rfl rfl (Nat.le_of_ble_eq_true rfl) (Nat.le_of_ble_eq_true rfl) (Nat.le_of_ble_eq_true rfl) (by decide +kernel) rfl (fun v12 w13 h => ?_)
      refine Gz.if_eq (off := 9) (tgt := 80) (pc' := 74) (by decide +kernel) (by decide) rfl (fun c14 => ?_) (fun c14 => ?_)
      · have h := zok_t c14 h
        obtain ⟨v15, e16⟩ : ∃ y : Int32, y = x4 + (1 : Int32) := ⟨_, rfl⟩
        have h := zok_l e16 h
        refine Gz.iinc (i := 4) (n := 1) (pc' := 83) (L' := [(4, .int v15), (0, .ref 107), (1, .int x1), (2, .int x2), (3, .int x3), (5, .int x5)]) v15 (by decide +kernel) rfl 4 rfl (by rw [e16]; rfl) (Nat.le_of_ble_eq_true rfl) rfl ?_
        refine Gz.sub (L' := [(0, .ref 107), (1, .int x1), (2, .int x2), (3, .int x3), (4, .int v15), (5, .int x5)]) [1, 2, 3, 4, 0, 5] rfl ?_
        exact g_M_settled_b83 k31 hk31 x1 x2 x3 v15 x5 w13 h
      · have h := zok_f c14 h
        obtain ⟨v17, e18⟩ : ∃ y : Int32, y = x3 + (1 : Int32) := ⟨_, rfl⟩
        have h := zok_l e18 h
        refine Gz.iinc (i := 3) (n := 1) (pc' := 77) (L' := [(3, .int v17), (0, .ref 107), (1, .int x1), (2, .int x2), (4, .int x4), (5, .int x5)]) v17 (by decide +kernel) rfl 3 rfl (by rw [e18]; rfl) (Nat.le_of_ble_eq_true rfl) rfl ?_
        refine Gz.goto (off := 6) (tgt := 83) (by decide +kernel) (by decide) ?_
        refine Gz.sub (L' := [(0, .ref 107), (1, .int x1), (2, .int x2), (3, .int v17), (4, .int x4), (5, .int x5)]) [1, 2, 3, 0, 4, 5] rfl ?_
        exact g_M_settled_b83 k31 hk31 x1 x2 v17 x4 x5 w13 h
    · have h := zok_t c9 h
      refine Gz.goto (off := 25) (tgt := 83) (by decide +kernel) (by decide) ?_
      exact g_M_settled_b83 k31 hk31 x1 x2 x3 x4 x5 w8 h
theorem g_M_settled_b31 {l : Launch} {Q : Option Value → gW → Prop} (x1 : Int32) (x2 : Int32) (x3 : Int32) (x4 : Int32) (x5 : Int32) (w : gW) (h : zok eI (f_M_settled_b31 x1 x2 x3 x4 x5 w) Q) : Gz l m_M_settled 57 31 [(0, .ref 107), (1, .int x1), (2, .int x2), (3, .int x3), (4, .int x4), (5, .int x5)] [] w Q := by
  have key : ∀ (n : Nat) (x1 : Int32) (x2 : Int32) (x3 : Int32) (x4 : Int32) (x5 : Int32) (w : gW), zok eI (zfx (fun _ _ _ _ _ _ => none) (f_M_settled_b31_s) n x1 x2 x3 x4 x5 w) Q → Gz l m_M_settled 57 31 [(0, .ref 107), (1, .int x1), (2, .int x2), (3, .int x3), (4, .int x4), (5, .int x5)] [] w Q := by
    intro n
    induction n with
    | zero => intro x1 x2 x3 x4 x5 w h; exact zok_n h
    | succ n ih => intro x1 x2 x3 x4 x5 w h; exact g_M_settled_b31_s _ ih x1 x2 x3 x4 x5 w h
  exact key zFU x1 x2 x3 x4 x5 w h
theorem g_M_settled {l : Launch} (a1 : Int32) (a2 : Int32) (w : gW) : gCt l m_M_settled 57 [.ref 107, .int a1, .int a2] w eI (f_M_settled a1 a2 w) := by
  intro Q h
  unfold f_M_settled at h
  show Gz l m_M_settled 57 0 [(0, .ref 107), (1, .int a1), (2, .int a2)] [] w Q
  refine Gz.aload_n (q := 0) (pc' := 1) (by decide +kernel) rfl 0 rfl ?_
  refine Gz.iconst (n := 0) (v := (0 : Int32)) (pc' := 2) (by decide +kernel) rfl rfl ?_
  refine Gz.putI (pc' := 5) (j := 0) fd_M_96 sh_107 rfl (by decide +kernel) rfl ?_
  refine Gz.nmW (fun w1 e2 => ?_)
  have h := zok_l e2 h
  refine Gz.aload_n (q := 0) (pc' := 6) (by decide +kernel) rfl 0 rfl ?_
  refine Gz.iload_n (q := 1) (pc' := 7) (by decide +kernel) rfl 1 rfl ?_
  refine Gz.callVI (st := []) (b := 107) (pc' := 10) [.int a1] (g_M_isOath a1 w1) h ok_m_M_isOath lk_M_241 sh_107 rfl rfl rfl (Nat.le_of_ble_eq_true rfl) (Nat.le_of_ble_eq_true rfl) (Nat.le_of_ble_eq_true rfl) (by decide +kernel) rfl (fun v3 w4 h => ?_)
  refine Gz.if_eq (off := 11) (tgt := 21) (pc' := 13) (by decide +kernel) (by decide) rfl (fun c5 => ?_) (fun c5 => ?_)
  · have h := zok_t c5 h
    refine Gz.iconst (n := -1) (v := (-1 : Int32)) (pc' := 22) (by decide +kernel) rfl rfl ?_
    exact Gz.ireturn (by decide +kernel) rfl (zok_sI h)
  · have h := zok_f c5 h
    refine Gz.aload_n (q := 0) (pc' := 14) (by decide +kernel) rfl 0 rfl ?_
    refine Gz.iload_n (q := 2) (pc' := 15) (by decide +kernel) rfl 2 rfl ?_
    refine Gz.callVI (st := []) (b := 107) (pc' := 18) [.int a2] (g_M_isSeenDay a2 w4) h ok_m_M_isSeenDay lk_M_244 sh_107 rfl rfl rfl (Nat.le_of_ble_eq_true rfl) (Nat.le_of_ble_eq_true rfl) (Nat.le_of_ble_eq_true rfl) (by decide +kernel) rfl (fun v6 w7 h => ?_)
    refine Gz.if_ne (off := 5) (tgt := 23) (pc' := 21) (by decide +kernel) (by decide) rfl (fun c8 => ?_) (fun c8 => ?_)
    · have h := zok_f c8 h
      refine Gz.iconst (n := 0) (v := (0 : Int32)) (pc' := 24) (by decide +kernel) rfl rfl ?_
      refine Gz.istore_n (q := 3) (pc' := 25) (L' := [(3, .int (0 : Int32)), (0, .ref 107), (1, .int a1), (2, .int a2)]) (by decide +kernel) rfl (Nat.le_of_ble_eq_true rfl) rfl ?_
      refine Gz.iconst (n := 0) (v := (0 : Int32)) (pc' := 26) (by decide +kernel) rfl rfl ?_
      refine Gz.istore (i := 4) (pc' := 28) (L' := [(4, .int (0 : Int32)), (3, .int (0 : Int32)), (0, .ref 107), (1, .int a1), (2, .int a2)]) (by decide +kernel) rfl (Nat.le_of_ble_eq_true rfl) rfl ?_
      refine Gz.iconst (n := 0) (v := (0 : Int32)) (pc' := 29) (by decide +kernel) rfl rfl ?_
      refine Gz.istore (i := 5) (pc' := 31) (L' := [(5, .int (0 : Int32)), (4, .int (0 : Int32)), (3, .int (0 : Int32)), (0, .ref 107), (1, .int a1), (2, .int a2)]) (by decide +kernel) rfl (Nat.le_of_ble_eq_true rfl) rfl ?_
      refine Gz.sub (L' := [(0, .ref 107), (1, .int a1), (2, .int a2), (3, .int (0 : Int32)), (4, .int (0 : Int32)), (5, .int (0 : Int32))]) [3, 4, 5, 2, 1, 0] rfl ?_
      exact g_M_settled_b31 a1 a2 (0 : Int32) (0 : Int32) (0 : Int32) w7 h
    · have h := zok_t c8 h
      refine Gz.iconst (n := -1) (v := (-1 : Int32)) (pc' := 22) (by decide +kernel) rfl rfl ?_
      exact Gz.ireturn (by decide +kernel) rfl (zok_sI h)
def f_M_rings_b104 (k25 : Int32 → Int32 → Int32 → gW → Option (Int32 × gW)) (x2 : Int32) (x3 : Int32) (x4 : Int32) (w : gW) : Option (Int32 × gW) :=
zl (x4 + (1 : Int32)) (fun v1 =>
k25 x2 x3 v1 w)
def f_M_rings_b85 (k25 : Int32 → Int32 → Int32 → gW → Option (Int32 × gW)) (x2 : Int32) (x3 : Int32) (x4 : Int32) (x5 : Int32) (w : gW) : Option (Int32 × gW) :=
if x5 = 0 then
(f_M_rings_b104 k25 x2 x3 x4 w)
else
(if x3 = x2 then
(some (x4, w))
else
(zl (x3 + (1 : Int32)) (fun v3 =>
f_M_rings_b104 k25 x2 v3 x4 w)))
def f_M_rings_b77 (k25 : Int32 → Int32 → Int32 → gW → Option (Int32 × gW)) (k40 : Int32 → Int32 → Int32 → Int32 → Int32 → gW → Option (Int32 × gW)) (x2 : Int32) (x3 : Int32) (x4 : Int32) (x6 : Int32) (s0 : Int32) (w : gW) : Option (Int32 × gW) :=
zl (x6 + (1 : Int32)) (fun v1 =>
k40 x2 x3 x4 s0 v1 w)
def f_M_rings_b40_s (k25 : Int32 → Int32 → Int32 → gW → Option (Int32 × gW)) (k40 : Int32 → Int32 → Int32 → Int32 → Int32 → gW → Option (Int32 × gW)) (x2 : Int32) (x3 : Int32) (x4 : Int32) (x5 : Int32) (x6 : Int32) (w : gW) : Option (Int32 × gW) :=
if (w.1 107 35) ≤ x6 then
(f_M_rings_b85 k25 x2 x3 x4 x5 w)
else
(if x5 = 0 then
(f_M_rings_b85 k25 x2 x3 x4 x5 w)
else
(zb (f_M_holdsSworn x6 x4 w) (fun v3 w4 =>
zb (f_M_has x4 x6 w4) (fun v5 w6 =>
if v3 = v5 then
(f_M_rings_b77 k25 k40 x2 x3 x4 x6 (1 : Int32) w6)
else
(f_M_rings_b77 k25 k40 x2 x3 x4 x6 (0 : Int32) w6)))))
def f_M_rings_b40 (k25 : Int32 → Int32 → Int32 → gW → Option (Int32 × gW)) : Int32 → Int32 → Int32 → Int32 → Int32 → gW → Option (Int32 × gW) := zfx (fun _ _ _ _ _ _ => none) (f_M_rings_b40_s k25) zFU
def f_M_rings_b25_s (k25 : Int32 → Int32 → Int32 → gW → Option (Int32 × gW)) (x2 : Int32) (x3 : Int32) (x4 : Int32) (w : gW) : Option (Int32 × gW) :=
zb (f_M_all w) (fun v1 w2 =>
if v1 < x4 then
(if x2 = (-1 : Int32) then
(some (x3, w2))
else
(some ((-1 : Int32), w2)))
else
(f_M_rings_b40 k25 x2 x3 x4 (1 : Int32) (0 : Int32) w2))
def f_M_rings_b25 : Int32 → Int32 → Int32 → gW → Option (Int32 × gW) := zfx (fun _ _ _ _ => none) (f_M_rings_b25_s) zFU
def f_M_rings (a1 : Int32) (a2 : Int32) (w : gW) : Option (Int32 × gW) :=
zl (zsI w 107 0 (0 : Int32)) (fun w1 =>
if a2 < (-1 : Int32) then
(some ((-1 : Int32), w1))
else
(zb (f_M_isLife a1 w1) (fun v4 w5 =>
if v4 = 0 then
(some ((-1 : Int32), w5))
else
(f_M_rings_b25 a2 (0 : Int32) (0 : Int32) w5))))
theorem g_M_rings_b104 {l : Launch} {Q : Option Value → gW → Prop} (k25 : Int32 → Int32 → Int32 → gW → Option (Int32 × gW)) (hk25 : ∀ (x2 : Int32) (x3 : Int32) (x4 : Int32) (w : gW), zok eI (k25 x2 x3 x4 w) Q → Gz l m_M_rings 56 25 [(0, .ref 107), (2, .int x2), (3, .int x3), (4, .int x4)] [] w Q) (x2 : Int32) (x3 : Int32) (x4 : Int32) (w : gW) (h : zok eI (f_M_rings_b104 k25 x2 x3 x4 w) Q) : Gz l m_M_rings 56 104 [(0, .ref 107), (2, .int x2), (3, .int x3), (4, .int x4)] [] w Q := by
  unfold f_M_rings_b104 at h
  obtain ⟨v1, e2⟩ : ∃ y : Int32, y = x4 + (1 : Int32) := ⟨_, rfl⟩
  have h := zok_l e2 h
  refine Gz.iinc (i := 4) (n := 1) (pc' := 107) (L' := [(4, .int v1), (0, .ref 107), (2, .int x2), (3, .int x3)]) v1 (by decide +kernel) rfl 3 rfl (by rw [e2]; rfl) (Nat.le_of_ble_eq_true rfl) rfl ?_
  refine Gz.goto (off := -82) (tgt := 25) (by decide +kernel) (by decide) ?_
  refine Gz.sub (L' := [(0, .ref 107), (2, .int x2), (3, .int x3), (4, .int v1)]) [1, 2, 3, 0] rfl ?_
  exact hk25 x2 x3 v1 w h
theorem g_M_rings_b85 {l : Launch} {Q : Option Value → gW → Prop} (k25 : Int32 → Int32 → Int32 → gW → Option (Int32 × gW)) (hk25 : ∀ (x2 : Int32) (x3 : Int32) (x4 : Int32) (w : gW), zok eI (k25 x2 x3 x4 w) Q → Gz l m_M_rings 56 25 [(0, .ref 107), (2, .int x2), (3, .int x3), (4, .int x4)] [] w Q) (x2 : Int32) (x3 : Int32) (x4 : Int32) (x5 : Int32) (w : gW) (h : zok eI (f_M_rings_b85 k25 x2 x3 x4 x5 w) Q) : Gz l m_M_rings 56 85 [(0, .ref 107), (2, .int x2), (3, .int x3), (4, .int x4), (5, .int x5)] [] w Q := by
  unfold f_M_rings_b85 at h
  refine Gz.iload (i := 5) (pc' := 87) (by decide +kernel) rfl 4 rfl ?_
  refine Gz.if_ne (off := 6) (tgt := 93) (pc' := 90) (by decide +kernel) (by decide) rfl (fun c1 => ?_) (fun c1 => ?_)
  · have h := zok_f c1 h
    refine Gz.iload_n (q := 3) (pc' := 94) (by decide +kernel) rfl 2 rfl ?_
    refine Gz.iload_n (q := 2) (pc' := 95) (by decide +kernel) rfl 1 rfl ?_
    refine Gz.icmp_ne (off := 6) (tgt := 101) (pc' := 98) (by decide +kernel) (by decide) rfl (fun c2 => ?_) (fun c2 => ?_)
    · have h := zok_f c2 h
      obtain ⟨v3, e4⟩ : ∃ y : Int32, y = x3 + (1 : Int32) := ⟨_, rfl⟩
      have h := zok_l e4 h
      refine Gz.iinc (i := 3) (n := 1) (pc' := 104) (L' := [(3, .int v3), (0, .ref 107), (2, .int x2), (4, .int x4), (5, .int x5)]) v3 (by decide +kernel) rfl 2 rfl (by rw [e4]; rfl) (Nat.le_of_ble_eq_true rfl) rfl ?_
      refine Gz.sub (L' := [(0, .ref 107), (2, .int x2), (3, .int v3), (4, .int x4)]) [1, 2, 0, 3] rfl ?_
      exact g_M_rings_b104 k25 hk25 x2 v3 x4 w h
    · have h := zok_t c2 h
      refine Gz.iload (i := 4) (pc' := 100) (by decide +kernel) rfl 3 rfl ?_
      exact Gz.ireturn (by decide +kernel) rfl (zok_sI h)
  · have h := zok_t c1 h
    refine Gz.goto (off := 14) (tgt := 104) (by decide +kernel) (by decide) ?_
    refine Gz.sub (L' := [(0, .ref 107), (2, .int x2), (3, .int x3), (4, .int x4)]) [0, 1, 2, 3] rfl ?_
    exact g_M_rings_b104 k25 hk25 x2 x3 x4 w h
theorem g_M_rings_b77 {l : Launch} {Q : Option Value → gW → Prop} (k25 : Int32 → Int32 → Int32 → gW → Option (Int32 × gW)) (hk25 : ∀ (x2 : Int32) (x3 : Int32) (x4 : Int32) (w : gW), zok eI (k25 x2 x3 x4 w) Q → Gz l m_M_rings 56 25 [(0, .ref 107), (2, .int x2), (3, .int x3), (4, .int x4)] [] w Q) (k40 : Int32 → Int32 → Int32 → Int32 → Int32 → gW → Option (Int32 × gW)) (hk40 : ∀ (x2 : Int32) (x3 : Int32) (x4 : Int32) (x5 : Int32) (x6 : Int32) (w : gW), zok eI (k40 x2 x3 x4 x5 x6 w) Q → Gz l m_M_rings 56 40 [(0, .ref 107), (2, .int x2), (3, .int x3), (4, .int x4), (5, .int x5), (6, .int x6)] [] w Q) (x2 : Int32) (x3 : Int32) (x4 : Int32) (x6 : Int32) (s0 : Int32) (w : gW) (h : zok eI (f_M_rings_b77 k25 k40 x2 x3 x4 x6 s0 w) Q) : Gz l m_M_rings 56 77 [(0, .ref 107), (2, .int x2), (3, .int x3), (4, .int x4), (6, .int x6)] [.int s0] w Q := by
  unfold f_M_rings_b77 at h
  refine Gz.istore (i := 5) (pc' := 79) (L' := [(5, .int s0), (0, .ref 107), (2, .int x2), (3, .int x3), (4, .int x4), (6, .int x6)]) (by decide +kernel) rfl (Nat.le_of_ble_eq_true rfl) rfl ?_
  obtain ⟨v1, e2⟩ : ∃ y : Int32, y = x6 + (1 : Int32) := ⟨_, rfl⟩
  have h := zok_l e2 h
  refine Gz.iinc (i := 6) (n := 1) (pc' := 82) (L' := [(6, .int v1), (5, .int s0), (0, .ref 107), (2, .int x2), (3, .int x3), (4, .int x4)]) v1 (by decide +kernel) rfl 5 rfl (by rw [e2]; rfl) (Nat.le_of_ble_eq_true rfl) rfl ?_
  refine Gz.goto (off := -42) (tgt := 40) (by decide +kernel) (by decide) ?_
  refine Gz.sub (L' := [(0, .ref 107), (2, .int x2), (3, .int x3), (4, .int x4), (5, .int s0), (6, .int v1)]) [2, 3, 4, 5, 1, 0] rfl ?_
  exact hk40 x2 x3 x4 s0 v1 w h
theorem g_M_rings_b40_s {l : Launch} {Q : Option Value → gW → Prop} (k25 : Int32 → Int32 → Int32 → gW → Option (Int32 × gW)) (hk25 : ∀ (x2 : Int32) (x3 : Int32) (x4 : Int32) (w : gW), zok eI (k25 x2 x3 x4 w) Q → Gz l m_M_rings 56 25 [(0, .ref 107), (2, .int x2), (3, .int x3), (4, .int x4)] [] w Q) (k40 : Int32 → Int32 → Int32 → Int32 → Int32 → gW → Option (Int32 × gW)) (hk40 : ∀ (x2 : Int32) (x3 : Int32) (x4 : Int32) (x5 : Int32) (x6 : Int32) (w : gW), zok eI (k40 x2 x3 x4 x5 x6 w) Q → Gz l m_M_rings 56 40 [(0, .ref 107), (2, .int x2), (3, .int x3), (4, .int x4), (5, .int x5), (6, .int x6)] [] w Q) (x2 : Int32) (x3 : Int32) (x4 : Int32) (x5 : Int32) (x6 : Int32) (w : gW) (h : zok eI (f_M_rings_b40_s k25 k40 x2 x3 x4 x5 x6 w) Q) : Gz l m_M_rings 56 40 [(0, .ref 107), (2, .int x2), (3, .int x3), (4, .int x4), (5, .int x5), (6, .int x6)] [] w Q := by
  unfold f_M_rings_b40_s at h
  refine Gz.iload (i := 6) (pc' := 42) (by decide +kernel) rfl 5 rfl ?_
  refine Gz.aload_n (q := 0) (pc' := 43) (by decide +kernel) rfl 0 rfl ?_
  refine Gz.getI (pc' := 46) (j := 35) fd_M_211 sh_107 rfl (by decide +kernel) rfl ?_
  refine Gz.icmp_ge (off := 39) (tgt := 85) (pc' := 49) (by decide +kernel) (by decide) rfl (fun c1 => ?_) (fun c1 => ?_)
  · have h := zok_t c1 h
    refine Gz.sub (L' := [(0, .ref 107), (2, .int x2), (3, .int x3), (4, .int x4), (5, .int x5)]) [0, 1, 2, 3, 4] rfl ?_
    exact g_M_rings_b85 k25 hk25 x2 x3 x4 x5 w h
  · have h := zok_f c1 h
    refine Gz.iload (i := 5) (pc' := 51) (by decide +kernel) rfl 4 rfl ?_
    refine Gz.if_eq (off := 34) (tgt := 85) (pc' := 54) (by decide +kernel) (by decide) rfl (fun c2 => ?_) (fun c2 => ?_)
    · have h := zok_t c2 h
      refine Gz.sub (L' := [(0, .ref 107), (2, .int x2), (3, .int x3), (4, .int x4), (5, .int x5)]) [0, 1, 2, 3, 4] rfl ?_
      exact g_M_rings_b85 k25 hk25 x2 x3 x4 x5 w h
    · have h := zok_f c2 h
      refine Gz.aload_n (q := 0) (pc' := 55) (by decide +kernel) rfl 0 rfl ?_
      refine Gz.iload (i := 6) (pc' := 57) (by decide +kernel) rfl 5 rfl ?_
      refine Gz.iload (i := 4) (pc' := 59) (by decide +kernel) rfl 3 rfl ?_
      refine Gz.callVI (st := []) (b := 107) (pc' := 62) [.int x6, .int x4] (g_M_holdsSworn x6 x4 w) h ok_m_M_holdsSworn lk_M_264 sh_107 rfl rfl rfl (Nat.le_of_ble_eq_true rfl) (Nat.le_of_ble_eq_true rfl) (Nat.le_of_ble_eq_true rfl) (by decide +kernel) rfl (fun v3 w4 h => ?_)
      refine Gz.iload (i := 4) (pc' := 64) (by decide +kernel) rfl 3 rfl ?_
      refine Gz.iload (i := 6) (pc' := 66) (by decide +kernel) rfl 5 rfl ?_
      refine Gz.callSI (st := [.int v3]) (pc' := 69) [.int x4, .int x6] (g_M_has x4 x6 w4) h ok_m_M_has lk_M_170 rfl (Nat.le_of_ble_eq_true rfl) (Nat.le_of_ble_eq_true rfl) (Nat.le_of_ble_eq_true rfl) (by decide +kernel) rfl (fun v5 w6 h => ?_)
      refine Gz.icmp_ne (off := 7) (tgt := 76) (pc' := 72) (by decide +kernel) (by decide) rfl (fun c7 => ?_) (fun c7 => ?_)
      · have h := zok_f c7 h
        refine Gz.iconst (n := 0) (v := (0 : Int32)) (pc' := 77) (by decide +kernel) rfl rfl ?_
        refine Gz.sub (L' := [(0, .ref 107), (2, .int x2), (3, .int x3), (4, .int x4), (6, .int x6)]) [0, 1, 2, 3, 5] rfl ?_
        exact g_M_rings_b77 k25 hk25 k40 hk40 x2 x3 x4 x6 (0 : Int32) w6 h
      · have h := zok_t c7 h
        refine Gz.iconst (n := 1) (v := (1 : Int32)) (pc' := 73) (by decide +kernel) rfl rfl ?_
        refine Gz.goto (off := 4) (tgt := 77) (by decide +kernel) (by decide) ?_
        refine Gz.sub (L' := [(0, .ref 107), (2, .int x2), (3, .int x3), (4, .int x4), (6, .int x6)]) [0, 1, 2, 3, 5] rfl ?_
        exact g_M_rings_b77 k25 hk25 k40 hk40 x2 x3 x4 x6 (1 : Int32) w6 h
theorem g_M_rings_b40 {l : Launch} {Q : Option Value → gW → Prop} (k25 : Int32 → Int32 → Int32 → gW → Option (Int32 × gW)) (hk25 : ∀ (x2 : Int32) (x3 : Int32) (x4 : Int32) (w : gW), zok eI (k25 x2 x3 x4 w) Q → Gz l m_M_rings 56 25 [(0, .ref 107), (2, .int x2), (3, .int x3), (4, .int x4)] [] w Q) (x2 : Int32) (x3 : Int32) (x4 : Int32) (x5 : Int32) (x6 : Int32) (w : gW) (h : zok eI (f_M_rings_b40 k25 x2 x3 x4 x5 x6 w) Q) : Gz l m_M_rings 56 40 [(0, .ref 107), (2, .int x2), (3, .int x3), (4, .int x4), (5, .int x5), (6, .int x6)] [] w Q := by
  have key : ∀ (n : Nat) (x2 : Int32) (x3 : Int32) (x4 : Int32) (x5 : Int32) (x6 : Int32) (w : gW), zok eI (zfx (fun _ _ _ _ _ _ => none) (f_M_rings_b40_s k25) n x2 x3 x4 x5 x6 w) Q → Gz l m_M_rings 56 40 [(0, .ref 107), (2, .int x2), (3, .int x3), (4, .int x4), (5, .int x5), (6, .int x6)] [] w Q := by
    intro n
    induction n with
    | zero => intro x2 x3 x4 x5 x6 w h; exact zok_n h
    | succ n ih => intro x2 x3 x4 x5 x6 w h; exact g_M_rings_b40_s k25 hk25 _ ih x2 x3 x4 x5 x6 w h
  exact key zFU x2 x3 x4 x5 x6 w h
theorem g_M_rings_b25_s {l : Launch} {Q : Option Value → gW → Prop} (k25 : Int32 → Int32 → Int32 → gW → Option (Int32 × gW)) (hk25 : ∀ (x2 : Int32) (x3 : Int32) (x4 : Int32) (w : gW), zok eI (k25 x2 x3 x4 w) Q → Gz l m_M_rings 56 25 [(0, .ref 107), (2, .int x2), (3, .int x3), (4, .int x4)] [] w Q) (x2 : Int32) (x3 : Int32) (x4 : Int32) (w : gW) (h : zok eI (f_M_rings_b25_s k25 x2 x3 x4 w) Q) : Gz l m_M_rings 56 25 [(0, .ref 107), (2, .int x2), (3, .int x3), (4, .int x4)] [] w Q := by
  unfold f_M_rings_b25_s at h
  refine Gz.iload (i := 4) (pc' := 27) (by decide +kernel) rfl 3 rfl ?_
  refine Gz.aload_n (q := 0) (pc' := 28) (by decide +kernel) rfl 0 rfl ?_
  refine Gz.callVI (st := [.int x4]) (b := 107) (pc' := 31) [] (g_M_all w) h ok_m_M_all lk_M_261 sh_107 rfl rfl rfl (Nat.le_of_ble_eq_true rfl) (Nat.le_of_ble_eq_true rfl) (Nat.le_of_ble_eq_true rfl) (by decide +kernel) rfl (fun v1 w2 h => ?_)
  refine Gz.icmp_gt (off := 79) (tgt := 110) (pc' := 34) (by decide +kernel) (by decide) rfl (fun c3 => ?_) (fun c3 => ?_)
  · have h := zok_t c3 h
    refine Gz.iload_n (q := 2) (pc' := 111) (by decide +kernel) rfl 1 rfl ?_
    refine Gz.iconst (n := -1) (v := (-1 : Int32)) (pc' := 112) (by decide +kernel) rfl rfl ?_
    refine Gz.icmp_ne (off := 7) (tgt := 119) (pc' := 115) (by decide +kernel) (by decide) rfl (fun c4 => ?_) (fun c4 => ?_)
    · have h := zok_f c4 h
      refine Gz.iconst (n := -1) (v := (-1 : Int32)) (pc' := 120) (by decide +kernel) rfl rfl ?_
      exact Gz.ireturn (by decide +kernel) rfl (zok_sI h)
    · have h := zok_t c4 h
      refine Gz.iload_n (q := 3) (pc' := 116) (by decide +kernel) rfl 2 rfl ?_
      refine Gz.goto (off := 4) (tgt := 120) (by decide +kernel) (by decide) ?_
      exact Gz.ireturn (by decide +kernel) rfl (zok_sI h)
  · have h := zok_f c3 h
    refine Gz.iconst (n := 1) (v := (1 : Int32)) (pc' := 35) (by decide +kernel) rfl rfl ?_
    refine Gz.istore (i := 5) (pc' := 37) (L' := [(5, .int (1 : Int32)), (0, .ref 107), (2, .int x2), (3, .int x3), (4, .int x4)]) (by decide +kernel) rfl (Nat.le_of_ble_eq_true rfl) rfl ?_
    refine Gz.iconst (n := 0) (v := (0 : Int32)) (pc' := 38) (by decide +kernel) rfl rfl ?_
    refine Gz.istore (i := 6) (pc' := 40) (L' := [(6, .int (0 : Int32)), (5, .int (1 : Int32)), (0, .ref 107), (2, .int x2), (3, .int x3), (4, .int x4)]) (by decide +kernel) rfl (Nat.le_of_ble_eq_true rfl) rfl ?_
    refine Gz.sub (L' := [(0, .ref 107), (2, .int x2), (3, .int x3), (4, .int x4), (5, .int (1 : Int32)), (6, .int (0 : Int32))]) [2, 3, 4, 5, 1, 0] rfl ?_
    exact g_M_rings_b40 k25 hk25 x2 x3 x4 (1 : Int32) (0 : Int32) w2 h
theorem g_M_rings_b25 {l : Launch} {Q : Option Value → gW → Prop} (x2 : Int32) (x3 : Int32) (x4 : Int32) (w : gW) (h : zok eI (f_M_rings_b25 x2 x3 x4 w) Q) : Gz l m_M_rings 56 25 [(0, .ref 107), (2, .int x2), (3, .int x3), (4, .int x4)] [] w Q := by
  have key : ∀ (n : Nat) (x2 : Int32) (x3 : Int32) (x4 : Int32) (w : gW), zok eI (zfx (fun _ _ _ _ => none) (f_M_rings_b25_s) n x2 x3 x4 w) Q → Gz l m_M_rings 56 25 [(0, .ref 107), (2, .int x2), (3, .int x3), (4, .int x4)] [] w Q := by
    intro n
    induction n with
    | zero => intro x2 x3 x4 w h; exact zok_n h
    | succ n ih => intro x2 x3 x4 w h; exact g_M_rings_b25_s _ ih x2 x3 x4 w h
  exact key zFU x2 x3 x4 w h
theorem g_M_rings {l : Launch} (a1 : Int32) (a2 : Int32) (w : gW) : gCt l m_M_rings 56 [.ref 107, .int a1, .int a2] w eI (f_M_rings a1 a2 w) := by
  intro Q h
  unfold f_M_rings at h
  show Gz l m_M_rings 56 0 [(0, .ref 107), (1, .int a1), (2, .int a2)] [] w Q
  refine Gz.aload_n (q := 0) (pc' := 1) (by decide +kernel) rfl 0 rfl ?_
  refine Gz.iconst (n := 0) (v := (0 : Int32)) (pc' := 2) (by decide +kernel) rfl rfl ?_
  refine Gz.putI (pc' := 5) (j := 0) fd_M_96 sh_107 rfl (by decide +kernel) rfl ?_
  refine Gz.nmW (fun w1 e2 => ?_)
  have h := zok_l e2 h
  refine Gz.iload_n (q := 2) (pc' := 6) (by decide +kernel) rfl 2 rfl ?_
  refine Gz.iconst (n := -1) (v := (-1 : Int32)) (pc' := 7) (by decide +kernel) rfl rfl ?_
  refine Gz.icmp_lt (off := 11) (tgt := 18) (pc' := 10) (by decide +kernel) (by decide) rfl (fun c3 => ?_) (fun c3 => ?_)
  · have h := zok_t c3 h
    refine Gz.iconst (n := -1) (v := (-1 : Int32)) (pc' := 19) (by decide +kernel) rfl rfl ?_
    exact Gz.ireturn (by decide +kernel) rfl (zok_sI h)
  · have h := zok_f c3 h
    refine Gz.aload_n (q := 0) (pc' := 11) (by decide +kernel) rfl 0 rfl ?_
    refine Gz.iload_n (q := 1) (pc' := 12) (by decide +kernel) rfl 1 rfl ?_
    refine Gz.callVI (st := []) (b := 107) (pc' := 15) [.int a1] (g_M_isLife a1 w1) h ok_m_M_isLife lk_M_270 sh_107 rfl rfl rfl (Nat.le_of_ble_eq_true rfl) (Nat.le_of_ble_eq_true rfl) (Nat.le_of_ble_eq_true rfl) (by decide +kernel) rfl (fun v4 w5 h => ?_)
    refine Gz.if_ne (off := 5) (tgt := 20) (pc' := 18) (by decide +kernel) (by decide) rfl (fun c6 => ?_) (fun c6 => ?_)
    · have h := zok_f c6 h
      refine Gz.iconst (n := 0) (v := (0 : Int32)) (pc' := 21) (by decide +kernel) rfl rfl ?_
      refine Gz.istore_n (q := 3) (pc' := 22) (L' := [(3, .int (0 : Int32)), (0, .ref 107), (1, .int a1), (2, .int a2)]) (by decide +kernel) rfl (Nat.le_of_ble_eq_true rfl) rfl ?_
      refine Gz.iconst (n := 0) (v := (0 : Int32)) (pc' := 23) (by decide +kernel) rfl rfl ?_
      refine Gz.istore (i := 4) (pc' := 25) (L' := [(4, .int (0 : Int32)), (3, .int (0 : Int32)), (0, .ref 107), (1, .int a1), (2, .int a2)]) (by decide +kernel) rfl (Nat.le_of_ble_eq_true rfl) rfl ?_
      refine Gz.sub (L' := [(0, .ref 107), (2, .int a2), (3, .int (0 : Int32)), (4, .int (0 : Int32))]) [2, 4, 1, 0] rfl ?_
      exact g_M_rings_b25 a2 (0 : Int32) (0 : Int32) w5 h
    · have h := zok_t c6 h
      refine Gz.iconst (n := -1) (v := (-1 : Int32)) (pc' := 19) (by decide +kernel) rfl rfl ?_
      exact Gz.ireturn (by decide +kernel) rfl (zok_sI h)
