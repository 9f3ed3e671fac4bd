def f_M_readLand_b80 (w : gW) : Option (Unit × gW) :=
zb (f_M_fails w) (fun v1 w2 =>
some ((), w2))
def f_M_readLand_b127 (k50 : Int32 → gW → Option (Unit × gW)) (s0 : Int32) (w : gW) : Option (Unit × gW) :=
k50 s0 w
def f_M_readLand_b50_s (k50 : Int32 → gW → Option (Unit × gW)) (x1 : Int32) (w : gW) : Option (Unit × gW) :=
if x1 = 0 then
(zb (f_M_look w) (fun v2 w3 =>
if v2 = (-1 : Int32) then
(some ((), w3))
else
(zb (f_M_fails w3) (fun v5 w6 =>
some ((), w6)))))
else
(if (w.1 107 23) = (5 : Int32) then
(f_M_readLand_b80 w)
else
(zb (f_M_takes (59 : Int32) w) (fun v8 w9 =>
if v8 = 0 then
(f_M_readLand_b80 w9)
else
(zb (f_M_takes (101 : Int32) w9) (fun v11 w12 =>
if v11 = 0 then
(f_M_readLand_b80 w12)
else
(zb (f_M_readDeed (w12.1 107 23) w12) (fun _ w14 =>
if (w14.1 107 10) = (-1 : Int32) then
(zl (zsI w14 107 23 ((w14.1 107 23) + (1 : Int32))) (fun w16 =>
zb (f_M_look w16) (fun v18 w19 =>
if v18 = (59 : Int32) then
(f_M_readLand_b127 k50 (1 : Int32) w19)
else
(f_M_readLand_b127 k50 (0 : Int32) w19))))
else
(some ((), w14)))))))))
def f_M_readLand_b50 : Int32 → gW → Option (Unit × gW) := zfx (fun _ _ => none) (f_M_readLand_b50_s) zFU
def f_M_readLand (w : gW) : Option (Unit × gW) :=
zb (f_M_opens 108 (0 : Int32) (w.1 107 5) w) (fun _ w1 =>
zl (zsI w1 107 23 (0 : Int32)) (fun w2 =>
zb (f_M_takes (116 : Int32) w2) (fun v4 w5 =>
if v4 = 0 then
(some ((), w5))
else
(zb (f_M_digit (2 : Int32) (6 : Int32) w5) (fun v7 w8 =>
zl (zsI w8 107 24 v7) (fun w9 =>
if (w9.1 107 24) = (-1 : Int32) then
(some ((), w9))
else
(f_M_readLand_b50 (1 : Int32) w9)))))))
theorem g_M_readLand_b80 {l : Launch} {Q : Option Value → gW → Prop} (w : gW) (h : zok eV (f_M_readLand_b80 w) Q) : Gz l m_M_readLand 4 80 [(0, .ref 107)] [] w Q := by
  unfold f_M_readLand_b80 at h
  refine Gz.aload_n (q := 0) (pc' := 81) (by decide +kernel) rfl 0 rfl ?_
  refine Gz.callVI (st := []) (b := 107) (pc' := 84) [] (g_M_fails w) h ok_m_M_fails lk_M_126 sh_107 rfl rfl rfl (Nat.le_of_ble_eq_true rfl) (Nat.le_of_ble_eq_true rfl) (Nat.le_of_ble_eq_true rfl) (by decide +kernel) rfl (fun v1 w2 h => ?_)
  refine Gz.pop (pc' := 85) (by decide +kernel) rfl rfl ?_
  exact Gz.return_ (by decide +kernel) rfl (zok_sV h)
theorem g_M_readLand_b127 {l : Launch} {Q : Option Value → gW → Prop} (k50 : Int32 → gW → Option (Unit × gW)) (hk50 : ∀ (x1 : Int32) (w : gW), zok eV (k50 x1 w) Q → Gz l m_M_readLand 4 50 [(0, .ref 107), (1, .int x1)] [] w Q) (s0 : Int32) (w : gW) (h : zok eV (f_M_readLand_b127 k50 s0 w) Q) : Gz l m_M_readLand 4 127 [(0, .ref 107)] [.int s0] w Q := by
  unfold f_M_readLand_b127 at h
  refine Gz.istore_n (q := 1) (pc' := 128) (L' := [(1, .int s0), (0, .ref 107)]) (by decide +kernel) rfl (Nat.le_of_ble_eq_true rfl) rfl ?_
  refine Gz.goto (off := -78) (tgt := 50) (by decide +kernel) (by decide) ?_
  refine Gz.sub (L' := [(0, .ref 107), (1, .int s0)]) [1, 0] rfl ?_
  exact hk50 s0 w h
theorem g_M_readLand_b50_s {l : Launch} {Q : Option Value → gW → Prop} (k50 : Int32 → gW → Option (Unit × gW)) (hk50 : ∀ (x1 : Int32) (w : gW), zok eV (k50 x1 w) Q → Gz l m_M_readLand 4 50 [(0, .ref 107), (1, .int x1)] [] w Q) (x1 : Int32) (w : gW) (h : zok eV (f_M_readLand_b50_s k50 x1 w) Q) : Gz l m_M_readLand 4 50 [(0, .ref 107), (1, .int x1)] [] w Q := by
  unfold f_M_readLand_b50_s at h
  refine Gz.iload_n (q := 1) (pc' := 51) (by decide +kernel) rfl 1 rfl ?_
  refine Gz.if_eq (off := 80) (tgt := 131) (pc' := 54) (by decide +kernel) (by decide) rfl (fun c1 => ?_) (fun c1 => ?_)
  · have h := zok_t c1 h
    refine Gz.aload_n (q := 0) (pc' := 132) (by decide +kernel) rfl 0 rfl ?_
    refine Gz.callVI (st := []) (b := 107) (pc' := 135) [] (g_M_look w) h ok_m_M_look lk_M_130 sh_107 rfl rfl rfl (Nat.le_of_ble_eq_true rfl) (Nat.le_of_ble_eq_true rfl) (Nat.le_of_ble_eq_true rfl) (by decide +kernel) rfl (fun v2 w3 h => ?_)
    refine Gz.iconst (n := -1) (v := (-1 : Int32)) (pc' := 136) (by decide +kernel) rfl rfl ?_
    refine Gz.icmp_eq (off := 8) (tgt := 144) (pc' := 139) (by decide +kernel) (by decide) rfl (fun c4 => ?_) (fun c4 => ?_)
    · have h := zok_t c4 h
      exact Gz.return_ (by decide +kernel) rfl (zok_sV h)
    · have h := zok_f c4 h
      refine Gz.aload_n (q := 0) (pc' := 140) (by decide +kernel) rfl 0 rfl ?_
      refine Gz.callVI (st := []) (b := 107) (pc' := 143) [] (g_M_fails w3) h ok_m_M_fails lk_M_126 sh_107 rfl rfl rfl (Nat.le_of_ble_eq_true rfl) (Nat.le_of_ble_eq_true rfl) (Nat.le_of_ble_eq_true rfl) (by decide +kernel) rfl (fun v5 w6 h => ?_)
      refine Gz.pop (pc' := 144) (by decide +kernel) rfl rfl ?_
      exact Gz.return_ (by decide +kernel) rfl (zok_sV h)
  · have h := zok_f c1 h
    refine Gz.aload_n (q := 0) (pc' := 55) (by decide +kernel) rfl 0 rfl ?_
    refine Gz.getI (pc' := 58) (j := 23) fd_M_187 sh_107 rfl (by decide +kernel) rfl ?_
    refine Gz.iconst (n := 5) (v := (5 : Int32)) (pc' := 59) (by decide +kernel) rfl rfl ?_
    refine Gz.icmp_eq (off := 21) (tgt := 80) (pc' := 62) (by decide +kernel) (by decide) rfl (fun c7 => ?_) (fun c7 => ?_)
    · have h := zok_t c7 h
      refine Gz.sub (L' := [(0, .ref 107)]) [0] rfl ?_
      exact g_M_readLand_b80 w h
    · have h := zok_f c7 h
      refine Gz.aload_n (q := 0) (pc' := 63) (by decide +kernel) rfl 0 rfl ?_
      refine Gz.bipush (n := 59) (v := (59 : Int32)) (pc' := 65) (by decide +kernel) rfl rfl ?_
      refine Gz.callVI (st := []) (b := 107) (pc' := 68) [.int (59 : Int32)] (g_M_takes (59 : Int32) w) h ok_m_M_takes lk_M_159 sh_107 rfl rfl rfl (Nat.le_of_ble_eq_true rfl) (Nat.le_of_ble_eq_true rfl) (Nat.le_of_ble_eq_true rfl) (by decide +kernel) rfl (fun v8 w9 h => ?_)
      refine Gz.if_eq (off := 12) (tgt := 80) (pc' := 71) (by decide +kernel) (by decide) rfl (fun c10 => ?_) (fun c10 => ?_)
      · have h := zok_t c10 h
        refine Gz.sub (L' := [(0, .ref 107)]) [0] rfl ?_
        exact g_M_readLand_b80 w9 h
      · have h := zok_f c10 h
        refine Gz.aload_n (q := 0) (pc' := 72) (by decide +kernel) rfl 0 rfl ?_
        refine Gz.bipush (n := 101) (v := (101 : Int32)) (pc' := 74) (by decide +kernel) rfl rfl ?_
        refine Gz.callVI (st := []) (b := 107) (pc' := 77) [.int (101 : Int32)] (g_M_takes (101 : Int32) w9) h ok_m_M_takes lk_M_159 sh_107 rfl rfl rfl (Nat.le_of_ble_eq_true rfl) (Nat.le_of_ble_eq_true rfl) (Nat.le_of_ble_eq_true rfl) (by decide +kernel) rfl (fun v11 w12 h => ?_)
        refine Gz.if_ne (off := 9) (tgt := 86) (pc' := 80) (by decide +kernel) (by decide) rfl (fun c13 => ?_) (fun c13 => ?_)
        · have h := zok_f c13 h
          refine Gz.aload_n (q := 0) (pc' := 87) (by decide +kernel) rfl 0 rfl ?_
          refine Gz.aload_n (q := 0) (pc' := 88) (by decide +kernel) rfl 0 rfl ?_
          refine Gz.getI (pc' := 91) (j := 23) fd_M_187 sh_107 rfl (by decide +kernel) rfl ?_
          refine Gz.callVV (st := []) (b := 107) (pc' := 94) [.int (w12.1 107 23)] (g_M_readDeed (w12.1 107 23) w12) h ok_m_M_readDeed lk_M_190 sh_107 rfl rfl rfl (Nat.le_of_ble_eq_true rfl) (Nat.le_of_ble_eq_true rfl) (Nat.le_of_ble_eq_true rfl) (by decide +kernel) rfl (fun _ w14 h => ?_)
          refine Gz.aload_n (q := 0) (pc' := 95) (by decide +kernel) rfl 0 rfl ?_
          refine Gz.getI (pc' := 98) (j := 10) fd_M_120 sh_107 rfl (by decide +kernel) rfl ?_
          refine Gz.iconst (n := -1) (v := (-1 : Int32)) (pc' := 99) (by decide +kernel) rfl rfl ?_
          refine Gz.icmp_eq (off := 4) (tgt := 103) (pc' := 102) (by decide +kernel) (by decide) rfl (fun c15 => ?_) (fun c15 => ?_)
          · have h := zok_t c15 h
            refine Gz.aload_n (q := 0) (pc' := 104) (by decide +kernel) rfl 0 rfl ?_
            refine Gz.dup (pc' := 105) (by decide +kernel) rfl rfl ?_
            refine Gz.getI (pc' := 108) (j := 23) fd_M_187 sh_107 rfl (by decide +kernel) rfl ?_
            refine Gz.iconst (n := 1) (v := (1 : Int32)) (pc' := 109) (by decide +kernel) rfl rfl ?_
            refine Gz.iadd (pc' := 110) (by decide +kernel) rfl ?_
            refine Gz.putI (pc' := 113) (j := 23) fd_M_187 sh_107 rfl (by decide +kernel) rfl ?_
            refine Gz.nmW (fun w16 e17 => ?_)
            have h := zok_l e17 h
            refine Gz.aload_n (q := 0) (pc' := 114) (by decide +kernel) rfl 0 rfl ?_
            refine Gz.callVI (st := []) (b := 107) (pc' := 117) [] (g_M_look w16) h ok_m_M_look lk_M_130 sh_107 rfl rfl rfl (Nat.le_of_ble_eq_true rfl) (Nat.le_of_ble_eq_true rfl) (Nat.le_of_ble_eq_true rfl) (by decide +kernel) rfl (fun v18 w19 h => ?_)
            refine Gz.bipush (n := 59) (v := (59 : Int32)) (pc' := 119) (by decide +kernel) rfl rfl ?_
            refine Gz.icmp_ne (off := 7) (tgt := 126) (pc' := 122) (by decide +kernel) (by decide) rfl (fun c20 => ?_) (fun c20 => ?_)
            · have h := zok_f c20 h
              refine Gz.iconst (n := 0) (v := (0 : Int32)) (pc' := 127) (by decide +kernel) rfl rfl ?_
              refine Gz.sub (L' := [(0, .ref 107)]) [0] rfl ?_
              exact g_M_readLand_b127 k50 hk50 (0 : Int32) w19 h
            · have h := zok_t c20 h
              refine Gz.iconst (n := 1) (v := (1 : Int32)) (pc' := 123) (by decide +kernel) rfl rfl ?_
              refine Gz.goto (off := 4) (tgt := 127) (by decide +kernel) (by decide) ?_
              refine Gz.sub (L' := [(0, .ref 107)]) [0] rfl ?_
              exact g_M_readLand_b127 k50 hk50 (1 : Int32) w19 h
          · have h := zok_f c15 h
            exact Gz.return_ (by decide +kernel) rfl (zok_sV h)
        · have h := zok_t c13 h
          refine Gz.sub (L' := [(0, .ref 107)]) [0] rfl ?_
          exact g_M_readLand_b80 w12 h
theorem g_M_readLand_b50 {l : Launch} {Q : Option Value → gW → Prop} (x1 : Int32) (w : gW) (h : zok eV (f_M_readLand_b50 x1 w) Q) : Gz l m_M_readLand 4 50 [(0, .ref 107), (1, .int x1)] [] w Q := by
  have key : ∀ (n : Nat) (x1 : Int32) (w : gW), zok eV (zfx (fun _ _ => none) (f_M_readLand_b50_s) n x1 w) Q → Gz l m_M_readLand 4 50 [(0, .ref 107), (1, .int x1)] [] w Q := by
    intro n
    induction n with
    | zero => intro x1 w h; exact zok_n h
    | succ n ih => intro x1 w h; exact g_M_readLand_b50_s _ ih x1 w h
  exact key zFU x1 w h
theorem g_M_readLand {l : Launch} (w : gW) : gCt l m_M_readLand 4 [.ref 107] w eV (f_M_readLand w) := by
  intro Q h
  unfold f_M_readLand at h
  show Gz l m_M_readLand 4 0 [(0, .ref 107)] [] w Q
  refine Gz.aload_n (q := 0) (pc' := 1) (by decide +kernel) rfl 0 rfl ?_
  refine Gz.aload_n (q := 0) (pc' := 2) (by decide +kernel) rfl 0 rfl ?_
  refine Gz.getR (pc' := 5) (j := 1) 108 fd_M_9 sh_107 rfl (by decide +kernel) rfl ?_
  refine Gz.iconst (n := 0) (v := (0 : Int32)) (pc' := 6) (by decide +kernel) rfl rfl ?_
  refine Gz.aload_n (q := 0) (pc' := 7) (by decide +kernel) rfl 0 rfl ?_
  refine Gz.getI (pc' := 10) (j := 5) fd_M_100 sh_107 rfl (by decide +kernel) rfl ?_
  refine Gz.callVV (st := []) (b := 107) (pc' := 13) [.ref 108, .int (0 : Int32), .int (w.1 107 5)] (g_M_opens 108 (0 : Int32) (w.1 107 5) w) h ok_m_M_opens lk_M_180 sh_107 rfl rfl rfl (Nat.le_of_ble_eq_true rfl) (Nat.le_of_ble_eq_true rfl) (Nat.le_of_ble_eq_true rfl) (by decide +kernel) rfl (fun _ w1 h => ?_)
  refine Gz.aload_n (q := 0) (pc' := 14) (by decide +kernel) rfl 0 rfl ?_
  refine Gz.iconst (n := 0) (v := (0 : Int32)) (pc' := 15) (by decide +kernel) rfl rfl ?_
  refine Gz.putI (pc' := 18) (j := 23) fd_M_187 sh_107 rfl (by decide +kernel) rfl ?_
  refine Gz.nmW (fun w2 e3 => ?_)
  have h := zok_l e3 h
  refine Gz.aload_n (q := 0) (pc' := 19) (by decide +kernel) rfl 0 rfl ?_
  refine Gz.bipush (n := 116) (v := (116 : Int32)) (pc' := 21) (by decide +kernel) rfl rfl ?_
  refine Gz.callVI (st := []) (b := 107) (pc' := 24) [.int (116 : Int32)] (g_M_takes (116 : Int32) w2) h ok_m_M_takes lk_M_159 sh_107 rfl rfl rfl (Nat.le_of_ble_eq_true rfl) (Nat.le_of_ble_eq_true rfl) (Nat.le_of_ble_eq_true rfl) (by decide +kernel) rfl (fun v4 w5 h => ?_)
  refine Gz.if_ne (off := 4) (tgt := 28) (pc' := 27) (by decide +kernel) (by decide) rfl (fun c6 => ?_) (fun c6 => ?_)
  · have h := zok_f c6 h
    refine Gz.aload_n (q := 0) (pc' := 29) (by decide +kernel) rfl 0 rfl ?_
    refine Gz.aload_n (q := 0) (pc' := 30) (by decide +kernel) rfl 0 rfl ?_
    refine Gz.iconst (n := 2) (v := (2 : Int32)) (pc' := 31) (by decide +kernel) rfl rfl ?_
    refine Gz.bipush (n := 6) (v := (6 : Int32)) (pc' := 33) (by decide +kernel) rfl rfl ?_
    refine Gz.callVI (st := [.ref 107]) (b := 107) (pc' := 36) [.int (2 : Int32), .int (6 : Int32)] (g_M_digit (2 : Int32) (6 : Int32) w5) h ok_m_M_digit lk_M_163 sh_107 rfl rfl rfl (Nat.le_of_ble_eq_true rfl) (Nat.le_of_ble_eq_true rfl) (Nat.le_of_ble_eq_true rfl) (by decide +kernel) rfl (fun v7 w8 h => ?_)
    refine Gz.putI (pc' := 39) (j := 24) fd_M_184 sh_107 rfl (by decide +kernel) rfl ?_
    refine Gz.nmW (fun w9 e10 => ?_)
    have h := zok_l e10 h
    refine Gz.aload_n (q := 0) (pc' := 40) (by decide +kernel) rfl 0 rfl ?_
    refine Gz.getI (pc' := 43) (j := 24) fd_M_184 sh_107 rfl (by decide +kernel) rfl ?_
    refine Gz.iconst (n := -1) (v := (-1 : Int32)) (pc' := 44) (by decide +kernel) rfl rfl ?_
    refine Gz.icmp_ne (off := 4) (tgt := 48) (pc' := 47) (by decide +kernel) (by decide) rfl (fun c11 => ?_) (fun c11 => ?_)
    · have h := zok_f c11 h
      refine Gz.iconst (n := 1) (v := (1 : Int32)) (pc' := 49) (by decide +kernel) rfl rfl ?_
      refine Gz.istore_n (q := 1) (pc' := 50) (L' := [(1, .int (1 : Int32)), (0, .ref 107)]) (by decide +kernel) rfl (Nat.le_of_ble_eq_true rfl) rfl ?_
      refine Gz.sub (L' := [(0, .ref 107), (1, .int (1 : Int32))]) [1, 0] rfl ?_
      exact g_M_readLand_b50 (1 : Int32) w9 h
    · have h := zok_t c11 h
      exact Gz.return_ (by decide +kernel) rfl (zok_sV h)
  · have h := zok_t c6 h
    exact Gz.return_ (by decide +kernel) rfl (zok_sV h)
def f_M_goesIn (w : gW) : Option (Int32 × gW) :=
if (w.1 107 11) = (6 : Int32) then
(zb (f_M_fails w) (fun v6 w7 =>
if v6 &&& 1 = v6 then some (v6, w7) else none))
else
(zl (zsI w 107 11 ((w.1 107 11) + (1 : Int32))) (fun w2 =>
zl (zsI w2 107 9 ((w2.1 107 9) + (1 : Int32))) (fun w4 =>
some ((1 : Int32), w4))))
theorem g_M_goesIn {l : Launch} (w : gW) : gCt l m_M_goesIn 2 [.ref 107] w eI (f_M_goesIn w) := by
  intro Q h
  unfold f_M_goesIn at h
  show Gz l m_M_goesIn 2 0 [(0, .ref 107)] [] w Q
  refine Gz.aload_n (q := 0) (pc' := 1) (by decide +kernel) rfl 0 rfl ?_
  refine Gz.getI (pc' := 4) (j := 11) fd_M_123 sh_107 rfl (by decide +kernel) rfl ?_
  refine Gz.bipush (n := 6) (v := (6 : Int32)) (pc' := 6) (by decide +kernel) rfl rfl ?_
  refine Gz.icmp_ne (off := 8) (tgt := 14) (pc' := 9) (by decide +kernel) (by decide) rfl (fun c1 => ?_) (fun c1 => ?_)
  · have h := zok_f c1 h
    refine Gz.aload_n (q := 0) (pc' := 15) (by decide +kernel) rfl 0 rfl ?_
    refine Gz.dup (pc' := 16) (by decide +kernel) rfl rfl ?_
    refine Gz.getI (pc' := 19) (j := 11) fd_M_123 sh_107 rfl (by decide +kernel) rfl ?_
    refine Gz.iconst (n := 1) (v := (1 : Int32)) (pc' := 20) (by decide +kernel) rfl rfl ?_
    refine Gz.iadd (pc' := 21) (by decide +kernel) rfl ?_
    refine Gz.putI (pc' := 24) (j := 11) fd_M_123 sh_107 rfl (by decide +kernel) rfl ?_
    refine Gz.nmW (fun w2 e3 => ?_)
    have h := zok_l e3 h
    refine Gz.aload_n (q := 0) (pc' := 25) (by decide +kernel) rfl 0 rfl ?_
    refine Gz.dup (pc' := 26) (by decide +kernel) rfl rfl ?_
    refine Gz.getI (pc' := 29) (j := 9) fd_M_111 sh_107 rfl (by decide +kernel) rfl ?_
    refine Gz.iconst (n := 1) (v := (1 : Int32)) (pc' := 30) (by decide +kernel) rfl rfl ?_
    refine Gz.iadd (pc' := 31) (by decide +kernel) rfl ?_
    refine Gz.putI (pc' := 34) (j := 9) fd_M_111 sh_107 rfl (by decide +kernel) rfl ?_
    refine Gz.nmW (fun w4 e5 => ?_)
    have h := zok_l e5 h
    refine Gz.iconst (n := 1) (v := (1 : Int32)) (pc' := 35) (by decide +kernel) rfl rfl ?_
    exact Gz.zreturn (by decide +kernel) rfl (by decide) (zok_sI h)
  · have h := zok_t c1 h
    refine Gz.aload_n (q := 0) (pc' := 10) (by decide +kernel) rfl 0 rfl ?_
    refine Gz.callVI (st := []) (b := 107) (pc' := 13) [] (g_M_fails w) h ok_m_M_fails lk_M_126 sh_107 rfl rfl rfl (Nat.le_of_ble_eq_true rfl) (Nat.le_of_ble_eq_true rfl) (Nat.le_of_ble_eq_true rfl) (by decide +kernel) rfl (fun v6 w7 h => ?_)
    obtain ⟨c8, h⟩ := zok_c h
    exact Gz.zreturn (by decide +kernel) rfl c8 (zok_sI h)
def f_M_has (a0 : Int32) (a1 : Int32) (w : gW) : Option (Int32 × gW) :=
if ((a0 >>> (a1 &&& 31)) &&& (1 : Int32)) = (1 : Int32) then
(some ((1 : Int32), w))
else
(some ((0 : Int32), w))
theorem g_M_has {l : Launch} (a0 : Int32) (a1 : Int32) (w : gW) : gCt l m_M_has 1 [.int a0, .int a1] w eI (f_M_has a0 a1 w) := by
  intro Q h
  unfold f_M_has at h
  show Gz l m_M_has 1 0 [(0, .int a0), (1, .int a1)] [] w Q
  refine Gz.iload_n (q := 0) (pc' := 1) (by decide +kernel) rfl 0 rfl ?_
  refine Gz.iload_n (q := 1) (pc' := 2) (by decide +kernel) rfl 1 rfl ?_
  refine Gz.ishr (pc' := 3) (by decide +kernel) rfl ?_
  refine Gz.iconst (n := 1) (v := (1 : Int32)) (pc' := 4) (by decide +kernel) rfl rfl ?_
  refine Gz.iand (pc' := 5) (by decide +kernel) rfl ?_
  refine Gz.iconst (n := 1) (v := (1 : Int32)) (pc' := 6) (by decide +kernel) rfl rfl ?_
  refine Gz.icmp_ne (off := 7) (tgt := 13) (pc' := 9) (by decide +kernel) (by decide) rfl (fun c1 => ?_) (fun c1 => ?_)
  · have h := zok_f c1 h
    refine Gz.iconst (n := 0) (v := (0 : Int32)) (pc' := 14) (by decide +kernel) rfl rfl ?_
    exact Gz.zreturn (by decide +kernel) rfl (by decide) (zok_sI h)
  · have h := zok_t c1 h
    refine Gz.iconst (n := 1) (v := (1 : Int32)) (pc' := 10) (by decide +kernel) rfl rfl ?_
    refine Gz.goto (off := 4) (tgt := 14) (by decide +kernel) (by decide) ?_
    exact Gz.zreturn (by decide +kernel) rfl (by decide) (zok_sI h)
def f_M_letter_b17 (w : gW) : Option (Int32 × gW) :=
zb (f_M_fails w) (fun v1 w2 =>
some ((-1 : Int32), w2))
def f_M_letter (w : gW) : Option (Int32 × gW) :=
zb (f_M_look w) (fun v1 w2 =>
if v1 < (97 : Int32) then
(f_M_letter_b17 w2)
else
(if v1 ≤ (101 : Int32) then
(zl (zsI w2 107 9 ((w2.1 107 9) + (1 : Int32))) (fun w5 =>
some (v1 - (97 : Int32), w5)))
else
(f_M_letter_b17 w2)))
theorem g_M_letter_b17 {l : Launch} {Q : Option Value → gW → Prop} (w : gW) (h : zok eI (f_M_letter_b17 w) Q) : Gz l m_M_letter 2 17 [(0, .ref 107)] [] w Q := by
  unfold f_M_letter_b17 at h
  refine Gz.aload_n (q := 0) (pc' := 18) (by decide +kernel) rfl 0 rfl ?_
  refine Gz.callVI (st := []) (b := 107) (pc' := 21) [] (g_M_fails w) h ok_m_M_fails lk_M_126 sh_107 rfl rfl rfl (Nat.le_of_ble_eq_true rfl) (Nat.le_of_ble_eq_true rfl) (Nat.le_of_ble_eq_true rfl) (by decide +kernel) rfl (fun v1 w2 h => ?_)
  refine Gz.pop (pc' := 22) (by decide +kernel) rfl rfl ?_
  refine Gz.iconst (n := -1) (v := (-1 : Int32)) (pc' := 23) (by decide +kernel) rfl rfl ?_
  exact Gz.ireturn (by decide +kernel) rfl (zok_sI h)
theorem g_M_letter {l : Launch} (w : gW) : gCt l m_M_letter 2 [.ref 107] w eI (f_M_letter w) := by
  intro Q h
  unfold f_M_letter at h
  show Gz l m_M_letter 2 0 [(0, .ref 107)] [] w Q
  refine Gz.aload_n (q := 0) (pc' := 1) (by decide +kernel) rfl 0 rfl ?_
  refine Gz.callVI (st := []) (b := 107) (pc' := 4) [] (g_M_look w) h ok_m_M_look lk_M_130 sh_107 rfl rfl rfl (Nat.le_of_ble_eq_true rfl) (Nat.le_of_ble_eq_true rfl) (Nat.le_of_ble_eq_true rfl) (by decide +kernel) rfl (fun v1 w2 h => ?_)
  refine Gz.istore_n (q := 1) (pc' := 5) (L' := [(1, .int v1), (0, .ref 107)]) (by decide +kernel) rfl (Nat.le_of_ble_eq_true rfl) rfl ?_
  refine Gz.iload_n (q := 1) (pc' := 6) (by decide +kernel) rfl 0 rfl ?_
  refine Gz.bipush (n := 97) (v := (97 : Int32)) (pc' := 8) (by decide +kernel) rfl rfl ?_
  refine Gz.icmp_lt (off := 9) (tgt := 17) (pc' := 11) (by decide +kernel) (by decide) rfl (fun c3 => ?_) (fun c3 => ?_)
  · have h := zok_t c3 h
    refine Gz.sub (L' := [(0, .ref 107)]) [1] rfl ?_
    exact g_M_letter_b17 w2 h
  · have h := zok_f c3 h
    refine Gz.iload_n (q := 1) (pc' := 12) (by decide +kernel) rfl 0 rfl ?_
    refine Gz.bipush (n := 101) (v := (101 : Int32)) (pc' := 14) (by decide +kernel) rfl rfl ?_
    refine Gz.icmp_le (off := 10) (tgt := 24) (pc' := 17) (by decide +kernel) (by decide) rfl (fun c4 => ?_) (fun c4 => ?_)
    · have h := zok_t c4 h
      refine Gz.aload_n (q := 0) (pc' := 25) (by decide +kernel) rfl 1 rfl ?_
      refine Gz.dup (pc' := 26) (by decide +kernel) rfl rfl ?_
      refine Gz.getI (pc' := 29) (j := 9) fd_M_111 sh_107 rfl (by decide +kernel) rfl ?_
      refine Gz.iconst (n := 1) (v := (1 : Int32)) (pc' := 30) (by decide +kernel) rfl rfl ?_
      refine Gz.iadd (pc' := 31) (by decide +kernel) rfl ?_
      refine Gz.putI (pc' := 34) (j := 9) fd_M_111 sh_107 rfl (by decide +kernel) rfl ?_
      refine Gz.nmW (fun w5 e6 => ?_)
      have h := zok_l e6 h
      refine Gz.iload_n (q := 1) (pc' := 35) (by decide +kernel) rfl 0 rfl ?_
      refine Gz.bipush (n := 97) (v := (97 : Int32)) (pc' := 37) (by decide +kernel) rfl rfl ?_
      refine Gz.isub (pc' := 38) (by decide +kernel) rfl ?_
      exact Gz.ireturn (by decide +kernel) rfl (zok_sI h)
    · have h := zok_f c4 h
      refine Gz.sub (L' := [(0, .ref 107)]) [1] rfl ?_
      exact g_M_letter_b17 w2 h
def f_M_isSeen (a1 : Int32) (w : gW) : Option (Int32 × gW) :=
if (w.1 107 21) ≤ a1 then
(some ((0 : Int32), w))
else
(if inb a1 5 then
if (w.1 107 13) ≤ (w.1 111 (ix a1)) then
(some ((0 : Int32), w))
else
(some ((1 : Int32), w))
else none)
theorem g_M_isSeen {l : Launch} (a1 : Int32) (w : gW) : gCt l m_M_isSeen 1 [.ref 107, .int a1] w eI (f_M_isSeen a1 w) := by
  intro Q h
  unfold f_M_isSeen at h
  show Gz l m_M_isSeen 1 0 [(0, .ref 107), (1, .int a1)] [] w Q
  refine Gz.iload_n (q := 1) (pc' := 1) (by decide +kernel) rfl 1 rfl ?_
  refine Gz.aload_n (q := 0) (pc' := 2) (by decide +kernel) rfl 0 rfl ?_
  refine Gz.getI (pc' := 5) (j := 21) fd_M_141 sh_107 rfl (by decide +kernel) rfl ?_
  refine Gz.icmp_ge (off := 20) (tgt := 25) (pc' := 8) (by decide +kernel) (by decide) rfl (fun c1 => ?_) (fun c1 => ?_)
  · have h := zok_t c1 h
    refine Gz.iconst (n := 0) (v := (0 : Int32)) (pc' := 26) (by decide +kernel) rfl rfl ?_
    exact Gz.zreturn (by decide +kernel) rfl (by decide) (zok_sI h)
  · have h := zok_f c1 h
    refine Gz.aload_n (q := 0) (pc' := 9) (by decide +kernel) rfl 0 rfl ?_
    refine Gz.getR (pc' := 12) (j := 12) 111 fd_M_23 sh_107 rfl (by decide +kernel) rfl ?_
    refine Gz.iload_n (q := 1) (pc' := 13) (by decide +kernel) rfl 1 rfl ?_
    obtain ⟨c2, h⟩ := zok_c h
    refine Gz.iald (pc' := 14) (n := 5) (by decide +kernel) rfl rfl c2 ?_
    refine Gz.aload_n (q := 0) (pc' := 15) (by decide +kernel) rfl 0 rfl ?_
    refine Gz.getI (pc' := 18) (j := 13) fd_M_144 sh_107 rfl (by decide +kernel) rfl ?_
    refine Gz.icmp_ge (off := 7) (tgt := 25) (pc' := 21) (by decide +kernel) (by decide) rfl (fun c3 => ?_) (fun c3 => ?_)
    · have h := zok_t c3 h
      refine Gz.iconst (n := 0) (v := (0 : Int32)) (pc' := 26) (by decide +kernel) rfl rfl ?_
      exact Gz.zreturn (by decide +kernel) rfl (by decide) (zok_sI h)
    · have h := zok_f c3 h
      refine Gz.iconst (n := 1) (v := (1 : Int32)) (pc' := 22) (by decide +kernel) rfl rfl ?_
      refine Gz.goto (off := 4) (tgt := 26) (by decide +kernel) (by decide) ?_
      exact Gz.zreturn (by decide +kernel) rfl (by decide) (zok_sI h)
def f_M_choice_b54 (rK : gW → Option (Int32 × gW)) (x1 : Int32) (w : gW) : Option (Int32 × gW) :=
if x1 &&& 1 = x1 then some (x1, w) else none
def f_M_choice_b50 (rK : gW → Option (Int32 × gW)) (k5 : Int32 → gW → Option (Int32 × gW)) (s0 : Int32) (w : gW) : Option (Int32 × gW) :=
k5 s0 w
def f_M_choice_b49 (rK : gW → Option (Int32 × gW)) (k5 : Int32 → gW → Option (Int32 × gW)) (w : gW) : Option (Int32 × gW) :=
f_M_choice_b50 rK k5 (0 : Int32) w
def f_M_choice_b5_s (rK : gW → Option (Int32 × gW)) (k5 : Int32 → gW → Option (Int32 × gW)) (x1 : Int32) (w : gW) : Option (Int32 × gW) :=
if (w.1 107 10) = (-1 : Int32) then
(zb (f_M_look w) (fun v2 w3 =>
if v2 = (38 : Int32) then
(zl (zsI w3 107 9 ((w3.1 107 9) + (1 : Int32))) (fun w5 =>
zb (rK w5) (fun v7 w8 =>
if x1 = 0 then
(f_M_choice_b49 rK k5 w8)
else
(if v7 = 0 then
(f_M_choice_b49 rK k5 w8)
else
(f_M_choice_b50 rK k5 (1 : Int32) w8)))))
else
(f_M_choice_b54 rK x1 w3)))
else
(f_M_choice_b54 rK x1 w)
def f_M_choice_b5 (rK : gW → Option (Int32 × gW)) : Int32 → gW → Option (Int32 × gW) := zfx (fun _ _ => none) (f_M_choice_b5_s rK) zFU
def f_M_choice_rec (rK : gW → Option (Int32 × gW)) (w : gW) : Option (Int32 × gW) :=
zb (rK w) (fun v1 w2 =>
f_M_choice_b5 rK v1 w2)
theorem g_M_choice_b54 {l : Launch} {Q : Option Value → gW → Prop} (rK : gW → Option (Int32 × gW)) {dK : Nat} (hd0 : 2 ≤ dK) (hK : ∀  (w : gW), gCt l m_M_unit dK [.ref 107] w eI (rK  w)) (x1 : Int32) (w : gW) (h : zok eI (f_M_choice_b54 rK x1 w) Q) : Gz l m_M_choice (dK + 1) 54 [(1, .int x1)] [] w Q := by
  unfold f_M_choice_b54 at h
  refine Gz.iload_n (q := 1) (pc' := 55) (by decide +kernel) rfl 0 rfl ?_
  obtain ⟨c1, h⟩ := zok_c h
  exact Gz.zreturn (by decide +kernel) rfl c1 (zok_sI h)
theorem g_M_choice_b50 {l : Launch} {Q : Option Value → gW → Prop} (rK : gW → Option (Int32 × gW)) {dK : Nat} (hd0 : 2 ≤ dK) (hK : ∀  (w : gW), gCt l m_M_unit dK [.ref 107] w eI (rK  w)) (k5 : Int32 → gW → Option (Int32 × gW)) (hk5 : ∀ (x1 : Int32) (w : gW), zok eI (k5 x1 w) Q → Gz l m_M_choice (dK + 1) 5 [(0, .ref 107), (1, .int x1)] [] w Q) (s0 : Int32) (w : gW) (h : zok eI (f_M_choice_b50 rK k5 s0 w) Q) : Gz l m_M_choice (dK + 1) 50 [(0, .ref 107)] [.int s0] w Q := by
  unfold f_M_choice_b50 at h
  refine Gz.istore_n (q := 1) (pc' := 51) (L' := [(1, .int s0), (0, .ref 107)]) (by decide +kernel) rfl (Nat.le_of_ble_eq_true rfl) rfl ?_
  refine Gz.goto (off := -46) (tgt := 5) (by decide +kernel) (by decide) ?_
  refine Gz.sub (L' := [(0, .ref 107), (1, .int s0)]) [1, 0] rfl ?_
  exact hk5 s0 w h
theorem g_M_choice_b49 {l : Launch} {Q : Option Value → gW → Prop} (rK : gW → Option (Int32 × gW)) {dK : Nat} (hd0 : 2 ≤ dK) (hK : ∀  (w : gW), gCt l m_M_unit dK [.ref 107] w eI (rK  w)) (k5 : Int32 → gW → Option (Int32 × gW)) (hk5 : ∀ (x1 : Int32) (w : gW), zok eI (k5 x1 w) Q → Gz l m_M_choice (dK + 1) 5 [(0, .ref 107), (1, .int x1)] [] w Q) (w : gW) (h : zok eI (f_M_choice_b49 rK k5 w) Q) : Gz l m_M_choice (dK + 1) 49 [(0, .ref 107)] [] w Q := by
  unfold f_M_choice_b49 at h
  refine Gz.iconst (n := 0) (v := (0 : Int32)) (pc' := 50) (by decide +kernel) rfl rfl ?_
  exact g_M_choice_b50 rK hd0 hK k5 hk5 (0 : Int32) w h
theorem g_M_choice_b5_s {l : Launch} {Q : Option Value → gW → Prop} (rK : gW → Option (Int32 × gW)) {dK : Nat} (hd0 : 2 ≤ dK) (hK : ∀  (w : gW), gCt l m_M_unit dK [.ref 107] w eI (rK  w)) (k5 : Int32 → gW → Option (Int32 × gW)) (hk5 : ∀ (x1 : Int32) (w : gW), zok eI (k5 x1 w) Q → Gz l m_M_choice (dK + 1) 5 [(0, .ref 107), (1, .int x1)] [] w Q) (x1 : Int32) (w : gW) (h : zok eI (f_M_choice_b5_s rK k5 x1 w) Q) : Gz l m_M_choice (dK + 1) 5 [(0, .ref 107), (1, .int x1)] [] w Q := by
  unfold f_M_choice_b5_s at h
  refine Gz.aload_n (q := 0) (pc' := 6) (by decide +kernel) rfl 0 rfl ?_
  refine Gz.getI (pc' := 9) (j := 10) fd_M_120 sh_107 rfl (by decide +kernel) rfl ?_
  refine Gz.iconst (n := -1) (v := (-1 : Int32)) (pc' := 10) (by decide +kernel) rfl rfl ?_
  refine Gz.icmp_ne (off := 44) (tgt := 54) (pc' := 13) (by decide +kernel) (by decide) rfl (fun c1 => ?_) (fun c1 => ?_)
  · have h := zok_f c1 h
    refine Gz.sub (L' := [(1, .int x1)]) [1] rfl ?_
    exact g_M_choice_b54 rK hd0 hK x1 w h
  · have h := zok_t c1 h
    refine Gz.aload_n (q := 0) (pc' := 14) (by decide +kernel) rfl 0 rfl ?_
    refine Gz.callVI (st := []) (b := 107) (pc' := 17) [] (g_M_look w) h ok_m_M_look lk_M_130 sh_107 rfl rfl rfl (Nat.le_of_ble_eq_true rfl) (by omega) (Nat.le_of_ble_eq_true rfl) (by decide +kernel) rfl (fun v2 w3 h => ?_)
    refine Gz.bipush (n := 38) (v := (38 : Int32)) (pc' := 19) (by decide +kernel) rfl rfl ?_
    refine Gz.icmp_ne (off := 35) (tgt := 54) (pc' := 22) (by decide +kernel) (by decide) rfl (fun c4 => ?_) (fun c4 => ?_)
    · have h := zok_f c4 h
      refine Gz.sub (L' := [(1, .int x1)]) [1] rfl ?_
      exact g_M_choice_b54 rK hd0 hK x1 w3 h
    · have h := zok_t c4 h
      refine Gz.aload_n (q := 0) (pc' := 23) (by decide +kernel) rfl 0 rfl ?_
      refine Gz.dup (pc' := 24) (by decide +kernel) rfl rfl ?_
      refine Gz.getI (pc' := 27) (j := 9) fd_M_111 sh_107 rfl (by decide +kernel) rfl ?_
      refine Gz.iconst (n := 1) (v := (1 : Int32)) (pc' := 28) (by decide +kernel) rfl rfl ?_
      refine Gz.iadd (pc' := 29) (by decide +kernel) rfl ?_
      refine Gz.putI (pc' := 32) (j := 9) fd_M_111 sh_107 rfl (by decide +kernel) rfl ?_
      refine Gz.nmW (fun w5 e6 => ?_)
      have h := zok_l e6 h
      refine Gz.aload_n (q := 0) (pc' := 33) (by decide +kernel) rfl 0 rfl ?_
      refine Gz.callVI (st := []) (b := 107) (pc' := 36) [] (hK w5) h ok_m_M_unit lk_M_150 sh_107 rfl rfl rfl (Nat.le_of_ble_eq_true rfl) (by omega) (Nat.le_of_ble_eq_true rfl) (by decide +kernel) rfl (fun v7 w8 h => ?_)
      refine Gz.istore_n (q := 2) (pc' := 37) (L' := [(2, .int v7), (0, .ref 107), (1, .int x1)]) (by decide +kernel) rfl (Nat.le_of_ble_eq_true rfl) rfl ?_
      refine Gz.iload_n (q := 1) (pc' := 38) (by decide +kernel) rfl 2 rfl ?_
      refine Gz.if_eq (off := 11) (tgt := 49) (pc' := 41) (by decide +kernel) (by decide) rfl (fun c9 => ?_) (fun c9 => ?_)
      · have h := zok_t c9 h
        refine Gz.sub (L' := [(0, .ref 107)]) [1] rfl ?_
        exact g_M_choice_b49 rK hd0 hK k5 hk5 w8 h
      · have h := zok_f c9 h
        refine Gz.iload_n (q := 2) (pc' := 42) (by decide +kernel) rfl 0 rfl ?_
        refine Gz.if_eq (off := 7) (tgt := 49) (pc' := 45) (by decide +kernel) (by decide) rfl (fun c10 => ?_) (fun c10 => ?_)
        · have h := zok_t c10 h
          refine Gz.sub (L' := [(0, .ref 107)]) [1] rfl ?_
          exact g_M_choice_b49 rK hd0 hK k5 hk5 w8 h
        · have h := zok_f c10 h
          refine Gz.iconst (n := 1) (v := (1 : Int32)) (pc' := 46) (by decide +kernel) rfl rfl ?_
          refine Gz.goto (off := 4) (tgt := 50) (by decide +kernel) (by decide) ?_
          refine Gz.sub (L' := [(0, .ref 107)]) [1] rfl ?_
          exact g_M_choice_b50 rK hd0 hK k5 hk5 (1 : Int32) w8 h
theorem g_M_choice_b5 {l : Launch} {Q : Option Value → gW → Prop} (rK : gW → Option (Int32 × gW)) {dK : Nat} (hd0 : 2 ≤ dK) (hK : ∀  (w : gW), gCt l m_M_unit dK [.ref 107] w eI (rK  w)) (x1 : Int32) (w : gW) (h : zok eI (f_M_choice_b5 rK x1 w) Q) : Gz l m_M_choice (dK + 1) 5 [(0, .ref 107), (1, .int x1)] [] w Q := by
  have key : ∀ (n : Nat) (x1 : Int32) (w : gW), zok eI (zfx (fun _ _ => none) (f_M_choice_b5_s rK) n x1 w) Q → Gz l m_M_choice (dK + 1) 5 [(0, .ref 107), (1, .int x1)] [] w Q := by
    intro n
    induction n with
    | zero => intro x1 w h; exact zok_n h
    | succ n ih => intro x1 w h; exact g_M_choice_b5_s rK hd0 hK _ ih x1 w h
  exact key zFU x1 w h
theorem g_M_choice_rec {l : Launch} (rK : gW → Option (Int32 × gW)) {dK : Nat} (hd0 : 2 ≤ dK) (hK : ∀  (w : gW), gCt l m_M_unit dK [.ref 107] w eI (rK  w)) (w : gW) : gCt l m_M_choice (dK + 1) [.ref 107] w eI (f_M_choice_rec rK w) := by
  intro Q h
  unfold f_M_choice_rec at h
  show Gz l m_M_choice (dK + 1) 0 [(0, .ref 107)] [] w Q
  refine Gz.aload_n (q := 0) (pc' := 1) (by decide +kernel) rfl 0 rfl ?_
  refine Gz.callVI (st := []) (b := 107) (pc' := 4) [] (hK w) h ok_m_M_unit lk_M_150 sh_107 rfl rfl rfl (Nat.le_of_ble_eq_true rfl) (by omega) (Nat.le_of_ble_eq_true rfl) (by decide +kernel) rfl (fun v1 w2 h => ?_)
  refine Gz.istore_n (q := 1) (pc' := 5) (L' := [(1, .int v1), (0, .ref 107)]) (by decide +kernel) rfl (Nat.le_of_ble_eq_true rfl) rfl ?_
  refine Gz.sub (L' := [(0, .ref 107), (1, .int v1)]) [1, 0] rfl ?_
  exact g_M_choice_b5 rK hd0 hK v1 w2 h
def f_M_oath_b54 (rK : gW → Option (Int32 × gW)) (x1 : Int32) (w : gW) : Option (Int32 × gW) :=
if x1 &&& 1 = x1 then some (x1, w) else none
def f_M_oath_b50 (rK : gW → Option (Int32 × gW)) (k5 : Int32 → gW → Option (Int32 × gW)) (s0 : Int32) (w : gW) : Option (Int32 × gW) :=
k5 s0 w
def f_M_oath_b45 (rK : gW → Option (Int32 × gW)) (k5 : Int32 → gW → Option (Int32 × gW)) (w : gW) : Option (Int32 × gW) :=
f_M_oath_b50 rK k5 (1 : Int32) w
def f_M_oath_b5_s (rK : gW → Option (Int32 × gW)) (k5 : Int32 → gW → Option (Int32 × gW)) (x1 : Int32) (w : gW) : Option (Int32 × gW) :=
if (w.1 107 10) = (-1 : Int32) then
(zb (f_M_look w) (fun v2 w3 =>
if v2 = (124 : Int32) then
(zl (zsI w3 107 9 ((w3.1 107 9) + (1 : Int32))) (fun w5 =>
zb (f_M_choice_rec rK w5) (fun v7 w8 =>
if x1 = 0 then
(if v7 = 0 then
(f_M_oath_b50 rK k5 (0 : Int32) w8)
else
(f_M_oath_b45 rK k5 w8))
else
(f_M_oath_b45 rK k5 w8))))
else
(f_M_oath_b54 rK x1 w3)))
else
(f_M_oath_b54 rK x1 w)
def f_M_oath_b5 (rK : gW → Option (Int32 × gW)) : Int32 → gW → Option (Int32 × gW) := zfx (fun _ _ => none) (f_M_oath_b5_s rK) zFU
def f_M_oath_rec (rK : gW → Option (Int32 × gW)) (w : gW) : Option (Int32 × gW) :=
zb (f_M_choice_rec rK w) (fun v1 w2 =>
f_M_oath_b5 rK v1 w2)
theorem g_M_oath_b54 {l : Launch} {Q : Option Value → gW → Prop} (rK : gW → Option (Int32 × gW)) {dK : Nat} (hd0 : 2 ≤ dK) (hK : ∀  (w : gW), gCt l m_M_unit dK [.ref 107] w eI (rK  w)) (x1 : Int32) (w : gW) (h : zok eI (f_M_oath_b54 rK x1 w) Q) : Gz l m_M_oath (dK + 2) 54 [(1, .int x1)] [] w Q := by
  unfold f_M_oath_b54 at h
  refine Gz.iload_n (q := 1) (pc' := 55) (by decide +kernel) rfl 0 rfl ?_
  obtain ⟨c1, h⟩ := zok_c h
  exact Gz.zreturn (by decide +kernel) rfl c1 (zok_sI h)
theorem g_M_oath_b50 {l : Launch} {Q : Option Value → gW → Prop} (rK : gW → Option (Int32 × gW)) {dK : Nat} (hd0 : 2 ≤ dK) (hK : ∀  (w : gW), gCt l m_M_unit dK [.ref 107] w eI (rK  w)) (k5 : Int32 → gW → Option (Int32 × gW)) (hk5 : ∀ (x1 : Int32) (w : gW), zok eI (k5 x1 w) Q → Gz l m_M_oath (dK + 2) 5 [(0, .ref 107), (1, .int x1)] [] w Q) (s0 : Int32) (w : gW) (h : zok eI (f_M_oath_b50 rK k5 s0 w) Q) : Gz l m_M_oath (dK + 2) 50 [(0, .ref 107)] [.int s0] w Q := by
  unfold f_M_oath_b50 at h
  refine Gz.istore_n (q := 1) (pc' := 51) (L' := [(1, .int s0), (0, .ref 107)]) (by decide +kernel) rfl (Nat.le_of_ble_eq_true rfl) rfl ?_
  refine Gz.goto (off := -46) (tgt := 5) (by decide +kernel) (by decide) ?_
  refine Gz.sub (L' := [(0, .ref 107), (1, .int s0)]) [1, 0] rfl ?_
  exact hk5 s0 w h
theorem g_M_oath_b45 {l : Launch} {Q : Option Value → gW → Prop} (rK : gW → Option (Int32 × gW)) {dK : Nat} (hd0 : 2 ≤ dK) (hK : ∀  (w : gW), gCt l m_M_unit dK [.ref 107] w eI (rK  w)) (k5 : Int32 → gW → Option (Int32 × gW)) (hk5 : ∀ (x1 : Int32) (w : gW), zok eI (k5 x1 w) Q → Gz l m_M_oath (dK + 2) 5 [(0, .ref 107), (1, .int x1)] [] w Q) (w : gW) (h : zok eI (f_M_oath_b45 rK k5 w) Q) : Gz l m_M_oath (dK + 2) 45 [(0, .ref 107)] [] w Q := by
  unfold f_M_oath_b45 at h
  refine Gz.iconst (n := 1) (v := (1 : Int32)) (pc' := 46) (by decide +kernel) rfl rfl ?_
  refine Gz.goto (off := 4) (tgt := 50) (by decide +kernel) (by decide) ?_
  exact g_M_oath_b50 rK hd0 hK k5 hk5 (1 : Int32) w h
theorem g_M_oath_b5_s {l : Launch} {Q : Option Value → gW → Prop} (rK : gW → Option (Int32 × gW)) {dK : Nat} (hd0 : 2 ≤ dK) (hK : ∀  (w : gW), gCt l m_M_unit dK [.ref 107] w eI (rK  w)) (k5 : Int32 → gW → Option (Int32 × gW)) (hk5 : ∀ (x1 : Int32) (w : gW), zok eI (k5 x1 w) Q → Gz l m_M_oath (dK + 2) 5 [(0, .ref 107), (1, .int x1)] [] w Q) (x1 : Int32) (w : gW) (h : zok eI (f_M_oath_b5_s rK k5 x1 w) Q) : Gz l m_M_oath (dK + 2) 5 [(0, .ref 107), (1, .int x1)] [] w Q := by
  unfold f_M_oath_b5_s at h
  refine Gz.aload_n (q := 0) (pc' := 6) (by decide +kernel) rfl 0 rfl ?_
  refine Gz.getI (pc' := 9) (j := 10) fd_M_120 sh_107 rfl (by decide +kernel) rfl ?_
  refine Gz.iconst (n := -1) (v := (-1 : Int32)) (pc' := 10) (by decide +kernel) rfl rfl ?_
  refine Gz.icmp_ne (off := 44) (tgt := 54) (pc' := 13) (by decide +kernel) (by decide) rfl (fun c1 => ?_) (fun c1 => ?_)
  · have h := zok_f c1 h
    refine Gz.sub (L' := [(1, .int x1)]) [1] rfl ?_
    exact g_M_oath_b54 rK hd0 hK x1 w h
  · have h := zok_t c1 h
    refine Gz.aload_n (q := 0) (pc' := 14) (by decide +kernel) rfl 0 rfl ?_
    refine Gz.callVI (st := []) (b := 107) (pc' := 17) [] (g_M_look w) h ok_m_M_look lk_M_130 sh_107 rfl rfl rfl (Nat.le_of_ble_eq_true rfl) (by omega) (Nat.le_of_ble_eq_true rfl) (by decide +kernel) rfl (fun v2 w3 h => ?_)
    refine Gz.bipush (n := 124) (v := (124 : Int32)) (pc' := 19) (by decide +kernel) rfl rfl ?_
    refine Gz.icmp_ne (off := 35) (tgt := 54) (pc' := 22) (by decide +kernel) (by decide) rfl (fun c4 => ?_) (fun c4 => ?_)
    · have h := zok_f c4 h
      refine Gz.sub (L' := [(1, .int x1)]) [1] rfl ?_
      exact g_M_oath_b54 rK hd0 hK x1 w3 h
    · have h := zok_t c4 h
      refine Gz.aload_n (q := 0) (pc' := 23) (by decide +kernel) rfl 0 rfl ?_
      refine Gz.dup (pc' := 24) (by decide +kernel) rfl rfl ?_
      refine Gz.getI (pc' := 27) (j := 9) fd_M_111 sh_107 rfl (by decide +kernel) rfl ?_
      refine Gz.iconst (n := 1) (v := (1 : Int32)) (pc' := 28) (by decide +kernel) rfl rfl ?_
      refine Gz.iadd (pc' := 29) (by decide +kernel) rfl ?_
      refine Gz.putI (pc' := 32) (j := 9) fd_M_111 sh_107 rfl (by decide +kernel) rfl ?_
      refine Gz.nmW (fun w5 e6 => ?_)
      have h := zok_l e6 h
      refine Gz.aload_n (q := 0) (pc' := 33) (by decide +kernel) rfl 0 rfl ?_
      refine Gz.callVI (st := []) (b := 107) (pc' := 36) [] (g_M_choice_rec rK hd0 hK w5) h ok_m_M_choice lk_M_147 sh_107 rfl rfl rfl (Nat.le_of_ble_eq_true rfl) (by omega) (Nat.le_of_ble_eq_true rfl) (by decide +kernel) rfl (fun v7 w8 h => ?_)
      refine Gz.istore_n (q := 2) (pc' := 37) (L' := [(2, .int v7), (0, .ref 107), (1, .int x1)]) (by decide +kernel) rfl (Nat.le_of_ble_eq_true rfl) rfl ?_
      refine Gz.iload_n (q := 1) (pc' := 38) (by decide +kernel) rfl 2 rfl ?_
      refine Gz.if_ne (off := 7) (tgt := 45) (pc' := 41) (by decide +kernel) (by decide) rfl (fun c9 => ?_) (fun c9 => ?_)
      · have h := zok_f c9 h
        refine Gz.sub (L' := [(0, .ref 107)]) [1] rfl ?_
        exact g_M_oath_b45 rK hd0 hK k5 hk5 w8 h
      · have h := zok_t c9 h
        refine Gz.iload_n (q := 2) (pc' := 42) (by decide +kernel) rfl 0 rfl ?_
        refine Gz.if_eq (off := 7) (tgt := 49) (pc' := 45) (by decide +kernel) (by decide) rfl (fun c10 => ?_) (fun c10 => ?_)
        · have h := zok_t c10 h
          refine Gz.iconst (n := 0) (v := (0 : Int32)) (pc' := 50) (by decide +kernel) rfl rfl ?_
          refine Gz.sub (L' := [(0, .ref 107)]) [1] rfl ?_
          exact g_M_oath_b50 rK hd0 hK k5 hk5 (0 : Int32) w8 h
        · have h := zok_f c10 h
          refine Gz.sub (L' := [(0, .ref 107)]) [1] rfl ?_
          exact g_M_oath_b45 rK hd0 hK k5 hk5 w8 h
theorem g_M_oath_b5 {l : Launch} {Q : Option Value → gW → Prop} (rK : gW → Option (Int32 × gW)) {dK : Nat} (hd0 : 2 ≤ dK) (hK : ∀  (w : gW), gCt l m_M_unit dK [.ref 107] w eI (rK  w)) (x1 : Int32) (w : gW) (h : zok eI (f_M_oath_b5 rK x1 w) Q) : Gz l m_M_oath (dK + 2) 5 [(0, .ref 107), (1, .int x1)] [] w Q := by
  have key : ∀ (n : Nat) (x1 : Int32) (w : gW), zok eI (zfx (fun _ _ => none) (f_M_oath_b5_s rK) n x1 w) Q → Gz l m_M_oath (dK + 2) 5 [(0, .ref 107), (1, .int x1)] [] w Q := by
    intro n
    induction n with
    | zero => intro x1 w h; exact zok_n h
    | succ n ih => intro x1 w h; exact g_M_oath_b5_s rK hd0 hK _ ih x1 w h
  exact key zFU x1 w h
theorem g_M_oath_rec {l : Launch} (rK : gW → Option (Int32 × gW)) {dK : Nat} (hd0 : 2 ≤ dK) (hK : ∀  (w : gW), gCt l m_M_unit dK [.ref 107] w eI (rK  w)) (w : gW) : gCt l m_M_oath (dK + 2) [.ref 107] w eI (f_M_oath_rec rK w) := by
  intro Q h
  unfold f_M_oath_rec at h
  show Gz l m_M_oath (dK + 2) 0 [(0, .ref 107)] [] w Q
  refine Gz.aload_n (q := 0) (pc' := 1) (by decide +kernel) rfl 0 rfl ?_
  refine Gz.callVI (st := []) (b := 107) (pc' := 4) [] (g_M_choice_rec rK hd0 hK w) h ok_m_M_choice lk_M_147 sh_107 rfl rfl rfl (Nat.le_of_ble_eq_true rfl) (by omega) (Nat.le_of_ble_eq_true rfl) (by decide +kernel) rfl (fun v1 w2 h => ?_)
  refine Gz.istore_n (q := 1) (pc' := 5) (L' := [(1, .int v1), (0, .ref 107)]) (by decide +kernel) rfl (Nat.le_of_ble_eq_true rfl) rfl ?_
  refine Gz.sub (L' := [(0, .ref 107), (1, .int v1)]) [1, 0] rfl ?_
  exact g_M_oath_b5 rK hd0 hK v1 w2 h
def f_M_unit_b295 (rK : gW → Option (Int32 × gW)) (w : gW) : Option (Int32 × gW) :=
some ((1 : Int32), w)
def f_M_unit_b220 (rK : gW → Option (Int32 × gW)) (x1 : Int32) (x2 : Int32) (w : gW) : Option (Int32 × gW) :=
zl (zsI w 107 9 ((w.1 107 9) + (1 : Int32))) (fun w1 =>
zb (f_M_letter w1) (fun v3 w4 =>
if v3 = (-1 : Int32) then
(some ((0 : Int32), w4))
else
(zb (f_M_isSeen x2 w4) (fun v6 w7 =>
if v6 = 0 then
(some ((0 : Int32), w7))
else
(zb (f_M_isSeen v3 w7) (fun v9 w10 =>
if v9 = 0 then
(some ((0 : Int32), w10))
else
(if x1 = (60 : Int32) then
(if inb x2 5 then
if inb v3 5 then
if (w10.1 111 (ix v3)) ≤ (w10.1 111 (ix x2)) then
(some ((0 : Int32), w10))
else
(f_M_unit_b295 rK w10)
else none
else none)
else
(if inb x2 5 then
if inb v3 5 then
if (w10.1 111 (ix x2)) = (w10.1 111 (ix v3)) then
(f_M_unit_b295 rK w10)
else
(some ((0 : Int32), w10))
else none
else none))))))))
def f_M_unit_rec (rK : gW → Option (Int32 × gW)) (w : gW) : Option (Int32 × gW) :=
zb (f_M_look w) (fun v1 w2 =>
if v1 = (33 : Int32) then
(zb (f_M_goesIn w2) (fun v47 w48 =>
if v47 = 0 then
(some ((0 : Int32), w48))
else
(zb (rK w48) (fun v50 w51 =>
zl (zsI w51 107 11 ((w51.1 107 11) - (1 : Int32))) (fun w52 =>
if v50 = 0 then
(some ((1 : Int32), w52))
else
(some ((0 : Int32), w52)))))))
else
(if v1 = (40 : Int32) then
(zb (f_M_goesIn w2) (fun v35 w36 =>
if v35 = 0 then
(some ((0 : Int32), w36))
else
(zb (f_M_oath_rec rK w36) (fun v38 w39 =>
if (w39.1 107 10) = (-1 : Int32) then
(zb (f_M_takes (41 : Int32) w39) (fun v41 w42 =>
if v41 = 0 then
(some ((0 : Int32), w42))
else
(zl (zsI w42 107 11 ((w42.1 107 11) - (1 : Int32))) (fun w44 =>
if v38 &&& 1 = v38 then some (v38, w44) else none))))
else
(some ((0 : Int32), w39))))))
else
(if v1 = (35 : Int32) then
(zl (zsI w2 107 9 ((w2.1 107 9) + (1 : Int32))) (fun w27 =>
zb (f_M_digit (0 : Int32) (9 : Int32) w27) (fun v29 w30 =>
if v29 = (-1 : Int32) then
(some ((0 : Int32), w30))
else
(zb (f_M_has (w30.1 107 14) v29 w30) (fun v32 w33 =>
if v32 = 0 then
(some ((0 : Int32), w33))
else
(some ((1 : Int32), w33)))))))
else
(zb (f_M_letter w2) (fun v6 w7 =>
if v6 = (-1 : Int32) then
(some ((0 : Int32), w7))
else
(zb (f_M_look w7) (fun v9 w10 =>
zb (f_M_isDigit w10) (fun v11 w12 =>
if v11 = 0 then
(if v9 = (60 : Int32) then
(f_M_unit_b220 rK v9 v6 w12)
else
(if v9 = (61 : Int32) then
(f_M_unit_b220 rK v9 v6 w12)
else
(zb (f_M_isSeen v6 w12) (fun v16 w17 =>
if v16 &&& 1 = v16 then some (v16, w17) else none))))
else
(zb (f_M_digit (0 : Int32) (5 : Int32) w12) (fun v19 w20 =>
if v19 = (-1 : Int32) then
(some ((0 : Int32), w20))
else
(zb (f_M_isSeen v6 w20) (fun v22 w23 =>
if v22 = 0 then
(some ((0 : Int32), w23))
else
(if inb v6 5 then
if v19 < (w23.1 111 (ix v6)) then
(some ((0 : Int32), w23))
else
(some ((1 : Int32), w23))
else none)))))))))))))
def f_M_unit (w : gW) : Option (Int32 × gW) := zfx (fun _ => none) f_M_unit_rec 16 w
def f_M_choice (w : gW) : Option (Int32 × gW) := f_M_choice_rec f_M_unit w
def f_M_oath (w : gW) : Option (Int32 × gW) := f_M_oath_rec f_M_unit w
theorem g_M_unit_b295 {l : Launch} {Q : Option Value → gW → Prop} (rK : gW → Option (Int32 × gW)) {dK : Nat} (hd0 : 2 ≤ dK) (hK : ∀  (w : gW), gCt l m_M_unit dK [.ref 107] w eI (rK  w)) (w : gW) (h : zok eI (f_M_unit_b295 rK w) Q) : Gz l m_M_unit (dK + 3) 295 [] [] w Q := by
  unfold f_M_unit_b295 at h
  refine Gz.iconst (n := 1) (v := (1 : Int32)) (pc' := 296) (by decide +kernel) rfl rfl ?_
  refine Gz.goto (off := 4) (tgt := 300) (by decide +kernel) (by decide) ?_
  exact Gz.zreturn (by decide +kernel) rfl (by decide) (zok_sI h)
theorem g_M_unit_b220 {l : Launch} {Q : Option Value → gW → Prop} (rK : gW → Option (Int32 × gW)) {dK : Nat} (hd0 : 2 ≤ dK) (hK : ∀  (w : gW), gCt l m_M_unit dK [.ref 107] w eI (rK  w)) (x1 : Int32) (x2 : Int32) (w : gW) (h : zok eI (f_M_unit_b220 rK x1 x2 w) Q) : Gz l m_M_unit (dK + 3) 220 [(0, .ref 107), (1, .int x1), (2, .int x2)] [] w Q := by
  unfold f_M_unit_b220 at h
  refine Gz.aload_n (q := 0) (pc' := 221) (by decide +kernel) rfl 0 rfl ?_
  refine Gz.dup (pc' := 222) (by decide +kernel) rfl rfl ?_
  refine Gz.getI (pc' := 225) (j := 9) fd_M_111 sh_107 rfl (by decide +kernel) rfl ?_
  refine Gz.iconst (n := 1) (v := (1 : Int32)) (pc' := 226) (by decide +kernel) rfl rfl ?_
  refine Gz.iadd (pc' := 227) (by decide +kernel) rfl ?_
  refine Gz.putI (pc' := 230) (j := 9) fd_M_111 sh_107 rfl (by decide +kernel) rfl ?_
  refine Gz.nmW (fun w1 e2 => ?_)
  have h := zok_l e2 h
  refine Gz.aload_n (q := 0) (pc' := 231) (by decide +kernel) rfl 0 rfl ?_
  refine Gz.callVI (st := []) (b := 107) (pc' := 234) [] (g_M_letter w1) h ok_m_M_letter lk_M_174 sh_107 rfl rfl rfl (Nat.le_of_ble_eq_true rfl) (by omega) (Nat.le_of_ble_eq_true rfl) (by decide +kernel) rfl (fun v3 w4 h => ?_)
  refine Gz.istore_n (q := 3) (pc' := 235) (L' := [(3, .int v3), (0, .ref 107), (1, .int x1), (2, .int x2)]) (by decide +kernel) rfl (Nat.le_of_ble_eq_true rfl) rfl ?_
  refine Gz.iload_n (q := 3) (pc' := 236) (by decide +kernel) rfl 0 rfl ?_
  refine Gz.iconst (n := -1) (v := (-1 : Int32)) (pc' := 237) (by decide +kernel) rfl rfl ?_
  refine Gz.icmp_eq (off := 62) (tgt := 299) (pc' := 240) (by decide +kernel) (by decide) rfl (fun c5 => ?_) (fun c5 => ?_)
  · have h := zok_t c5 h
    refine Gz.iconst (n := 0) (v := (0 : Int32)) (pc' := 300) (by decide +kernel) rfl rfl ?_
    exact Gz.zreturn (by decide +kernel) rfl (by decide) (zok_sI h)
  · have h := zok_f c5 h
    refine Gz.aload_n (q := 0) (pc' := 241) (by decide +kernel) rfl 1 rfl ?_
    refine Gz.iload_n (q := 2) (pc' := 242) (by decide +kernel) rfl 3 rfl ?_
    refine Gz.callVI (st := []) (b := 107) (pc' := 245) [.int x2] (g_M_isSeen x2 w4) h ok_m_M_isSeen lk_M_177 sh_107 rfl rfl rfl (Nat.le_of_ble_eq_true rfl) (by omega) (Nat.le_of_ble_eq_true rfl) (by decide +kernel) rfl (fun v6 w7 h => ?_)
    refine Gz.if_eq (off := 54) (tgt := 299) (pc' := 248) (by decide +kernel) (by decide) rfl (fun c8 => ?_) (fun c8 => ?_)
    · have h := zok_t c8 h
      refine Gz.iconst (n := 0) (v := (0 : Int32)) (pc' := 300) (by decide +kernel) rfl rfl ?_
      exact Gz.zreturn (by decide +kernel) rfl (by decide) (zok_sI h)
    · have h := zok_f c8 h
      refine Gz.aload_n (q := 0) (pc' := 249) (by decide +kernel) rfl 1 rfl ?_
      refine Gz.iload_n (q := 3) (pc' := 250) (by decide +kernel) rfl 0 rfl ?_
      refine Gz.callVI (st := []) (b := 107) (pc' := 253) [.int v3] (g_M_isSeen v3 w7) h ok_m_M_isSeen lk_M_177 sh_107 rfl rfl rfl (Nat.le_of_ble_eq_true rfl) (by omega) (Nat.le_of_ble_eq_true rfl) (by decide +kernel) rfl (fun v9 w10 h => ?_)
      refine Gz.if_eq (off := 46) (tgt := 299) (pc' := 256) (by decide +kernel) (by decide) rfl (fun c11 => ?_) (fun c11 => ?_)
      · have h := zok_t c11 h
        refine Gz.iconst (n := 0) (v := (0 : Int32)) (pc' := 300) (by decide +kernel) rfl rfl ?_
        exact Gz.zreturn (by decide +kernel) rfl (by decide) (zok_sI h)
      · have h := zok_f c11 h
        refine Gz.iload_n (q := 1) (pc' := 257) (by decide +kernel) rfl 2 rfl ?_
        refine Gz.bipush (n := 60) (v := (60 : Int32)) (pc' := 259) (by decide +kernel) rfl rfl ?_
        refine Gz.icmp_ne (off := 21) (tgt := 280) (pc' := 262) (by decide +kernel) (by decide) rfl (fun c12 => ?_) (fun c12 => ?_)
        · have h := zok_f c12 h
          refine Gz.aload_n (q := 0) (pc' := 281) (by decide +kernel) rfl 1 rfl ?_
          refine Gz.getR (pc' := 284) (j := 12) 111 fd_M_23 sh_107 rfl (by decide +kernel) rfl ?_
          refine Gz.iload_n (q := 2) (pc' := 285) (by decide +kernel) rfl 3 rfl ?_
          obtain ⟨c13, h⟩ := zok_c h
          refine Gz.iald (pc' := 286) (n := 5) (by decide +kernel) rfl rfl c13 ?_
          refine Gz.aload_n (q := 0) (pc' := 287) (by decide +kernel) rfl 1 rfl ?_
          refine Gz.getR (pc' := 290) (j := 12) 111 fd_M_23 sh_107 rfl (by decide +kernel) rfl ?_
          refine Gz.iload_n (q := 3) (pc' := 291) (by decide +kernel) rfl 0 rfl ?_
          obtain ⟨c14, h⟩ := zok_c h
          refine Gz.iald (pc' := 292) (n := 5) (by decide +kernel) rfl rfl c14 ?_
          refine Gz.icmp_ne (off := 7) (tgt := 299) (pc' := 295) (by decide +kernel) (by decide) rfl (fun c15 => ?_) (fun c15 => ?_)
          · have h := zok_f c15 h
            refine Gz.iconst (n := 0) (v := (0 : Int32)) (pc' := 300) (by decide +kernel) rfl rfl ?_
            exact Gz.zreturn (by decide +kernel) rfl (by decide) (zok_sI h)
          · have h := zok_t c15 h
            refine Gz.sub (L' := []) [] rfl ?_
            exact g_M_unit_b295 rK hd0 hK w10 h
        · have h := zok_t c12 h
          refine Gz.aload_n (q := 0) (pc' := 263) (by decide +kernel) rfl 1 rfl ?_
          refine Gz.getR (pc' := 266) (j := 12) 111 fd_M_23 sh_107 rfl (by decide +kernel) rfl ?_
          refine Gz.iload_n (q := 2) (pc' := 267) (by decide +kernel) rfl 3 rfl ?_
          obtain ⟨c16, h⟩ := zok_c h
          refine Gz.iald (pc' := 268) (n := 5) (by decide +kernel) rfl rfl c16 ?_
          refine Gz.aload_n (q := 0) (pc' := 269) (by decide +kernel) rfl 1 rfl ?_
          refine Gz.getR (pc' := 272) (j := 12) 111 fd_M_23 sh_107 rfl (by decide +kernel) rfl ?_
          refine Gz.iload_n (q := 3) (pc' := 273) (by decide +kernel) rfl 0 rfl ?_
          obtain ⟨c17, h⟩ := zok_c h
          refine Gz.iald (pc' := 274) (n := 5) (by decide +kernel) rfl rfl c17 ?_
          refine Gz.icmp_ge (off := 25) (tgt := 299) (pc' := 277) (by decide +kernel) (by decide) rfl (fun c18 => ?_) (fun c18 => ?_)
          · have h := zok_t c18 h
            refine Gz.iconst (n := 0) (v := (0 : Int32)) (pc' := 300) (by decide +kernel) rfl rfl ?_
            exact Gz.zreturn (by decide +kernel) rfl (by decide) (zok_sI h)
          · have h := zok_f c18 h
            refine Gz.goto (off := 18) (tgt := 295) (by decide +kernel) (by decide) ?_
            refine Gz.sub (L' := []) [] rfl ?_
            exact g_M_unit_b295 rK hd0 hK w10 h
theorem g_M_unit_rec {l : Launch} (rK : gW → Option (Int32 × gW)) {dK : Nat} (hd0 : 2 ≤ dK) (hK : ∀  (w : gW), gCt l m_M_unit dK [.ref 107] w eI (rK  w)) (w : gW) : gCt l m_M_unit (dK + 3) [.ref 107] w eI (f_M_unit_rec rK w) := by
  intro Q h
  unfold f_M_unit_rec at h
  show Gz l m_M_unit (dK + 3) 0 [(0, .ref 107)] [] w Q
  refine Gz.aload_n (q := 0) (pc' := 1) (by decide +kernel) rfl 0 rfl ?_
  refine Gz.callVI (st := []) (b := 107) (pc' := 4) [] (g_M_look w) h ok_m_M_look lk_M_130 sh_107 rfl rfl rfl (Nat.le_of_ble_eq_true rfl) (by omega) (Nat.le_of_ble_eq_true rfl) (by decide +kernel) rfl (fun v1 w2 h => ?_)
  refine Gz.istore_n (q := 1) (pc' := 5) (L' := [(1, .int v1), (0, .ref 107)]) (by decide +kernel) rfl (Nat.le_of_ble_eq_true rfl) rfl ?_
  refine Gz.iload_n (q := 1) (pc' := 6) (by decide +kernel) rfl 0 rfl ?_
  refine Gz.bipush (n := 33) (v := (33 : Int32)) (pc' := 8) (by decide +kernel) rfl rfl ?_
  refine Gz.icmp_ne (off := 37) (tgt := 45) (pc' := 11) (by decide +kernel) (by decide) rfl (fun c3 => ?_) (fun c3 => ?_)
  · have h := zok_f c3 h
    refine Gz.iload_n (q := 1) (pc' := 46) (by decide +kernel) rfl 0 rfl ?_
    refine Gz.bipush (n := 40) (v := (40 : Int32)) (pc' := 48) (by decide +kernel) rfl rfl ?_
    refine Gz.icmp_ne (off := 48) (tgt := 96) (pc' := 51) (by decide +kernel) (by decide) rfl (fun c4 => ?_) (fun c4 => ?_)
    · have h := zok_f c4 h
      refine Gz.iload_n (q := 1) (pc' := 97) (by decide +kernel) rfl 0 rfl ?_
      refine Gz.bipush (n := 35) (v := (35 : Int32)) (pc' := 99) (by decide +kernel) rfl rfl ?_
      refine Gz.icmp_ne (off := 43) (tgt := 142) (pc' := 102) (by decide +kernel) (by decide) rfl (fun c5 => ?_) (fun c5 => ?_)
      · have h := zok_f c5 h
        refine Gz.aload_n (q := 0) (pc' := 143) (by decide +kernel) rfl 1 rfl ?_
        refine Gz.callVI (st := []) (b := 107) (pc' := 146) [] (g_M_letter w2) h ok_m_M_letter lk_M_174 sh_107 rfl rfl rfl (Nat.le_of_ble_eq_true rfl) (by omega) (Nat.le_of_ble_eq_true rfl) (by decide +kernel) rfl (fun v6 w7 h => ?_)
        refine Gz.istore_n (q := 2) (pc' := 147) (L' := [(2, .int v6), (1, .int v1), (0, .ref 107)]) (by decide +kernel) rfl (Nat.le_of_ble_eq_true rfl) rfl ?_
        refine Gz.iload_n (q := 2) (pc' := 148) (by decide +kernel) rfl 0 rfl ?_
        refine Gz.iconst (n := -1) (v := (-1 : Int32)) (pc' := 149) (by decide +kernel) rfl rfl ?_
        refine Gz.icmp_ne (off := 5) (tgt := 154) (pc' := 152) (by decide +kernel) (by decide) rfl (fun c8 => ?_) (fun c8 => ?_)
        · have h := zok_f c8 h
          refine Gz.aload_n (q := 0) (pc' := 155) (by decide +kernel) rfl 2 rfl ?_
          refine Gz.callVI (st := []) (b := 107) (pc' := 158) [] (g_M_look w7) h ok_m_M_look lk_M_130 sh_107 rfl rfl rfl (Nat.le_of_ble_eq_true rfl) (by omega) (Nat.le_of_ble_eq_true rfl) (by decide +kernel) rfl (fun v9 w10 h => ?_)
          refine Gz.istore_n (q := 1) (pc' := 159) (L' := [(1, .int v9), (2, .int v6), (0, .ref 107)]) (by decide +kernel) rfl (Nat.le_of_ble_eq_true rfl) rfl ?_
          refine Gz.aload_n (q := 0) (pc' := 160) (by decide +kernel) rfl 2 rfl ?_
          refine Gz.callVI (st := []) (b := 107) (pc' := 163) [] (g_M_isDigit w10) h ok_m_M_isDigit lk_M_134 sh_107 rfl rfl rfl (Nat.le_of_ble_eq_true rfl) (by omega) (Nat.le_of_ble_eq_true rfl) (by decide +kernel) rfl (fun v11 w12 h => ?_)
          refine Gz.if_eq (off := 39) (tgt := 202) (pc' := 166) (by decide +kernel) (by decide) rfl (fun c13 => ?_) (fun c13 => ?_)
          · have h := zok_t c13 h
            refine Gz.iload_n (q := 1) (pc' := 203) (by decide +kernel) rfl 0 rfl ?_
            refine Gz.bipush (n := 60) (v := (60 : Int32)) (pc' := 205) (by decide +kernel) rfl rfl ?_
            refine Gz.icmp_eq (off := 15) (tgt := 220) (pc' := 208) (by decide +kernel) (by decide) rfl (fun c14 => ?_) (fun c14 => ?_)
            · have h := zok_t c14 h
              refine Gz.sub (L' := [(0, .ref 107), (1, .int v9), (2, .int v6)]) [2, 0, 1] rfl ?_
              exact g_M_unit_b220 rK hd0 hK v9 v6 w12 h
            · have h := zok_f c14 h
              refine Gz.iload_n (q := 1) (pc' := 209) (by decide +kernel) rfl 0 rfl ?_
              refine Gz.bipush (n := 61) (v := (61 : Int32)) (pc' := 211) (by decide +kernel) rfl rfl ?_
              refine Gz.icmp_eq (off := 9) (tgt := 220) (pc' := 214) (by decide +kernel) (by decide) rfl (fun c15 => ?_) (fun c15 => ?_)
              · have h := zok_t c15 h
                refine Gz.sub (L' := [(0, .ref 107), (1, .int v9), (2, .int v6)]) [2, 0, 1] rfl ?_
                exact g_M_unit_b220 rK hd0 hK v9 v6 w12 h
              · have h := zok_f c15 h
                refine Gz.aload_n (q := 0) (pc' := 215) (by decide +kernel) rfl 2 rfl ?_
                refine Gz.iload_n (q := 2) (pc' := 216) (by decide +kernel) rfl 1 rfl ?_
                refine Gz.callVI (st := []) (b := 107) (pc' := 219) [.int v6] (g_M_isSeen v6 w12) h ok_m_M_isSeen lk_M_177 sh_107 rfl rfl rfl (Nat.le_of_ble_eq_true rfl) (by omega) (Nat.le_of_ble_eq_true rfl) (by decide +kernel) rfl (fun v16 w17 h => ?_)
                obtain ⟨c18, h⟩ := zok_c h
                exact Gz.zreturn (by decide +kernel) rfl c18 (zok_sI h)
          · have h := zok_f c13 h
            refine Gz.aload_n (q := 0) (pc' := 167) (by decide +kernel) rfl 2 rfl ?_
            refine Gz.iconst (n := 0) (v := (0 : Int32)) (pc' := 168) (by decide +kernel) rfl rfl ?_
            refine Gz.iconst (n := 5) (v := (5 : Int32)) (pc' := 169) (by decide +kernel) rfl rfl ?_
            refine Gz.callVI (st := []) (b := 107) (pc' := 172) [.int (0 : Int32), .int (5 : Int32)] (g_M_digit (0 : Int32) (5 : Int32) w12) h ok_m_M_digit lk_M_163 sh_107 rfl rfl rfl (Nat.le_of_ble_eq_true rfl) (by omega) (Nat.le_of_ble_eq_true rfl) (by decide +kernel) rfl (fun v19 w20 h => ?_)
            refine Gz.istore_n (q := 3) (pc' := 173) (L' := [(3, .int v19), (1, .int v9), (2, .int v6), (0, .ref 107)]) (by decide +kernel) rfl (Nat.le_of_ble_eq_true rfl) rfl ?_
            refine Gz.iload_n (q := 3) (pc' := 174) (by decide +kernel) rfl 0 rfl ?_
            refine Gz.iconst (n := -1) (v := (-1 : Int32)) (pc' := 175) (by decide +kernel) rfl rfl ?_
            refine Gz.icmp_eq (off := 25) (tgt := 200) (pc' := 178) (by decide +kernel) (by decide) rfl (fun c21 => ?_) (fun c21 => ?_)
            · have h := zok_t c21 h
              refine Gz.iconst (n := 0) (v := (0 : Int32)) (pc' := 201) (by decide +kernel) rfl rfl ?_
              exact Gz.zreturn (by decide +kernel) rfl (by decide) (zok_sI h)
            · have h := zok_f c21 h
              refine Gz.aload_n (q := 0) (pc' := 179) (by decide +kernel) rfl 3 rfl ?_
              refine Gz.iload_n (q := 2) (pc' := 180) (by decide +kernel) rfl 2 rfl ?_
              refine Gz.callVI (st := []) (b := 107) (pc' := 183) [.int v6] (g_M_isSeen v6 w20) h ok_m_M_isSeen lk_M_177 sh_107 rfl rfl rfl (Nat.le_of_ble_eq_true rfl) (by omega) (Nat.le_of_ble_eq_true rfl) (by decide +kernel) rfl (fun v22 w23 h => ?_)
              refine Gz.if_eq (off := 17) (tgt := 200) (pc' := 186) (by decide +kernel) (by decide) rfl (fun c24 => ?_) (fun c24 => ?_)
              · have h := zok_t c24 h
                refine Gz.iconst (n := 0) (v := (0 : Int32)) (pc' := 201) (by decide +kernel) rfl rfl ?_
                exact Gz.zreturn (by decide +kernel) rfl (by decide) (zok_sI h)
              · have h := zok_f c24 h
                refine Gz.aload_n (q := 0) (pc' := 187) (by decide +kernel) rfl 3 rfl ?_
                refine Gz.getR (pc' := 190) (j := 12) 111 fd_M_23 sh_107 rfl (by decide +kernel) rfl ?_
                refine Gz.iload_n (q := 2) (pc' := 191) (by decide +kernel) rfl 2 rfl ?_
                obtain ⟨c25, h⟩ := zok_c h
                refine Gz.iald (pc' := 192) (n := 5) (by decide +kernel) rfl rfl c25 ?_
                refine Gz.iload_n (q := 3) (pc' := 193) (by decide +kernel) rfl 0 rfl ?_
                refine Gz.icmp_gt (off := 7) (tgt := 200) (pc' := 196) (by decide +kernel) (by decide) rfl (fun c26 => ?_) (fun c26 => ?_)
                · have h := zok_t c26 h
                  refine Gz.iconst (n := 0) (v := (0 : Int32)) (pc' := 201) (by decide +kernel) rfl rfl ?_
                  exact Gz.zreturn (by decide +kernel) rfl (by decide) (zok_sI h)
                · have h := zok_f c26 h
                  refine Gz.iconst (n := 1) (v := (1 : Int32)) (pc' := 197) (by decide +kernel) rfl rfl ?_
                  refine Gz.goto (off := 4) (tgt := 201) (by decide +kernel) (by decide) ?_
                  exact Gz.zreturn (by decide +kernel) rfl (by decide) (zok_sI h)
        · have h := zok_t c8 h
          refine Gz.iconst (n := 0) (v := (0 : Int32)) (pc' := 153) (by decide +kernel) rfl rfl ?_
          exact Gz.zreturn (by decide +kernel) rfl (by decide) (zok_sI h)
      · have h := zok_t c5 h
        refine Gz.aload_n (q := 0) (pc' := 103) (by decide +kernel) rfl 1 rfl ?_
        refine Gz.dup (pc' := 104) (by decide +kernel) rfl rfl ?_
        refine Gz.getI (pc' := 107) (j := 9) fd_M_111 sh_107 rfl (by decide +kernel) rfl ?_
        refine Gz.iconst (n := 1) (v := (1 : Int32)) (pc' := 108) (by decide +kernel) rfl rfl ?_
        refine Gz.iadd (pc' := 109) (by decide +kernel) rfl ?_
        refine Gz.putI (pc' := 112) (j := 9) fd_M_111 sh_107 rfl (by decide +kernel) rfl ?_
        refine Gz.nmW (fun w27 e28 => ?_)
        have h := zok_l e28 h
        refine Gz.aload_n (q := 0) (pc' := 113) (by decide +kernel) rfl 1 rfl ?_
        refine Gz.iconst (n := 0) (v := (0 : Int32)) (pc' := 114) (by decide +kernel) rfl rfl ?_
        refine Gz.bipush (n := 9) (v := (9 : Int32)) (pc' := 116) (by decide +kernel) rfl rfl ?_
        refine Gz.callVI (st := []) (b := 107) (pc' := 119) [.int (0 : Int32), .int (9 : Int32)] (g_M_digit (0 : Int32) (9 : Int32) w27) h ok_m_M_digit lk_M_163 sh_107 rfl rfl rfl (Nat.le_of_ble_eq_true rfl) (by omega) (Nat.le_of_ble_eq_true rfl) (by decide +kernel) rfl (fun v29 w30 h => ?_)
        refine Gz.istore_n (q := 2) (pc' := 120) (L' := [(2, .int v29), (1, .int v1), (0, .ref 107)]) (by decide +kernel) rfl (Nat.le_of_ble_eq_true rfl) rfl ?_
        refine Gz.iload_n (q := 2) (pc' := 121) (by decide +kernel) rfl 0 rfl ?_
        refine Gz.iconst (n := -1) (v := (-1 : Int32)) (pc' := 122) (by decide +kernel) rfl rfl ?_
        refine Gz.icmp_eq (off := 18) (tgt := 140) (pc' := 125) (by decide +kernel) (by decide) rfl (fun c31 => ?_) (fun c31 => ?_)
        · have h := zok_t c31 h
          refine Gz.iconst (n := 0) (v := (0 : Int32)) (pc' := 141) (by decide +kernel) rfl rfl ?_
          exact Gz.zreturn (by decide +kernel) rfl (by decide) (zok_sI h)
        · have h := zok_f c31 h
          refine Gz.aload_n (q := 0) (pc' := 126) (by decide +kernel) rfl 2 rfl ?_
          refine Gz.getI (pc' := 129) (j := 14) fd_M_167 sh_107 rfl (by decide +kernel) rfl ?_
          refine Gz.iload_n (q := 2) (pc' := 130) (by decide +kernel) rfl 0 rfl ?_
          refine Gz.callSI (st := []) (pc' := 133) [.int (w30.1 107 14), .int v29] (g_M_has (w30.1 107 14) v29 w30) h ok_m_M_has lk_M_170 rfl (Nat.le_of_ble_eq_true rfl) (by omega) (Nat.le_of_ble_eq_true rfl) (by decide +kernel) rfl (fun v32 w33 h => ?_)
          refine Gz.if_eq (off := 7) (tgt := 140) (pc' := 136) (by decide +kernel) (by decide) rfl (fun c34 => ?_) (fun c34 => ?_)
          · have h := zok_t c34 h
            refine Gz.iconst (n := 0) (v := (0 : Int32)) (pc' := 141) (by decide +kernel) rfl rfl ?_
            exact Gz.zreturn (by decide +kernel) rfl (by decide) (zok_sI h)
          · have h := zok_f c34 h
            refine Gz.iconst (n := 1) (v := (1 : Int32)) (pc' := 137) (by decide +kernel) rfl rfl ?_
            refine Gz.goto (off := 4) (tgt := 141) (by decide +kernel) (by decide) ?_
            exact Gz.zreturn (by decide +kernel) rfl (by decide) (zok_sI h)
    · have h := zok_t c4 h
      refine Gz.aload_n (q := 0) (pc' := 52) (by decide +kernel) rfl 1 rfl ?_
      refine Gz.callVI (st := []) (b := 107) (pc' := 55) [] (g_M_goesIn w2) h ok_m_M_goesIn lk_M_153 sh_107 rfl rfl rfl (Nat.le_of_ble_eq_true rfl) (by omega) (Nat.le_of_ble_eq_true rfl) (by decide +kernel) rfl (fun v35 w36 h => ?_)
      refine Gz.if_ne (off := 5) (tgt := 60) (pc' := 58) (by decide +kernel) (by decide) rfl (fun c37 => ?_) (fun c37 => ?_)
      · have h := zok_f c37 h
        refine Gz.aload_n (q := 0) (pc' := 61) (by decide +kernel) rfl 1 rfl ?_
        refine Gz.callVI (st := []) (b := 107) (pc' := 64) [] (g_M_oath_rec rK hd0 hK w36) h ok_m_M_oath lk_M_156 sh_107 rfl rfl rfl (Nat.le_of_ble_eq_true rfl) (by omega) (Nat.le_of_ble_eq_true rfl) (by decide +kernel) rfl (fun v38 w39 h => ?_)
        refine Gz.istore_n (q := 2) (pc' := 65) (L' := [(2, .int v38), (1, .int v1), (0, .ref 107)]) (by decide +kernel) rfl (Nat.le_of_ble_eq_true rfl) rfl ?_
        refine Gz.aload_n (q := 0) (pc' := 66) (by decide +kernel) rfl 2 rfl ?_
        refine Gz.getI (pc' := 69) (j := 10) fd_M_120 sh_107 rfl (by decide +kernel) rfl ?_
        refine Gz.iconst (n := -1) (v := (-1 : Int32)) (pc' := 70) (by decide +kernel) rfl rfl ?_
        refine Gz.icmp_ne (off := 12) (tgt := 82) (pc' := 73) (by decide +kernel) (by decide) rfl (fun c40 => ?_) (fun c40 => ?_)
        · have h := zok_f c40 h
          refine Gz.iconst (n := 0) (v := (0 : Int32)) (pc' := 83) (by decide +kernel) rfl rfl ?_
          exact Gz.zreturn (by decide +kernel) rfl (by decide) (zok_sI h)
        · have h := zok_t c40 h
          refine Gz.aload_n (q := 0) (pc' := 74) (by decide +kernel) rfl 2 rfl ?_
          refine Gz.bipush (n := 41) (v := (41 : Int32)) (pc' := 76) (by decide +kernel) rfl rfl ?_
          refine Gz.callVI (st := []) (b := 107) (pc' := 79) [.int (41 : Int32)] (g_M_takes (41 : Int32) w39) h ok_m_M_takes lk_M_159 sh_107 rfl rfl rfl (Nat.le_of_ble_eq_true rfl) (by omega) (Nat.le_of_ble_eq_true rfl) (by decide +kernel) rfl (fun v41 w42 h => ?_)
          refine Gz.if_ne (off := 5) (tgt := 84) (pc' := 82) (by decide +kernel) (by decide) rfl (fun c43 => ?_) (fun c43 => ?_)
          · have h := zok_f c43 h
            refine Gz.aload_n (q := 0) (pc' := 85) (by decide +kernel) rfl 2 rfl ?_
            refine Gz.dup (pc' := 86) (by decide +kernel) rfl rfl ?_
            refine Gz.getI (pc' := 89) (j := 11) fd_M_123 sh_107 rfl (by decide +kernel) rfl ?_
            refine Gz.iconst (n := 1) (v := (1 : Int32)) (pc' := 90) (by decide +kernel) rfl rfl ?_
            refine Gz.isub (pc' := 91) (by decide +kernel) rfl ?_
            refine Gz.putI (pc' := 94) (j := 11) fd_M_123 sh_107 rfl (by decide +kernel) rfl ?_
            refine Gz.nmW (fun w44 e45 => ?_)
            have h := zok_l e45 h
            refine Gz.iload_n (q := 2) (pc' := 95) (by decide +kernel) rfl 0 rfl ?_
            obtain ⟨c46, h⟩ := zok_c h
            exact Gz.zreturn (by decide +kernel) rfl c46 (zok_sI h)
          · have h := zok_t c43 h
            refine Gz.iconst (n := 0) (v := (0 : Int32)) (pc' := 83) (by decide +kernel) rfl rfl ?_
            exact Gz.zreturn (by decide +kernel) rfl (by decide) (zok_sI h)
      · have h := zok_t c37 h
        refine Gz.iconst (n := 0) (v := (0 : Int32)) (pc' := 59) (by decide +kernel) rfl rfl ?_
        exact Gz.zreturn (by decide +kernel) rfl (by decide) (zok_sI h)
  · have h := zok_t c3 h
    refine Gz.aload_n (q := 0) (pc' := 12) (by decide +kernel) rfl 1 rfl ?_
    refine Gz.callVI (st := []) (b := 107) (pc' := 15) [] (g_M_goesIn w2) h ok_m_M_goesIn lk_M_153 sh_107 rfl rfl rfl (Nat.le_of_ble_eq_true rfl) (by omega) (Nat.le_of_ble_eq_true rfl) (by decide +kernel) rfl (fun v47 w48 h => ?_)
    refine Gz.if_ne (off := 5) (tgt := 20) (pc' := 18) (by decide +kernel) (by decide) rfl (fun c49 => ?_) (fun c49 => ?_)
    · have h := zok_f c49 h
      refine Gz.aload_n (q := 0) (pc' := 21) (by decide +kernel) rfl 1 rfl ?_
      refine Gz.callVI (st := []) (b := 107) (pc' := 24) [] (hK w48) h ok_m_M_unit lk_M_150 sh_107 rfl rfl rfl (Nat.le_of_ble_eq_true rfl) (by omega) (Nat.le_of_ble_eq_true rfl) (by decide +kernel) rfl (fun v50 w51 h => ?_)
      refine Gz.istore_n (q := 2) (pc' := 25) (L' := [(2, .int v50), (1, .int v1), (0, .ref 107)]) (by decide +kernel) rfl (Nat.le_of_ble_eq_true rfl) rfl ?_
      refine Gz.aload_n (q := 0) (pc' := 26) (by decide +kernel) rfl 2 rfl ?_
      refine Gz.dup (pc' := 27) (by decide +kernel) rfl rfl ?_
      refine Gz.getI (pc' := 30) (j := 11) fd_M_123 sh_107 rfl (by decide +kernel) rfl ?_
      refine Gz.iconst (n := 1) (v := (1 : Int32)) (pc' := 31) (by decide +kernel) rfl rfl ?_
      refine Gz.isub (pc' := 32) (by decide +kernel) rfl ?_
      refine Gz.putI (pc' := 35) (j := 11) fd_M_123 sh_107 rfl (by decide +kernel) rfl ?_
      refine Gz.nmW (fun w52 e53 => ?_)
      have h := zok_l e53 h
      refine Gz.iload_n (q := 2) (pc' := 36) (by decide +kernel) rfl 0 rfl ?_
      refine Gz.if_ne (off := 7) (tgt := 43) (pc' := 39) (by decide +kernel) (by decide) rfl (fun c54 => ?_) (fun c54 => ?_)
      · have h := zok_f c54 h
        refine Gz.iconst (n := 0) (v := (0 : Int32)) (pc' := 44) (by decide +kernel) rfl rfl ?_
        exact Gz.zreturn (by decide +kernel) rfl (by decide) (zok_sI h)
      · have h := zok_t c54 h
        refine Gz.iconst (n := 1) (v := (1 : Int32)) (pc' := 40) (by decide +kernel) rfl rfl ?_
        refine Gz.goto (off := 4) (tgt := 44) (by decide +kernel) (by decide) ?_
        exact Gz.zreturn (by decide +kernel) rfl (by decide) (zok_sI h)
    · have h := zok_t c49 h
      refine Gz.iconst (n := 0) (v := (0 : Int32)) (pc' := 19) (by decide +kernel) rfl rfl ?_
      exact Gz.zreturn (by decide +kernel) rfl (by decide) (zok_sI h)
theorem g_M_unit_n {l : Launch} : ∀ (n : Nat)  (w : gW), gCt l m_M_unit (2 + n * 3) [.ref 107] w eI (zfx (fun _ => none) f_M_unit_rec n w) := by
  intro n
  induction n with
  | zero => intro w Q h; exact zok_n h
  | succ n ih =>
    intro w
    have hh := g_M_unit_rec (l := l) _ (dK := 2 + n * 3) (by omega) ih w
    rw [show 2 + (n + 1) * 3 = 2 + n * 3 + 3 by omega]
    exact hh
theorem g_M_unit {l : Launch} (w : gW) : gCt l m_M_unit 50 [.ref 107] w eI (f_M_unit w) := g_M_unit_n 16 w
theorem g_M_choice {l : Launch} (w : gW) : gCt l m_M_choice 51 [.ref 107] w eI (f_M_choice w) := g_M_choice_rec (l := l) f_M_unit (dK := 50) (by omega) (fun  w => g_M_unit  w) w
theorem g_M_oath {l : Launch} (w : gW) : gCt l m_M_oath 52 [.ref 107] w eI (f_M_oath w) := g_M_oath_rec (l := l) f_M_unit (dK := 50) (by omega) (fun  w => g_M_unit  w) w
def f_M_goThrough_b34 (x4 : Int32) (w : gW) : Option (Int32 × gW) :=
if x4 &&& 1 = x4 then some (x4, w) else none
def f_M_goThrough (a1 : Nat) (a2 : Int32) (a3 : Int32) (w : gW) : Option (Int32 × gW) :=
zb (f_M_opens a1 a2 a3 w) (fun _ w1 =>
zb (f_M_oath w1) (fun v2 w3 =>
if (w3.1 107 10) = (-1 : Int32) then
(zb (f_M_look w3) (fun v5 w6 =>
if v5 = (-1 : Int32) then
(f_M_goThrough_b34 v2 w6)
else
(zb (f_M_fails w6) (fun v8 w9 =>
f_M_goThrough_b34 v2 w9))))
else
(f_M_goThrough_b34 v2 w3)))
theorem g_M_goThrough_b34 {l : Launch} {Q : Option Value → gW → Prop} (x4 : Int32) (w : gW) (h : zok eI (f_M_goThrough_b34 x4 w) Q) : Gz l m_M_goThrough 53 34 [(4, .int x4)] [] w Q := by
  unfold f_M_goThrough_b34 at h
  refine Gz.iload (i := 4) (pc' := 36) (by decide +kernel) rfl 0 rfl ?_
  obtain ⟨c1, h⟩ := zok_c h
  exact Gz.zreturn (by decide +kernel) rfl c1 (zok_sI h)
theorem g_M_goThrough {l : Launch} (a1 : Nat) (a2 : Int32) (a3 : Int32) (w : gW) : gCt l m_M_goThrough 53 [.ref 107, .ref a1, .int a2, .int a3] w eI (f_M_goThrough a1 a2 a3 w) := by
  intro Q h
  unfold f_M_goThrough at h
  show Gz l m_M_goThrough 53 0 [(0, .ref 107), (1, .ref a1), (2, .int a2), (3, .int a3)] [] w Q
  refine Gz.aload_n (q := 0) (pc' := 1) (by decide +kernel) rfl 0 rfl ?_
  refine Gz.aload_n (q := 1) (pc' := 2) (by decide +kernel) rfl 1 rfl ?_
  refine Gz.iload_n (q := 2) (pc' := 3) (by decide +kernel) rfl 2 rfl ?_
  refine Gz.iload_n (q := 3) (pc' := 4) (by decide +kernel) rfl 3 rfl ?_
  refine Gz.callVV (st := []) (b := 107) (pc' := 7) [.ref a1, .int a2, .int a3] (g_M_opens a1 a2 a3 w) h ok_m_M_opens lk_M_180 sh_107 rfl rfl rfl (Nat.le_of_ble_eq_true rfl) (Nat.le_of_ble_eq_true rfl) (Nat.le_of_ble_eq_true rfl) (by decide +kernel) rfl (fun _ w1 h => ?_)
  refine Gz.aload_n (q := 0) (pc' := 8) (by decide +kernel) rfl 0 rfl ?_
  refine Gz.callVI (st := []) (b := 107) (pc' := 11) [] (g_M_oath w1) h ok_m_M_oath lk_M_156 sh_107 rfl rfl rfl (Nat.le_of_ble_eq_true rfl) (Nat.le_of_ble_eq_true rfl) (Nat.le_of_ble_eq_true rfl) (by decide +kernel) rfl (fun v2 w3 h => ?_)
  refine Gz.istore (i := 4) (pc' := 13) (L' := [(4, .int v2), (0, .ref 107), (1, .ref a1), (2, .int a2), (3, .int a3)]) (by decide +kernel) rfl (Nat.le_of_ble_eq_true rfl) rfl ?_
  refine Gz.aload_n (q := 0) (pc' := 14) (by decide +kernel) rfl 1 rfl ?_
  refine Gz.getI (pc' := 17) (j := 10) fd_M_120 sh_107 rfl (by decide +kernel) rfl ?_
  refine Gz.iconst (n := -1) (v := (-1 : Int32)) (pc' := 18) (by decide +kernel) rfl rfl ?_
  refine Gz.icmp_ne (off := 16) (tgt := 34) (pc' := 21) (by decide +kernel) (by decide) rfl (fun c4 => ?_) (fun c4 => ?_)
  · have h := zok_f c4 h
    refine Gz.sub (L' := [(4, .int v2)]) [0] rfl ?_
    exact g_M_goThrough_b34 v2 w3 h
  · have h := zok_t c4 h
    refine Gz.aload_n (q := 0) (pc' := 22) (by decide +kernel) rfl 1 rfl ?_
    refine Gz.callVI (st := []) (b := 107) (pc' := 25) [] (g_M_look w3) h ok_m_M_look lk_M_130 sh_107 rfl rfl rfl (Nat.le_of_ble_eq_true rfl) (Nat.le_of_ble_eq_true rfl) (Nat.le_of_ble_eq_true rfl) (by decide +kernel) rfl (fun v5 w6 h => ?_)
    refine Gz.iconst (n := -1) (v := (-1 : Int32)) (pc' := 26) (by decide +kernel) rfl rfl ?_
    refine Gz.icmp_eq (off := 8) (tgt := 34) (pc' := 29) (by decide +kernel) (by decide) rfl (fun c7 => ?_) (fun c7 => ?_)
    · have h := zok_t c7 h
      refine Gz.sub (L' := [(4, .int v2)]) [0] rfl ?_
      exact g_M_goThrough_b34 v2 w6 h
    · have h := zok_f c7 h
      refine Gz.aload_n (q := 0) (pc' := 30) (by decide +kernel) rfl 1 rfl ?_
      refine Gz.callVI (st := []) (b := 107) (pc' := 33) [] (g_M_fails w6) h ok_m_M_fails lk_M_126 sh_107 rfl rfl rfl (Nat.le_of_ble_eq_true rfl) (Nat.le_of_ble_eq_true rfl) (Nat.le_of_ble_eq_true rfl) (by decide +kernel) rfl (fun v8 w9 h => ?_)
      refine Gz.pop (pc' := 34) (by decide +kernel) rfl rfl ?_
      refine Gz.sub (L' := [(4, .int v2)]) [0] rfl ?_
      exact g_M_goThrough_b34 v2 w9 h
def f_M_readOath (w : gW) : Option (Unit × gW) :=
zb (f_M_goThrough 108 (0 : Int32) (w.1 107 5) w) (fun v1 w2 =>
some ((), w2))
theorem g_M_readOath {l : Launch} (w : gW) : gCt l m_M_readOath 54 [.ref 107] w eV (f_M_readOath w) := by
  intro Q h
  unfold f_M_readOath at h
  show Gz l m_M_readOath 54 0 [(0, .ref 107)] [] w Q
  refine Gz.aload_n (q := 0) (pc' := 1) (by decide +kernel) rfl 0 rfl ?_
  refine Gz.aload_n (q := 0) (pc' := 2) (by decide +kernel) rfl 0 rfl ?_
  refine Gz.getR (pc' := 5) (j := 1) 108 fd_M_9 sh_107 rfl (by decide +kernel) rfl ?_
  refine Gz.iconst (n := 0) (v := (0 : Int32)) (pc' := 6) (by decide +kernel) rfl rfl ?_
  refine Gz.aload_n (q := 0) (pc' := 7) (by decide +kernel) rfl 0 rfl ?_
  refine Gz.getI (pc' := 10) (j := 5) fd_M_100 sh_107 rfl (by decide +kernel) rfl ?_
  refine Gz.callVI (st := []) (b := 107) (pc' := 13) [.ref 108, .int (0 : Int32), .int (w.1 107 5)] (g_M_goThrough 108 (0 : Int32) (w.1 107 5) w) h ok_m_M_goThrough lk_M_199 sh_107 rfl rfl rfl (Nat.le_of_ble_eq_true rfl) (Nat.le_of_ble_eq_true rfl) (Nat.le_of_ble_eq_true rfl) (by decide +kernel) rfl (fun v1 w2 h => ?_)
  refine Gz.istore_n (q := 1) (pc' := 14) (L' := [(1, .int v1), (0, .ref 107)]) (by decide +kernel) rfl (Nat.le_of_ble_eq_true rfl) rfl ?_
  exact Gz.return_ (by decide +kernel) rfl (zok_sV h)
def f_M_fault_b33 (w : gW) : Option (Int32 × gW) :=
some (w.1 107 10, w)
def f_M_fault (a1 : Int32) (w : gW) : Option (Int32 × gW) :=
zl (zsI w 107 0 (0 : Int32)) (fun w1 =>
zb (f_M_isIn (a1.toInt64) (0 : Int64) (1 : Int64) w1) (fun v3 w4 =>
if v3 = 0 then
(some ((-2 : Int32), w4))
else
(if a1 = 0 then
(zb (f_M_readLand w4) (fun _ w8 =>
f_M_fault_b33 w8))
else
(zb (f_M_readOath w4) (fun _ w7 =>
f_M_fault_b33 w7)))))
theorem g_M_fault_b33 {l : Launch} {Q : Option Value → gW → Prop} (w : gW) (h : zok eI (f_M_fault_b33 w) Q) : Gz l m_M_fault 55 33 [(0, .ref 107)] [] w Q := by
  unfold f_M_fault_b33 at h
  refine Gz.aload_n (q := 0) (pc' := 34) (by decide +kernel) rfl 0 rfl ?_
  refine Gz.getI (pc' := 37) (j := 10) fd_M_120 sh_107 rfl (by decide +kernel) rfl ?_
  exact Gz.ireturn (by decide +kernel) rfl (zok_sI h)
theorem g_M_fault {l : Launch} (a1 : Int32) (w : gW) : gCt l m_M_fault 55 [.ref 107, .int a1] w eI (f_M_fault a1 w) := by
  intro Q h
  unfold f_M_fault at h
  show Gz l m_M_fault 55 0 [(0, .ref 107), (1, .int a1)] [] w Q
  refine Gz.aload_n (q := 0) (pc' := 1) (by decide +kernel) rfl 0 rfl ?_
  refine Gz.iconst (n := 0) (v := (0 : Int32)) (pc' := 2) (by decide +kernel) rfl rfl ?_
  refine Gz.putI (pc' := 5) (j := 0) fd_M_96 sh_107 rfl (by decide +kernel) rfl ?_
  refine Gz.nmW (fun w1 e2 => ?_)
  have h := zok_l e2 h
  refine Gz.iload_n (q := 1) (pc' := 6) (by decide +kernel) rfl 1 rfl ?_
  refine Gz.i2l (pc' := 7) (by decide +kernel) rfl ?_
  refine Gz.lconst (n := 0) (v := (0 : Int64)) (pc' := 8) (by decide +kernel) rfl rfl ?_
  refine Gz.lconst (n := 1) (v := (1 : Int64)) (pc' := 9) (by decide +kernel) rfl rfl ?_
  refine Gz.callSI (st := []) (pc' := 12) [.long (a1.toInt64), .long (0 : Int64), .long (1 : Int64)] (g_M_isIn (a1.toInt64) (0 : Int64) (1 : Int64) w1) h ok_m_M_isIn lk_M_137 rfl (Nat.le_of_ble_eq_true rfl) (Nat.le_of_ble_eq_true rfl) (Nat.le_of_ble_eq_true rfl) (by decide +kernel) rfl (fun v3 w4 h => ?_)
  refine Gz.if_ne (off := 6) (tgt := 18) (pc' := 15) (by decide +kernel) (by decide) rfl (fun c5 => ?_) (fun c5 => ?_)
  · have h := zok_f c5 h
    refine Gz.iload_n (q := 1) (pc' := 19) (by decide +kernel) rfl 1 rfl ?_
    refine Gz.if_ne (off := 10) (tgt := 29) (pc' := 22) (by decide +kernel) (by decide) rfl (fun c6 => ?_) (fun c6 => ?_)
    · have h := zok_f c6 h
      refine Gz.aload_n (q := 0) (pc' := 30) (by decide +kernel) rfl 0 rfl ?_
      refine Gz.callVV (st := []) (b := 107) (pc' := 33) [] (g_M_readOath w4) h ok_m_M_readOath lk_M_196 sh_107 rfl rfl rfl (Nat.le_of_ble_eq_true rfl) (Nat.le_of_ble_eq_true rfl) (Nat.le_of_ble_eq_true rfl) (by decide +kernel) rfl (fun _ w7 h => ?_)
      refine Gz.sub (L' := [(0, .ref 107)]) [0] rfl ?_
      exact g_M_fault_b33 w7 h
    · have h := zok_t c6 h
      refine Gz.aload_n (q := 0) (pc' := 23) (by decide +kernel) rfl 0 rfl ?_
      refine Gz.callVV (st := []) (b := 107) (pc' := 26) [] (g_M_readLand w4) h ok_m_M_readLand lk_M_193 sh_107 rfl rfl rfl (Nat.le_of_ble_eq_true rfl) (Nat.le_of_ble_eq_true rfl) (Nat.le_of_ble_eq_true rfl) (by decide +kernel) rfl (fun _ w8 h => ?_)
      refine Gz.goto (off := 7) (tgt := 33) (by decide +kernel) (by decide) ?_
      refine Gz.sub (L' := [(0, .ref 107)]) [0] rfl ?_
      exact g_M_fault_b33 w8 h
  · have h := zok_t c5 h
    refine Gz.bipush (n := -2) (v := (-2 : Int32)) (pc' := 17) (by decide +kernel) rfl rfl ?_
    exact Gz.ireturn (by decide +kernel) rfl (zok_sI h)
def f_M_layLives_b36_s (rK : Int32 → Int32 → gW → Option (Unit × gW)) (k36 : Int32 → Int32 → Int32 → gW → Option (Unit × gW)) (x1 : Int32) (x2 : Int32) (x3 : Int32) (w : gW) : Option (Unit × gW) :=
if inb x1 5 then
if (w.1 114 (ix x1)) < x3 then
(zb (rK (x1 + (1 : Int32)) (((10 : Int32) * x2) + (9 : Int32)) w) (fun _ w3 =>
some ((), w3)))
else
(zb (rK (x1 + (1 : Int32)) (((10 : Int32) * x2) + x3) w) (fun _ w4 =>
zl (x3 + (1 : Int32)) (fun v5 =>
k36 x1 x2 v5 w4)))
else none
def f_M_layLives_b36 (rK : Int32 → Int32 → gW → Option (Unit × gW)) : Int32 → Int32 → Int32 → gW → Option (Unit × gW) := zfx (fun _ _ _ _ => none) (f_M_layLives_b36_s rK) zFU
def f_M_layLives_rec (rK : Int32 → Int32 → gW → Option (Unit × gW)) (a1 : Int32) (a2 : Int32) (w : gW) : Option (Unit × gW) :=
if a1 = (w.1 107 21) then
(if inb (w.1 107 26) 16807 then
zl (zsI w 118 (ix (w.1 107 26)) a2) (fun w6 =>
zl (zsI w6 107 26 ((w6.1 107 26) + (1 : Int32))) (fun w8 =>
some ((), w8)))
else none)
else
(if inb a1 5 then
zl (w.1 113 (ix a1)) (fun v3 =>
f_M_layLives_b36 rK a1 a2 v3 w)
else none)
def f_M_layLives (a1 : Int32) (a2 : Int32) (w : gW) : Option (Unit × gW) := zfx (fun _ _ _ => none) f_M_layLives_rec 16 a1 a2 w
theorem g_M_layLives_b36_s {l : Launch} {Q : Option Value → gW → Prop} (rK : Int32 → Int32 → gW → Option (Unit × gW)) {dK : Nat} (hd0 : 0 ≤ dK) (hK : ∀ (a1 : Int32) (a2 : Int32) (w : gW), gCt l m_M_layLives dK [.ref 107, .int a1, .int a2] w eV (rK a1 a2 w)) (k36 : Int32 → Int32 → Int32 → gW → Option (Unit × gW)) (hk36 : ∀ (x1 : Int32) (x2 : Int32) (x3 : Int32) (w : gW), zok eV (k36 x1 x2 x3 w) Q → Gz l m_M_layLives (dK + 1) 36 [(0, .ref 107), (1, .int x1), (2, .int x2), (3, .int x3)] [] w Q) (x1 : Int32) (x2 : Int32) (x3 : Int32) (w : gW) (h : zok eV (f_M_layLives_b36_s rK k36 x1 x2 x3 w) Q) : Gz l m_M_layLives (dK + 1) 36 [(0, .ref 107), (1, .int x1), (2, .int x2), (3, .int x3)] [] w Q := by
  unfold f_M_layLives_b36_s at h
  refine Gz.iload_n (q := 3) (pc' := 37) (by decide +kernel) rfl 3 rfl ?_
  refine Gz.aload_n (q := 0) (pc' := 38) (by decide +kernel) rfl 0 rfl ?_
  refine Gz.getR (pc' := 41) (j := 17) 114 fd_M_32 sh_107 rfl (by decide +kernel) rfl ?_
  refine Gz.iload_n (q := 1) (pc' := 42) (by decide +kernel) rfl 1 rfl ?_
  obtain ⟨c1, h⟩ := zok_c h
  refine Gz.iald (pc' := 43) (n := 5) (by decide +kernel) rfl rfl c1 ?_
  refine Gz.icmp_gt (off := 22) (tgt := 65) (pc' := 46) (by decide +kernel) (by decide) rfl (fun c2 => ?_) (fun c2 => ?_)
  · have h := zok_t c2 h
    refine Gz.aload_n (q := 0) (pc' := 66) (by decide +kernel) rfl 0 rfl ?_
    refine Gz.iload_n (q := 1) (pc' := 67) (by decide +kernel) rfl 1 rfl ?_
    refine Gz.iconst (n := 1) (v := (1 : Int32)) (pc' := 68) (by decide +kernel) rfl rfl ?_
    refine Gz.iadd (pc' := 69) (by decide +kernel) rfl ?_
    refine Gz.bipush (n := 10) (v := (10 : Int32)) (pc' := 71) (by decide +kernel) rfl rfl ?_
    refine Gz.iload_n (q := 2) (pc' := 72) (by decide +kernel) rfl 2 rfl ?_
    refine Gz.imul (pc' := 73) (by decide +kernel) rfl ?_
    refine Gz.bipush (n := 9) (v := (9 : Int32)) (pc' := 75) (by decide +kernel) rfl rfl ?_
    refine Gz.iadd (pc' := 76) (by decide +kernel) rfl ?_
    refine Gz.callVV (st := []) (b := 107) (pc' := 79) [.int (x1 + (1 : Int32)), .int (((10 : Int32) * x2) + (9 : Int32))] (hK (x1 + (1 : Int32)) (((10 : Int32) * x2) + (9 : Int32)) w) h ok_m_M_layLives lk_M_227 sh_107 rfl rfl rfl (Nat.le_of_ble_eq_true rfl) (by omega) (Nat.le_of_ble_eq_true rfl) (by decide +kernel) rfl (fun _ w3 h => ?_)
    exact Gz.return_ (by decide +kernel) rfl (zok_sV h)
  · have h := zok_f c2 h
    refine Gz.aload_n (q := 0) (pc' := 47) (by decide +kernel) rfl 0 rfl ?_
    refine Gz.iload_n (q := 1) (pc' := 48) (by decide +kernel) rfl 1 rfl ?_
    refine Gz.iconst (n := 1) (v := (1 : Int32)) (pc' := 49) (by decide +kernel) rfl rfl ?_
    refine Gz.iadd (pc' := 50) (by decide +kernel) rfl ?_
    refine Gz.bipush (n := 10) (v := (10 : Int32)) (pc' := 52) (by decide +kernel) rfl rfl ?_
    refine Gz.iload_n (q := 2) (pc' := 53) (by decide +kernel) rfl 2 rfl ?_
    refine Gz.imul (pc' := 54) (by decide +kernel) rfl ?_
    refine Gz.iload_n (q := 3) (pc' := 55) (by decide +kernel) rfl 3 rfl ?_
    refine Gz.iadd (pc' := 56) (by decide +kernel) rfl ?_
    refine Gz.callVV (st := []) (b := 107) (pc' := 59) [.int (x1 + (1 : Int32)), .int (((10 : Int32) * x2) + x3)] (hK (x1 + (1 : Int32)) (((10 : Int32) * x2) + x3) w) h ok_m_M_layLives lk_M_227 sh_107 rfl rfl rfl (Nat.le_of_ble_eq_true rfl) (by omega) (Nat.le_of_ble_eq_true rfl) (by decide +kernel) rfl (fun _ w4 h => ?_)
    obtain ⟨v5, e6⟩ : ∃ y : Int32, y = x3 + (1 : Int32) := ⟨_, rfl⟩
    have h := zok_l e6 h
    refine Gz.iinc (i := 3) (n := 1) (pc' := 62) (L' := [(3, .int v5), (0, .ref 107), (1, .int x1), (2, .int x2)]) v5 (by decide +kernel) rfl 3 rfl (by rw [e6]; rfl) (Nat.le_of_ble_eq_true rfl) rfl ?_
    refine Gz.goto (off := -26) (tgt := 36) (by decide +kernel) (by decide) ?_
    refine Gz.sub (L' := [(0, .ref 107), (1, .int x1), (2, .int x2), (3, .int v5)]) [1, 2, 3, 0] rfl ?_
    exact hk36 x1 x2 v5 w4 h
theorem g_M_layLives_b36 {l : Launch} {Q : Option Value → gW → Prop} (rK : Int32 → Int32 → gW → Option (Unit × gW)) {dK : Nat} (hd0 : 0 ≤ dK) (hK : ∀ (a1 : Int32) (a2 : Int32) (w : gW), gCt l m_M_layLives dK [.ref 107, .int a1, .int a2] w eV (rK a1 a2 w)) (x1 : Int32) (x2 : Int32) (x3 : Int32) (w : gW) (h : zok eV (f_M_layLives_b36 rK x1 x2 x3 w) Q) : Gz l m_M_layLives (dK + 1) 36 [(0, .ref 107), (1, .int x1), (2, .int x2), (3, .int x3)] [] w Q := by
  have key : ∀ (n : Nat) (x1 : Int32) (x2 : Int32) (x3 : Int32) (w : gW), zok eV (zfx (fun _ _ _ _ => none) (f_M_layLives_b36_s rK) n x1 x2 x3 w) Q → Gz l m_M_layLives (dK + 1) 36 [(0, .ref 107), (1, .int x1), (2, .int x2), (3, .int x3)] [] w Q := by
    intro n
    induction n with
    | zero => intro x1 x2 x3 w h; exact zok_n h
    | succ n ih => intro x1 x2 x3 w h; exact g_M_layLives_b36_s rK hd0 hK _ ih x1 x2 x3 w h
  exact key zFU x1 x2 x3 w h
theorem g_M_layLives_rec {l : Launch} (rK : Int32 → Int32 → gW → Option (Unit × gW)) {dK : Nat} (hd0 : 0 ≤ dK) (hK : ∀ (a1 : Int32) (a2 : Int32) (w : gW), gCt l m_M_layLives dK [.ref 107, .int a1, .int a2] w eV (rK a1 a2 w)) (a1 : Int32) (a2 : Int32) (w : gW) : gCt l m_M_layLives (dK + 1) [.ref 107, .int a1, .int a2] w eV (f_M_layLives_rec rK a1 a2 w) := by
  intro Q h
  unfold f_M_layLives_rec at h
  show Gz l m_M_layLives (dK + 1) 0 [(0, .ref 107), (1, .int a1), (2, .int a2)] [] w Q
  refine Gz.iload_n (q := 1) (pc' := 1) (by decide +kernel) rfl 1 rfl ?_
  refine Gz.aload_n (q := 0) (pc' := 2) (by decide +kernel) rfl 0 rfl ?_
  refine Gz.getI (pc' := 5) (j := 21) fd_M_141 sh_107 rfl (by decide +kernel) rfl ?_
  refine Gz.icmp_ne (off := 24) (tgt := 29) (pc' := 8) (by decide +kernel) (by decide) rfl (fun c1 => ?_) (fun c1 => ?_)
  · have h := zok_f c1 h
    refine Gz.aload_n (q := 0) (pc' := 30) (by decide +kernel) rfl 0 rfl ?_
    refine Gz.getR (pc' := 33) (j := 16) 113 fd_M_29 sh_107 rfl (by decide +kernel) rfl ?_
    refine Gz.iload_n (q := 1) (pc' := 34) (by decide +kernel) rfl 1 rfl ?_
    obtain ⟨c2, h⟩ := zok_c h
    refine Gz.iald (pc' := 35) (n := 5) (by decide +kernel) rfl rfl c2 ?_
    refine Gz.nmI (fun v3 e4 => ?_)
    have h := zok_l e4 h
    refine Gz.istore_n (q := 3) (pc' := 36) (L' := [(3, .int v3), (0, .ref 107), (1, .int a1), (2, .int a2)]) (by decide +kernel) rfl (Nat.le_of_ble_eq_true rfl) rfl ?_
    refine Gz.sub (L' := [(0, .ref 107), (1, .int a1), (2, .int a2), (3, .int v3)]) [1, 2, 3, 0] rfl ?_
    exact g_M_layLives_b36 rK hd0 hK a1 a2 v3 w h
  · have h := zok_t c1 h
    refine Gz.aload_n (q := 0) (pc' := 9) (by decide +kernel) rfl 0 rfl ?_
    refine Gz.getR (pc' := 12) (j := 25) 118 fd_M_44 sh_107 rfl (by decide +kernel) rfl ?_
    refine Gz.aload_n (q := 0) (pc' := 13) (by decide +kernel) rfl 0 rfl ?_
    refine Gz.getI (pc' := 16) (j := 26) fd_M_224 sh_107 rfl (by decide +kernel) rfl ?_
    refine Gz.iload_n (q := 2) (pc' := 17) (by decide +kernel) rfl 2 rfl ?_
    obtain ⟨c5, h⟩ := zok_c h
    refine Gz.iast (pc' := 18) (n := 16807) (by decide +kernel) rfl rfl c5 ?_
    refine Gz.nmW (fun w6 e7 => ?_)
    have h := zok_l e7 h
    refine Gz.aload_n (q := 0) (pc' := 19) (by decide +kernel) rfl 0 rfl ?_
    refine Gz.dup (pc' := 20) (by decide +kernel) rfl rfl ?_
    refine Gz.getI (pc' := 23) (j := 26) fd_M_224 sh_107 rfl (by decide +kernel) rfl ?_
    refine Gz.iconst (n := 1) (v := (1 : Int32)) (pc' := 24) (by decide +kernel) rfl rfl ?_
    refine Gz.iadd (pc' := 25) (by decide +kernel) rfl ?_
    refine Gz.putI (pc' := 28) (j := 26) fd_M_224 sh_107 rfl (by decide +kernel) rfl ?_
    refine Gz.nmW (fun w8 e9 => ?_)
    have h := zok_l e9 h
    exact Gz.return_ (by decide +kernel) rfl (zok_sV h)
theorem g_M_layLives_n {l : Launch} : ∀ (n : Nat) (a1 : Int32) (a2 : Int32) (w : gW), gCt l m_M_layLives (0 + n * 1) [.ref 107, .int a1, .int a2] w eV (zfx (fun _ _ _ => none) f_M_layLives_rec n a1 a2 w) := by
  intro n
  induction n with
  | zero => intro a1 a2 w Q h; exact zok_n h
  | succ n ih =>
    intro a1 a2 w
    have hh := g_M_layLives_rec (l := l) _ (dK := 0 + n * 1) (by omega) ih a1 a2 w
    rw [show 0 + (n + 1) * 1 = 0 + n * 1 + 1 by omega]
    exact hh
theorem g_M_layLives {l : Launch} (a1 : Int32) (a2 : Int32) (w : gW) : gCt l m_M_layLives 16 [.ref 107, .int a1, .int a2] w eV (f_M_layLives a1 a2 w) := g_M_layLives_n 16 a1 a2 w
