def f_X_image (w : gW) : Option (Int32 × gW) :=
zb (f_La_isThere w) (fun v1 w2 =>
if v1 = 0 then
(some ((-1 : Int32), w2))
else
(zb (f_An_copyOf_66_59 w2) (fun _ w4 =>
zl (zsI w4 0 11 (1 : Int32)) (fun w5 =>
zb (f_An_actCount w5) (fun v7 w8 =>
some (v7, w8))))))
theorem g_X_image {l : Launch} (w : gW) : gCt l m_X_image 2 [.ref 0] w eI (f_X_image w) := by
  intro Q h
  unfold f_X_image at h
  show Gz l m_X_image 2 0 [(0, .ref 0)] [] w Q
  refine Gz.aload_n (q := 0) (pc' := 1) (by decide +kernel) rfl 0 rfl ?_
  refine Gz.getR (pc' := 4) (j := 3) 19 fd_X_33 sh_0 rfl (by decide +kernel) rfl ?_
  refine Gz.callVI (st := []) (b := 19) (pc' := 7) [] (g_La_isThere w) h ok_m_La_isThere lk_X_176 sh_19 rfl rfl rfl (Nat.le_of_ble_eq_true rfl) (Nat.le_of_ble_eq_true rfl) (Nat.le_of_ble_eq_true rfl) (by decide +kernel) rfl (fun v1 w2 h => ?_)
  refine Gz.if_ne (off := 5) (tgt := 12) (pc' := 10) (by decide +kernel) (by decide) rfl (fun c3 => ?_) (fun c3 => ?_)
  · have h := zok_f c3 h
    refine Gz.aload_n (q := 0) (pc' := 13) (by decide +kernel) rfl 0 rfl ?_
    refine Gz.getR (pc' := 16) (j := 5) 66 fd_X_44 sh_0 rfl (by decide +kernel) rfl ?_
    refine Gz.aload_n (q := 0) (pc' := 17) (by decide +kernel) rfl 0 rfl ?_
    refine Gz.getR (pc' := 20) (j := 4) 59 fd_X_40 sh_0 rfl (by decide +kernel) rfl ?_
    refine Gz.callVV (st := []) (b := 66) (pc' := 23) [.ref 59] (g_An_copyOf_66_59 w2) h ok_m_An_copyOf lk_X_345 sh_66 rfl rfl rfl (Nat.le_of_ble_eq_true rfl) (Nat.le_of_ble_eq_true rfl) (Nat.le_of_ble_eq_true rfl) (by decide +kernel) rfl (fun _ w4 h => ?_)
    refine Gz.aload_n (q := 0) (pc' := 24) (by decide +kernel) rfl 0 rfl ?_
    refine Gz.iconst (n := 1) (v := (1 : Int32)) (pc' := 25) (by decide +kernel) rfl rfl ?_
    refine Gz.putZ (pc' := 28) (j := 11) fd_X_92 sh_0 rfl (by decide +kernel) rfl (by decide) ?_
    refine Gz.nmW (fun w5 e6 => ?_)
    have h := zok_l e6 h
    refine Gz.aload_n (q := 0) (pc' := 29) (by decide +kernel) rfl 0 rfl ?_
    refine Gz.getR (pc' := 32) (j := 4) 59 fd_X_40 sh_0 rfl (by decide +kernel) rfl ?_
    refine Gz.callVI (st := []) (b := 59) (pc' := 35) [] (g_An_actCount w5) h ok_m_An_actCount lk_X_170 sh_59 rfl rfl rfl (Nat.le_of_ble_eq_true rfl) (Nat.le_of_ble_eq_true rfl) (Nat.le_of_ble_eq_true rfl) (by decide +kernel) rfl (fun v7 w8 h => ?_)
    exact Gz.ireturn (by decide +kernel) rfl (zok_sI h)
  · have h := zok_t c3 h
    refine Gz.iconst (n := -1) (v := (-1 : Int32)) (pc' := 11) (by decide +kernel) rfl rfl ?_
    exact Gz.ireturn (by decide +kernel) rfl (zok_sI h)
def f_An_copyOf_59_66_b56_s (k56 : Int32 → gW → Option (Unit × gW)) (x2 : Int32) (w : gW) : Option (Unit × gW) :=
if (20 : Int32) ≤ x2 then
(if cpOk (0 : Int32) (0 : Int32) (nI 30) 30 30 then
zl (zcI w 64 (va_cpy (w.1 71) (w.1 64) (ix (0 : Int32)) (ix (0 : Int32)) (ix (nI 30)))) (fun w3 =>
if cpOk (0 : Int32) (0 : Int32) (nI 50) 50 50 then
zl (zcI w3 65 (va_cpy (w3.1 72) (w3.1 65) (ix (0 : Int32)) (ix (0 : Int32)) (ix (nI 50)))) (fun w6 =>
zl (zsI w6 59 6 (w6.1 66 6)) (fun w8 =>
zl (zsI w8 59 7 (w8.1 66 7)) (fun w10 =>
some ((), w10))))
else none)
else none)
else
(if inb x2 20 then
if inb x2 20 then
zl (zsI w 63 (ix x2) ((w.1 70 (ix x2)) &&& 1)) (fun w14 =>
zl (x2 + (1 : Int32)) (fun v16 =>
k56 v16 w14))
else none
else none)
def f_An_copyOf_59_66_b56 : Int32 → gW → Option (Unit × gW) := zfx (fun _ _ => none) (f_An_copyOf_59_66_b56_s) zFU
def f_An_copyOf_59_66 (w : gW) : Option (Unit × gW) :=
if cpOk (0 : Int32) (0 : Int32) (nI 40) 40 40 then
zl (zcI w 60 (va_cpy (w.1 67) (w.1 60) (ix (0 : Int32)) (ix (0 : Int32)) (ix (nI 40)))) (fun w2 =>
if cpOk (0 : Int32) (0 : Int32) (nI 20) 20 20 then
zl (zcI w2 61 (va_cpy (w2.1 68) (w2.1 61) (ix (0 : Int32)) (ix (0 : Int32)) (ix (nI 20)))) (fun w5 =>
if cpOk (0 : Int32) (0 : Int32) (nI 20) 20 20 then
zl (zcI w5 62 (va_cpy (w5.1 69) (w5.1 62) (ix (0 : Int32)) (ix (0 : Int32)) (ix (nI 20)))) (fun w8 =>
f_An_copyOf_59_66_b56 (0 : Int32) w8)
else none)
else none)
else none
theorem g_An_copyOf_59_66_b56_s {l : Launch} {Q : Option Value → gW → Prop} (k56 : Int32 → gW → Option (Unit × gW)) (hk56 : ∀ (x2 : Int32) (w : gW), zok eV (k56 x2 w) Q → Gz l m_An_copyOf 1 56 [(0, .ref 59), (1, .ref 66), (2, .int x2)] [] w Q) (x2 : Int32) (w : gW) (h : zok eV (f_An_copyOf_59_66_b56_s k56 x2 w) Q) : Gz l m_An_copyOf 1 56 [(0, .ref 59), (1, .ref 66), (2, .int x2)] [] w Q := by
  unfold f_An_copyOf_59_66_b56_s at h
  refine Gz.iload_n (q := 2) (pc' := 57) (by decide +kernel) rfl 2 rfl ?_
  refine Gz.bipush (n := 20) (v := (20 : Int32)) (pc' := 59) (by decide +kernel) rfl rfl ?_
  refine Gz.icmp_ge (off := 21) (tgt := 80) (pc' := 62) (by decide +kernel) (by decide) rfl (fun c1 => ?_) (fun c1 => ?_)
  · have h := zok_t c1 h
    refine Gz.aload_n (q := 1) (pc' := 81) (by decide +kernel) rfl 1 rfl ?_
    refine Gz.getR (pc' := 84) (j := 4) 71 fd_An_25 sh_66 rfl (by decide +kernel) rfl ?_
    refine Gz.iconst (n := 0) (v := (0 : Int32)) (pc' := 85) (by decide +kernel) rfl rfl ?_
    refine Gz.aload_n (q := 0) (pc' := 86) (by decide +kernel) rfl 0 rfl ?_
    refine Gz.getR (pc' := 89) (j := 4) 64 fd_An_25 sh_59 rfl (by decide +kernel) rfl ?_
    refine Gz.iconst (n := 0) (v := (0 : Int32)) (pc' := 90) (by decide +kernel) rfl rfl ?_
    refine Gz.aload_n (q := 0) (pc' := 91) (by decide +kernel) rfl 0 rfl ?_
    refine Gz.getR (pc' := 94) (j := 4) 64 fd_An_25 sh_59 rfl (by decide +kernel) rfl ?_
    refine Gz.alen (pc' := 95) (n := 30) (kd := 1) (by decide +kernel) rfl (Or.inl rfl) rfl rfl ?_
    obtain ⟨c2, h⟩ := zok_c h
    refine Gz.copyI (pc' := 98) (by decide +kernel) rfl lk_An_44 cp_n cp_s cp_i sh_71 sh_64 c2 (Nat.le_of_ble_eq_true rfl) (Nat.le_of_ble_eq_true rfl) ?_
    refine Gz.nmW (fun w3 e4 => ?_)
    have h := zok_l e4 h
    refine Gz.aload_n (q := 1) (pc' := 99) (by decide +kernel) rfl 1 rfl ?_
    refine Gz.getR (pc' := 102) (j := 5) 72 fd_An_28 sh_66 rfl (by decide +kernel) rfl ?_
    refine Gz.iconst (n := 0) (v := (0 : Int32)) (pc' := 103) (by decide +kernel) rfl rfl ?_
    refine Gz.aload_n (q := 0) (pc' := 104) (by decide +kernel) rfl 0 rfl ?_
    refine Gz.getR (pc' := 107) (j := 5) 65 fd_An_28 sh_59 rfl (by decide +kernel) rfl ?_
    refine Gz.iconst (n := 0) (v := (0 : Int32)) (pc' := 108) (by decide +kernel) rfl rfl ?_
    refine Gz.aload_n (q := 0) (pc' := 109) (by decide +kernel) rfl 0 rfl ?_
    refine Gz.getR (pc' := 112) (j := 5) 65 fd_An_28 sh_59 rfl (by decide +kernel) rfl ?_
    refine Gz.alen (pc' := 113) (n := 50) (kd := 1) (by decide +kernel) rfl (Or.inl rfl) rfl rfl ?_
    obtain ⟨c5, h⟩ := zok_c h
    refine Gz.copyI (pc' := 116) (by decide +kernel) rfl lk_An_44 cp_n cp_s cp_i sh_72 sh_65 c5 (Nat.le_of_ble_eq_true rfl) (Nat.le_of_ble_eq_true rfl) ?_
    refine Gz.nmW (fun w6 e7 => ?_)
    have h := zok_l e7 h
    refine Gz.aload_n (q := 0) (pc' := 117) (by decide +kernel) rfl 0 rfl ?_
    refine Gz.aload_n (q := 1) (pc' := 118) (by decide +kernel) rfl 1 rfl ?_
    refine Gz.getI (pc' := 121) (j := 6) fd_An_37 sh_66 rfl (by decide +kernel) rfl ?_
    refine Gz.putI (pc' := 124) (j := 6) fd_An_37 sh_59 rfl (by decide +kernel) rfl ?_
    refine Gz.nmW (fun w8 e9 => ?_)
    have h := zok_l e9 h
    refine Gz.aload_n (q := 0) (pc' := 125) (by decide +kernel) rfl 0 rfl ?_
    refine Gz.aload_n (q := 1) (pc' := 126) (by decide +kernel) rfl 1 rfl ?_
    refine Gz.getI (pc' := 129) (j := 7) fd_An_41 sh_66 rfl (by decide +kernel) rfl ?_
    refine Gz.putI (pc' := 132) (j := 7) fd_An_41 sh_59 rfl (by decide +kernel) rfl ?_
    refine Gz.nmW (fun w10 e11 => ?_)
    have h := zok_l e11 h
    exact Gz.return_ (by decide +kernel) rfl (zok_sV h)
  · have h := zok_f c1 h
    refine Gz.aload_n (q := 0) (pc' := 63) (by decide +kernel) rfl 0 rfl ?_
    refine Gz.getR (pc' := 66) (j := 3) 63 fd_An_21 sh_59 rfl (by decide +kernel) rfl ?_
    refine Gz.iload_n (q := 2) (pc' := 67) (by decide +kernel) rfl 2 rfl ?_
    refine Gz.aload_n (q := 1) (pc' := 68) (by decide +kernel) rfl 1 rfl ?_
    refine Gz.getR (pc' := 71) (j := 3) 70 fd_An_21 sh_66 rfl (by decide +kernel) rfl ?_
    refine Gz.iload_n (q := 2) (pc' := 72) (by decide +kernel) rfl 2 rfl ?_
    obtain ⟨c12, h⟩ := zok_c h
    refine Gz.zald (pc' := 73) (n := 20) (by decide +kernel) rfl rfl c12 ?_
    obtain ⟨c13, h⟩ := zok_c h
    refine Gz.zast (pc' := 74) (n := 20) (by decide +kernel) rfl rfl c13 ?_
    refine Gz.nmW (fun w14 e15 => ?_)
    have h := zok_l e15 h
    obtain ⟨v16, e17⟩ : ∃ y : Int32, y = x2 + (1 : Int32) := ⟨_, rfl⟩
    have h := zok_l e17 h
    refine Gz.iinc (i := 2) (n := 1) (pc' := 77) (L' := [(2, .int v16), (0, .ref 59), (1, .ref 66)]) v16 (by decide +kernel) rfl 2 rfl (by rw [e17]; rfl) (Nat.le_of_ble_eq_true rfl) rfl ?_
    refine Gz.goto (off := -21) (tgt := 56) (by decide +kernel) (by decide) ?_
    refine Gz.sub (L' := [(0, .ref 59), (1, .ref 66), (2, .int v16)]) [1, 2, 0] rfl ?_
    exact hk56 v16 w14 h
theorem g_An_copyOf_59_66_b56 {l : Launch} {Q : Option Value → gW → Prop} (x2 : Int32) (w : gW) (h : zok eV (f_An_copyOf_59_66_b56 x2 w) Q) : Gz l m_An_copyOf 1 56 [(0, .ref 59), (1, .ref 66), (2, .int x2)] [] w Q := by
  have key : ∀ (n : Nat) (x2 : Int32) (w : gW), zok eV (zfx (fun _ _ => none) (f_An_copyOf_59_66_b56_s) n x2 w) Q → Gz l m_An_copyOf 1 56 [(0, .ref 59), (1, .ref 66), (2, .int x2)] [] w Q := by
    intro n
    induction n with
    | zero => intro x2 w h; exact zok_n h
    | succ n ih => intro x2 w h; exact g_An_copyOf_59_66_b56_s _ ih x2 w h
  exact key zFU x2 w h
theorem g_An_copyOf_59_66 {l : Launch} (w : gW) : gCt l m_An_copyOf 1 [.ref 59, .ref 66] w eV (f_An_copyOf_59_66 w) := by
  intro Q h
  unfold f_An_copyOf_59_66 at h
  show Gz l m_An_copyOf 1 0 [(0, .ref 59), (1, .ref 66)] [] w Q
  refine Gz.aload_n (q := 1) (pc' := 1) (by decide +kernel) rfl 1 rfl ?_
  refine Gz.getR (pc' := 4) (j := 0) 67 fd_An_11 sh_66 rfl (by decide +kernel) rfl ?_
  refine Gz.iconst (n := 0) (v := (0 : Int32)) (pc' := 5) (by decide +kernel) rfl rfl ?_
  refine Gz.aload_n (q := 0) (pc' := 6) (by decide +kernel) rfl 0 rfl ?_
  refine Gz.getR (pc' := 9) (j := 0) 60 fd_An_11 sh_59 rfl (by decide +kernel) rfl ?_
  refine Gz.iconst (n := 0) (v := (0 : Int32)) (pc' := 10) (by decide +kernel) rfl rfl ?_
  refine Gz.aload_n (q := 0) (pc' := 11) (by decide +kernel) rfl 0 rfl ?_
  refine Gz.getR (pc' := 14) (j := 0) 60 fd_An_11 sh_59 rfl (by decide +kernel) rfl ?_
  refine Gz.alen (pc' := 15) (n := 40) (kd := 1) (by decide +kernel) rfl (Or.inl rfl) rfl rfl ?_
  obtain ⟨c1, h⟩ := zok_c h
  refine Gz.copyI (pc' := 18) (by decide +kernel) rfl lk_An_44 cp_n cp_s cp_i sh_67 sh_60 c1 (Nat.le_of_ble_eq_true rfl) (Nat.le_of_ble_eq_true rfl) ?_
  refine Gz.nmW (fun w2 e3 => ?_)
  have h := zok_l e3 h
  refine Gz.aload_n (q := 1) (pc' := 19) (by decide +kernel) rfl 1 rfl ?_
  refine Gz.getR (pc' := 22) (j := 1) 68 fd_An_15 sh_66 rfl (by decide +kernel) rfl ?_
  refine Gz.iconst (n := 0) (v := (0 : Int32)) (pc' := 23) (by decide +kernel) rfl rfl ?_
  refine Gz.aload_n (q := 0) (pc' := 24) (by decide +kernel) rfl 0 rfl ?_
  refine Gz.getR (pc' := 27) (j := 1) 61 fd_An_15 sh_59 rfl (by decide +kernel) rfl ?_
  refine Gz.iconst (n := 0) (v := (0 : Int32)) (pc' := 28) (by decide +kernel) rfl rfl ?_
  refine Gz.aload_n (q := 0) (pc' := 29) (by decide +kernel) rfl 0 rfl ?_
  refine Gz.getR (pc' := 32) (j := 1) 61 fd_An_15 sh_59 rfl (by decide +kernel) rfl ?_
  refine Gz.alen (pc' := 33) (n := 20) (kd := 1) (by decide +kernel) rfl (Or.inl rfl) rfl rfl ?_
  obtain ⟨c4, h⟩ := zok_c h
  refine Gz.copyI (pc' := 36) (by decide +kernel) rfl lk_An_44 cp_n cp_s cp_i sh_68 sh_61 c4 (Nat.le_of_ble_eq_true rfl) (Nat.le_of_ble_eq_true rfl) ?_
  refine Gz.nmW (fun w5 e6 => ?_)
  have h := zok_l e6 h
  refine Gz.aload_n (q := 1) (pc' := 37) (by decide +kernel) rfl 1 rfl ?_
  refine Gz.getR (pc' := 40) (j := 2) 69 fd_An_18 sh_66 rfl (by decide +kernel) rfl ?_
  refine Gz.iconst (n := 0) (v := (0 : Int32)) (pc' := 41) (by decide +kernel) rfl rfl ?_
  refine Gz.aload_n (q := 0) (pc' := 42) (by decide +kernel) rfl 0 rfl ?_
  refine Gz.getR (pc' := 45) (j := 2) 62 fd_An_18 sh_59 rfl (by decide +kernel) rfl ?_
  refine Gz.iconst (n := 0) (v := (0 : Int32)) (pc' := 46) (by decide +kernel) rfl rfl ?_
  refine Gz.aload_n (q := 0) (pc' := 47) (by decide +kernel) rfl 0 rfl ?_
  refine Gz.getR (pc' := 50) (j := 2) 62 fd_An_18 sh_59 rfl (by decide +kernel) rfl ?_
  refine Gz.alen (pc' := 51) (n := 20) (kd := 1) (by decide +kernel) rfl (Or.inl rfl) rfl rfl ?_
  obtain ⟨c7, h⟩ := zok_c h
  refine Gz.copyI (pc' := 54) (by decide +kernel) rfl lk_An_44 cp_n cp_s cp_i sh_69 sh_62 c7 (Nat.le_of_ble_eq_true rfl) (Nat.le_of_ble_eq_true rfl) ?_
  refine Gz.nmW (fun w8 e9 => ?_)
  have h := zok_l e9 h
  refine Gz.iconst (n := 0) (v := (0 : Int32)) (pc' := 55) (by decide +kernel) rfl rfl ?_
  refine Gz.istore_n (q := 2) (pc' := 56) (L' := [(2, .int (0 : Int32)), (0, .ref 59), (1, .ref 66)]) (by decide +kernel) rfl (Nat.le_of_ble_eq_true rfl) rfl ?_
  refine Gz.sub (L' := [(0, .ref 59), (1, .ref 66), (2, .int (0 : Int32))]) [1, 2, 0] rfl ?_
  exact g_An_copyOf_59_66_b56 (0 : Int32) w8 h
def f_X_back (w : gW) : Option (Int32 × gW) :=
if (w.1 0 11) = 0 then
(some ((-1 : Int32), w))
else
(zb (f_An_copyOf_59_66 w) (fun _ w2 =>
zb (f_Co_review w2) (fun _ w3 =>
zb (f_An_actCount w3) (fun v4 w5 =>
some (v4, w5)))))
theorem g_X_back {l : Launch} (w : gW) : gCt l m_X_back 6 [.ref 0] w eI (f_X_back w) := by
  intro Q h
  unfold f_X_back at h
  show Gz l m_X_back 6 0 [(0, .ref 0)] [] w Q
  refine Gz.aload_n (q := 0) (pc' := 1) (by decide +kernel) rfl 0 rfl ?_
  refine Gz.getI (pc' := 4) (j := 11) fd_X_92 sh_0 rfl (by decide +kernel) rfl ?_
  refine Gz.if_ne (off := 5) (tgt := 9) (pc' := 7) (by decide +kernel) (by decide) rfl (fun c1 => ?_) (fun c1 => ?_)
  · have h := zok_f c1 h
    refine Gz.aload_n (q := 0) (pc' := 10) (by decide +kernel) rfl 0 rfl ?_
    refine Gz.getR (pc' := 13) (j := 4) 59 fd_X_40 sh_0 rfl (by decide +kernel) rfl ?_
    refine Gz.aload_n (q := 0) (pc' := 14) (by decide +kernel) rfl 0 rfl ?_
    refine Gz.getR (pc' := 17) (j := 5) 66 fd_X_44 sh_0 rfl (by decide +kernel) rfl ?_
    refine Gz.callVV (st := []) (b := 59) (pc' := 20) [.ref 66] (g_An_copyOf_59_66 w) h ok_m_An_copyOf lk_X_345 sh_59 rfl rfl rfl (Nat.le_of_ble_eq_true rfl) (Nat.le_of_ble_eq_true rfl) (Nat.le_of_ble_eq_true rfl) (by decide +kernel) rfl (fun _ w2 h => ?_)
    refine Gz.aload_n (q := 0) (pc' := 21) (by decide +kernel) rfl 0 rfl ?_
    refine Gz.getR (pc' := 24) (j := 6) 73 fd_X_52 sh_0 rfl (by decide +kernel) rfl ?_
    refine Gz.callVV (st := []) (b := 73) (pc' := 27) [] (g_Co_review w2) h ok_m_Co_review lk_X_116 sh_73 rfl rfl rfl (Nat.le_of_ble_eq_true rfl) (Nat.le_of_ble_eq_true rfl) (Nat.le_of_ble_eq_true rfl) (by decide +kernel) rfl (fun _ w3 h => ?_)
    refine Gz.aload_n (q := 0) (pc' := 28) (by decide +kernel) rfl 0 rfl ?_
    refine Gz.getR (pc' := 31) (j := 4) 59 fd_X_40 sh_0 rfl (by decide +kernel) rfl ?_
    refine Gz.callVI (st := []) (b := 59) (pc' := 34) [] (g_An_actCount w3) h ok_m_An_actCount lk_X_170 sh_59 rfl rfl rfl (Nat.le_of_ble_eq_true rfl) (Nat.le_of_ble_eq_true rfl) (Nat.le_of_ble_eq_true rfl) (by decide +kernel) rfl (fun v4 w5 h => ?_)
    exact Gz.ireturn (by decide +kernel) rfl (zok_sI h)
  · have h := zok_t c1 h
    refine Gz.iconst (n := -1) (v := (-1 : Int32)) (pc' := 8) (by decide +kernel) rfl rfl ?_
    exact Gz.ireturn (by decide +kernel) rfl (zok_sI h)
def f_Tp_length (w : gW) : Option (Int32 × gW) :=
some (w.1 1 1, w)
theorem g_Tp_length {l : Launch} (w : gW) : gCt l m_Tp_length 1 [.ref 1] w eI (f_Tp_length w) := by
  intro Q h
  unfold f_Tp_length at h
  show Gz l m_Tp_length 1 0 [(0, .ref 1)] [] w Q
  refine Gz.aload_n (q := 0) (pc' := 1) (by decide +kernel) rfl 0 rfl ?_
  refine Gz.getI (pc' := 4) (j := 1) fd_Tp_15 sh_1 rfl (by decide +kernel) rfl ?_
  exact Gz.ireturn (by decide +kernel) rfl (zok_sI h)
def f_X_count (a1 : Int32) (w : gW) : Option (Int32 × gW) :=
if a1 = nI 0 then
(zb (f_La_deedCount w) (fun v2 w3 =>
some (v2, w3)))
else
(if a1 = nI 1 then
(zb (f_La_dayCount w) (fun v5 w6 =>
some (v5, w6)))
else
(if a1 = nI 2 then
(zb (f_Oa_size w) (fun v8 w9 =>
some (v8, w9)))
else
(if a1 = nI 3 then
(zb (f_Tp_length w) (fun v11 w12 =>
some (v11, w12)))
else
(if a1 = nI 4 then
(zb (f_An_swornCount w) (fun v14 w15 =>
some (v14, w15)))
else
(if a1 = nI 5 then
(zb (f_An_factCount w) (fun v17 w18 =>
some (v17, w18)))
else
(if a1 = nI 6 then
(zb (f_An_actCount w) (fun v20 w21 =>
some (v20, w21)))
else
(some ((-1000000 : Int32), w))))))))
theorem g_X_count {l : Launch} (a1 : Int32) (w : gW) : gCt l m_X_count 2 [.ref 0, .int a1] w eI (f_X_count a1 w) := by
  intro Q h
  unfold f_X_count at h
  show Gz l m_X_count 2 0 [(0, .ref 0), (1, .int a1)] [] w Q
  refine Gz.iload_n (q := 1) (pc' := 1) (by decide +kernel) rfl 1 rfl ?_
  by_cases c1 : a1 = nI 0
  · have h := zok_t c1 h
    refine Gz.tin (dflt := 99) (lo := 0) (hi := 6) (offs := #[43, 51, 59, 67, 75, 83, 91]) (len := 43) (off := 43) (tgt := 44) (by decide +kernel) (by rw [c1]; decide +kernel) (by rw [c1]; decide +kernel) (by rw [c1]; decide +kernel) (by decide) ?_
    refine Gz.aload_n (q := 0) (pc' := 45) (by decide +kernel) rfl 0 rfl ?_
    refine Gz.getR (pc' := 48) (j := 3) 19 fd_X_33 sh_0 rfl (by decide +kernel) rfl ?_
    refine Gz.callVI (st := []) (b := 19) (pc' := 51) [] (g_La_deedCount w) h ok_m_La_deedCount lk_X_119 sh_19 rfl rfl rfl (Nat.le_of_ble_eq_true rfl) (Nat.le_of_ble_eq_true rfl) (Nat.le_of_ble_eq_true rfl) (by decide +kernel) rfl (fun v2 w3 h => ?_)
    exact Gz.ireturn (by decide +kernel) rfl (zok_sI h)
  have h := zok_f c1 h
  by_cases c4 : a1 = nI 1
  · have h := zok_t c4 h
    refine Gz.tin (dflt := 99) (lo := 0) (hi := 6) (offs := #[43, 51, 59, 67, 75, 83, 91]) (len := 43) (off := 51) (tgt := 52) (by decide +kernel) (by rw [c4]; decide +kernel) (by rw [c4]; decide +kernel) (by rw [c4]; decide +kernel) (by decide) ?_
    refine Gz.aload_n (q := 0) (pc' := 53) (by decide +kernel) rfl 0 rfl ?_
    refine Gz.getR (pc' := 56) (j := 3) 19 fd_X_33 sh_0 rfl (by decide +kernel) rfl ?_
    refine Gz.callVI (st := []) (b := 19) (pc' := 59) [] (g_La_dayCount w) h ok_m_La_dayCount lk_X_319 sh_19 rfl rfl rfl (Nat.le_of_ble_eq_true rfl) (Nat.le_of_ble_eq_true rfl) (Nat.le_of_ble_eq_true rfl) (by decide +kernel) rfl (fun v5 w6 h => ?_)
    exact Gz.ireturn (by decide +kernel) rfl (zok_sI h)
  have h := zok_f c4 h
  by_cases c7 : a1 = nI 2
  · have h := zok_t c7 h
    refine Gz.tin (dflt := 99) (lo := 0) (hi := 6) (offs := #[43, 51, 59, 67, 75, 83, 91]) (len := 43) (off := 59) (tgt := 60) (by decide +kernel) (by rw [c7]; decide +kernel) (by rw [c7]; decide +kernel) (by rw [c7]; decide +kernel) (by decide) ?_
    refine Gz.aload_n (q := 0) (pc' := 61) (by decide +kernel) rfl 0 rfl ?_
    refine Gz.getR (pc' := 64) (j := 2) 5 fd_X_26 sh_0 rfl (by decide +kernel) rfl ?_
    refine Gz.callVI (st := []) (b := 5) (pc' := 67) [] (g_Oa_size w) h ok_m_Oa_size lk_X_123 sh_5 rfl rfl rfl (Nat.le_of_ble_eq_true rfl) (Nat.le_of_ble_eq_true rfl) (Nat.le_of_ble_eq_true rfl) (by decide +kernel) rfl (fun v8 w9 h => ?_)
    exact Gz.ireturn (by decide +kernel) rfl (zok_sI h)
  have h := zok_f c7 h
  by_cases c10 : a1 = nI 3
  · have h := zok_t c10 h
    refine Gz.tin (dflt := 99) (lo := 0) (hi := 6) (offs := #[43, 51, 59, 67, 75, 83, 91]) (len := 43) (off := 67) (tgt := 68) (by decide +kernel) (by rw [c10]; decide +kernel) (by rw [c10]; decide +kernel) (by rw [c10]; decide +kernel) (by decide) ?_
    refine Gz.aload_n (q := 0) (pc' := 69) (by decide +kernel) rfl 0 rfl ?_
    refine Gz.getR (pc' := 72) (j := 0) 1 fd_X_12 sh_0 rfl (by decide +kernel) rfl ?_
    refine Gz.callVI (st := []) (b := 1) (pc' := 75) [] (g_Tp_length w) h ok_m_Tp_length lk_X_349 sh_1 rfl rfl rfl (Nat.le_of_ble_eq_true rfl) (Nat.le_of_ble_eq_true rfl) (Nat.le_of_ble_eq_true rfl) (by decide +kernel) rfl (fun v11 w12 h => ?_)
    exact Gz.ireturn (by decide +kernel) rfl (zok_sI h)
  have h := zok_f c10 h
  by_cases c13 : a1 = nI 4
  · have h := zok_t c13 h
    refine Gz.tin (dflt := 99) (lo := 0) (hi := 6) (offs := #[43, 51, 59, 67, 75, 83, 91]) (len := 43) (off := 75) (tgt := 76) (by decide +kernel) (by rw [c13]; decide +kernel) (by rw [c13]; decide +kernel) (by rw [c13]; decide +kernel) (by decide) ?_
    refine Gz.aload_n (q := 0) (pc' := 77) (by decide +kernel) rfl 0 rfl ?_
    refine Gz.getR (pc' := 80) (j := 4) 59 fd_X_40 sh_0 rfl (by decide +kernel) rfl ?_
    refine Gz.callVI (st := []) (b := 59) (pc' := 83) [] (g_An_swornCount w) h ok_m_An_swornCount lk_X_150 sh_59 rfl rfl rfl (Nat.le_of_ble_eq_true rfl) (Nat.le_of_ble_eq_true rfl) (Nat.le_of_ble_eq_true rfl) (by decide +kernel) rfl (fun v14 w15 h => ?_)
    exact Gz.ireturn (by decide +kernel) rfl (zok_sI h)
  have h := zok_f c13 h
  by_cases c16 : a1 = nI 5
  · have h := zok_t c16 h
    refine Gz.tin (dflt := 99) (lo := 0) (hi := 6) (offs := #[43, 51, 59, 67, 75, 83, 91]) (len := 43) (off := 83) (tgt := 84) (by decide +kernel) (by rw [c16]; decide +kernel) (by rw [c16]; decide +kernel) (by rw [c16]; decide +kernel) (by decide) ?_
    refine Gz.aload_n (q := 0) (pc' := 85) (by decide +kernel) rfl 0 rfl ?_
    refine Gz.getR (pc' := 88) (j := 4) 59 fd_X_40 sh_0 rfl (by decide +kernel) rfl ?_
    refine Gz.callVI (st := []) (b := 59) (pc' := 91) [] (g_An_factCount w) h ok_m_An_factCount lk_X_163 sh_59 rfl rfl rfl (Nat.le_of_ble_eq_true rfl) (Nat.le_of_ble_eq_true rfl) (Nat.le_of_ble_eq_true rfl) (by decide +kernel) rfl (fun v17 w18 h => ?_)
    exact Gz.ireturn (by decide +kernel) rfl (zok_sI h)
  have h := zok_f c16 h
  by_cases c19 : a1 = nI 6
  · have h := zok_t c19 h
    refine Gz.tin (dflt := 99) (lo := 0) (hi := 6) (offs := #[43, 51, 59, 67, 75, 83, 91]) (len := 43) (off := 91) (tgt := 92) (by decide +kernel) (by rw [c19]; decide +kernel) (by rw [c19]; decide +kernel) (by rw [c19]; decide +kernel) (by decide) ?_
    refine Gz.aload_n (q := 0) (pc' := 93) (by decide +kernel) rfl 0 rfl ?_
    refine Gz.getR (pc' := 96) (j := 4) 59 fd_X_40 sh_0 rfl (by decide +kernel) rfl ?_
    refine Gz.callVI (st := []) (b := 59) (pc' := 99) [] (g_An_actCount w) h ok_m_An_actCount lk_X_170 sh_59 rfl rfl rfl (Nat.le_of_ble_eq_true rfl) (Nat.le_of_ble_eq_true rfl) (Nat.le_of_ble_eq_true rfl) (by decide +kernel) rfl (fun v20 w21 h => ?_)
    exact Gz.ireturn (by decide +kernel) rfl (zok_sI h)
  have h := zok_f c19 h
  have hsw : ∀ k : Nat, k ≤ 6 → ¬ a1 = nI k := by
    intro k hk
    rcases (show k = 0 ∨ k = 1 ∨ k = 2 ∨ k = 3 ∨ k = 4 ∨ k = 5 ∨ k = 6 by omega) with q | q | q | q | q | q | q
    · rw [q]; exact c1
    · rw [q]; exact c4
    · rw [q]; exact c7
    · rw [q]; exact c10
    · rw [q]; exact c13
    · rw [q]; exact c16
    · rw [q]; exact c19
  refine Gz.tout (dflt := 99) (lo := 0) (hi := 6) (offs := #[43, 51, 59, 67, 75, 83, 91]) (len := 43) (tgt := 100) (by decide +kernel) (z_sw 6 (by decide) hsw) (by decide) ?_
  refine Gz.ldcw (idx := 262) (v := (-1000000 : Int32)) (pc' := 103) (by decide +kernel) rfl kc_X_262 ?_
  exact Gz.ireturn (by decide +kernel) rfl (zok_sI h)
def f_M_thrown (w : gW) : Option (Int32 × gW) :=
some (w.1 107 0, w)
theorem g_M_thrown {l : Launch} (w : gW) : gCt l m_M_thrown 1 [.ref 107] w eI (f_M_thrown w) := by
  intro Q h
  unfold f_M_thrown at h
  show Gz l m_M_thrown 1 0 [(0, .ref 107)] [] w Q
  refine Gz.aload_n (q := 0) (pc' := 1) (by decide +kernel) rfl 0 rfl ?_
  refine Gz.getI (pc' := 4) (j := 0) fd_M_96 sh_107 rfl (by decide +kernel) rfl ?_
  exact Gz.ireturn (by decide +kernel) rfl (zok_sI h)
def f_M_bytesIn_b25 (k5 : Int32 → Int32 → Int32 → gW → Option (Int32 × gW)) (x0 : Int32) (x2 : Int32) (s0 : Int32) (s1 : Int32) (w : gW) : Option (Int32 × gW) :=
zl (s0 + s1) (fun v1 =>
zl (x2 + (-8 : Int32)) (fun v3 =>
k5 x0 v1 v3 w))
def f_M_bytesIn_b5_s (k5 : Int32 → Int32 → Int32 → gW → Option (Int32 × gW)) (x0 : Int32) (x1 : Int32) (x2 : Int32) (w : gW) : Option (Int32 × gW) :=
if x2 < 0 then
(some (x1, w))
else
(if ((x0 >>> (x2 &&& 31)) &&& (255 : Int32)) = 0 then
(f_M_bytesIn_b25 k5 x0 x2 x1 (0 : Int32) w)
else
(f_M_bytesIn_b25 k5 x0 x2 x1 (1 : Int32) w))
def f_M_bytesIn_b5 : Int32 → Int32 → Int32 → gW → Option (Int32 × gW) := zfx (fun _ _ _ _ => none) (f_M_bytesIn_b5_s) zFU
def f_M_bytesIn (a0 : Int32) (w : gW) : Option (Int32 × gW) :=
f_M_bytesIn_b5 a0 (0 : Int32) (24 : Int32) w
theorem g_M_bytesIn_b25 {l : Launch} {Q : Option Value → gW → Prop} (k5 : Int32 → Int32 → Int32 → gW → Option (Int32 × gW)) (hk5 : ∀ (x0 : Int32) (x1 : Int32) (x2 : Int32) (w : gW), zok eI (k5 x0 x1 x2 w) Q → Gz l m_M_bytesIn 1 5 [(0, .int x0), (1, .int x1), (2, .int x2)] [] w Q) (x0 : Int32) (x2 : Int32) (s0 : Int32) (s1 : Int32) (w : gW) (h : zok eI (f_M_bytesIn_b25 k5 x0 x2 s0 s1 w) Q) : Gz l m_M_bytesIn 1 25 [(0, .int x0), (2, .int x2)] [.int s1, .int s0] w Q := by
  unfold f_M_bytesIn_b25 at h
  refine Gz.iadd (pc' := 26) (by decide +kernel) rfl ?_
  refine Gz.nmI (fun v1 e2 => ?_)
  have h := zok_l e2 h
  refine Gz.istore_n (q := 1) (pc' := 27) (L' := [(1, .int v1), (0, .int x0), (2, .int x2)]) (by decide +kernel) rfl (Nat.le_of_ble_eq_true rfl) rfl ?_
  obtain ⟨v3, e4⟩ : ∃ y : Int32, y = x2 + (-8 : Int32) := ⟨_, rfl⟩
  have h := zok_l e4 h
  refine Gz.iinc (i := 2) (n := -8) (pc' := 30) (L' := [(2, .int v3), (1, .int v1), (0, .int x0)]) v3 (by decide +kernel) rfl 2 rfl (by rw [e4]; rfl) (Nat.le_of_ble_eq_true rfl) rfl ?_
  refine Gz.goto (off := -25) (tgt := 5) (by decide +kernel) (by decide) ?_
  refine Gz.sub (L' := [(0, .int x0), (1, .int v1), (2, .int v3)]) [2, 1, 0] rfl ?_
  exact hk5 x0 v1 v3 w h
theorem g_M_bytesIn_b5_s {l : Launch} {Q : Option Value → gW → Prop} (k5 : Int32 → Int32 → Int32 → gW → Option (Int32 × gW)) (hk5 : ∀ (x0 : Int32) (x1 : Int32) (x2 : Int32) (w : gW), zok eI (k5 x0 x1 x2 w) Q → Gz l m_M_bytesIn 1 5 [(0, .int x0), (1, .int x1), (2, .int x2)] [] w Q) (x0 : Int32) (x1 : Int32) (x2 : Int32) (w : gW) (h : zok eI (f_M_bytesIn_b5_s k5 x0 x1 x2 w) Q) : Gz l m_M_bytesIn 1 5 [(0, .int x0), (1, .int x1), (2, .int x2)] [] w Q := by
  unfold f_M_bytesIn_b5_s at h
  refine Gz.iload_n (q := 2) (pc' := 6) (by decide +kernel) rfl 2 rfl ?_
  refine Gz.if_lt (off := 27) (tgt := 33) (pc' := 9) (by decide +kernel) (by decide) rfl (fun c1 => ?_) (fun c1 => ?_)
  · have h := zok_t c1 h
    refine Gz.iload_n (q := 1) (pc' := 34) (by decide +kernel) rfl 1 rfl ?_
    exact Gz.ireturn (by decide +kernel) rfl (zok_sI h)
  · have h := zok_f c1 h
    refine Gz.iload_n (q := 1) (pc' := 10) (by decide +kernel) rfl 1 rfl ?_
    refine Gz.iload_n (q := 0) (pc' := 11) (by decide +kernel) rfl 0 rfl ?_
    refine Gz.iload_n (q := 2) (pc' := 12) (by decide +kernel) rfl 2 rfl ?_
    refine Gz.ishr (pc' := 13) (by decide +kernel) rfl ?_
    refine Gz.sipush (n := 255) (v := (255 : Int32)) (pc' := 16) (by decide +kernel) rfl rfl ?_
    refine Gz.iand (pc' := 17) (by decide +kernel) rfl ?_
    refine Gz.if_eq (off := 7) (tgt := 24) (pc' := 20) (by decide +kernel) (by decide) rfl (fun c2 => ?_) (fun c2 => ?_)
    · have h := zok_t c2 h
      refine Gz.iconst (n := 0) (v := (0 : Int32)) (pc' := 25) (by decide +kernel) rfl rfl ?_
      refine Gz.sub (L' := [(0, .int x0), (2, .int x2)]) [0, 2] rfl ?_
      exact g_M_bytesIn_b25 k5 hk5 x0 x2 x1 (0 : Int32) w h
    · have h := zok_f c2 h
      refine Gz.iconst (n := 1) (v := (1 : Int32)) (pc' := 21) (by decide +kernel) rfl rfl ?_
      refine Gz.goto (off := 4) (tgt := 25) (by decide +kernel) (by decide) ?_
      refine Gz.sub (L' := [(0, .int x0), (2, .int x2)]) [0, 2] rfl ?_
      exact g_M_bytesIn_b25 k5 hk5 x0 x2 x1 (1 : Int32) w h
theorem g_M_bytesIn_b5 {l : Launch} {Q : Option Value → gW → Prop} (x0 : Int32) (x1 : Int32) (x2 : Int32) (w : gW) (h : zok eI (f_M_bytesIn_b5 x0 x1 x2 w) Q) : Gz l m_M_bytesIn 1 5 [(0, .int x0), (1, .int x1), (2, .int x2)] [] w Q := by
  have key : ∀ (n : Nat) (x0 : Int32) (x1 : Int32) (x2 : Int32) (w : gW), zok eI (zfx (fun _ _ _ _ => none) (f_M_bytesIn_b5_s) n x0 x1 x2 w) Q → Gz l m_M_bytesIn 1 5 [(0, .int x0), (1, .int x1), (2, .int x2)] [] w Q := by
    intro n
    induction n with
    | zero => intro x0 x1 x2 w h; exact zok_n h
    | succ n ih => intro x0 x1 x2 w h; exact g_M_bytesIn_b5_s _ ih x0 x1 x2 w h
  exact key zFU x0 x1 x2 w h
theorem g_M_bytesIn {l : Launch} (a0 : Int32) (w : gW) : gCt l m_M_bytesIn 1 [.int a0] w eI (f_M_bytesIn a0 w) := by
  intro Q h
  unfold f_M_bytesIn at h
  show Gz l m_M_bytesIn 1 0 [(0, .int a0)] [] w Q
  refine Gz.iconst (n := 0) (v := (0 : Int32)) (pc' := 1) (by decide +kernel) rfl rfl ?_
  refine Gz.istore_n (q := 1) (pc' := 2) (L' := [(1, .int (0 : Int32)), (0, .int a0)]) (by decide +kernel) rfl (Nat.le_of_ble_eq_true rfl) rfl ?_
  refine Gz.bipush (n := 24) (v := (24 : Int32)) (pc' := 4) (by decide +kernel) rfl rfl ?_
  refine Gz.istore_n (q := 2) (pc' := 5) (L' := [(2, .int (24 : Int32)), (1, .int (0 : Int32)), (0, .int a0)]) (by decide +kernel) rfl (Nat.le_of_ble_eq_true rfl) rfl ?_
  refine Gz.sub (L' := [(0, .int a0), (1, .int (0 : Int32)), (2, .int (24 : Int32))]) [2, 1, 0] rfl ?_
  exact g_M_bytesIn_b5 a0 (0 : Int32) (24 : Int32) w h
def f_M_put_b43 (k3 : Int32 → Int32 → gW → Option (Unit × gW)) (x1 : Int32) (x2 : Int32) (w : gW) : Option (Unit × gW) :=
zl (x2 + (-8 : Int32)) (fun v1 =>
k3 x1 v1 w)
def f_M_put_b3_s (k3 : Int32 → Int32 → gW → Option (Unit × gW)) (x1 : Int32) (x2 : Int32) (w : gW) : Option (Unit × gW) :=
if x2 < 0 then
(some ((), w))
else
(if ((x1 >>> (x2 &&& 31)) &&& (255 : Int32)) = 0 then
(f_M_put_b43 k3 x1 x2 w)
else
(if inb (w.1 107 5) 120 then
zl (zsI w 108 (ix (w.1 107 5)) ((x1 >>> (x2 &&& 31)).toInt8.toInt32).toInt8.toInt32) (fun w4 =>
zl (zsI w4 107 5 ((w4.1 107 5) + (1 : Int32))) (fun w6 =>
f_M_put_b43 k3 x1 x2 w6))
else none))
def f_M_put_b3 : Int32 → Int32 → gW → Option (Unit × gW) := zfx (fun _ _ _ => none) (f_M_put_b3_s) zFU
def f_M_put (a1 : Int32) (w : gW) : Option (Unit × gW) :=
f_M_put_b3 a1 (24 : Int32) w
theorem g_M_put_b43 {l : Launch} {Q : Option Value → gW → Prop} (k3 : Int32 → Int32 → gW → Option (Unit × gW)) (hk3 : ∀ (x1 : Int32) (x2 : Int32) (w : gW), zok eV (k3 x1 x2 w) Q → Gz l m_M_put 1 3 [(0, .ref 107), (1, .int x1), (2, .int x2)] [] w Q) (x1 : Int32) (x2 : Int32) (w : gW) (h : zok eV (f_M_put_b43 k3 x1 x2 w) Q) : Gz l m_M_put 1 43 [(0, .ref 107), (1, .int x1), (2, .int x2)] [] w Q := by
  unfold f_M_put_b43 at h
  obtain ⟨v1, e2⟩ : ∃ y : Int32, y = x2 + (-8 : Int32) := ⟨_, rfl⟩
  have h := zok_l e2 h
  refine Gz.iinc (i := 2) (n := -8) (pc' := 46) (L' := [(2, .int v1), (0, .ref 107), (1, .int x1)]) v1 (by decide +kernel) rfl 2 rfl (by rw [e2]; rfl) (Nat.le_of_ble_eq_true rfl) rfl ?_
  refine Gz.goto (off := -43) (tgt := 3) (by decide +kernel) (by decide) ?_
  refine Gz.sub (L' := [(0, .ref 107), (1, .int x1), (2, .int v1)]) [1, 2, 0] rfl ?_
  exact hk3 x1 v1 w h
theorem g_M_put_b3_s {l : Launch} {Q : Option Value → gW → Prop} (k3 : Int32 → Int32 → gW → Option (Unit × gW)) (hk3 : ∀ (x1 : Int32) (x2 : Int32) (w : gW), zok eV (k3 x1 x2 w) Q → Gz l m_M_put 1 3 [(0, .ref 107), (1, .int x1), (2, .int x2)] [] w Q) (x1 : Int32) (x2 : Int32) (w : gW) (h : zok eV (f_M_put_b3_s k3 x1 x2 w) Q) : Gz l m_M_put 1 3 [(0, .ref 107), (1, .int x1), (2, .int x2)] [] w Q := by
  unfold f_M_put_b3_s at h
  refine Gz.iload_n (q := 2) (pc' := 4) (by decide +kernel) rfl 2 rfl ?_
  refine Gz.if_lt (off := 45) (tgt := 49) (pc' := 7) (by decide +kernel) (by decide) rfl (fun c1 => ?_) (fun c1 => ?_)
  · have h := zok_t c1 h
    exact Gz.return_ (by decide +kernel) rfl (zok_sV h)
  · have h := zok_f c1 h
    refine Gz.iload_n (q := 1) (pc' := 8) (by decide +kernel) rfl 1 rfl ?_
    refine Gz.iload_n (q := 2) (pc' := 9) (by decide +kernel) rfl 2 rfl ?_
    refine Gz.ishr (pc' := 10) (by decide +kernel) rfl ?_
    refine Gz.sipush (n := 255) (v := (255 : Int32)) (pc' := 13) (by decide +kernel) rfl rfl ?_
    refine Gz.iand (pc' := 14) (by decide +kernel) rfl ?_
    refine Gz.if_ne (off := 6) (tgt := 20) (pc' := 17) (by decide +kernel) (by decide) rfl (fun c2 => ?_) (fun c2 => ?_)
    · have h := zok_f c2 h
      refine Gz.aload_n (q := 0) (pc' := 21) (by decide +kernel) rfl 0 rfl ?_
      refine Gz.getR (pc' := 24) (j := 1) 108 fd_M_9 sh_107 rfl (by decide +kernel) rfl ?_
      refine Gz.aload_n (q := 0) (pc' := 25) (by decide +kernel) rfl 0 rfl ?_
      refine Gz.getI (pc' := 28) (j := 5) fd_M_100 sh_107 rfl (by decide +kernel) rfl ?_
      refine Gz.iload_n (q := 1) (pc' := 29) (by decide +kernel) rfl 1 rfl ?_
      refine Gz.iload_n (q := 2) (pc' := 30) (by decide +kernel) rfl 2 rfl ?_
      refine Gz.ishr (pc' := 31) (by decide +kernel) rfl ?_
      refine Gz.i2b (pc' := 32) (by decide +kernel) rfl ?_
      obtain ⟨c3, h⟩ := zok_c h
      refine Gz.bast (pc' := 33) (n := 120) (by decide +kernel) rfl rfl c3 ?_
      refine Gz.nmW (fun w4 e5 => ?_)
      have h := zok_l e5 h
      refine Gz.aload_n (q := 0) (pc' := 34) (by decide +kernel) rfl 0 rfl ?_
      refine Gz.dup (pc' := 35) (by decide +kernel) rfl rfl ?_
      refine Gz.getI (pc' := 38) (j := 5) fd_M_100 sh_107 rfl (by decide +kernel) rfl ?_
      refine Gz.iconst (n := 1) (v := (1 : Int32)) (pc' := 39) (by decide +kernel) rfl rfl ?_
      refine Gz.iadd (pc' := 40) (by decide +kernel) rfl ?_
      refine Gz.putI (pc' := 43) (j := 5) fd_M_100 sh_107 rfl (by decide +kernel) rfl ?_
      refine Gz.nmW (fun w6 e7 => ?_)
      have h := zok_l e7 h
      exact g_M_put_b43 k3 hk3 x1 x2 w6 h
    · have h := zok_t c2 h
      refine Gz.goto (off := 26) (tgt := 43) (by decide +kernel) (by decide) ?_
      exact g_M_put_b43 k3 hk3 x1 x2 w h
theorem g_M_put_b3 {l : Launch} {Q : Option Value → gW → Prop} (x1 : Int32) (x2 : Int32) (w : gW) (h : zok eV (f_M_put_b3 x1 x2 w) Q) : Gz l m_M_put 1 3 [(0, .ref 107), (1, .int x1), (2, .int x2)] [] w Q := by
  have key : ∀ (n : Nat) (x1 : Int32) (x2 : Int32) (w : gW), zok eV (zfx (fun _ _ _ => none) (f_M_put_b3_s) n x1 x2 w) Q → Gz l m_M_put 1 3 [(0, .ref 107), (1, .int x1), (2, .int x2)] [] w Q := by
    intro n
    induction n with
    | zero => intro x1 x2 w h; exact zok_n h
    | succ n ih => intro x1 x2 w h; exact g_M_put_b3_s _ ih x1 x2 w h
  exact key zFU x1 x2 w h
theorem g_M_put {l : Launch} (a1 : Int32) (w : gW) : gCt l m_M_put 1 [.ref 107, .int a1] w eV (f_M_put a1 w) := by
  intro Q h
  unfold f_M_put at h
  show Gz l m_M_put 1 0 [(0, .ref 107), (1, .int a1)] [] w Q
  refine Gz.bipush (n := 24) (v := (24 : Int32)) (pc' := 2) (by decide +kernel) rfl rfl ?_
  refine Gz.istore_n (q := 2) (pc' := 3) (L' := [(2, .int (24 : Int32)), (0, .ref 107), (1, .int a1)]) (by decide +kernel) rfl (Nat.le_of_ble_eq_true rfl) rfl ?_
  refine Gz.sub (L' := [(0, .ref 107), (1, .int a1), (2, .int (24 : Int32))]) [1, 2, 0] rfl ?_
  exact g_M_put_b3 a1 (24 : Int32) w h
def f_M_feed (a1 : Int32) (a2 : Int32) (a3 : Int32) (a4 : Int32) (a5 : Int32) (w : gW) : Option (Int32 × gW) :=
zl (zsI w 107 0 (0 : Int32)) (fun w1 =>
zb (f_M_bytesIn a1 w1) (fun v3 w4 =>
zb (f_M_bytesIn a2 w4) (fun v5 w6 =>
zb (f_M_bytesIn a3 w6) (fun v7 w8 =>
zb (f_M_bytesIn a4 w8) (fun v9 w10 =>
zb (f_M_bytesIn a5 w10) (fun v11 w12 =>
if ((((((w1.1 107 5) + v3) + v5) + v7) + v9) + v11) ≤ (120 : Int32) then
(zb (f_M_put a1 w12) (fun _ w14 =>
zb (f_M_put a2 w14) (fun _ w15 =>
zb (f_M_put a3 w15) (fun _ w16 =>
zb (f_M_put a4 w16) (fun _ w17 =>
zb (f_M_put a5 w17) (fun _ w18 =>
some (w18.1 107 5, w18)))))))
else
(some ((-1 : Int32), w12))))))))
theorem g_M_feed {l : Launch} (a1 : Int32) (a2 : Int32) (a3 : Int32) (a4 : Int32) (a5 : Int32) (w : gW) : gCt l m_M_feed 2 [.ref 107, .int a1, .int a2, .int a3, .int a4, .int a5] w eI (f_M_feed a1 a2 a3 a4 a5 w) := by
  intro Q h
  unfold f_M_feed at h
  show Gz l m_M_feed 2 0 [(0, .ref 107), (1, .int a1), (2, .int a2), (3, .int a3), (4, .int a4), (5, .int a5)] [] w Q
  refine Gz.aload_n (q := 0) (pc' := 1) (by decide +kernel) rfl 0 rfl ?_
  refine Gz.iconst (n := 0) (v := (0 : Int32)) (pc' := 2) (by decide +kernel) rfl rfl ?_
  refine Gz.putI (pc' := 5) (j := 0) fd_M_96 sh_107 rfl (by decide +kernel) rfl ?_
  refine Gz.nmW (fun w1 e2 => ?_)
  have h := zok_l e2 h
  refine Gz.aload_n (q := 0) (pc' := 6) (by decide +kernel) rfl 0 rfl ?_
  refine Gz.getI (pc' := 9) (j := 5) fd_M_100 sh_107 rfl (by decide +kernel) rfl ?_
  refine Gz.iload_n (q := 1) (pc' := 10) (by decide +kernel) rfl 1 rfl ?_
  refine Gz.callSI (st := [.int (w1.1 107 5)]) (pc' := 13) [.int a1] (g_M_bytesIn a1 w1) h ok_m_M_bytesIn lk_M_103 rfl (Nat.le_of_ble_eq_true rfl) (Nat.le_of_ble_eq_true rfl) (Nat.le_of_ble_eq_true rfl) (by decide +kernel) rfl (fun v3 w4 h => ?_)
  refine Gz.iadd (pc' := 14) (by decide +kernel) rfl ?_
  refine Gz.iload_n (q := 2) (pc' := 15) (by decide +kernel) rfl 2 rfl ?_
  refine Gz.callSI (st := [.int ((w1.1 107 5) + v3)]) (pc' := 18) [.int a2] (g_M_bytesIn a2 w4) h ok_m_M_bytesIn lk_M_103 rfl (Nat.le_of_ble_eq_true rfl) (Nat.le_of_ble_eq_true rfl) (Nat.le_of_ble_eq_true rfl) (by decide +kernel) rfl (fun v5 w6 h => ?_)
  refine Gz.iadd (pc' := 19) (by decide +kernel) rfl ?_
  refine Gz.iload_n (q := 3) (pc' := 20) (by decide +kernel) rfl 3 rfl ?_
  refine Gz.callSI (st := [.int (((w1.1 107 5) + v3) + v5)]) (pc' := 23) [.int a3] (g_M_bytesIn a3 w6) h ok_m_M_bytesIn lk_M_103 rfl (Nat.le_of_ble_eq_true rfl) (Nat.le_of_ble_eq_true rfl) (Nat.le_of_ble_eq_true rfl) (by decide +kernel) rfl (fun v7 w8 h => ?_)
  refine Gz.iadd (pc' := 24) (by decide +kernel) rfl ?_
  refine Gz.iload (i := 4) (pc' := 26) (by decide +kernel) rfl 4 rfl ?_
  refine Gz.callSI (st := [.int ((((w1.1 107 5) + v3) + v5) + v7)]) (pc' := 29) [.int a4] (g_M_bytesIn a4 w8) h ok_m_M_bytesIn lk_M_103 rfl (Nat.le_of_ble_eq_true rfl) (Nat.le_of_ble_eq_true rfl) (Nat.le_of_ble_eq_true rfl) (by decide +kernel) rfl (fun v9 w10 h => ?_)
  refine Gz.iadd (pc' := 30) (by decide +kernel) rfl ?_
  refine Gz.iload (i := 5) (pc' := 32) (by decide +kernel) rfl 5 rfl ?_
  refine Gz.callSI (st := [.int (((((w1.1 107 5) + v3) + v5) + v7) + v9)]) (pc' := 35) [.int a5] (g_M_bytesIn a5 w10) h ok_m_M_bytesIn lk_M_103 rfl (Nat.le_of_ble_eq_true rfl) (Nat.le_of_ble_eq_true rfl) (Nat.le_of_ble_eq_true rfl) (by decide +kernel) rfl (fun v11 w12 h => ?_)
  refine Gz.iadd (pc' := 36) (by decide +kernel) rfl ?_
  refine Gz.bipush (n := 120) (v := (120 : Int32)) (pc' := 38) (by decide +kernel) rfl rfl ?_
  refine Gz.icmp_le (off := 5) (tgt := 43) (pc' := 41) (by decide +kernel) (by decide) rfl (fun c13 => ?_) (fun c13 => ?_)
  · have h := zok_t c13 h
    refine Gz.aload_n (q := 0) (pc' := 44) (by decide +kernel) rfl 0 rfl ?_
    refine Gz.iload_n (q := 1) (pc' := 45) (by decide +kernel) rfl 1 rfl ?_
    refine Gz.callVV (st := []) (b := 107) (pc' := 48) [.int a1] (g_M_put a1 w12) h ok_m_M_put lk_M_107 sh_107 rfl rfl rfl (Nat.le_of_ble_eq_true rfl) (Nat.le_of_ble_eq_true rfl) (Nat.le_of_ble_eq_true rfl) (by decide +kernel) rfl (fun _ w14 h => ?_)
    refine Gz.aload_n (q := 0) (pc' := 49) (by decide +kernel) rfl 0 rfl ?_
    refine Gz.iload_n (q := 2) (pc' := 50) (by decide +kernel) rfl 2 rfl ?_
    refine Gz.callVV (st := []) (b := 107) (pc' := 53) [.int a2] (g_M_put a2 w14) h ok_m_M_put lk_M_107 sh_107 rfl rfl rfl (Nat.le_of_ble_eq_true rfl) (Nat.le_of_ble_eq_true rfl) (Nat.le_of_ble_eq_true rfl) (by decide +kernel) rfl (fun _ w15 h => ?_)
    refine Gz.aload_n (q := 0) (pc' := 54) (by decide +kernel) rfl 0 rfl ?_
    refine Gz.iload_n (q := 3) (pc' := 55) (by decide +kernel) rfl 3 rfl ?_
    refine Gz.callVV (st := []) (b := 107) (pc' := 58) [.int a3] (g_M_put a3 w15) h ok_m_M_put lk_M_107 sh_107 rfl rfl rfl (Nat.le_of_ble_eq_true rfl) (Nat.le_of_ble_eq_true rfl) (Nat.le_of_ble_eq_true rfl) (by decide +kernel) rfl (fun _ w16 h => ?_)
    refine Gz.aload_n (q := 0) (pc' := 59) (by decide +kernel) rfl 0 rfl ?_
    refine Gz.iload (i := 4) (pc' := 61) (by decide +kernel) rfl 4 rfl ?_
    refine Gz.callVV (st := []) (b := 107) (pc' := 64) [.int a4] (g_M_put a4 w16) h ok_m_M_put lk_M_107 sh_107 rfl rfl rfl (Nat.le_of_ble_eq_true rfl) (Nat.le_of_ble_eq_true rfl) (Nat.le_of_ble_eq_true rfl) (by decide +kernel) rfl (fun _ w17 h => ?_)
    refine Gz.aload_n (q := 0) (pc' := 65) (by decide +kernel) rfl 0 rfl ?_
    refine Gz.iload (i := 5) (pc' := 67) (by decide +kernel) rfl 5 rfl ?_
    refine Gz.callVV (st := []) (b := 107) (pc' := 70) [.int a5] (g_M_put a5 w17) h ok_m_M_put lk_M_107 sh_107 rfl rfl rfl (Nat.le_of_ble_eq_true rfl) (Nat.le_of_ble_eq_true rfl) (Nat.le_of_ble_eq_true rfl) (by decide +kernel) rfl (fun _ w18 h => ?_)
    refine Gz.aload_n (q := 0) (pc' := 71) (by decide +kernel) rfl 0 rfl ?_
    refine Gz.getI (pc' := 74) (j := 5) fd_M_100 sh_107 rfl (by decide +kernel) rfl ?_
    exact Gz.ireturn (by decide +kernel) rfl (zok_sI h)
  · have h := zok_f c13 h
    refine Gz.iconst (n := -1) (v := (-1 : Int32)) (pc' := 42) (by decide +kernel) rfl rfl ?_
    exact Gz.ireturn (by decide +kernel) rfl (zok_sI h)
def f_M_end (a1 : Int32) (w : gW) : Option (Int32 × gW) :=
zl (zsI w 107 0 (0 : Int32)) (fun w1 =>
if a1 < 0 then
(some ((0 : Int32), w1))
else
(if a1 ≤ (w1.1 107 5) then
(zl (zsI w1 107 5 a1) (fun w5 =>
some ((1 : Int32), w5)))
else
(some ((0 : Int32), w1))))
theorem g_M_end {l : Launch} (a1 : Int32) (w : gW) : gCt l m_M_end 1 [.ref 107, .int a1] w eI (f_M_end a1 w) := by
  intro Q h
  unfold f_M_end at h
  show Gz l m_M_end 1 0 [(0, .ref 107), (1, .int a1)] [] w Q
  refine Gz.aload_n (q := 0) (pc' := 1) (by decide +kernel) rfl 0 rfl ?_
  refine Gz.iconst (n := 0) (v := (0 : Int32)) (pc' := 2) (by decide +kernel) rfl rfl ?_
  refine Gz.putI (pc' := 5) (j := 0) fd_M_96 sh_107 rfl (by decide +kernel) rfl ?_
  refine Gz.nmW (fun w1 e2 => ?_)
  have h := zok_l e2 h
  refine Gz.iload_n (q := 1) (pc' := 6) (by decide +kernel) rfl 1 rfl ?_
  refine Gz.if_lt (off := 11) (tgt := 17) (pc' := 9) (by decide +kernel) (by decide) rfl (fun c3 => ?_) (fun c3 => ?_)
  · have h := zok_t c3 h
    refine Gz.iconst (n := 0) (v := (0 : Int32)) (pc' := 18) (by decide +kernel) rfl rfl ?_
    exact Gz.zreturn (by decide +kernel) rfl (by decide) (zok_sI h)
  · have h := zok_f c3 h
    refine Gz.iload_n (q := 1) (pc' := 10) (by decide +kernel) rfl 1 rfl ?_
    refine Gz.aload_n (q := 0) (pc' := 11) (by decide +kernel) rfl 0 rfl ?_
    refine Gz.getI (pc' := 14) (j := 5) fd_M_100 sh_107 rfl (by decide +kernel) rfl ?_
    refine Gz.icmp_le (off := 5) (tgt := 19) (pc' := 17) (by decide +kernel) (by decide) rfl (fun c4 => ?_) (fun c4 => ?_)
    · have h := zok_t c4 h
      refine Gz.aload_n (q := 0) (pc' := 20) (by decide +kernel) rfl 0 rfl ?_
      refine Gz.iload_n (q := 1) (pc' := 21) (by decide +kernel) rfl 1 rfl ?_
      refine Gz.putI (pc' := 24) (j := 5) fd_M_100 sh_107 rfl (by decide +kernel) rfl ?_
      refine Gz.nmW (fun w5 e6 => ?_)
      have h := zok_l e6 h
      refine Gz.iconst (n := 1) (v := (1 : Int32)) (pc' := 25) (by decide +kernel) rfl rfl ?_
      exact Gz.zreturn (by decide +kernel) rfl (by decide) (zok_sI h)
    · have h := zok_f c4 h
      refine Gz.iconst (n := 0) (v := (0 : Int32)) (pc' := 18) (by decide +kernel) rfl rfl ?_
      exact Gz.zreturn (by decide +kernel) rfl (by decide) (zok_sI h)
def f_M_isIn (a0 : Int64) (a2 : Int64) (a4 : Int64) (w : gW) : Option (Int32 × gW) :=
if (lg_cmp a0 a2) < 0 then
(some ((0 : Int32), w))
else
(if 0 < (lg_cmp a0 a4) then
(some ((0 : Int32), w))
else
(some ((1 : Int32), w)))
theorem g_M_isIn {l : Launch} (a0 : Int64) (a2 : Int64) (a4 : Int64) (w : gW) : gCt l m_M_isIn 1 [.long a0, .long a2, .long a4] w eI (f_M_isIn a0 a2 a4 w) := by
  intro Q h
  unfold f_M_isIn at h
  show Gz l m_M_isIn 1 0 [(0, .long a0), (2, .long a2), (4, .long a4)] [] w Q
  refine Gz.lload_n (q := 0) (pc' := 1) (by decide +kernel) rfl 0 rfl ?_
  refine Gz.lload_n (q := 2) (pc' := 2) (by decide +kernel) rfl 1 rfl ?_
  refine Gz.lcmp (pc' := 3) (by decide +kernel) rfl ?_
  refine Gz.if_lt (off := 14) (tgt := 17) (pc' := 6) (by decide +kernel) (by decide) rfl (fun c1 => ?_) (fun c1 => ?_)
  · have h := zok_t c1 h
    refine Gz.iconst (n := 0) (v := (0 : Int32)) (pc' := 18) (by decide +kernel) rfl rfl ?_
    exact Gz.zreturn (by decide +kernel) rfl (by decide) (zok_sI h)
  · have h := zok_f c1 h
    refine Gz.lload_n (q := 0) (pc' := 7) (by decide +kernel) rfl 0 rfl ?_
    refine Gz.lload (i := 4) (pc' := 9) (by decide +kernel) rfl 2 rfl ?_
    refine Gz.lcmp (pc' := 10) (by decide +kernel) rfl ?_
    refine Gz.if_gt (off := 7) (tgt := 17) (pc' := 13) (by decide +kernel) (by decide) rfl (fun c2 => ?_) (fun c2 => ?_)
    · have h := zok_t c2 h
      refine Gz.iconst (n := 0) (v := (0 : Int32)) (pc' := 18) (by decide +kernel) rfl rfl ?_
      exact Gz.zreturn (by decide +kernel) rfl (by decide) (zok_sI h)
    · have h := zok_f c2 h
      refine Gz.iconst (n := 1) (v := (1 : Int32)) (pc' := 14) (by decide +kernel) rfl rfl ?_
      refine Gz.goto (off := 4) (tgt := 18) (by decide +kernel) (by decide) ?_
      exact Gz.zreturn (by decide +kernel) rfl (by decide) (zok_sI h)
def f_M_opens (a1 : Nat) (a2 : Int32) (a3 : Int32) (w : gW) : Option (Unit × gW) :=
if a1 < 2 ^ 31 then
zl (zsI w 107 4 (nI a1)) (fun w1 =>
zl (zsI w1 107 7 a2) (fun w4 =>
zl (zsI w4 107 8 a3) (fun w6 =>
zl (zsI w6 107 9 (0 : Int32)) (fun w8 =>
zl (zsI w8 107 10 (-1 : Int32)) (fun w10 =>
zl (zsI w10 107 11 (0 : Int32)) (fun w12 =>
some ((), w12)))))))
else none
theorem g_M_opens {l : Launch} (a1 : Nat) (a2 : Int32) (a3 : Int32) (w : gW) : gCt l m_M_opens 1 [.ref 107, .ref a1, .int a2, .int a3] w eV (f_M_opens a1 a2 a3 w) := by
  intro Q h
  unfold f_M_opens at h
  show Gz l m_M_opens 1 0 [(0, .ref 107), (1, .ref a1), (2, .int a2), (3, .int a3)] [] w Q
  refine Gz.aload_n (q := 0) (pc' := 1) (by decide +kernel) rfl 0 rfl ?_
  refine Gz.aload_n (q := 1) (pc' := 2) (by decide +kernel) rfl 1 rfl ?_
  obtain ⟨c3, h⟩ := zok_c h
  refine Gz.putV (pc' := 5) (j := 4) fd_M_20 sh_107 rfl (by decide +kernel) rfl c3 ?_
  refine Gz.nmW (fun w1 e2 => ?_)
  have h := zok_l e2 h
  refine Gz.aload_n (q := 0) (pc' := 6) (by decide +kernel) rfl 0 rfl ?_
  refine Gz.iload_n (q := 2) (pc' := 7) (by decide +kernel) rfl 2 rfl ?_
  refine Gz.putI (pc' := 10) (j := 7) fd_M_117 sh_107 rfl (by decide +kernel) rfl ?_
  refine Gz.nmW (fun w4 e5 => ?_)
  have h := zok_l e5 h
  refine Gz.aload_n (q := 0) (pc' := 11) (by decide +kernel) rfl 0 rfl ?_
  refine Gz.iload_n (q := 3) (pc' := 12) (by decide +kernel) rfl 3 rfl ?_
  refine Gz.putI (pc' := 15) (j := 8) fd_M_114 sh_107 rfl (by decide +kernel) rfl ?_
  refine Gz.nmW (fun w6 e7 => ?_)
  have h := zok_l e7 h
  refine Gz.aload_n (q := 0) (pc' := 16) (by decide +kernel) rfl 0 rfl ?_
  refine Gz.iconst (n := 0) (v := (0 : Int32)) (pc' := 17) (by decide +kernel) rfl rfl ?_
  refine Gz.putI (pc' := 20) (j := 9) fd_M_111 sh_107 rfl (by decide +kernel) rfl ?_
  refine Gz.nmW (fun w8 e9 => ?_)
  have h := zok_l e9 h
  refine Gz.aload_n (q := 0) (pc' := 21) (by decide +kernel) rfl 0 rfl ?_
  refine Gz.iconst (n := -1) (v := (-1 : Int32)) (pc' := 22) (by decide +kernel) rfl rfl ?_
  refine Gz.putI (pc' := 25) (j := 10) fd_M_120 sh_107 rfl (by decide +kernel) rfl ?_
  refine Gz.nmW (fun w10 e11 => ?_)
  have h := zok_l e11 h
  refine Gz.aload_n (q := 0) (pc' := 26) (by decide +kernel) rfl 0 rfl ?_
  refine Gz.iconst (n := 0) (v := (0 : Int32)) (pc' := 27) (by decide +kernel) rfl rfl ?_
  refine Gz.putI (pc' := 30) (j := 11) fd_M_123 sh_107 rfl (by decide +kernel) rfl ?_
  refine Gz.nmW (fun w12 e13 => ?_)
  have h := zok_l e13 h
  exact Gz.return_ (by decide +kernel) rfl (zok_sV h)
def f_M_look_b43 (w : gW) : Option (Int32 × gW) :=
if (w.1 107 8) ≤ (w.1 107 9) then
(some ((-1 : Int32), w))
else
(if inb ((w.1 107 7) + (w.1 107 9)) (g_len 3 (ix (w.1 107 4))) then
some ((w.1 (ix (w.1 107 4)) (ix ((w.1 107 7) + (w.1 107 9)))) &&& (255 : Int32), w)
else none)
def f_M_look_b0_s (k0 : gW → Option (Int32 × gW)) (w : gW) : Option (Int32 × gW) :=
if (w.1 107 8) ≤ (w.1 107 9) then
(f_M_look_b43 w)
else
(if inb ((w.1 107 7) + (w.1 107 9)) (g_len 3 (ix (w.1 107 4))) then
if (w.1 (ix (w.1 107 4)) (ix ((w.1 107 7) + (w.1 107 9)))) = (32 : Int32) then
(zl (zsI w 107 9 ((w.1 107 9) + (1 : Int32))) (fun w4 =>
k0 w4))
else
(f_M_look_b43 w)
else none)
def f_M_look_b0 : gW → Option (Int32 × gW) := zfx (fun _ => none) (f_M_look_b0_s) zFU
def f_M_look (w : gW) : Option (Int32 × gW) :=
f_M_look_b0 w
theorem g_M_look_b43 {l : Launch} {Q : Option Value → gW → Prop} (w : gW) (h : zok eI (f_M_look_b43 w) Q) : Gz l m_M_look 1 43 [(0, .ref 107)] [] w Q := by
  unfold f_M_look_b43 at h
  refine Gz.aload_n (q := 0) (pc' := 44) (by decide +kernel) rfl 0 rfl ?_
  refine Gz.getI (pc' := 47) (j := 9) fd_M_111 sh_107 rfl (by decide +kernel) rfl ?_
  refine Gz.aload_n (q := 0) (pc' := 48) (by decide +kernel) rfl 0 rfl ?_
  refine Gz.getI (pc' := 51) (j := 8) fd_M_114 sh_107 rfl (by decide +kernel) rfl ?_
  refine Gz.icmp_ge (off := 24) (tgt := 75) (pc' := 54) (by decide +kernel) (by decide) rfl (fun c1 => ?_) (fun c1 => ?_)
  · have h := zok_t c1 h
    refine Gz.iconst (n := -1) (v := (-1 : Int32)) (pc' := 76) (by decide +kernel) rfl rfl ?_
    exact Gz.ireturn (by decide +kernel) rfl (zok_sI h)
  · have h := zok_f c1 h
    refine Gz.aload_n (q := 0) (pc' := 55) (by decide +kernel) rfl 0 rfl ?_
    refine Gz.getV (pc' := 58) (j := 4) fd_M_20 sh_107 rfl (by decide +kernel) rfl ?_
    refine Gz.aload_n (q := 0) (pc' := 59) (by decide +kernel) rfl 0 rfl ?_
    refine Gz.getI (pc' := 62) (j := 7) fd_M_117 sh_107 rfl (by decide +kernel) rfl ?_
    refine Gz.aload_n (q := 0) (pc' := 63) (by decide +kernel) rfl 0 rfl ?_
    refine Gz.getI (pc' := 66) (j := 9) fd_M_111 sh_107 rfl (by decide +kernel) rfl ?_
    refine Gz.iadd (pc' := 67) (by decide +kernel) rfl ?_
    obtain ⟨c2, h⟩ := zok_c h
    refine Gz.bald (pc' := 68) (n := (g_len 3 (ix (w.1 107 4)))) (by decide +kernel) rfl rfl c2 ?_
    refine Gz.sipush (n := 255) (v := (255 : Int32)) (pc' := 71) (by decide +kernel) rfl rfl ?_
    refine Gz.iand (pc' := 72) (by decide +kernel) rfl ?_
    refine Gz.goto (off := 4) (tgt := 76) (by decide +kernel) (by decide) ?_
    exact Gz.ireturn (by decide +kernel) rfl (zok_sI h)
theorem g_M_look_b0_s {l : Launch} {Q : Option Value → gW → Prop} (k0 : gW → Option (Int32 × gW)) (hk0 : ∀  (w : gW), zok eI (k0  w) Q → Gz l m_M_look 1 0 [(0, .ref 107)] [] w Q) (w : gW) (h : zok eI (f_M_look_b0_s k0 w) Q) : Gz l m_M_look 1 0 [(0, .ref 107)] [] w Q := by
  unfold f_M_look_b0_s at h
  refine Gz.aload_n (q := 0) (pc' := 1) (by decide +kernel) rfl 0 rfl ?_
  refine Gz.getI (pc' := 4) (j := 9) fd_M_111 sh_107 rfl (by decide +kernel) rfl ?_
  refine Gz.aload_n (q := 0) (pc' := 5) (by decide +kernel) rfl 0 rfl ?_
  refine Gz.getI (pc' := 8) (j := 8) fd_M_114 sh_107 rfl (by decide +kernel) rfl ?_
  refine Gz.icmp_ge (off := 35) (tgt := 43) (pc' := 11) (by decide +kernel) (by decide) rfl (fun c1 => ?_) (fun c1 => ?_)
  · have h := zok_t c1 h
    exact g_M_look_b43 w h
  · have h := zok_f c1 h
    refine Gz.aload_n (q := 0) (pc' := 12) (by decide +kernel) rfl 0 rfl ?_
    refine Gz.getV (pc' := 15) (j := 4) fd_M_20 sh_107 rfl (by decide +kernel) rfl ?_
    refine Gz.aload_n (q := 0) (pc' := 16) (by decide +kernel) rfl 0 rfl ?_
    refine Gz.getI (pc' := 19) (j := 7) fd_M_117 sh_107 rfl (by decide +kernel) rfl ?_
    refine Gz.aload_n (q := 0) (pc' := 20) (by decide +kernel) rfl 0 rfl ?_
    refine Gz.getI (pc' := 23) (j := 9) fd_M_111 sh_107 rfl (by decide +kernel) rfl ?_
    refine Gz.iadd (pc' := 24) (by decide +kernel) rfl ?_
    obtain ⟨c2, h⟩ := zok_c h
    refine Gz.bald (pc' := 25) (n := (g_len 3 (ix (w.1 107 4)))) (by decide +kernel) rfl rfl c2 ?_
    refine Gz.bipush (n := 32) (v := (32 : Int32)) (pc' := 27) (by decide +kernel) rfl rfl ?_
    refine Gz.icmp_ne (off := 16) (tgt := 43) (pc' := 30) (by decide +kernel) (by decide) rfl (fun c3 => ?_) (fun c3 => ?_)
    · have h := zok_f c3 h
      exact g_M_look_b43 w h
    · have h := zok_t c3 h
      refine Gz.aload_n (q := 0) (pc' := 31) (by decide +kernel) rfl 0 rfl ?_
      refine Gz.dup (pc' := 32) (by decide +kernel) rfl rfl ?_
      refine Gz.getI (pc' := 35) (j := 9) fd_M_111 sh_107 rfl (by decide +kernel) rfl ?_
      refine Gz.iconst (n := 1) (v := (1 : Int32)) (pc' := 36) (by decide +kernel) rfl rfl ?_
      refine Gz.iadd (pc' := 37) (by decide +kernel) rfl ?_
      refine Gz.putI (pc' := 40) (j := 9) fd_M_111 sh_107 rfl (by decide +kernel) rfl ?_
      refine Gz.nmW (fun w4 e5 => ?_)
      have h := zok_l e5 h
      refine Gz.goto (off := -40) (tgt := 0) (by decide +kernel) (by decide) ?_
      exact hk0 w4 h
theorem g_M_look_b0 {l : Launch} {Q : Option Value → gW → Prop} (w : gW) (h : zok eI (f_M_look_b0 w) Q) : Gz l m_M_look 1 0 [(0, .ref 107)] [] w Q := by
  have key : ∀ (n : Nat)  (w : gW), zok eI (zfx (fun _ => none) (f_M_look_b0_s) n w) Q → Gz l m_M_look 1 0 [(0, .ref 107)] [] w Q := by
    intro n
    induction n with
    | zero => intro w h; exact zok_n h
    | succ n ih => intro w h; exact g_M_look_b0_s _ ih w h
  exact key zFU w h
theorem g_M_look {l : Launch} (w : gW) : gCt l m_M_look 1 [.ref 107] w eI (f_M_look w) := by
  intro Q h
  unfold f_M_look at h
  show Gz l m_M_look 1 0 [(0, .ref 107)] [] w Q
  exact g_M_look_b0 w h
def f_M_fails (w : gW) : Option (Int32 × gW) :=
if (w.1 107 10) = (-1 : Int32) then
(zl (zsI w 107 10 (w.1 107 9)) (fun w2 =>
some ((0 : Int32), w2)))
else
(some ((0 : Int32), w))
theorem g_M_fails {l : Launch} (w : gW) : gCt l m_M_fails 1 [.ref 107] w eI (f_M_fails w) := by
  intro Q h
  unfold f_M_fails at h
  show Gz l m_M_fails 1 0 [(0, .ref 107)] [] w Q
  refine Gz.aload_n (q := 0) (pc' := 1) (by decide +kernel) rfl 0 rfl ?_
  refine Gz.getI (pc' := 4) (j := 10) fd_M_120 sh_107 rfl (by decide +kernel) rfl ?_
  refine Gz.iconst (n := -1) (v := (-1 : Int32)) (pc' := 5) (by decide +kernel) rfl rfl ?_
  refine Gz.icmp_ne (off := 11) (tgt := 16) (pc' := 8) (by decide +kernel) (by decide) rfl (fun c1 => ?_) (fun c1 => ?_)
  · have h := zok_f c1 h
    refine Gz.iconst (n := 0) (v := (0 : Int32)) (pc' := 17) (by decide +kernel) rfl rfl ?_
    exact Gz.zreturn (by decide +kernel) rfl (by decide) (zok_sI h)
  · have h := zok_t c1 h
    refine Gz.aload_n (q := 0) (pc' := 9) (by decide +kernel) rfl 0 rfl ?_
    refine Gz.aload_n (q := 0) (pc' := 10) (by decide +kernel) rfl 0 rfl ?_
    refine Gz.getI (pc' := 13) (j := 9) fd_M_111 sh_107 rfl (by decide +kernel) rfl ?_
    refine Gz.putI (pc' := 16) (j := 10) fd_M_120 sh_107 rfl (by decide +kernel) rfl ?_
    refine Gz.nmW (fun w2 e3 => ?_)
    have h := zok_l e3 h
    refine Gz.iconst (n := 0) (v := (0 : Int32)) (pc' := 17) (by decide +kernel) rfl rfl ?_
    exact Gz.zreturn (by decide +kernel) rfl (by decide) (zok_sI h)
def f_M_takes_b16 (w : gW) : Option (Int32 × gW) :=
zb (f_M_fails w) (fun v1 w2 =>
if v1 &&& 1 = v1 then some (v1, w2) else none)
def f_M_takes (a1 : Int32) (w : gW) : Option (Int32 × gW) :=
if (w.1 107 10) = (-1 : Int32) then
(zb (f_M_look w) (fun v2 w3 =>
if v2 = a1 then
(zl (zsI w3 107 9 ((w3.1 107 9) + (1 : Int32))) (fun w5 =>
some ((1 : Int32), w5)))
else
(f_M_takes_b16 w3)))
else
(f_M_takes_b16 w)
theorem g_M_takes_b16 {l : Launch} {Q : Option Value → gW → Prop} (w : gW) (h : zok eI (f_M_takes_b16 w) Q) : Gz l m_M_takes 2 16 [(0, .ref 107)] [] w Q := by
  unfold f_M_takes_b16 at h
  refine Gz.aload_n (q := 0) (pc' := 17) (by decide +kernel) rfl 0 rfl ?_
  refine Gz.callVI (st := []) (b := 107) (pc' := 20) [] (g_M_fails w) h ok_m_M_fails lk_M_126 sh_107 rfl rfl rfl (Nat.le_of_ble_eq_true rfl) (Nat.le_of_ble_eq_true rfl) (Nat.le_of_ble_eq_true rfl) (by decide +kernel) rfl (fun v1 w2 h => ?_)
  obtain ⟨c3, h⟩ := zok_c h
  exact Gz.zreturn (by decide +kernel) rfl c3 (zok_sI h)
theorem g_M_takes {l : Launch} (a1 : Int32) (w : gW) : gCt l m_M_takes 2 [.ref 107, .int a1] w eI (f_M_takes a1 w) := by
  intro Q h
  unfold f_M_takes at h
  show Gz l m_M_takes 2 0 [(0, .ref 107), (1, .int a1)] [] w Q
  refine Gz.aload_n (q := 0) (pc' := 1) (by decide +kernel) rfl 0 rfl ?_
  refine Gz.getI (pc' := 4) (j := 10) fd_M_120 sh_107 rfl (by decide +kernel) rfl ?_
  refine Gz.iconst (n := -1) (v := (-1 : Int32)) (pc' := 5) (by decide +kernel) rfl rfl ?_
  refine Gz.icmp_ne (off := 11) (tgt := 16) (pc' := 8) (by decide +kernel) (by decide) rfl (fun c1 => ?_) (fun c1 => ?_)
  · have h := zok_f c1 h
    refine Gz.sub (L' := [(0, .ref 107)]) [0] rfl ?_
    exact g_M_takes_b16 w h
  · have h := zok_t c1 h
    refine Gz.aload_n (q := 0) (pc' := 9) (by decide +kernel) rfl 0 rfl ?_
    refine Gz.callVI (st := []) (b := 107) (pc' := 12) [] (g_M_look w) h ok_m_M_look lk_M_130 sh_107 rfl rfl rfl (Nat.le_of_ble_eq_true rfl) (Nat.le_of_ble_eq_true rfl) (Nat.le_of_ble_eq_true rfl) (by decide +kernel) rfl (fun v2 w3 h => ?_)
    refine Gz.iload_n (q := 1) (pc' := 13) (by decide +kernel) rfl 1 rfl ?_
    refine Gz.icmp_eq (off := 8) (tgt := 21) (pc' := 16) (by decide +kernel) (by decide) rfl (fun c4 => ?_) (fun c4 => ?_)
    · have h := zok_t c4 h
      refine Gz.aload_n (q := 0) (pc' := 22) (by decide +kernel) rfl 0 rfl ?_
      refine Gz.dup (pc' := 23) (by decide +kernel) rfl rfl ?_
      refine Gz.getI (pc' := 26) (j := 9) fd_M_111 sh_107 rfl (by decide +kernel) rfl ?_
      refine Gz.iconst (n := 1) (v := (1 : Int32)) (pc' := 27) (by decide +kernel) rfl rfl ?_
      refine Gz.iadd (pc' := 28) (by decide +kernel) rfl ?_
      refine Gz.putI (pc' := 31) (j := 9) fd_M_111 sh_107 rfl (by decide +kernel) rfl ?_
      refine Gz.nmW (fun w5 e6 => ?_)
      have h := zok_l e6 h
      refine Gz.iconst (n := 1) (v := (1 : Int32)) (pc' := 32) (by decide +kernel) rfl rfl ?_
      exact Gz.zreturn (by decide +kernel) rfl (by decide) (zok_sI h)
    · have h := zok_f c4 h
      refine Gz.sub (L' := [(0, .ref 107)]) [0] rfl ?_
      exact g_M_takes_b16 w3 h
def f_M_isDigit (w : gW) : Option (Int32 × gW) :=
if (w.1 107 8) ≤ (w.1 107 9) then
(some ((0 : Int32), w))
else
(if inb ((w.1 107 7) + (w.1 107 9)) (g_len 3 (ix (w.1 107 4))) then
if (w.1 (ix (w.1 107 4)) (ix ((w.1 107 7) + (w.1 107 9)))) < (48 : Int32) then
(some ((0 : Int32), w))
else
(if inb ((w.1 107 7) + (w.1 107 9)) (g_len 3 (ix (w.1 107 4))) then
if (57 : Int32) < (w.1 (ix (w.1 107 4)) (ix ((w.1 107 7) + (w.1 107 9)))) then
(some ((0 : Int32), w))
else
(some ((1 : Int32), w))
else none)
else none)
theorem g_M_isDigit {l : Launch} (w : gW) : gCt l m_M_isDigit 1 [.ref 107] w eI (f_M_isDigit w) := by
  intro Q h
  unfold f_M_isDigit at h
  show Gz l m_M_isDigit 1 0 [(0, .ref 107)] [] w Q
  refine Gz.aload_n (q := 0) (pc' := 1) (by decide +kernel) rfl 0 rfl ?_
  refine Gz.getI (pc' := 4) (j := 9) fd_M_111 sh_107 rfl (by decide +kernel) rfl ?_
  refine Gz.aload_n (q := 0) (pc' := 5) (by decide +kernel) rfl 0 rfl ?_
  refine Gz.getI (pc' := 8) (j := 8) fd_M_114 sh_107 rfl (by decide +kernel) rfl ?_
  refine Gz.icmp_ge (off := 45) (tgt := 53) (pc' := 11) (by decide +kernel) (by decide) rfl (fun c1 => ?_) (fun c1 => ?_)
  · have h := zok_t c1 h
    refine Gz.iconst (n := 0) (v := (0 : Int32)) (pc' := 54) (by decide +kernel) rfl rfl ?_
    exact Gz.zreturn (by decide +kernel) rfl (by decide) (zok_sI h)
  · have h := zok_f c1 h
    refine Gz.aload_n (q := 0) (pc' := 12) (by decide +kernel) rfl 0 rfl ?_
    refine Gz.getV (pc' := 15) (j := 4) fd_M_20 sh_107 rfl (by decide +kernel) rfl ?_
    refine Gz.aload_n (q := 0) (pc' := 16) (by decide +kernel) rfl 0 rfl ?_
    refine Gz.getI (pc' := 19) (j := 7) fd_M_117 sh_107 rfl (by decide +kernel) rfl ?_
    refine Gz.aload_n (q := 0) (pc' := 20) (by decide +kernel) rfl 0 rfl ?_
    refine Gz.getI (pc' := 23) (j := 9) fd_M_111 sh_107 rfl (by decide +kernel) rfl ?_
    refine Gz.iadd (pc' := 24) (by decide +kernel) rfl ?_
    obtain ⟨c2, h⟩ := zok_c h
    refine Gz.bald (pc' := 25) (n := (g_len 3 (ix (w.1 107 4)))) (by decide +kernel) rfl rfl c2 ?_
    refine Gz.bipush (n := 48) (v := (48 : Int32)) (pc' := 27) (by decide +kernel) rfl rfl ?_
    refine Gz.icmp_lt (off := 26) (tgt := 53) (pc' := 30) (by decide +kernel) (by decide) rfl (fun c3 => ?_) (fun c3 => ?_)
    · have h := zok_t c3 h
      refine Gz.iconst (n := 0) (v := (0 : Int32)) (pc' := 54) (by decide +kernel) rfl rfl ?_
      exact Gz.zreturn (by decide +kernel) rfl (by decide) (zok_sI h)
    · have h := zok_f c3 h
      refine Gz.aload_n (q := 0) (pc' := 31) (by decide +kernel) rfl 0 rfl ?_
      refine Gz.getV (pc' := 34) (j := 4) fd_M_20 sh_107 rfl (by decide +kernel) rfl ?_
      refine Gz.aload_n (q := 0) (pc' := 35) (by decide +kernel) rfl 0 rfl ?_
      refine Gz.getI (pc' := 38) (j := 7) fd_M_117 sh_107 rfl (by decide +kernel) rfl ?_
      refine Gz.aload_n (q := 0) (pc' := 39) (by decide +kernel) rfl 0 rfl ?_
      refine Gz.getI (pc' := 42) (j := 9) fd_M_111 sh_107 rfl (by decide +kernel) rfl ?_
      refine Gz.iadd (pc' := 43) (by decide +kernel) rfl ?_
      obtain ⟨c4, h⟩ := zok_c h
      refine Gz.bald (pc' := 44) (n := (g_len 3 (ix (w.1 107 4)))) (by decide +kernel) rfl rfl c4 ?_
      refine Gz.bipush (n := 57) (v := (57 : Int32)) (pc' := 46) (by decide +kernel) rfl rfl ?_
      refine Gz.icmp_gt (off := 7) (tgt := 53) (pc' := 49) (by decide +kernel) (by decide) rfl (fun c5 => ?_) (fun c5 => ?_)
      · have h := zok_t c5 h
        refine Gz.iconst (n := 0) (v := (0 : Int32)) (pc' := 54) (by decide +kernel) rfl rfl ?_
        exact Gz.zreturn (by decide +kernel) rfl (by decide) (zok_sI h)
      · have h := zok_f c5 h
        refine Gz.iconst (n := 1) (v := (1 : Int32)) (pc' := 50) (by decide +kernel) rfl rfl ?_
        refine Gz.goto (off := 4) (tgt := 54) (by decide +kernel) (by decide) ?_
        exact Gz.zreturn (by decide +kernel) rfl (by decide) (zok_sI h)
def f_M_digit_b27 (w : gW) : Option (Int32 × gW) :=
zb (f_M_fails w) (fun v1 w2 =>
some ((-1 : Int32), w2))
def f_M_digit (a1 : Int32) (a2 : Int32) (w : gW) : Option (Int32 × gW) :=
zb (f_M_look w) (fun v1 w2 =>
zb (f_M_isDigit w2) (fun v3 w4 =>
if v3 = 0 then
(f_M_digit_b27 w4)
else
(zb (f_M_isIn ((v1 - (48 : Int32)).toInt64) (a1.toInt64) (a2.toInt64) w4) (fun v6 w7 =>
if v6 = 0 then
(f_M_digit_b27 w7)
else
(zl (zsI w7 107 9 ((w7.1 107 9) + (1 : Int32))) (fun w9 =>
some (v1 - (48 : Int32), w9)))))))
theorem g_M_digit_b27 {l : Launch} {Q : Option Value → gW → Prop} (w : gW) (h : zok eI (f_M_digit_b27 w) Q) : Gz l m_M_digit 2 27 [(0, .ref 107)] [] w Q := by
  unfold f_M_digit_b27 at h
  refine Gz.aload_n (q := 0) (pc' := 28) (by decide +kernel) rfl 0 rfl ?_
  refine Gz.callVI (st := []) (b := 107) (pc' := 31) [] (g_M_fails w) h ok_m_M_fails lk_M_126 sh_107 rfl rfl rfl (Nat.le_of_ble_eq_true rfl) (Nat.le_of_ble_eq_true rfl) (Nat.le_of_ble_eq_true rfl) (by decide +kernel) rfl (fun v1 w2 h => ?_)
  refine Gz.pop (pc' := 32) (by decide +kernel) rfl rfl ?_
  refine Gz.iconst (n := -1) (v := (-1 : Int32)) (pc' := 33) (by decide +kernel) rfl rfl ?_
  exact Gz.ireturn (by decide +kernel) rfl (zok_sI h)
theorem g_M_digit {l : Launch} (a1 : Int32) (a2 : Int32) (w : gW) : gCt l m_M_digit 2 [.ref 107, .int a1, .int a2] w eI (f_M_digit a1 a2 w) := by
  intro Q h
  unfold f_M_digit at h
  show Gz l m_M_digit 2 0 [(0, .ref 107), (1, .int a1), (2, .int a2)] [] w Q
  refine Gz.aload_n (q := 0) (pc' := 1) (by decide +kernel) rfl 0 rfl ?_
  refine Gz.callVI (st := []) (b := 107) (pc' := 4) [] (g_M_look w) h ok_m_M_look lk_M_130 sh_107 rfl rfl rfl (Nat.le_of_ble_eq_true rfl) (Nat.le_of_ble_eq_true rfl) (Nat.le_of_ble_eq_true rfl) (by decide +kernel) rfl (fun v1 w2 h => ?_)
  refine Gz.istore_n (q := 3) (pc' := 5) (L' := [(3, .int v1), (0, .ref 107), (1, .int a1), (2, .int a2)]) (by decide +kernel) rfl (Nat.le_of_ble_eq_true rfl) rfl ?_
  refine Gz.aload_n (q := 0) (pc' := 6) (by decide +kernel) rfl 1 rfl ?_
  refine Gz.callVI (st := []) (b := 107) (pc' := 9) [] (g_M_isDigit w2) h ok_m_M_isDigit lk_M_134 sh_107 rfl rfl rfl (Nat.le_of_ble_eq_true rfl) (Nat.le_of_ble_eq_true rfl) (Nat.le_of_ble_eq_true rfl) (by decide +kernel) rfl (fun v3 w4 h => ?_)
  refine Gz.if_eq (off := 18) (tgt := 27) (pc' := 12) (by decide +kernel) (by decide) rfl (fun c5 => ?_) (fun c5 => ?_)
  · have h := zok_t c5 h
    refine Gz.sub (L' := [(0, .ref 107)]) [1] rfl ?_
    exact g_M_digit_b27 w4 h
  · have h := zok_f c5 h
    refine Gz.iload_n (q := 3) (pc' := 13) (by decide +kernel) rfl 0 rfl ?_
    refine Gz.bipush (n := 48) (v := (48 : Int32)) (pc' := 15) (by decide +kernel) rfl rfl ?_
    refine Gz.isub (pc' := 16) (by decide +kernel) rfl ?_
    refine Gz.i2l (pc' := 17) (by decide +kernel) rfl ?_
    refine Gz.iload_n (q := 1) (pc' := 18) (by decide +kernel) rfl 2 rfl ?_
    refine Gz.i2l (pc' := 19) (by decide +kernel) rfl ?_
    refine Gz.iload_n (q := 2) (pc' := 20) (by decide +kernel) rfl 3 rfl ?_
    refine Gz.i2l (pc' := 21) (by decide +kernel) rfl ?_
    refine Gz.callSI (st := []) (pc' := 24) [.long ((v1 - (48 : Int32)).toInt64), .long (a1.toInt64), .long (a2.toInt64)] (g_M_isIn ((v1 - (48 : Int32)).toInt64) (a1.toInt64) (a2.toInt64) w4) h ok_m_M_isIn lk_M_137 rfl (Nat.le_of_ble_eq_true rfl) (Nat.le_of_ble_eq_true rfl) (Nat.le_of_ble_eq_true rfl) (by decide +kernel) rfl (fun v6 w7 h => ?_)
    refine Gz.if_ne (off := 10) (tgt := 34) (pc' := 27) (by decide +kernel) (by decide) rfl (fun c8 => ?_) (fun c8 => ?_)
    · have h := zok_f c8 h
      refine Gz.aload_n (q := 0) (pc' := 35) (by decide +kernel) rfl 1 rfl ?_
      refine Gz.dup (pc' := 36) (by decide +kernel) rfl rfl ?_
      refine Gz.getI (pc' := 39) (j := 9) fd_M_111 sh_107 rfl (by decide +kernel) rfl ?_
      refine Gz.iconst (n := 1) (v := (1 : Int32)) (pc' := 40) (by decide +kernel) rfl rfl ?_
      refine Gz.iadd (pc' := 41) (by decide +kernel) rfl ?_
      refine Gz.putI (pc' := 44) (j := 9) fd_M_111 sh_107 rfl (by decide +kernel) rfl ?_
      refine Gz.nmW (fun w9 e10 => ?_)
      have h := zok_l e10 h
      refine Gz.iload_n (q := 3) (pc' := 45) (by decide +kernel) rfl 0 rfl ?_
      refine Gz.bipush (n := 48) (v := (48 : Int32)) (pc' := 47) (by decide +kernel) rfl rfl ?_
      refine Gz.isub (pc' := 48) (by decide +kernel) rfl ?_
      exact Gz.ireturn (by decide +kernel) rfl (zok_sI h)
    · have h := zok_t c8 h
      refine Gz.sub (L' := [(0, .ref 107)]) [1] rfl ?_
      exact g_M_digit_b27 w7 h
def f_M_readDeed_b204 (k33 : Int32 → Int32 → Int32 → gW → Option (Unit × gW)) (x1 : Int32) (x2 : Int32) (w : gW) : Option (Unit × gW) :=
zb (f_M_look w) (fun v1 w2 =>
k33 x1 x2 v1 w2)
def f_M_readDeed_b190 (k33 : Int32 → Int32 → Int32 → gW → Option (Unit × gW)) (x1 : Int32) (x2 : Int32) (x3 : Int32) (x5 : Int32) (w : gW) : Option (Unit × gW) :=
if x3 = (108 : Int32) then
(if inb x1 5 then
zl (zsI w 117 (ix x1) x5) (fun w3 =>
f_M_readDeed_b204 k33 x1 x2 w3)
else none)
else
(f_M_readDeed_b204 k33 x1 x2 w)
def f_M_readDeed_b176 (k33 : Int32 → Int32 → Int32 → gW → Option (Unit × gW)) (x1 : Int32) (x2 : Int32) (x3 : Int32) (x5 : Int32) (w : gW) : Option (Unit × gW) :=
if x3 = (102 : Int32) then
(if inb x1 5 then
zl (zsI w 116 (ix x1) x5) (fun w3 =>
f_M_readDeed_b190 k33 x1 x2 x3 x5 w3)
else none)
else
(f_M_readDeed_b190 k33 x1 x2 x3 x5 w)
def f_M_readDeed_b150 (k33 : Int32 → Int32 → Int32 → gW → Option (Unit × gW)) (x1 : Int32) (x2 : Int32) (x3 : Int32) (s1 : Int32) (s2 : Int32) (w : gW) : Option (Unit × gW) :=
zb (f_M_digit s1 s2 w) (fun v1 w2 =>
if v1 = (-1 : Int32) then
(some ((), w2))
else
(if x3 = (112 : Int32) then
(if inb x1 5 then
zl (zsI w2 115 (ix x1) v1) (fun w6 =>
f_M_readDeed_b176 k33 x1 x2 x3 v1 w6)
else none)
else
(f_M_readDeed_b176 k33 x1 x2 x3 v1 w2)))
def f_M_readDeed_b119 (k33 : Int32 → Int32 → Int32 → gW → Option (Unit × gW)) (x1 : Int32) (x2 : Int32) (x3 : Int32) (s1 : Int32) (w : gW) : Option (Unit × gW) :=
if x3 = (112 : Int32) then
(f_M_readDeed_b150 k33 x1 x2 x3 s1 (5 : Int32) w)
else
(if x3 = (102 : Int32) then
(if inb x1 5 then
f_M_readDeed_b150 k33 x1 x2 x3 s1 (w.1 117 (ix x1)) w
else none)
else
(f_M_readDeed_b150 k33 x1 x2 x3 s1 ((w.1 107 24) - (1 : Int32)) w))
def f_M_readDeed_b72 (k33 : Int32 → Int32 → Int32 → gW → Option (Unit × gW)) (x1 : Int32) (x2 : Int32) (x3 : Int32) (s0 : Int32) (w : gW) : Option (Unit × gW) :=
if (x2 &&& s0) = 0 then
(zl (x2 ||| s0) (fun v2 =>
zl (zsI w 107 9 ((w.1 107 9) + (1 : Int32))) (fun w4 =>
if x3 = (108 : Int32) then
(if inb x1 5 then
f_M_readDeed_b119 k33 x1 v2 x3 (w4.1 116 (ix x1)) w4
else none)
else
(f_M_readDeed_b119 k33 x1 v2 x3 (0 : Int32) w4))))
else
(zb (f_M_fails w) (fun v8 w9 =>
some ((), w9)))
def f_M_readDeed_b51 (k33 : Int32 → Int32 → Int32 → gW → Option (Unit × gW)) (x1 : Int32) (x2 : Int32) (x3 : Int32) (w : gW) : Option (Unit × gW) :=
if x3 = (112 : Int32) then
(f_M_readDeed_b72 k33 x1 x2 x3 (1 : Int32) w)
else
(if x3 = (102 : Int32) then
(f_M_readDeed_b72 k33 x1 x2 x3 (2 : Int32) w)
else
(f_M_readDeed_b72 k33 x1 x2 x3 (4 : Int32) w))
def f_M_readDeed_b33_s (k33 : Int32 → Int32 → Int32 → gW → Option (Unit × gW)) (x1 : Int32) (x2 : Int32) (x3 : Int32) (w : gW) : Option (Unit × gW) :=
if x3 = (112 : Int32) then
(f_M_readDeed_b51 k33 x1 x2 x3 w)
else
(if x3 = (102 : Int32) then
(f_M_readDeed_b51 k33 x1 x2 x3 w)
else
(if x3 = (108 : Int32) then
(f_M_readDeed_b51 k33 x1 x2 x3 w)
else
(some ((), w))))
def f_M_readDeed_b33 : Int32 → Int32 → Int32 → gW → Option (Unit × gW) := zfx (fun _ _ _ _ => none) (f_M_readDeed_b33_s) zFU
def f_M_readDeed (a1 : Int32) (w : gW) : Option (Unit × gW) :=
if inb a1 5 then
zl (zsI w 115 (ix a1) (0 : Int32)) (fun w2 =>
if inb a1 5 then
zl (zsI w2 116 (ix a1) (0 : Int32)) (fun w5 =>
if inb a1 5 then
zl (zsI w5 117 (ix a1) ((w5.1 107 24) - (1 : Int32))) (fun w8 =>
zb (f_M_look w8) (fun v10 w11 =>
f_M_readDeed_b33 a1 (0 : Int32) v10 w11))
else none)
else none)
else none
theorem g_M_readDeed_b204 {l : Launch} {Q : Option Value → gW → Prop} (k33 : Int32 → Int32 → Int32 → gW → Option (Unit × gW)) (hk33 : ∀ (x1 : Int32) (x2 : Int32) (x3 : Int32) (w : gW), zok eV (k33 x1 x2 x3 w) Q → Gz l m_M_readDeed 3 33 [(0, .ref 107), (1, .int x1), (2, .int x2), (3, .int x3)] [] w Q) (x1 : Int32) (x2 : Int32) (w : gW) (h : zok eV (f_M_readDeed_b204 k33 x1 x2 w) Q) : Gz l m_M_readDeed 3 204 [(0, .ref 107), (1, .int x1), (2, .int x2)] [] w Q := by
  unfold f_M_readDeed_b204 at h
  refine Gz.aload_n (q := 0) (pc' := 205) (by decide +kernel) rfl 0 rfl ?_
  refine Gz.callVI (st := []) (b := 107) (pc' := 208) [] (g_M_look w) h ok_m_M_look lk_M_130 sh_107 rfl rfl rfl (Nat.le_of_ble_eq_true rfl) (Nat.le_of_ble_eq_true rfl) (Nat.le_of_ble_eq_true rfl) (by decide +kernel) rfl (fun v1 w2 h => ?_)
  refine Gz.istore_n (q := 3) (pc' := 209) (L' := [(3, .int v1), (0, .ref 107), (1, .int x1), (2, .int x2)]) (by decide +kernel) rfl (Nat.le_of_ble_eq_true rfl) rfl ?_
  refine Gz.goto (off := -176) (tgt := 33) (by decide +kernel) (by decide) ?_
  refine Gz.sub (L' := [(0, .ref 107), (1, .int x1), (2, .int x2), (3, .int v1)]) [1, 2, 3, 0] rfl ?_
  exact hk33 x1 x2 v1 w2 h
theorem g_M_readDeed_b190 {l : Launch} {Q : Option Value → gW → Prop} (k33 : Int32 → Int32 → Int32 → gW → Option (Unit × gW)) (hk33 : ∀ (x1 : Int32) (x2 : Int32) (x3 : Int32) (w : gW), zok eV (k33 x1 x2 x3 w) Q → Gz l m_M_readDeed 3 33 [(0, .ref 107), (1, .int x1), (2, .int x2), (3, .int x3)] [] w Q) (x1 : Int32) (x2 : Int32) (x3 : Int32) (x5 : Int32) (w : gW) (h : zok eV (f_M_readDeed_b190 k33 x1 x2 x3 x5 w) Q) : Gz l m_M_readDeed 3 190 [(0, .ref 107), (1, .int x1), (2, .int x2), (3, .int x3), (5, .int x5)] [] w Q := by
  unfold f_M_readDeed_b190 at h
  refine Gz.iload_n (q := 3) (pc' := 191) (by decide +kernel) rfl 3 rfl ?_
  refine Gz.bipush (n := 108) (v := (108 : Int32)) (pc' := 193) (by decide +kernel) rfl rfl ?_
  refine Gz.icmp_ne (off := 11) (tgt := 204) (pc' := 196) (by decide +kernel) (by decide) rfl (fun c1 => ?_) (fun c1 => ?_)
  · have h := zok_f c1 h
    refine Gz.sub (L' := [(0, .ref 107), (1, .int x1), (2, .int x2)]) [0, 1, 2] rfl ?_
    exact g_M_readDeed_b204 k33 hk33 x1 x2 w h
  · have h := zok_t c1 h
    refine Gz.aload_n (q := 0) (pc' := 197) (by decide +kernel) rfl 0 rfl ?_
    refine Gz.getR (pc' := 200) (j := 20) 117 fd_M_41 sh_107 rfl (by decide +kernel) rfl ?_
    refine Gz.iload_n (q := 1) (pc' := 201) (by decide +kernel) rfl 1 rfl ?_
    refine Gz.iload (i := 5) (pc' := 203) (by decide +kernel) rfl 4 rfl ?_
    obtain ⟨c2, h⟩ := zok_c h
    refine Gz.iast (pc' := 204) (n := 5) (by decide +kernel) rfl rfl c2 ?_
    refine Gz.nmW (fun w3 e4 => ?_)
    have h := zok_l e4 h
    refine Gz.sub (L' := [(0, .ref 107), (1, .int x1), (2, .int x2)]) [0, 1, 2] rfl ?_
    exact g_M_readDeed_b204 k33 hk33 x1 x2 w3 h
theorem g_M_readDeed_b176 {l : Launch} {Q : Option Value → gW → Prop} (k33 : Int32 → Int32 → Int32 → gW → Option (Unit × gW)) (hk33 : ∀ (x1 : Int32) (x2 : Int32) (x3 : Int32) (w : gW), zok eV (k33 x1 x2 x3 w) Q → Gz l m_M_readDeed 3 33 [(0, .ref 107), (1, .int x1), (2, .int x2), (3, .int x3)] [] w Q) (x1 : Int32) (x2 : Int32) (x3 : Int32) (x5 : Int32) (w : gW) (h : zok eV (f_M_readDeed_b176 k33 x1 x2 x3 x5 w) Q) : Gz l m_M_readDeed 3 176 [(0, .ref 107), (1, .int x1), (2, .int x2), (3, .int x3), (5, .int x5)] [] w Q := by
  unfold f_M_readDeed_b176 at h
  refine Gz.iload_n (q := 3) (pc' := 177) (by decide +kernel) rfl 3 rfl ?_
  refine Gz.bipush (n := 102) (v := (102 : Int32)) (pc' := 179) (by decide +kernel) rfl rfl ?_
  refine Gz.icmp_ne (off := 11) (tgt := 190) (pc' := 182) (by decide +kernel) (by decide) rfl (fun c1 => ?_) (fun c1 => ?_)
  · have h := zok_f c1 h
    exact g_M_readDeed_b190 k33 hk33 x1 x2 x3 x5 w h
  · have h := zok_t c1 h
    refine Gz.aload_n (q := 0) (pc' := 183) (by decide +kernel) rfl 0 rfl ?_
    refine Gz.getR (pc' := 186) (j := 19) 116 fd_M_38 sh_107 rfl (by decide +kernel) rfl ?_
    refine Gz.iload_n (q := 1) (pc' := 187) (by decide +kernel) rfl 1 rfl ?_
    refine Gz.iload (i := 5) (pc' := 189) (by decide +kernel) rfl 4 rfl ?_
    obtain ⟨c2, h⟩ := zok_c h
    refine Gz.iast (pc' := 190) (n := 5) (by decide +kernel) rfl rfl c2 ?_
    refine Gz.nmW (fun w3 e4 => ?_)
    have h := zok_l e4 h
    exact g_M_readDeed_b190 k33 hk33 x1 x2 x3 x5 w3 h
theorem g_M_readDeed_b150 {l : Launch} {Q : Option Value → gW → Prop} (k33 : Int32 → Int32 → Int32 → gW → Option (Unit × gW)) (hk33 : ∀ (x1 : Int32) (x2 : Int32) (x3 : Int32) (w : gW), zok eV (k33 x1 x2 x3 w) Q → Gz l m_M_readDeed 3 33 [(0, .ref 107), (1, .int x1), (2, .int x2), (3, .int x3)] [] w Q) (x1 : Int32) (x2 : Int32) (x3 : Int32) (s1 : Int32) (s2 : Int32) (w : gW) (h : zok eV (f_M_readDeed_b150 k33 x1 x2 x3 s1 s2 w) Q) : Gz l m_M_readDeed 3 150 [(0, .ref 107), (1, .int x1), (2, .int x2), (3, .int x3)] [.int s2, .int s1, .ref 107] w Q := by
  unfold f_M_readDeed_b150 at h
  refine Gz.callVI (st := []) (b := 107) (pc' := 153) [.int s1, .int s2] (g_M_digit s1 s2 w) h ok_m_M_digit lk_M_163 sh_107 rfl rfl rfl (Nat.le_of_ble_eq_true rfl) (Nat.le_of_ble_eq_true rfl) (Nat.le_of_ble_eq_true rfl) (by decide +kernel) rfl (fun v1 w2 h => ?_)
  refine Gz.istore (i := 5) (pc' := 155) (L' := [(5, .int v1), (0, .ref 107), (1, .int x1), (2, .int x2), (3, .int x3)]) (by decide +kernel) rfl (Nat.le_of_ble_eq_true rfl) rfl ?_
  refine Gz.iload (i := 5) (pc' := 157) (by decide +kernel) rfl 0 rfl ?_
  refine Gz.iconst (n := -1) (v := (-1 : Int32)) (pc' := 158) (by decide +kernel) rfl rfl ?_
  refine Gz.icmp_ne (off := 4) (tgt := 162) (pc' := 161) (by decide +kernel) (by decide) rfl (fun c3 => ?_) (fun c3 => ?_)
  · have h := zok_f c3 h
    refine Gz.iload_n (q := 3) (pc' := 163) (by decide +kernel) rfl 4 rfl ?_
    refine Gz.bipush (n := 112) (v := (112 : Int32)) (pc' := 165) (by decide +kernel) rfl rfl ?_
    refine Gz.icmp_ne (off := 11) (tgt := 176) (pc' := 168) (by decide +kernel) (by decide) rfl (fun c4 => ?_) (fun c4 => ?_)
    · have h := zok_f c4 h
      refine Gz.sub (L' := [(0, .ref 107), (1, .int x1), (2, .int x2), (3, .int x3), (5, .int v1)]) [1, 2, 3, 4, 0] rfl ?_
      exact g_M_readDeed_b176 k33 hk33 x1 x2 x3 v1 w2 h
    · have h := zok_t c4 h
      refine Gz.aload_n (q := 0) (pc' := 169) (by decide +kernel) rfl 1 rfl ?_
      refine Gz.getR (pc' := 172) (j := 18) 115 fd_M_35 sh_107 rfl (by decide +kernel) rfl ?_
      refine Gz.iload_n (q := 1) (pc' := 173) (by decide +kernel) rfl 2 rfl ?_
      refine Gz.iload (i := 5) (pc' := 175) (by decide +kernel) rfl 0 rfl ?_
      obtain ⟨c5, h⟩ := zok_c h
      refine Gz.iast (pc' := 176) (n := 5) (by decide +kernel) rfl rfl c5 ?_
      refine Gz.nmW (fun w6 e7 => ?_)
      have h := zok_l e7 h
      refine Gz.sub (L' := [(0, .ref 107), (1, .int x1), (2, .int x2), (3, .int x3), (5, .int v1)]) [1, 2, 3, 4, 0] rfl ?_
      exact g_M_readDeed_b176 k33 hk33 x1 x2 x3 v1 w6 h
  · have h := zok_t c3 h
    exact Gz.return_ (by decide +kernel) rfl (zok_sV h)
theorem g_M_readDeed_b119 {l : Launch} {Q : Option Value → gW → Prop} (k33 : Int32 → Int32 → Int32 → gW → Option (Unit × gW)) (hk33 : ∀ (x1 : Int32) (x2 : Int32) (x3 : Int32) (w : gW), zok eV (k33 x1 x2 x3 w) Q → Gz l m_M_readDeed 3 33 [(0, .ref 107), (1, .int x1), (2, .int x2), (3, .int x3)] [] w Q) (x1 : Int32) (x2 : Int32) (x3 : Int32) (s1 : Int32) (w : gW) (h : zok eV (f_M_readDeed_b119 k33 x1 x2 x3 s1 w) Q) : Gz l m_M_readDeed 3 119 [(0, .ref 107), (1, .int x1), (2, .int x2), (3, .int x3)] [.int s1, .ref 107] w Q := by
  unfold f_M_readDeed_b119 at h
  refine Gz.iload_n (q := 3) (pc' := 120) (by decide +kernel) rfl 3 rfl ?_
  refine Gz.bipush (n := 112) (v := (112 : Int32)) (pc' := 122) (by decide +kernel) rfl rfl ?_
  refine Gz.icmp_ne (off := 7) (tgt := 129) (pc' := 125) (by decide +kernel) (by decide) rfl (fun c1 => ?_) (fun c1 => ?_)
  · have h := zok_f c1 h
    refine Gz.iload_n (q := 3) (pc' := 130) (by decide +kernel) rfl 3 rfl ?_
    refine Gz.bipush (n := 102) (v := (102 : Int32)) (pc' := 132) (by decide +kernel) rfl rfl ?_
    refine Gz.icmp_ne (off := 12) (tgt := 144) (pc' := 135) (by decide +kernel) (by decide) rfl (fun c2 => ?_) (fun c2 => ?_)
    · have h := zok_f c2 h
      refine Gz.aload_n (q := 0) (pc' := 145) (by decide +kernel) rfl 0 rfl ?_
      refine Gz.getI (pc' := 148) (j := 24) fd_M_184 sh_107 rfl (by decide +kernel) rfl ?_
      refine Gz.iconst (n := 1) (v := (1 : Int32)) (pc' := 149) (by decide +kernel) rfl rfl ?_
      refine Gz.isub (pc' := 150) (by decide +kernel) rfl ?_
      exact g_M_readDeed_b150 k33 hk33 x1 x2 x3 s1 ((w.1 107 24) - (1 : Int32)) w h
    · have h := zok_t c2 h
      refine Gz.aload_n (q := 0) (pc' := 136) (by decide +kernel) rfl 0 rfl ?_
      refine Gz.getR (pc' := 139) (j := 20) 117 fd_M_41 sh_107 rfl (by decide +kernel) rfl ?_
      refine Gz.iload_n (q := 1) (pc' := 140) (by decide +kernel) rfl 1 rfl ?_
      obtain ⟨c3, h⟩ := zok_c h
      refine Gz.iald (pc' := 141) (n := 5) (by decide +kernel) rfl rfl c3 ?_
      refine Gz.goto (off := 9) (tgt := 150) (by decide +kernel) (by decide) ?_
      exact g_M_readDeed_b150 k33 hk33 x1 x2 x3 s1 (w.1 117 (ix x1)) w h
  · have h := zok_t c1 h
    refine Gz.iconst (n := 5) (v := (5 : Int32)) (pc' := 126) (by decide +kernel) rfl rfl ?_
    refine Gz.goto (off := 24) (tgt := 150) (by decide +kernel) (by decide) ?_
    exact g_M_readDeed_b150 k33 hk33 x1 x2 x3 s1 (5 : Int32) w h
theorem g_M_readDeed_b72 {l : Launch} {Q : Option Value → gW → Prop} (k33 : Int32 → Int32 → Int32 → gW → Option (Unit × gW)) (hk33 : ∀ (x1 : Int32) (x2 : Int32) (x3 : Int32) (w : gW), zok eV (k33 x1 x2 x3 w) Q → Gz l m_M_readDeed 3 33 [(0, .ref 107), (1, .int x1), (2, .int x2), (3, .int x3)] [] w Q) (x1 : Int32) (x2 : Int32) (x3 : Int32) (s0 : Int32) (w : gW) (h : zok eV (f_M_readDeed_b72 k33 x1 x2 x3 s0 w) Q) : Gz l m_M_readDeed 3 72 [(0, .ref 107), (1, .int x1), (2, .int x2), (3, .int x3)] [.int s0] w Q := by
  unfold f_M_readDeed_b72 at h
  refine Gz.istore (i := 4) (pc' := 74) (L' := [(4, .int s0), (0, .ref 107), (1, .int x1), (2, .int x2), (3, .int x3)]) (by decide +kernel) rfl (Nat.le_of_ble_eq_true rfl) rfl ?_
  refine Gz.iload_n (q := 2) (pc' := 75) (by decide +kernel) rfl 3 rfl ?_
  refine Gz.iload (i := 4) (pc' := 77) (by decide +kernel) rfl 0 rfl ?_
  refine Gz.iand (pc' := 78) (by decide +kernel) rfl ?_
  refine Gz.if_eq (off := 9) (tgt := 87) (pc' := 81) (by decide +kernel) (by decide) rfl (fun c1 => ?_) (fun c1 => ?_)
  · have h := zok_t c1 h
    refine Gz.iload_n (q := 2) (pc' := 88) (by decide +kernel) rfl 3 rfl ?_
    refine Gz.iload (i := 4) (pc' := 90) (by decide +kernel) rfl 0 rfl ?_
    refine Gz.ior (pc' := 91) (by decide +kernel) rfl ?_
    refine Gz.nmI (fun v2 e3 => ?_)
    have h := zok_l e3 h
    refine Gz.istore_n (q := 2) (pc' := 92) (L' := [(2, .int v2), (4, .int s0), (0, .ref 107), (1, .int x1), (3, .int x3)]) (by decide +kernel) rfl (Nat.le_of_ble_eq_true rfl) rfl ?_
    refine Gz.aload_n (q := 0) (pc' := 93) (by decide +kernel) rfl 2 rfl ?_
    refine Gz.dup (pc' := 94) (by decide +kernel) rfl rfl ?_
    refine Gz.getI (pc' := 97) (j := 9) fd_M_111 sh_107 rfl (by decide +kernel) rfl ?_
    refine Gz.iconst (n := 1) (v := (1 : Int32)) (pc' := 98) (by decide +kernel) rfl rfl ?_
    refine Gz.iadd (pc' := 99) (by decide +kernel) rfl ?_
    refine Gz.putI (pc' := 102) (j := 9) fd_M_111 sh_107 rfl (by decide +kernel) rfl ?_
    refine Gz.nmW (fun w4 e5 => ?_)
    have h := zok_l e5 h
    refine Gz.aload_n (q := 0) (pc' := 103) (by decide +kernel) rfl 2 rfl ?_
    refine Gz.iload_n (q := 3) (pc' := 104) (by decide +kernel) rfl 4 rfl ?_
    refine Gz.bipush (n := 108) (v := (108 : Int32)) (pc' := 106) (by decide +kernel) rfl rfl ?_
    refine Gz.icmp_ne (off := 12) (tgt := 118) (pc' := 109) (by decide +kernel) (by decide) rfl (fun c6 => ?_) (fun c6 => ?_)
    · have h := zok_f c6 h
      refine Gz.iconst (n := 0) (v := (0 : Int32)) (pc' := 119) (by decide +kernel) rfl rfl ?_
      refine Gz.sub (L' := [(0, .ref 107), (1, .int x1), (2, .int v2), (3, .int x3)]) [2, 3, 0, 4] rfl ?_
      exact g_M_readDeed_b119 k33 hk33 x1 v2 x3 (0 : Int32) w4 h
    · have h := zok_t c6 h
      refine Gz.aload_n (q := 0) (pc' := 110) (by decide +kernel) rfl 2 rfl ?_
      refine Gz.getR (pc' := 113) (j := 19) 116 fd_M_38 sh_107 rfl (by decide +kernel) rfl ?_
      refine Gz.iload_n (q := 1) (pc' := 114) (by decide +kernel) rfl 3 rfl ?_
      obtain ⟨c7, h⟩ := zok_c h
      refine Gz.iald (pc' := 115) (n := 5) (by decide +kernel) rfl rfl c7 ?_
      refine Gz.goto (off := 4) (tgt := 119) (by decide +kernel) (by decide) ?_
      refine Gz.sub (L' := [(0, .ref 107), (1, .int x1), (2, .int v2), (3, .int x3)]) [2, 3, 0, 4] rfl ?_
      exact g_M_readDeed_b119 k33 hk33 x1 v2 x3 (w4.1 116 (ix x1)) w4 h
  · have h := zok_f c1 h
    refine Gz.aload_n (q := 0) (pc' := 82) (by decide +kernel) rfl 1 rfl ?_
    refine Gz.callVI (st := []) (b := 107) (pc' := 85) [] (g_M_fails w) h ok_m_M_fails lk_M_126 sh_107 rfl rfl rfl (Nat.le_of_ble_eq_true rfl) (Nat.le_of_ble_eq_true rfl) (Nat.le_of_ble_eq_true rfl) (by decide +kernel) rfl (fun v8 w9 h => ?_)
    refine Gz.pop (pc' := 86) (by decide +kernel) rfl rfl ?_
    exact Gz.return_ (by decide +kernel) rfl (zok_sV h)
theorem g_M_readDeed_b51 {l : Launch} {Q : Option Value → gW → Prop} (k33 : Int32 → Int32 → Int32 → gW → Option (Unit × gW)) (hk33 : ∀ (x1 : Int32) (x2 : Int32) (x3 : Int32) (w : gW), zok eV (k33 x1 x2 x3 w) Q → Gz l m_M_readDeed 3 33 [(0, .ref 107), (1, .int x1), (2, .int x2), (3, .int x3)] [] w Q) (x1 : Int32) (x2 : Int32) (x3 : Int32) (w : gW) (h : zok eV (f_M_readDeed_b51 k33 x1 x2 x3 w) Q) : Gz l m_M_readDeed 3 51 [(0, .ref 107), (1, .int x1), (2, .int x2), (3, .int x3)] [] w Q := by
  unfold f_M_readDeed_b51 at h
  refine Gz.iload_n (q := 3) (pc' := 52) (by decide +kernel) rfl 3 rfl ?_
  refine Gz.bipush (n := 112) (v := (112 : Int32)) (pc' := 54) (by decide +kernel) rfl rfl ?_
  refine Gz.icmp_ne (off := 7) (tgt := 61) (pc' := 57) (by decide +kernel) (by decide) rfl (fun c1 => ?_) (fun c1 => ?_)
  · have h := zok_f c1 h
    refine Gz.iload_n (q := 3) (pc' := 62) (by decide +kernel) rfl 3 rfl ?_
    refine Gz.bipush (n := 102) (v := (102 : Int32)) (pc' := 64) (by decide +kernel) rfl rfl ?_
    refine Gz.icmp_ne (off := 7) (tgt := 71) (pc' := 67) (by decide +kernel) (by decide) rfl (fun c2 => ?_) (fun c2 => ?_)
    · have h := zok_f c2 h
      refine Gz.iconst (n := 4) (v := (4 : Int32)) (pc' := 72) (by decide +kernel) rfl rfl ?_
      exact g_M_readDeed_b72 k33 hk33 x1 x2 x3 (4 : Int32) w h
    · have h := zok_t c2 h
      refine Gz.iconst (n := 2) (v := (2 : Int32)) (pc' := 68) (by decide +kernel) rfl rfl ?_
      refine Gz.goto (off := 4) (tgt := 72) (by decide +kernel) (by decide) ?_
      exact g_M_readDeed_b72 k33 hk33 x1 x2 x3 (2 : Int32) w h
  · have h := zok_t c1 h
    refine Gz.iconst (n := 1) (v := (1 : Int32)) (pc' := 58) (by decide +kernel) rfl rfl ?_
    refine Gz.goto (off := 14) (tgt := 72) (by decide +kernel) (by decide) ?_
    exact g_M_readDeed_b72 k33 hk33 x1 x2 x3 (1 : Int32) w h
theorem g_M_readDeed_b33_s {l : Launch} {Q : Option Value → gW → Prop} (k33 : Int32 → Int32 → Int32 → gW → Option (Unit × gW)) (hk33 : ∀ (x1 : Int32) (x2 : Int32) (x3 : Int32) (w : gW), zok eV (k33 x1 x2 x3 w) Q → Gz l m_M_readDeed 3 33 [(0, .ref 107), (1, .int x1), (2, .int x2), (3, .int x3)] [] w Q) (x1 : Int32) (x2 : Int32) (x3 : Int32) (w : gW) (h : zok eV (f_M_readDeed_b33_s k33 x1 x2 x3 w) Q) : Gz l m_M_readDeed 3 33 [(0, .ref 107), (1, .int x1), (2, .int x2), (3, .int x3)] [] w Q := by
  unfold f_M_readDeed_b33_s at h
  refine Gz.iload_n (q := 3) (pc' := 34) (by decide +kernel) rfl 3 rfl ?_
  refine Gz.bipush (n := 112) (v := (112 : Int32)) (pc' := 36) (by decide +kernel) rfl rfl ?_
  refine Gz.icmp_eq (off := 15) (tgt := 51) (pc' := 39) (by decide +kernel) (by decide) rfl (fun c1 => ?_) (fun c1 => ?_)
  · have h := zok_t c1 h
    exact g_M_readDeed_b51 k33 hk33 x1 x2 x3 w h
  · have h := zok_f c1 h
    refine Gz.iload_n (q := 3) (pc' := 40) (by decide +kernel) rfl 3 rfl ?_
    refine Gz.bipush (n := 102) (v := (102 : Int32)) (pc' := 42) (by decide +kernel) rfl rfl ?_
    refine Gz.icmp_eq (off := 9) (tgt := 51) (pc' := 45) (by decide +kernel) (by decide) rfl (fun c2 => ?_) (fun c2 => ?_)
    · have h := zok_t c2 h
      exact g_M_readDeed_b51 k33 hk33 x1 x2 x3 w h
    · have h := zok_f c2 h
      refine Gz.iload_n (q := 3) (pc' := 46) (by decide +kernel) rfl 3 rfl ?_
      refine Gz.bipush (n := 108) (v := (108 : Int32)) (pc' := 48) (by decide +kernel) rfl rfl ?_
      refine Gz.icmp_ne (off := 164) (tgt := 212) (pc' := 51) (by decide +kernel) (by decide) rfl (fun c3 => ?_) (fun c3 => ?_)
      · have h := zok_f c3 h
        exact Gz.return_ (by decide +kernel) rfl (zok_sV h)
      · have h := zok_t c3 h
        exact g_M_readDeed_b51 k33 hk33 x1 x2 x3 w h
theorem g_M_readDeed_b33 {l : Launch} {Q : Option Value → gW → Prop} (x1 : Int32) (x2 : Int32) (x3 : Int32) (w : gW) (h : zok eV (f_M_readDeed_b33 x1 x2 x3 w) Q) : Gz l m_M_readDeed 3 33 [(0, .ref 107), (1, .int x1), (2, .int x2), (3, .int x3)] [] w Q := by
  have key : ∀ (n : Nat) (x1 : Int32) (x2 : Int32) (x3 : Int32) (w : gW), zok eV (zfx (fun _ _ _ _ => none) (f_M_readDeed_b33_s) n x1 x2 x3 w) Q → Gz l m_M_readDeed 3 33 [(0, .ref 107), (1, .int x1), (2, .int x2), (3, .int x3)] [] w Q := by
    intro n
    induction n with
    | zero => intro x1 x2 x3 w h; exact zok_n h
    | succ n ih => intro x1 x2 x3 w h; exact g_M_readDeed_b33_s _ ih x1 x2 x3 w h
  exact key zFU x1 x2 x3 w h
theorem g_M_readDeed {l : Launch} (a1 : Int32) (w : gW) : gCt l m_M_readDeed 3 [.ref 107, .int a1] w eV (f_M_readDeed a1 w) := by
  intro Q h
  unfold f_M_readDeed at h
  show Gz l m_M_readDeed 3 0 [(0, .ref 107), (1, .int a1)] [] w Q
  refine Gz.aload_n (q := 0) (pc' := 1) (by decide +kernel) rfl 0 rfl ?_
  refine Gz.getR (pc' := 4) (j := 18) 115 fd_M_35 sh_107 rfl (by decide +kernel) rfl ?_
  refine Gz.iload_n (q := 1) (pc' := 5) (by decide +kernel) rfl 1 rfl ?_
  refine Gz.iconst (n := 0) (v := (0 : Int32)) (pc' := 6) (by decide +kernel) rfl rfl ?_
  obtain ⟨c1, h⟩ := zok_c h
  refine Gz.iast (pc' := 7) (n := 5) (by decide +kernel) rfl rfl c1 ?_
  refine Gz.nmW (fun w2 e3 => ?_)
  have h := zok_l e3 h
  refine Gz.aload_n (q := 0) (pc' := 8) (by decide +kernel) rfl 0 rfl ?_
  refine Gz.getR (pc' := 11) (j := 19) 116 fd_M_38 sh_107 rfl (by decide +kernel) rfl ?_
  refine Gz.iload_n (q := 1) (pc' := 12) (by decide +kernel) rfl 1 rfl ?_
  refine Gz.iconst (n := 0) (v := (0 : Int32)) (pc' := 13) (by decide +kernel) rfl rfl ?_
  obtain ⟨c4, h⟩ := zok_c h
  refine Gz.iast (pc' := 14) (n := 5) (by decide +kernel) rfl rfl c4 ?_
  refine Gz.nmW (fun w5 e6 => ?_)
  have h := zok_l e6 h
  refine Gz.aload_n (q := 0) (pc' := 15) (by decide +kernel) rfl 0 rfl ?_
  refine Gz.getR (pc' := 18) (j := 20) 117 fd_M_41 sh_107 rfl (by decide +kernel) rfl ?_
  refine Gz.iload_n (q := 1) (pc' := 19) (by decide +kernel) rfl 1 rfl ?_
  refine Gz.aload_n (q := 0) (pc' := 20) (by decide +kernel) rfl 0 rfl ?_
  refine Gz.getI (pc' := 23) (j := 24) fd_M_184 sh_107 rfl (by decide +kernel) rfl ?_
  refine Gz.iconst (n := 1) (v := (1 : Int32)) (pc' := 24) (by decide +kernel) rfl rfl ?_
  refine Gz.isub (pc' := 25) (by decide +kernel) rfl ?_
  obtain ⟨c7, h⟩ := zok_c h
  refine Gz.iast (pc' := 26) (n := 5) (by decide +kernel) rfl rfl c7 ?_
  refine Gz.nmW (fun w8 e9 => ?_)
  have h := zok_l e9 h
  refine Gz.iconst (n := 0) (v := (0 : Int32)) (pc' := 27) (by decide +kernel) rfl rfl ?_
  refine Gz.istore_n (q := 2) (pc' := 28) (L' := [(2, .int (0 : Int32)), (0, .ref 107), (1, .int a1)]) (by decide +kernel) rfl (Nat.le_of_ble_eq_true rfl) rfl ?_
  refine Gz.aload_n (q := 0) (pc' := 29) (by decide +kernel) rfl 1 rfl ?_
  refine Gz.callVI (st := []) (b := 107) (pc' := 32) [] (g_M_look w8) h ok_m_M_look lk_M_130 sh_107 rfl rfl rfl (Nat.le_of_ble_eq_true rfl) (Nat.le_of_ble_eq_true rfl) (Nat.le_of_ble_eq_true rfl) (by decide +kernel) rfl (fun v10 w11 h => ?_)
  refine Gz.istore_n (q := 3) (pc' := 33) (L' := [(3, .int v10), (2, .int (0 : Int32)), (0, .ref 107), (1, .int a1)]) (by decide +kernel) rfl (Nat.le_of_ble_eq_true rfl) rfl ?_
  refine Gz.sub (L' := [(0, .ref 107), (1, .int a1), (2, .int (0 : Int32)), (3, .int v10)]) [2, 3, 1, 0] rfl ?_
  exact g_M_readDeed_b33 a1 (0 : Int32) v10 w11 h
