def f_An_addFact (a1 : Int32) (a2 : Int32) (a3 : Int32) (w : gW) : Option (Unit × gW) :=
zl (w.1 59 7) (fun v1 =>
if v1 < 0 then
(some ((), w))
else
(if (20 : Int32) ≤ v1 then
(some ((), w))
else
(zb (f_An_addAct (2 : Int32) w) (fun v5 w6 =>
if v5 = 0 then
(some ((), w6))
else
(if inb v1 20 then
zl (zsI w6 61 (ix v1) a1) (fun w9 =>
if inb v1 20 then
zl (zsI w9 62 (ix v1) a2) (fun w12 =>
if inb v1 20 then
zl (zsI w12 63 (ix v1) (a3 &&& 1)) (fun w15 =>
zl (zsI w15 59 7 ((w15.1 59 7) + (1 : Int32))) (fun w17 =>
some ((), w17)))
else none)
else none)
else none)))))
theorem g_An_addFact {l : Launch} (a1 : Int32) (a2 : Int32) (a3 : Int32) (w : gW) : gCt l m_An_addFact 3 [.ref 59, .int a1, .int a2, .int a3] w eV (f_An_addFact a1 a2 a3 w) := by
  intro Q h
  unfold f_An_addFact at h
  show Gz l m_An_addFact 3 0 [(0, .ref 59), (1, .int a1), (2, .int a2), (3, .int a3)] [] w Q
  refine Gz.aload_n (q := 0) (pc' := 1) (by decide +kernel) rfl 0 rfl ?_
  refine Gz.getI (pc' := 4) (j := 7) fd_An_41 sh_59 rfl (by decide +kernel) rfl ?_
  refine Gz.nmI (fun v1 e2 => ?_)
  have h := zok_l e2 h
  refine Gz.istore (i := 4) (pc' := 6) (L' := [(4, .int v1), (0, .ref 59), (1, .int a1), (2, .int a2), (3, .int a3)]) (by decide +kernel) rfl (Nat.le_of_ble_eq_true rfl) rfl ?_
  refine Gz.iload (i := 4) (pc' := 8) (by decide +kernel) rfl 0 rfl ?_
  refine Gz.if_lt (off := 52) (tgt := 60) (pc' := 11) (by decide +kernel) (by decide) rfl (fun c3 => ?_) (fun c3 => ?_)
  · have h := zok_t c3 h
    exact Gz.return_ (by decide +kernel) rfl (zok_sV h)
  · have h := zok_f c3 h
    refine Gz.iload (i := 4) (pc' := 13) (by decide +kernel) rfl 0 rfl ?_
    refine Gz.bipush (n := 20) (v := (20 : Int32)) (pc' := 15) (by decide +kernel) rfl rfl ?_
    refine Gz.icmp_ge (off := 45) (tgt := 60) (pc' := 18) (by decide +kernel) (by decide) rfl (fun c4 => ?_) (fun c4 => ?_)
    · have h := zok_t c4 h
      exact Gz.return_ (by decide +kernel) rfl (zok_sV h)
    · have h := zok_f c4 h
      refine Gz.aload_n (q := 0) (pc' := 19) (by decide +kernel) rfl 1 rfl ?_
      refine Gz.iconst (n := 2) (v := (2 : Int32)) (pc' := 20) (by decide +kernel) rfl rfl ?_
      refine Gz.callVI (st := []) (b := 59) (pc' := 23) [.int (2 : Int32)] (g_An_addAct (2 : Int32) w) h ok_m_An_addAct lk_An_50 sh_59 rfl rfl rfl (Nat.le_of_ble_eq_true rfl) (Nat.le_of_ble_eq_true rfl) (Nat.le_of_ble_eq_true rfl) (by decide +kernel) rfl (fun v5 w6 h => ?_)
      refine Gz.if_eq (off := 37) (tgt := 60) (pc' := 26) (by decide +kernel) (by decide) rfl (fun c7 => ?_) (fun c7 => ?_)
      · have h := zok_t c7 h
        exact Gz.return_ (by decide +kernel) rfl (zok_sV h)
      · have h := zok_f c7 h
        refine Gz.aload_n (q := 0) (pc' := 27) (by decide +kernel) rfl 1 rfl ?_
        refine Gz.getR (pc' := 30) (j := 1) 61 fd_An_15 sh_59 rfl (by decide +kernel) rfl ?_
        refine Gz.iload (i := 4) (pc' := 32) (by decide +kernel) rfl 0 rfl ?_
        refine Gz.iload_n (q := 1) (pc' := 33) (by decide +kernel) rfl 2 rfl ?_
        obtain ⟨c8, h⟩ := zok_c h
        refine Gz.iast (pc' := 34) (n := 20) (by decide +kernel) rfl rfl c8 ?_
        refine Gz.nmW (fun w9 e10 => ?_)
        have h := zok_l e10 h
        refine Gz.aload_n (q := 0) (pc' := 35) (by decide +kernel) rfl 1 rfl ?_
        refine Gz.getR (pc' := 38) (j := 2) 62 fd_An_18 sh_59 rfl (by decide +kernel) rfl ?_
        refine Gz.iload (i := 4) (pc' := 40) (by decide +kernel) rfl 0 rfl ?_
        refine Gz.iload_n (q := 2) (pc' := 41) (by decide +kernel) rfl 3 rfl ?_
        obtain ⟨c11, h⟩ := zok_c h
        refine Gz.iast (pc' := 42) (n := 20) (by decide +kernel) rfl rfl c11 ?_
        refine Gz.nmW (fun w12 e13 => ?_)
        have h := zok_l e13 h
        refine Gz.aload_n (q := 0) (pc' := 43) (by decide +kernel) rfl 1 rfl ?_
        refine Gz.getR (pc' := 46) (j := 3) 63 fd_An_21 sh_59 rfl (by decide +kernel) rfl ?_
        refine Gz.iload (i := 4) (pc' := 48) (by decide +kernel) rfl 0 rfl ?_
        refine Gz.iload_n (q := 3) (pc' := 49) (by decide +kernel) rfl 4 rfl ?_
        obtain ⟨c14, h⟩ := zok_c h
        refine Gz.zast (pc' := 50) (n := 20) (by decide +kernel) rfl rfl c14 ?_
        refine Gz.nmW (fun w15 e16 => ?_)
        have h := zok_l e16 h
        refine Gz.aload_n (q := 0) (pc' := 51) (by decide +kernel) rfl 1 rfl ?_
        refine Gz.dup (pc' := 52) (by decide +kernel) rfl rfl ?_
        refine Gz.getI (pc' := 55) (j := 7) fd_An_41 sh_59 rfl (by decide +kernel) rfl ?_
        refine Gz.iconst (n := 1) (v := (1 : Int32)) (pc' := 56) (by decide +kernel) rfl rfl ?_
        refine Gz.iadd (pc' := 57) (by decide +kernel) rfl ?_
        refine Gz.putI (pc' := 60) (j := 7) fd_An_41 sh_59 rfl (by decide +kernel) rfl ?_
        refine Gz.nmW (fun w17 e18 => ?_)
        have h := zok_l e18 h
        exact Gz.return_ (by decide +kernel) rfl (zok_sV h)
def f_X_fact (a1 : Int32) (a2 : Int32) (a3 : Int32) (w : gW) : Option (Int32 × gW) :=
zb (f_La_hasDate a1 a2 w) (fun v1 w2 =>
if v1 = 0 then
(some ((-1 : Int32), w2))
else
(zb (f_An_factCount w2) (fun v4 w5 =>
if v4 < (20 : Int32) then
(zb (f_An_addFact a1 a2 a3 w5) (fun _ w7 =>
zb (f_Co_review w7) (fun _ w8 =>
zb (f_An_factCount w8) (fun v9 w10 =>
some (v9, w10)))))
else
(some ((-1 : Int32), w5)))))
theorem g_X_fact {l : Launch} (a1 : Int32) (a2 : Int32) (a3 : Int32) (w : gW) : gCt l m_X_fact 6 [.ref 0, .int a1, .int a2, .int a3] w eI (f_X_fact a1 a2 a3 w) := by
  intro Q h
  unfold f_X_fact at h
  show Gz l m_X_fact 6 0 [(0, .ref 0), (1, .int a1), (2, .int a2), (3, .int a3)] [] w Q
  refine Gz.aload_n (q := 0) (pc' := 1) (by decide +kernel) rfl 0 rfl ?_
  refine Gz.getR (pc' := 4) (j := 3) 19 fd_X_33 sh_0 rfl (by decide +kernel) rfl ?_
  refine Gz.iload_n (q := 1) (pc' := 5) (by decide +kernel) rfl 1 rfl ?_
  refine Gz.iload_n (q := 2) (pc' := 6) (by decide +kernel) rfl 2 rfl ?_
  refine Gz.callVI (st := []) (b := 19) (pc' := 9) [.int a1, .int a2] (g_La_hasDate a1 a2 w) h ok_m_La_hasDate lk_X_160 sh_19 rfl rfl rfl (Nat.le_of_ble_eq_true rfl) (Nat.le_of_ble_eq_true rfl) (Nat.le_of_ble_eq_true rfl) (by decide +kernel) rfl (fun v1 w2 h => ?_)
  refine Gz.if_eq (off := 15) (tgt := 24) (pc' := 12) (by decide +kernel) (by decide) rfl (fun c3 => ?_) (fun c3 => ?_)
  · have h := zok_t c3 h
    refine Gz.iconst (n := -1) (v := (-1 : Int32)) (pc' := 25) (by decide +kernel) rfl rfl ?_
    exact Gz.ireturn (by decide +kernel) rfl (zok_sI h)
  · have h := zok_f c3 h
    refine Gz.aload_n (q := 0) (pc' := 13) (by decide +kernel) rfl 0 rfl ?_
    refine Gz.getR (pc' := 16) (j := 4) 59 fd_X_40 sh_0 rfl (by decide +kernel) rfl ?_
    refine Gz.callVI (st := []) (b := 59) (pc' := 19) [] (g_An_factCount w2) h ok_m_An_factCount lk_X_163 sh_59 rfl rfl rfl (Nat.le_of_ble_eq_true rfl) (Nat.le_of_ble_eq_true rfl) (Nat.le_of_ble_eq_true rfl) (by decide +kernel) rfl (fun v4 w5 h => ?_)
    refine Gz.bipush (n := 20) (v := (20 : Int32)) (pc' := 21) (by decide +kernel) rfl rfl ?_
    refine Gz.icmp_lt (off := 5) (tgt := 26) (pc' := 24) (by decide +kernel) (by decide) rfl (fun c6 => ?_) (fun c6 => ?_)
    · have h := zok_t c6 h
      refine Gz.aload_n (q := 0) (pc' := 27) (by decide +kernel) rfl 0 rfl ?_
      refine Gz.getR (pc' := 30) (j := 4) 59 fd_X_40 sh_0 rfl (by decide +kernel) rfl ?_
      refine Gz.iload_n (q := 1) (pc' := 31) (by decide +kernel) rfl 1 rfl ?_
      refine Gz.iload_n (q := 2) (pc' := 32) (by decide +kernel) rfl 2 rfl ?_
      refine Gz.iload_n (q := 3) (pc' := 33) (by decide +kernel) rfl 3 rfl ?_
      refine Gz.callVV (st := []) (b := 59) (pc' := 36) [.int a1, .int a2, .int a3] (g_An_addFact a1 a2 a3 w5) h ok_m_An_addFact lk_X_166 sh_59 rfl rfl rfl (Nat.le_of_ble_eq_true rfl) (Nat.le_of_ble_eq_true rfl) (Nat.le_of_ble_eq_true rfl) (by decide +kernel) rfl (fun _ w7 h => ?_)
      refine Gz.aload_n (q := 0) (pc' := 37) (by decide +kernel) rfl 0 rfl ?_
      refine Gz.getR (pc' := 40) (j := 6) 73 fd_X_52 sh_0 rfl (by decide +kernel) rfl ?_
      refine Gz.callVV (st := []) (b := 73) (pc' := 43) [] (g_Co_review w7) h ok_m_Co_review lk_X_116 sh_73 rfl rfl rfl (Nat.le_of_ble_eq_true rfl) (Nat.le_of_ble_eq_true rfl) (Nat.le_of_ble_eq_true rfl) (by decide +kernel) rfl (fun _ w8 h => ?_)
      refine Gz.aload_n (q := 0) (pc' := 44) (by decide +kernel) rfl 0 rfl ?_
      refine Gz.getR (pc' := 47) (j := 4) 59 fd_X_40 sh_0 rfl (by decide +kernel) rfl ?_
      refine Gz.callVI (st := []) (b := 59) (pc' := 50) [] (g_An_factCount w8) h ok_m_An_factCount lk_X_163 sh_59 rfl rfl rfl (Nat.le_of_ble_eq_true rfl) (Nat.le_of_ble_eq_true rfl) (Nat.le_of_ble_eq_true rfl) (by decide +kernel) rfl (fun v9 w10 h => ?_)
      exact Gz.ireturn (by decide +kernel) rfl (zok_sI h)
    · have h := zok_f c6 h
      refine Gz.iconst (n := -1) (v := (-1 : Int32)) (pc' := 25) (by decide +kernel) rfl rfl ?_
      exact Gz.ireturn (by decide +kernel) rfl (zok_sI h)
def f_An_dropAct (w : gW) : Option (Unit × gW) :=
zb (f_An_actCount w) (fun v1 w2 =>
zl (v1 - (1 : Int32)) (fun v3 =>
if v3 < 0 then
(some ((), w2))
else
(if v3 < (nI 30) then
(if inb v3 30 then
if (w2.1 64 (ix v3)) = (1 : Int32) then
(zl (zsI w2 59 6 ((w2.1 59 6) - (1 : Int32))) (fun w11 =>
some ((), w11)))
else
(zl (zsI w2 59 7 ((w2.1 59 7) - (1 : Int32))) (fun w9 =>
some ((), w9)))
else none)
else
(some ((), w2)))))
theorem g_An_dropAct {l : Launch} (w : gW) : gCt l m_An_dropAct 2 [.ref 59] w eV (f_An_dropAct w) := by
  intro Q h
  unfold f_An_dropAct at h
  show Gz l m_An_dropAct 2 0 [(0, .ref 59)] [] w Q
  refine Gz.aload_n (q := 0) (pc' := 1) (by decide +kernel) rfl 0 rfl ?_
  refine Gz.callVI (st := []) (b := 59) (pc' := 4) [] (g_An_actCount w) h ok_m_An_actCount lk_An_54 sh_59 rfl rfl rfl (Nat.le_of_ble_eq_true rfl) (Nat.le_of_ble_eq_true rfl) (Nat.le_of_ble_eq_true rfl) (by decide +kernel) rfl (fun v1 w2 h => ?_)
  refine Gz.iconst (n := 1) (v := (1 : Int32)) (pc' := 5) (by decide +kernel) rfl rfl ?_
  refine Gz.isub (pc' := 6) (by decide +kernel) rfl ?_
  refine Gz.nmI (fun v3 e4 => ?_)
  have h := zok_l e4 h
  refine Gz.istore_n (q := 1) (pc' := 7) (L' := [(1, .int v3), (0, .ref 59)]) (by decide +kernel) rfl (Nat.le_of_ble_eq_true rfl) rfl ?_
  refine Gz.iload_n (q := 1) (pc' := 8) (by decide +kernel) rfl 0 rfl ?_
  refine Gz.if_lt (off := 12) (tgt := 20) (pc' := 11) (by decide +kernel) (by decide) rfl (fun c5 => ?_) (fun c5 => ?_)
  · have h := zok_t c5 h
    exact Gz.return_ (by decide +kernel) rfl (zok_sV h)
  · have h := zok_f c5 h
    refine Gz.iload_n (q := 1) (pc' := 12) (by decide +kernel) rfl 0 rfl ?_
    refine Gz.aload_n (q := 0) (pc' := 13) (by decide +kernel) rfl 1 rfl ?_
    refine Gz.getR (pc' := 16) (j := 4) 64 fd_An_25 sh_59 rfl (by decide +kernel) rfl ?_
    refine Gz.alen (pc' := 17) (n := 30) (kd := 1) (by decide +kernel) rfl (Or.inl rfl) rfl rfl ?_
    refine Gz.icmp_lt (off := 4) (tgt := 21) (pc' := 20) (by decide +kernel) (by decide) rfl (fun c6 => ?_) (fun c6 => ?_)
    · have h := zok_t c6 h
      refine Gz.aload_n (q := 0) (pc' := 22) (by decide +kernel) rfl 1 rfl ?_
      refine Gz.getR (pc' := 25) (j := 4) 64 fd_An_25 sh_59 rfl (by decide +kernel) rfl ?_
      refine Gz.iload_n (q := 1) (pc' := 26) (by decide +kernel) rfl 0 rfl ?_
      obtain ⟨c7, h⟩ := zok_c h
      refine Gz.iald (pc' := 27) (n := 30) (by decide +kernel) rfl rfl c7 ?_
      refine Gz.iconst (n := 1) (v := (1 : Int32)) (pc' := 28) (by decide +kernel) rfl rfl ?_
      refine Gz.icmp_ne (off := 16) (tgt := 44) (pc' := 31) (by decide +kernel) (by decide) rfl (fun c8 => ?_) (fun c8 => ?_)
      · have h := zok_f c8 h
        refine Gz.aload_n (q := 0) (pc' := 45) (by decide +kernel) rfl 1 rfl ?_
        refine Gz.dup (pc' := 46) (by decide +kernel) rfl rfl ?_
        refine Gz.getI (pc' := 49) (j := 7) fd_An_41 sh_59 rfl (by decide +kernel) rfl ?_
        refine Gz.iconst (n := 1) (v := (1 : Int32)) (pc' := 50) (by decide +kernel) rfl rfl ?_
        refine Gz.isub (pc' := 51) (by decide +kernel) rfl ?_
        refine Gz.putI (pc' := 54) (j := 7) fd_An_41 sh_59 rfl (by decide +kernel) rfl ?_
        refine Gz.nmW (fun w9 e10 => ?_)
        have h := zok_l e10 h
        exact Gz.return_ (by decide +kernel) rfl (zok_sV h)
      · have h := zok_t c8 h
        refine Gz.aload_n (q := 0) (pc' := 32) (by decide +kernel) rfl 1 rfl ?_
        refine Gz.dup (pc' := 33) (by decide +kernel) rfl rfl ?_
        refine Gz.getI (pc' := 36) (j := 6) fd_An_37 sh_59 rfl (by decide +kernel) rfl ?_
        refine Gz.iconst (n := 1) (v := (1 : Int32)) (pc' := 37) (by decide +kernel) rfl rfl ?_
        refine Gz.isub (pc' := 38) (by decide +kernel) rfl ?_
        refine Gz.putI (pc' := 41) (j := 6) fd_An_37 sh_59 rfl (by decide +kernel) rfl ?_
        refine Gz.nmW (fun w11 e12 => ?_)
        have h := zok_l e12 h
        refine Gz.goto (off := 13) (tgt := 54) (by decide +kernel) (by decide) ?_
        exact Gz.return_ (by decide +kernel) rfl (zok_sV h)
    · have h := zok_f c6 h
      exact Gz.return_ (by decide +kernel) rfl (zok_sV h)
def f_X_undo (w : gW) : Option (Int32 × gW) :=
zb (f_An_actCount w) (fun v1 w2 =>
if v1 = 0 then
(some ((-1 : Int32), w2))
else
(zb (f_An_dropAct w2) (fun _ w4 =>
zb (f_Co_review w4) (fun _ w5 =>
zb (f_An_actCount w5) (fun v6 w7 =>
some (v6, w7))))))
theorem g_X_undo {l : Launch} (w : gW) : gCt l m_X_undo 6 [.ref 0] w eI (f_X_undo w) := by
  intro Q h
  unfold f_X_undo at h
  show Gz l m_X_undo 6 0 [(0, .ref 0)] [] w Q
  refine Gz.aload_n (q := 0) (pc' := 1) (by decide +kernel) rfl 0 rfl ?_
  refine Gz.getR (pc' := 4) (j := 4) 59 fd_X_40 sh_0 rfl (by decide +kernel) rfl ?_
  refine Gz.callVI (st := []) (b := 59) (pc' := 7) [] (g_An_actCount w) h ok_m_An_actCount lk_X_170 sh_59 rfl rfl rfl (Nat.le_of_ble_eq_true rfl) (Nat.le_of_ble_eq_true rfl) (Nat.le_of_ble_eq_true rfl) (by decide +kernel) rfl (fun v1 w2 h => ?_)
  refine Gz.if_ne (off := 5) (tgt := 12) (pc' := 10) (by decide +kernel) (by decide) rfl (fun c3 => ?_) (fun c3 => ?_)
  · have h := zok_f c3 h
    refine Gz.aload_n (q := 0) (pc' := 13) (by decide +kernel) rfl 0 rfl ?_
    refine Gz.getR (pc' := 16) (j := 4) 59 fd_X_40 sh_0 rfl (by decide +kernel) rfl ?_
    refine Gz.callVV (st := []) (b := 59) (pc' := 19) [] (g_An_dropAct w2) h ok_m_An_dropAct lk_X_173 sh_59 rfl rfl rfl (Nat.le_of_ble_eq_true rfl) (Nat.le_of_ble_eq_true rfl) (Nat.le_of_ble_eq_true rfl) (by decide +kernel) rfl (fun _ w4 h => ?_)
    refine Gz.aload_n (q := 0) (pc' := 20) (by decide +kernel) rfl 0 rfl ?_
    refine Gz.getR (pc' := 23) (j := 6) 73 fd_X_52 sh_0 rfl (by decide +kernel) rfl ?_
    refine Gz.callVV (st := []) (b := 73) (pc' := 26) [] (g_Co_review w4) h ok_m_Co_review lk_X_116 sh_73 rfl rfl rfl (Nat.le_of_ble_eq_true rfl) (Nat.le_of_ble_eq_true rfl) (Nat.le_of_ble_eq_true rfl) (by decide +kernel) rfl (fun _ w5 h => ?_)
    refine Gz.aload_n (q := 0) (pc' := 27) (by decide +kernel) rfl 0 rfl ?_
    refine Gz.getR (pc' := 30) (j := 4) 59 fd_X_40 sh_0 rfl (by decide +kernel) rfl ?_
    refine Gz.callVI (st := []) (b := 59) (pc' := 33) [] (g_An_actCount w5) h ok_m_An_actCount lk_X_170 sh_59 rfl rfl rfl (Nat.le_of_ble_eq_true rfl) (Nat.le_of_ble_eq_true rfl) (Nat.le_of_ble_eq_true rfl) (by decide +kernel) rfl (fun v6 w7 h => ?_)
    exact Gz.ireturn (by decide +kernel) rfl (zok_sI h)
  · have h := zok_t c3 h
    refine Gz.iconst (n := -1) (v := (-1 : Int32)) (pc' := 11) (by decide +kernel) rfl rfl ?_
    exact Gz.ireturn (by decide +kernel) rfl (zok_sI h)
def f_La_isThere (w : gW) : Option (Int32 × gW) :=
if (w.1 19 5) ≤ 0 then
(some ((0 : Int32), w))
else
(some ((1 : Int32), w))
theorem g_La_isThere {l : Launch} (w : gW) : gCt l m_La_isThere 1 [.ref 19] w eI (f_La_isThere w) := by
  intro Q h
  unfold f_La_isThere at h
  show Gz l m_La_isThere 1 0 [(0, .ref 19)] [] w Q
  refine Gz.aload_n (q := 0) (pc' := 1) (by decide +kernel) rfl 0 rfl ?_
  refine Gz.getI (pc' := 4) (j := 5) fd_La_28 sh_19 rfl (by decide +kernel) rfl ?_
  refine Gz.if_le (off := 7) (tgt := 11) (pc' := 7) (by decide +kernel) (by decide) rfl (fun c1 => ?_) (fun c1 => ?_)
  · have h := zok_t c1 h
    refine Gz.iconst (n := 0) (v := (0 : Int32)) (pc' := 12) (by decide +kernel) rfl rfl ?_
    exact Gz.zreturn (by decide +kernel) rfl (by decide) (zok_sI h)
  · have h := zok_f c1 h
    refine Gz.iconst (n := 1) (v := (1 : Int32)) (pc' := 8) (by decide +kernel) rfl rfl ?_
    refine Gz.goto (off := 4) (tgt := 12) (by decide +kernel) (by decide) ?_
    exact Gz.zreturn (by decide +kernel) rfl (by decide) (zok_sI h)
def f_Co_fitting (w : gW) : Option (Nat × gW) :=
some (76, w)
theorem g_Co_fitting {l : Launch} (w : gW) : gCt l m_Co_fitting 1 [.ref 73] w eR (f_Co_fitting w) := by
  intro Q h
  unfold f_Co_fitting at h
  show Gz l m_Co_fitting 1 0 [(0, .ref 73)] [] w Q
  refine Gz.aload_n (q := 0) (pc' := 1) (by decide +kernel) rfl 0 rfl ?_
  refine Gz.getR (pc' := 4) (j := 5) 76 fd_Co_18 sh_73 rfl (by decide +kernel) rfl ?_
  exact Gz.areturn (by decide +kernel) rfl (zok_sR h)
def f_Lng_bitCount (a0 : Int64) (w : gW) : Option (Int32 × gW) :=
zl (a0 - ((zusL a0 (1 : Int32)) &&& (6148914691236517205 : Int64))) (fun v1 =>
zl ((v1 &&& (3689348814741910323 : Int64)) + ((zusL v1 (2 : Int32)) &&& (3689348814741910323 : Int64))) (fun v3 =>
zl ((v3 + (zusL v3 (4 : Int32))) &&& (1085102592571150095 : Int64)) (fun v5 =>
zl (v5 + (zusL v5 (8 : Int32))) (fun v7 =>
zl (v7 + (zusL v7 (16 : Int32))) (fun v9 =>
zl (v9 + (zusL v9 (32 : Int32))) (fun v11 =>
some ((v11.toInt32) &&& (127 : Int32), w)))))))
theorem g_Lng_bitCount {l : Launch} (a0 : Int64) (w : gW) : gCt l m_Lng_bitCount 1 [.long a0] w eI (f_Lng_bitCount a0 w) := by
  intro Q h
  unfold f_Lng_bitCount at h
  show Gz l m_Lng_bitCount 1 0 [(0, .long a0)] [] w Q
  refine Gz.lload_n (q := 0) (pc' := 1) (by decide +kernel) rfl 0 rfl ?_
  refine Gz.lload_n (q := 0) (pc' := 2) (by decide +kernel) rfl 0 rfl ?_
  refine Gz.iconst (n := 1) (v := (1 : Int32)) (pc' := 3) (by decide +kernel) rfl rfl ?_
  refine Gz.lushr (pc' := 4) (by decide +kernel) rfl ?_
  refine Gz.ldc2 (idx := 314) (v := (6148914691236517205 : Int64)) (pc' := 7) (by decide +kernel) rfl kc_Lng_314 ?_
  refine Gz.land (pc' := 8) (by decide +kernel) rfl ?_
  refine Gz.lsub (pc' := 9) (by decide +kernel) rfl ?_
  refine Gz.nmJ (fun v1 e2 => ?_)
  have h := zok_l e2 h
  refine Gz.lstore_n (q := 0) (pc' := 10) (L' := [(0, .long v1)]) (by decide +kernel) rfl (Nat.le_of_ble_eq_true rfl) rfl ?_
  refine Gz.lload_n (q := 0) (pc' := 11) (by decide +kernel) rfl 0 rfl ?_
  refine Gz.ldc2 (idx := 316) (v := (3689348814741910323 : Int64)) (pc' := 14) (by decide +kernel) rfl kc_Lng_316 ?_
  refine Gz.land (pc' := 15) (by decide +kernel) rfl ?_
  refine Gz.lload_n (q := 0) (pc' := 16) (by decide +kernel) rfl 0 rfl ?_
  refine Gz.iconst (n := 2) (v := (2 : Int32)) (pc' := 17) (by decide +kernel) rfl rfl ?_
  refine Gz.lushr (pc' := 18) (by decide +kernel) rfl ?_
  refine Gz.ldc2 (idx := 316) (v := (3689348814741910323 : Int64)) (pc' := 21) (by decide +kernel) rfl kc_Lng_316 ?_
  refine Gz.land (pc' := 22) (by decide +kernel) rfl ?_
  refine Gz.ladd (pc' := 23) (by decide +kernel) rfl ?_
  refine Gz.nmJ (fun v3 e4 => ?_)
  have h := zok_l e4 h
  refine Gz.lstore_n (q := 0) (pc' := 24) (L' := [(0, .long v3)]) (by decide +kernel) rfl (Nat.le_of_ble_eq_true rfl) rfl ?_
  refine Gz.lload_n (q := 0) (pc' := 25) (by decide +kernel) rfl 0 rfl ?_
  refine Gz.lload_n (q := 0) (pc' := 26) (by decide +kernel) rfl 0 rfl ?_
  refine Gz.iconst (n := 4) (v := (4 : Int32)) (pc' := 27) (by decide +kernel) rfl rfl ?_
  refine Gz.lushr (pc' := 28) (by decide +kernel) rfl ?_
  refine Gz.ladd (pc' := 29) (by decide +kernel) rfl ?_
  refine Gz.ldc2 (idx := 318) (v := (1085102592571150095 : Int64)) (pc' := 32) (by decide +kernel) rfl kc_Lng_318 ?_
  refine Gz.land (pc' := 33) (by decide +kernel) rfl ?_
  refine Gz.nmJ (fun v5 e6 => ?_)
  have h := zok_l e6 h
  refine Gz.lstore_n (q := 0) (pc' := 34) (L' := [(0, .long v5)]) (by decide +kernel) rfl (Nat.le_of_ble_eq_true rfl) rfl ?_
  refine Gz.lload_n (q := 0) (pc' := 35) (by decide +kernel) rfl 0 rfl ?_
  refine Gz.lload_n (q := 0) (pc' := 36) (by decide +kernel) rfl 0 rfl ?_
  refine Gz.bipush (n := 8) (v := (8 : Int32)) (pc' := 38) (by decide +kernel) rfl rfl ?_
  refine Gz.lushr (pc' := 39) (by decide +kernel) rfl ?_
  refine Gz.ladd (pc' := 40) (by decide +kernel) rfl ?_
  refine Gz.nmJ (fun v7 e8 => ?_)
  have h := zok_l e8 h
  refine Gz.lstore_n (q := 0) (pc' := 41) (L' := [(0, .long v7)]) (by decide +kernel) rfl (Nat.le_of_ble_eq_true rfl) rfl ?_
  refine Gz.lload_n (q := 0) (pc' := 42) (by decide +kernel) rfl 0 rfl ?_
  refine Gz.lload_n (q := 0) (pc' := 43) (by decide +kernel) rfl 0 rfl ?_
  refine Gz.bipush (n := 16) (v := (16 : Int32)) (pc' := 45) (by decide +kernel) rfl rfl ?_
  refine Gz.lushr (pc' := 46) (by decide +kernel) rfl ?_
  refine Gz.ladd (pc' := 47) (by decide +kernel) rfl ?_
  refine Gz.nmJ (fun v9 e10 => ?_)
  have h := zok_l e10 h
  refine Gz.lstore_n (q := 0) (pc' := 48) (L' := [(0, .long v9)]) (by decide +kernel) rfl (Nat.le_of_ble_eq_true rfl) rfl ?_
  refine Gz.lload_n (q := 0) (pc' := 49) (by decide +kernel) rfl 0 rfl ?_
  refine Gz.lload_n (q := 0) (pc' := 50) (by decide +kernel) rfl 0 rfl ?_
  refine Gz.bipush (n := 32) (v := (32 : Int32)) (pc' := 52) (by decide +kernel) rfl rfl ?_
  refine Gz.lushr (pc' := 53) (by decide +kernel) rfl ?_
  refine Gz.ladd (pc' := 54) (by decide +kernel) rfl ?_
  refine Gz.nmJ (fun v11 e12 => ?_)
  have h := zok_l e12 h
  refine Gz.lstore_n (q := 0) (pc' := 55) (L' := [(0, .long v11)]) (by decide +kernel) rfl (Nat.le_of_ble_eq_true rfl) rfl ?_
  refine Gz.lload_n (q := 0) (pc' := 56) (by decide +kernel) rfl 0 rfl ?_
  refine Gz.l2i (pc' := 57) (by decide +kernel) rfl ?_
  refine Gz.bipush (n := 127) (v := (127 : Int32)) (pc' := 59) (by decide +kernel) rfl rfl ?_
  refine Gz.iand (pc' := 60) (by decide +kernel) rfl ?_
  exact Gz.ireturn (by decide +kernel) rfl (zok_sI h)
def f_Ro_size_b30 (x2 : Int32) (w : gW) : Option (Int32 × gW) :=
some (x2, w)
def f_Ro_size_b4_s (k4 : Nat → Int32 → Int32 → Int32 → gW → Option (Int32 × gW)) (x0 : Nat) (x1 : Int32) (x2 : Int32) (x3 : Int32) (w : gW) : Option (Int32 × gW) :=
if x1 ≤ x3 then
(f_Ro_size_b30 x2 w)
else
(if (g_sh x0).1 = 2 then
if (nI (g_len 2 x0)) ≤ x3 then
(f_Ro_size_b30 x2 w)
else
(if inb x3 (g_len 2 x0) then
zb (f_Lng_bitCount (w.2 x0 (ix x3)) w) (fun v5 w6 =>
zl (x2 + v5) (fun v7 =>
zl (x3 + (1 : Int32)) (fun v9 =>
k4 x0 x1 v7 v9 w6)))
else none)
else none)
def f_Ro_size_b4 : Nat → Int32 → Int32 → Int32 → gW → Option (Int32 × gW) := zfx (fun _ _ _ _ _ => none) (f_Ro_size_b4_s) zFU
def f_Ro_size (a0 : Nat) (a1 : Int32) (w : gW) : Option (Int32 × gW) :=
f_Ro_size_b4 a0 a1 (0 : Int32) (0 : Int32) w
theorem g_Ro_size_b30 {l : Launch} {Q : Option Value → gW → Prop} (x2 : Int32) (w : gW) (h : zok eI (f_Ro_size_b30 x2 w) Q) : Gz l m_Ro_size 2 30 [(2, .int x2)] [] w Q := by
  unfold f_Ro_size_b30 at h
  refine Gz.iload_n (q := 2) (pc' := 31) (by decide +kernel) rfl 0 rfl ?_
  exact Gz.ireturn (by decide +kernel) rfl (zok_sI h)
theorem g_Ro_size_b4_s {l : Launch} {Q : Option Value → gW → Prop} (k4 : Nat → Int32 → Int32 → Int32 → gW → Option (Int32 × gW)) (hk4 : ∀ (x0 : Nat) (x1 : Int32) (x2 : Int32) (x3 : Int32) (w : gW), zok eI (k4 x0 x1 x2 x3 w) Q → Gz l m_Ro_size 2 4 [(0, .ref x0), (1, .int x1), (2, .int x2), (3, .int x3)] [] w Q) (x0 : Nat) (x1 : Int32) (x2 : Int32) (x3 : Int32) (w : gW) (h : zok eI (f_Ro_size_b4_s k4 x0 x1 x2 x3 w) Q) : Gz l m_Ro_size 2 4 [(0, .ref x0), (1, .int x1), (2, .int x2), (3, .int x3)] [] w Q := by
  unfold f_Ro_size_b4_s at h
  refine Gz.iload_n (q := 3) (pc' := 5) (by decide +kernel) rfl 3 rfl ?_
  refine Gz.iload_n (q := 1) (pc' := 6) (by decide +kernel) rfl 1 rfl ?_
  refine Gz.icmp_ge (off := 24) (tgt := 30) (pc' := 9) (by decide +kernel) (by decide) rfl (fun c1 => ?_) (fun c1 => ?_)
  · have h := zok_t c1 h
    refine Gz.sub (L' := [(2, .int x2)]) [2] rfl ?_
    exact g_Ro_size_b30 x2 w h
  · have h := zok_f c1 h
    refine Gz.iload_n (q := 3) (pc' := 10) (by decide +kernel) rfl 3 rfl ?_
    refine Gz.aload_n (q := 0) (pc' := 11) (by decide +kernel) rfl 0 rfl ?_
    obtain ⟨c2, h⟩ := zok_c h
    refine Gz.alen (pc' := 12) (n := g_len 2 x0) (kd := 2) (by decide +kernel) rfl (Or.inr rfl) c2 rfl ?_
    refine Gz.icmp_ge (off := 18) (tgt := 30) (pc' := 15) (by decide +kernel) (by decide) rfl (fun c3 => ?_) (fun c3 => ?_)
    · have h := zok_t c3 h
      refine Gz.sub (L' := [(2, .int x2)]) [2] rfl ?_
      exact g_Ro_size_b30 x2 w h
    · have h := zok_f c3 h
      refine Gz.iload_n (q := 2) (pc' := 16) (by decide +kernel) rfl 2 rfl ?_
      refine Gz.aload_n (q := 0) (pc' := 17) (by decide +kernel) rfl 0 rfl ?_
      refine Gz.iload_n (q := 3) (pc' := 18) (by decide +kernel) rfl 3 rfl ?_
      obtain ⟨c4, h⟩ := zok_c h
      refine Gz.lald (pc' := 19) (n := (g_len 2 x0)) (by decide +kernel) rfl rfl c4 ?_
      refine Gz.callSI (st := [.int x2]) (pc' := 22) [.long (w.2 x0 (ix x3))] (g_Lng_bitCount (w.2 x0 (ix x3)) w) h ok_m_Lng_bitCount lk_Ro_33 rfl (Nat.le_of_ble_eq_true rfl) (Nat.le_of_ble_eq_true rfl) (Nat.le_of_ble_eq_true rfl) (by decide +kernel) rfl (fun v5 w6 h => ?_)
      refine Gz.iadd (pc' := 23) (by decide +kernel) rfl ?_
      refine Gz.nmI (fun v7 e8 => ?_)
      have h := zok_l e8 h
      refine Gz.istore_n (q := 2) (pc' := 24) (L' := [(2, .int v7), (0, .ref x0), (1, .int x1), (3, .int x3)]) (by decide +kernel) rfl (Nat.le_of_ble_eq_true rfl) rfl ?_
      obtain ⟨v9, e10⟩ : ∃ y : Int32, y = x3 + (1 : Int32) := ⟨_, rfl⟩
      have h := zok_l e10 h
      refine Gz.iinc (i := 3) (n := 1) (pc' := 27) (L' := [(3, .int v9), (2, .int v7), (0, .ref x0), (1, .int x1)]) v9 (by decide +kernel) rfl 3 rfl (by rw [e10]; rfl) (Nat.le_of_ble_eq_true rfl) rfl ?_
      refine Gz.goto (off := -23) (tgt := 4) (by decide +kernel) (by decide) ?_
      refine Gz.sub (L' := [(0, .ref x0), (1, .int x1), (2, .int v7), (3, .int v9)]) [2, 3, 1, 0] rfl ?_
      exact hk4 x0 x1 v7 v9 w6 h
theorem g_Ro_size_b4 {l : Launch} {Q : Option Value → gW → Prop} (x0 : Nat) (x1 : Int32) (x2 : Int32) (x3 : Int32) (w : gW) (h : zok eI (f_Ro_size_b4 x0 x1 x2 x3 w) Q) : Gz l m_Ro_size 2 4 [(0, .ref x0), (1, .int x1), (2, .int x2), (3, .int x3)] [] w Q := by
  have key : ∀ (n : Nat) (x0 : Nat) (x1 : Int32) (x2 : Int32) (x3 : Int32) (w : gW), zok eI (zfx (fun _ _ _ _ _ => none) (f_Ro_size_b4_s) n x0 x1 x2 x3 w) Q → Gz l m_Ro_size 2 4 [(0, .ref x0), (1, .int x1), (2, .int x2), (3, .int x3)] [] w Q := by
    intro n
    induction n with
    | zero => intro x0 x1 x2 x3 w h; exact zok_n h
    | succ n ih => intro x0 x1 x2 x3 w h; exact g_Ro_size_b4_s _ ih x0 x1 x2 x3 w h
  exact key zFU x0 x1 x2 x3 w h
theorem g_Ro_size {l : Launch} (a0 : Nat) (a1 : Int32) (w : gW) : gCt l m_Ro_size 2 [.ref a0, .int a1] w eI (f_Ro_size a0 a1 w) := by
  intro Q h
  unfold f_Ro_size at h
  show Gz l m_Ro_size 2 0 [(0, .ref a0), (1, .int a1)] [] w Q
  refine Gz.iconst (n := 0) (v := (0 : Int32)) (pc' := 1) (by decide +kernel) rfl rfl ?_
  refine Gz.istore_n (q := 2) (pc' := 2) (L' := [(2, .int (0 : Int32)), (0, .ref a0), (1, .int a1)]) (by decide +kernel) rfl (Nat.le_of_ble_eq_true rfl) rfl ?_
  refine Gz.iconst (n := 0) (v := (0 : Int32)) (pc' := 3) (by decide +kernel) rfl rfl ?_
  refine Gz.istore_n (q := 3) (pc' := 4) (L' := [(3, .int (0 : Int32)), (2, .int (0 : Int32)), (0, .ref a0), (1, .int a1)]) (by decide +kernel) rfl (Nat.le_of_ble_eq_true rfl) rfl ?_
  refine Gz.sub (L' := [(0, .ref a0), (1, .int a1), (2, .int (0 : Int32)), (3, .int (0 : Int32))]) [2, 3, 1, 0] rfl ?_
  exact g_Ro_size_b4 a0 a1 (0 : Int32) (0 : Int32) w h
def f_Int_numberOfTrailingZeros_b74 (x0 : Int32) (x1 : Int32) (w : gW) : Option (Int32 × gW) :=
some (x1 + (zusI x0 (1 : Int32)), w)
def f_Int_numberOfTrailingZeros_b62 (x0 : Int32) (x1 : Int32) (w : gW) : Option (Int32 × gW) :=
if x0 ≤ (4 : Int32) then
(f_Int_numberOfTrailingZeros_b74 x0 x1 w)
else
(zl (x1 + (2 : Int32)) (fun v2 =>
zl (zusI x0 (2 : Int32)) (fun v4 =>
f_Int_numberOfTrailingZeros_b74 v4 v2 w)))
def f_Int_numberOfTrailingZeros_b49 (x0 : Int32) (x1 : Int32) (w : gW) : Option (Int32 × gW) :=
if x0 ≤ (16 : Int32) then
(f_Int_numberOfTrailingZeros_b62 x0 x1 w)
else
(zl (x1 + (4 : Int32)) (fun v2 =>
zl (zusI x0 (4 : Int32)) (fun v4 =>
f_Int_numberOfTrailingZeros_b62 v4 v2 w)))
def f_Int_numberOfTrailingZeros_b34 (x0 : Int32) (x1 : Int32) (w : gW) : Option (Int32 × gW) :=
if x0 ≤ (256 : Int32) then
(f_Int_numberOfTrailingZeros_b49 x0 x1 w)
else
(zl (x1 + (8 : Int32)) (fun v2 =>
zl (zusI x0 (8 : Int32)) (fun v4 =>
f_Int_numberOfTrailingZeros_b49 v4 v2 w)))
def f_Int_numberOfTrailingZeros (a0 : Int32) (w : gW) : Option (Int32 × gW) :=
zl ((a0 ^^^ (-1 : Int32)) &&& (a0 - (1 : Int32))) (fun v1 =>
if 0 < v1 then
(if v1 ≤ (65536 : Int32) then
(f_Int_numberOfTrailingZeros_b34 v1 (1 : Int32) w)
else
(zl ((1 : Int32) + (16 : Int32)) (fun v5 =>
zl (zusI v1 (16 : Int32)) (fun v7 =>
f_Int_numberOfTrailingZeros_b34 v7 v5 w))))
else
(some (v1 &&& (32 : Int32), w)))
theorem g_Int_numberOfTrailingZeros_b74 {l : Launch} {Q : Option Value → gW → Prop} (x0 : Int32) (x1 : Int32) (w : gW) (h : zok eI (f_Int_numberOfTrailingZeros_b74 x0 x1 w) Q) : Gz l m_Int_numberOfTrailingZeros 1 74 [(0, .int x0), (1, .int x1)] [] w Q := by
  unfold f_Int_numberOfTrailingZeros_b74 at h
  refine Gz.iload_n (q := 1) (pc' := 75) (by decide +kernel) rfl 1 rfl ?_
  refine Gz.iload_n (q := 0) (pc' := 76) (by decide +kernel) rfl 0 rfl ?_
  refine Gz.iconst (n := 1) (v := (1 : Int32)) (pc' := 77) (by decide +kernel) rfl rfl ?_
  refine Gz.iushr (pc' := 78) (by decide +kernel) rfl ?_
  refine Gz.iadd (pc' := 79) (by decide +kernel) rfl ?_
  exact Gz.ireturn (by decide +kernel) rfl (zok_sI h)
theorem g_Int_numberOfTrailingZeros_b62 {l : Launch} {Q : Option Value → gW → Prop} (x0 : Int32) (x1 : Int32) (w : gW) (h : zok eI (f_Int_numberOfTrailingZeros_b62 x0 x1 w) Q) : Gz l m_Int_numberOfTrailingZeros 1 62 [(0, .int x0), (1, .int x1)] [] w Q := by
  unfold f_Int_numberOfTrailingZeros_b62 at h
  refine Gz.iload_n (q := 0) (pc' := 63) (by decide +kernel) rfl 0 rfl ?_
  refine Gz.iconst (n := 4) (v := (4 : Int32)) (pc' := 64) (by decide +kernel) rfl rfl ?_
  refine Gz.icmp_le (off := 10) (tgt := 74) (pc' := 67) (by decide +kernel) (by decide) rfl (fun c1 => ?_) (fun c1 => ?_)
  · have h := zok_t c1 h
    exact g_Int_numberOfTrailingZeros_b74 x0 x1 w h
  · have h := zok_f c1 h
    obtain ⟨v2, e3⟩ : ∃ y : Int32, y = x1 + (2 : Int32) := ⟨_, rfl⟩
    have h := zok_l e3 h
    refine Gz.iinc (i := 1) (n := 2) (pc' := 70) (L' := [(1, .int v2), (0, .int x0)]) v2 (by decide +kernel) rfl 1 rfl (by rw [e3]; rfl) (Nat.le_of_ble_eq_true rfl) rfl ?_
    refine Gz.iload_n (q := 0) (pc' := 71) (by decide +kernel) rfl 1 rfl ?_
    refine Gz.iconst (n := 2) (v := (2 : Int32)) (pc' := 72) (by decide +kernel) rfl rfl ?_
    refine Gz.iushr (pc' := 73) (by decide +kernel) rfl ?_
    refine Gz.nmI (fun v4 e5 => ?_)
    have h := zok_l e5 h
    refine Gz.istore_n (q := 0) (pc' := 74) (L' := [(0, .int v4), (1, .int v2)]) (by decide +kernel) rfl (Nat.le_of_ble_eq_true rfl) rfl ?_
    exact g_Int_numberOfTrailingZeros_b74 v4 v2 w h
theorem g_Int_numberOfTrailingZeros_b49 {l : Launch} {Q : Option Value → gW → Prop} (x0 : Int32) (x1 : Int32) (w : gW) (h : zok eI (f_Int_numberOfTrailingZeros_b49 x0 x1 w) Q) : Gz l m_Int_numberOfTrailingZeros 1 49 [(0, .int x0), (1, .int x1)] [] w Q := by
  unfold f_Int_numberOfTrailingZeros_b49 at h
  refine Gz.iload_n (q := 0) (pc' := 50) (by decide +kernel) rfl 0 rfl ?_
  refine Gz.bipush (n := 16) (v := (16 : Int32)) (pc' := 52) (by decide +kernel) rfl rfl ?_
  refine Gz.icmp_le (off := 10) (tgt := 62) (pc' := 55) (by decide +kernel) (by decide) rfl (fun c1 => ?_) (fun c1 => ?_)
  · have h := zok_t c1 h
    exact g_Int_numberOfTrailingZeros_b62 x0 x1 w h
  · have h := zok_f c1 h
    obtain ⟨v2, e3⟩ : ∃ y : Int32, y = x1 + (4 : Int32) := ⟨_, rfl⟩
    have h := zok_l e3 h
    refine Gz.iinc (i := 1) (n := 4) (pc' := 58) (L' := [(1, .int v2), (0, .int x0)]) v2 (by decide +kernel) rfl 1 rfl (by rw [e3]; rfl) (Nat.le_of_ble_eq_true rfl) rfl ?_
    refine Gz.iload_n (q := 0) (pc' := 59) (by decide +kernel) rfl 1 rfl ?_
    refine Gz.iconst (n := 4) (v := (4 : Int32)) (pc' := 60) (by decide +kernel) rfl rfl ?_
    refine Gz.iushr (pc' := 61) (by decide +kernel) rfl ?_
    refine Gz.nmI (fun v4 e5 => ?_)
    have h := zok_l e5 h
    refine Gz.istore_n (q := 0) (pc' := 62) (L' := [(0, .int v4), (1, .int v2)]) (by decide +kernel) rfl (Nat.le_of_ble_eq_true rfl) rfl ?_
    exact g_Int_numberOfTrailingZeros_b62 v4 v2 w h
theorem g_Int_numberOfTrailingZeros_b34 {l : Launch} {Q : Option Value → gW → Prop} (x0 : Int32) (x1 : Int32) (w : gW) (h : zok eI (f_Int_numberOfTrailingZeros_b34 x0 x1 w) Q) : Gz l m_Int_numberOfTrailingZeros 1 34 [(0, .int x0), (1, .int x1)] [] w Q := by
  unfold f_Int_numberOfTrailingZeros_b34 at h
  refine Gz.iload_n (q := 0) (pc' := 35) (by decide +kernel) rfl 0 rfl ?_
  refine Gz.sipush (n := 256) (v := (256 : Int32)) (pc' := 38) (by decide +kernel) rfl rfl ?_
  refine Gz.icmp_le (off := 11) (tgt := 49) (pc' := 41) (by decide +kernel) (by decide) rfl (fun c1 => ?_) (fun c1 => ?_)
  · have h := zok_t c1 h
    exact g_Int_numberOfTrailingZeros_b49 x0 x1 w h
  · have h := zok_f c1 h
    obtain ⟨v2, e3⟩ : ∃ y : Int32, y = x1 + (8 : Int32) := ⟨_, rfl⟩
    have h := zok_l e3 h
    refine Gz.iinc (i := 1) (n := 8) (pc' := 44) (L' := [(1, .int v2), (0, .int x0)]) v2 (by decide +kernel) rfl 1 rfl (by rw [e3]; rfl) (Nat.le_of_ble_eq_true rfl) rfl ?_
    refine Gz.iload_n (q := 0) (pc' := 45) (by decide +kernel) rfl 1 rfl ?_
    refine Gz.bipush (n := 8) (v := (8 : Int32)) (pc' := 47) (by decide +kernel) rfl rfl ?_
    refine Gz.iushr (pc' := 48) (by decide +kernel) rfl ?_
    refine Gz.nmI (fun v4 e5 => ?_)
    have h := zok_l e5 h
    refine Gz.istore_n (q := 0) (pc' := 49) (L' := [(0, .int v4), (1, .int v2)]) (by decide +kernel) rfl (Nat.le_of_ble_eq_true rfl) rfl ?_
    exact g_Int_numberOfTrailingZeros_b49 v4 v2 w h
theorem g_Int_numberOfTrailingZeros {l : Launch} (a0 : Int32) (w : gW) : gCt l m_Int_numberOfTrailingZeros 1 [.int a0] w eI (f_Int_numberOfTrailingZeros a0 w) := by
  intro Q h
  unfold f_Int_numberOfTrailingZeros at h
  show Gz l m_Int_numberOfTrailingZeros 1 0 [(0, .int a0)] [] w Q
  refine Gz.iload_n (q := 0) (pc' := 1) (by decide +kernel) rfl 0 rfl ?_
  refine Gz.iconst (n := -1) (v := (-1 : Int32)) (pc' := 2) (by decide +kernel) rfl rfl ?_
  refine Gz.ixor (pc' := 3) (by decide +kernel) rfl ?_
  refine Gz.iload_n (q := 0) (pc' := 4) (by decide +kernel) rfl 0 rfl ?_
  refine Gz.iconst (n := 1) (v := (1 : Int32)) (pc' := 5) (by decide +kernel) rfl rfl ?_
  refine Gz.isub (pc' := 6) (by decide +kernel) rfl ?_
  refine Gz.iand (pc' := 7) (by decide +kernel) rfl ?_
  refine Gz.nmI (fun v1 e2 => ?_)
  have h := zok_l e2 h
  refine Gz.istore_n (q := 0) (pc' := 8) (L' := [(0, .int v1)]) (by decide +kernel) rfl (Nat.le_of_ble_eq_true rfl) rfl ?_
  refine Gz.iload_n (q := 0) (pc' := 9) (by decide +kernel) rfl 0 rfl ?_
  refine Gz.if_gt (off := 8) (tgt := 17) (pc' := 12) (by decide +kernel) (by decide) rfl (fun c3 => ?_) (fun c3 => ?_)
  · have h := zok_t c3 h
    refine Gz.iconst (n := 1) (v := (1 : Int32)) (pc' := 18) (by decide +kernel) rfl rfl ?_
    refine Gz.istore_n (q := 1) (pc' := 19) (L' := [(1, .int (1 : Int32)), (0, .int v1)]) (by decide +kernel) rfl (Nat.le_of_ble_eq_true rfl) rfl ?_
    refine Gz.iload_n (q := 0) (pc' := 20) (by decide +kernel) rfl 1 rfl ?_
    refine Gz.ldcw (idx := 264) (v := (65536 : Int32)) (pc' := 23) (by decide +kernel) rfl kc_Int_264 ?_
    refine Gz.icmp_le (off := 11) (tgt := 34) (pc' := 26) (by decide +kernel) (by decide) rfl (fun c4 => ?_) (fun c4 => ?_)
    · have h := zok_t c4 h
      refine Gz.sub (L' := [(0, .int v1), (1, .int (1 : Int32))]) [1, 0] rfl ?_
      exact g_Int_numberOfTrailingZeros_b34 v1 (1 : Int32) w h
    · have h := zok_f c4 h
      obtain ⟨v5, e6⟩ : ∃ y : Int32, y = (1 : Int32) + (16 : Int32) := ⟨_, rfl⟩
      have h := zok_l e6 h
      refine Gz.iinc (i := 1) (n := 16) (pc' := 29) (L' := [(1, .int v5), (0, .int v1)]) v5 (by decide +kernel) rfl 0 rfl (by rw [e6]; rfl) (Nat.le_of_ble_eq_true rfl) rfl ?_
      refine Gz.iload_n (q := 0) (pc' := 30) (by decide +kernel) rfl 1 rfl ?_
      refine Gz.bipush (n := 16) (v := (16 : Int32)) (pc' := 32) (by decide +kernel) rfl rfl ?_
      refine Gz.iushr (pc' := 33) (by decide +kernel) rfl ?_
      refine Gz.nmI (fun v7 e8 => ?_)
      have h := zok_l e8 h
      refine Gz.istore_n (q := 0) (pc' := 34) (L' := [(0, .int v7), (1, .int v5)]) (by decide +kernel) rfl (Nat.le_of_ble_eq_true rfl) rfl ?_
      exact g_Int_numberOfTrailingZeros_b34 v7 v5 w h
  · have h := zok_f c3 h
    refine Gz.iload_n (q := 0) (pc' := 13) (by decide +kernel) rfl 0 rfl ?_
    refine Gz.bipush (n := 32) (v := (32 : Int32)) (pc' := 15) (by decide +kernel) rfl rfl ?_
    refine Gz.iand (pc' := 16) (by decide +kernel) rfl ?_
    exact Gz.ireturn (by decide +kernel) rfl (zok_sI h)
def f_Lng_numberOfTrailingZeros (a0 : Int64) (w : gW) : Option (Int32 × gW) :=
zl (a0.toInt32) (fun v1 =>
if v1 = 0 then
(zb (f_Int_numberOfTrailingZeros ((zusL a0 (32 : Int32)).toInt32) w) (fun v6 w7 =>
some ((32 : Int32) + v6, w7)))
else
(zb (f_Int_numberOfTrailingZeros v1 w) (fun v4 w5 =>
some (v4, w5))))
theorem g_Lng_numberOfTrailingZeros {l : Launch} (a0 : Int64) (w : gW) : gCt l m_Lng_numberOfTrailingZeros 2 [.long a0] w eI (f_Lng_numberOfTrailingZeros a0 w) := by
  intro Q h
  unfold f_Lng_numberOfTrailingZeros at h
  show Gz l m_Lng_numberOfTrailingZeros 2 0 [(0, .long a0)] [] w Q
  refine Gz.lload_n (q := 0) (pc' := 1) (by decide +kernel) rfl 0 rfl ?_
  refine Gz.l2i (pc' := 2) (by decide +kernel) rfl ?_
  refine Gz.nmI (fun v1 e2 => ?_)
  have h := zok_l e2 h
  refine Gz.istore_n (q := 2) (pc' := 3) (L' := [(2, .int v1), (0, .long a0)]) (by decide +kernel) rfl (Nat.le_of_ble_eq_true rfl) rfl ?_
  refine Gz.iload_n (q := 2) (pc' := 4) (by decide +kernel) rfl 0 rfl ?_
  refine Gz.if_ne (off := 17) (tgt := 21) (pc' := 7) (by decide +kernel) (by decide) rfl (fun c3 => ?_) (fun c3 => ?_)
  · have h := zok_f c3 h
    refine Gz.iload_n (q := 2) (pc' := 22) (by decide +kernel) rfl 0 rfl ?_
    refine Gz.callSI (st := []) (pc' := 25) [.int v1] (g_Int_numberOfTrailingZeros v1 w) h ok_m_Int_numberOfTrailingZeros lk_Lng_311 rfl (Nat.le_of_ble_eq_true rfl) (Nat.le_of_ble_eq_true rfl) (Nat.le_of_ble_eq_true rfl) (by decide +kernel) rfl (fun v4 w5 h => ?_)
    exact Gz.ireturn (by decide +kernel) rfl (zok_sI h)
  · have h := zok_t c3 h
    refine Gz.bipush (n := 32) (v := (32 : Int32)) (pc' := 9) (by decide +kernel) rfl rfl ?_
    refine Gz.lload_n (q := 0) (pc' := 10) (by decide +kernel) rfl 1 rfl ?_
    refine Gz.bipush (n := 32) (v := (32 : Int32)) (pc' := 12) (by decide +kernel) rfl rfl ?_
    refine Gz.lushr (pc' := 13) (by decide +kernel) rfl ?_
    refine Gz.l2i (pc' := 14) (by decide +kernel) rfl ?_
    refine Gz.callSI (st := [.int (32 : Int32)]) (pc' := 17) [.int ((zusL a0 (32 : Int32)).toInt32)] (g_Int_numberOfTrailingZeros ((zusL a0 (32 : Int32)).toInt32) w) h ok_m_Int_numberOfTrailingZeros lk_Lng_311 rfl (Nat.le_of_ble_eq_true rfl) (Nat.le_of_ble_eq_true rfl) (Nat.le_of_ble_eq_true rfl) (by decide +kernel) rfl (fun v6 w7 h => ?_)
    refine Gz.iadd (pc' := 18) (by decide +kernel) rfl ?_
    refine Gz.goto (off := 7) (tgt := 25) (by decide +kernel) (by decide) ?_
    exact Gz.ireturn (by decide +kernel) rfl (zok_sI h)
def f_Ro_bitAt_b30 (x3 : Int64) (w : gW) : Option (Int32 × gW) :=
zb (f_Lng_numberOfTrailingZeros x3 w) (fun v1 w2 =>
some (v1, w2))
def f_Ro_bitAt_b5_s (k5 : Int32 → Int64 → Int32 → gW → Option (Int32 × gW)) (x2 : Int32) (x3 : Int64) (x5 : Int32) (w : gW) : Option (Int32 × gW) :=
if x2 ≤ x5 then
(f_Ro_bitAt_b30 x3 w)
else
(if (64 : Int32) ≤ x5 then
(f_Ro_bitAt_b30 x3 w)
else
(zl (x3 &&& (x3 - (1 : Int64))) (fun v3 =>
zl (x5 + (1 : Int32)) (fun v5 =>
k5 x2 v3 v5 w))))
def f_Ro_bitAt_b5 : Int32 → Int64 → Int32 → gW → Option (Int32 × gW) := zfx (fun _ _ _ _ => none) (f_Ro_bitAt_b5_s) zFU
def f_Ro_bitAt (a0 : Int64) (a2 : Int32) (w : gW) : Option (Int32 × gW) :=
f_Ro_bitAt_b5 a2 a0 (0 : Int32) w
theorem g_Ro_bitAt_b30 {l : Launch} {Q : Option Value → gW → Prop} (x3 : Int64) (w : gW) (h : zok eI (f_Ro_bitAt_b30 x3 w) Q) : Gz l m_Ro_bitAt 3 30 [(3, .long x3)] [] w Q := by
  unfold f_Ro_bitAt_b30 at h
  refine Gz.lload_n (q := 3) (pc' := 31) (by decide +kernel) rfl 0 rfl ?_
  refine Gz.callSI (st := []) (pc' := 34) [.long x3] (g_Lng_numberOfTrailingZeros x3 w) h ok_m_Lng_numberOfTrailingZeros lk_Ro_43 rfl (Nat.le_of_ble_eq_true rfl) (Nat.le_of_ble_eq_true rfl) (Nat.le_of_ble_eq_true rfl) (by decide +kernel) rfl (fun v1 w2 h => ?_)
  exact Gz.ireturn (by decide +kernel) rfl (zok_sI h)
theorem g_Ro_bitAt_b5_s {l : Launch} {Q : Option Value → gW → Prop} (k5 : Int32 → Int64 → Int32 → gW → Option (Int32 × gW)) (hk5 : ∀ (x2 : Int32) (x3 : Int64) (x5 : Int32) (w : gW), zok eI (k5 x2 x3 x5 w) Q → Gz l m_Ro_bitAt 3 5 [(2, .int x2), (3, .long x3), (5, .int x5)] [] w Q) (x2 : Int32) (x3 : Int64) (x5 : Int32) (w : gW) (h : zok eI (f_Ro_bitAt_b5_s k5 x2 x3 x5 w) Q) : Gz l m_Ro_bitAt 3 5 [(2, .int x2), (3, .long x3), (5, .int x5)] [] w Q := by
  unfold f_Ro_bitAt_b5_s at h
  refine Gz.iload (i := 5) (pc' := 7) (by decide +kernel) rfl 2 rfl ?_
  refine Gz.iload_n (q := 2) (pc' := 8) (by decide +kernel) rfl 0 rfl ?_
  refine Gz.icmp_ge (off := 22) (tgt := 30) (pc' := 11) (by decide +kernel) (by decide) rfl (fun c1 => ?_) (fun c1 => ?_)
  · have h := zok_t c1 h
    refine Gz.sub (L' := [(3, .long x3)]) [1] rfl ?_
    exact g_Ro_bitAt_b30 x3 w h
  · have h := zok_f c1 h
    refine Gz.iload (i := 5) (pc' := 13) (by decide +kernel) rfl 2 rfl ?_
    refine Gz.bipush (n := 64) (v := (64 : Int32)) (pc' := 15) (by decide +kernel) rfl rfl ?_
    refine Gz.icmp_ge (off := 15) (tgt := 30) (pc' := 18) (by decide +kernel) (by decide) rfl (fun c2 => ?_) (fun c2 => ?_)
    · have h := zok_t c2 h
      refine Gz.sub (L' := [(3, .long x3)]) [1] rfl ?_
      exact g_Ro_bitAt_b30 x3 w h
    · have h := zok_f c2 h
      refine Gz.lload_n (q := 3) (pc' := 19) (by decide +kernel) rfl 1 rfl ?_
      refine Gz.lload_n (q := 3) (pc' := 20) (by decide +kernel) rfl 1 rfl ?_
      refine Gz.lconst (n := 1) (v := (1 : Int64)) (pc' := 21) (by decide +kernel) rfl rfl ?_
      refine Gz.lsub (pc' := 22) (by decide +kernel) rfl ?_
      refine Gz.land (pc' := 23) (by decide +kernel) rfl ?_
      refine Gz.nmJ (fun v3 e4 => ?_)
      have h := zok_l e4 h
      refine Gz.lstore_n (q := 3) (pc' := 24) (L' := [(3, .long v3), (2, .int x2), (5, .int x5)]) (by decide +kernel) rfl (Nat.le_of_ble_eq_true rfl) rfl ?_
      obtain ⟨v5, e6⟩ : ∃ y : Int32, y = x5 + (1 : Int32) := ⟨_, rfl⟩
      have h := zok_l e6 h
      refine Gz.iinc (i := 5) (n := 1) (pc' := 27) (L' := [(5, .int v5), (3, .long v3), (2, .int x2)]) v5 (by decide +kernel) rfl 2 rfl (by rw [e6]; rfl) (Nat.le_of_ble_eq_true rfl) rfl ?_
      refine Gz.goto (off := -22) (tgt := 5) (by decide +kernel) (by decide) ?_
      refine Gz.sub (L' := [(2, .int x2), (3, .long v3), (5, .int v5)]) [2, 1, 0] rfl ?_
      exact hk5 x2 v3 v5 w h
theorem g_Ro_bitAt_b5 {l : Launch} {Q : Option Value → gW → Prop} (x2 : Int32) (x3 : Int64) (x5 : Int32) (w : gW) (h : zok eI (f_Ro_bitAt_b5 x2 x3 x5 w) Q) : Gz l m_Ro_bitAt 3 5 [(2, .int x2), (3, .long x3), (5, .int x5)] [] w Q := by
  have key : ∀ (n : Nat) (x2 : Int32) (x3 : Int64) (x5 : Int32) (w : gW), zok eI (zfx (fun _ _ _ _ => none) (f_Ro_bitAt_b5_s) n x2 x3 x5 w) Q → Gz l m_Ro_bitAt 3 5 [(2, .int x2), (3, .long x3), (5, .int x5)] [] w Q := by
    intro n
    induction n with
    | zero => intro x2 x3 x5 w h; exact zok_n h
    | succ n ih => intro x2 x3 x5 w h; exact g_Ro_bitAt_b5_s _ ih x2 x3 x5 w h
  exact key zFU x2 x3 x5 w h
theorem g_Ro_bitAt {l : Launch} (a0 : Int64) (a2 : Int32) (w : gW) : gCt l m_Ro_bitAt 3 [.long a0, .int a2] w eI (f_Ro_bitAt a0 a2 w) := by
  intro Q h
  unfold f_Ro_bitAt at h
  show Gz l m_Ro_bitAt 3 0 [(0, .long a0), (2, .int a2)] [] w Q
  refine Gz.lload_n (q := 0) (pc' := 1) (by decide +kernel) rfl 0 rfl ?_
  refine Gz.lstore_n (q := 3) (pc' := 2) (L' := [(3, .long a0), (0, .long a0), (2, .int a2)]) (by decide +kernel) rfl (Nat.le_of_ble_eq_true rfl) rfl ?_
  refine Gz.iconst (n := 0) (v := (0 : Int32)) (pc' := 3) (by decide +kernel) rfl rfl ?_
  refine Gz.istore (i := 5) (pc' := 5) (L' := [(5, .int (0 : Int32)), (3, .long a0), (0, .long a0), (2, .int a2)]) (by decide +kernel) rfl (Nat.le_of_ble_eq_true rfl) rfl ?_
  refine Gz.sub (L' := [(2, .int a2), (3, .long a0), (5, .int (0 : Int32))]) [3, 1, 0] rfl ?_
  exact g_Ro_bitAt_b5 a2 a0 (0 : Int32) w h
def f_Ro_pick_b5_s (k5 : Nat → Int32 → Int32 → Int32 → Int32 → gW → Option (Int32 × gW)) (x0 : Nat) (x1 : Int32) (x2 : Int32) (x3 : Int32) (x4 : Int32) (w : gW) : Option (Int32 × gW) :=
if x2 < 0 then
(some ((-1 : Int32), w))
else
(if x1 ≤ x4 then
(some ((-1 : Int32), w))
else
(if (g_sh x0).1 = 2 then
if (nI (g_len 2 x0)) ≤ x4 then
(some ((-1 : Int32), w))
else
(if inb x4 (g_len 2 x0) then
zb (f_Lng_bitCount (w.2 x0 (ix x4)) w) (fun v6 w7 =>
if (x3 + v6) ≤ x2 then
(zl (x3 + v6) (fun v9 =>
zl (x4 + (1 : Int32)) (fun v11 =>
k5 x0 x1 x2 v9 v11 w7)))
else
(if inb x4 (g_len 2 x0) then
zb (f_Ro_bitAt (w7.2 x0 (ix x4)) (x2 - x3) w7) (fun v14 w15 =>
some ((x4 <<< ((6 : Int32) &&& 31)) + v14, w15))
else none))
else none)
else none))
def f_Ro_pick_b5 : Nat → Int32 → Int32 → Int32 → Int32 → gW → Option (Int32 × gW) := zfx (fun _ _ _ _ _ _ => none) (f_Ro_pick_b5_s) zFU
def f_Ro_pick (a0 : Nat) (a1 : Int32) (a2 : Int32) (w : gW) : Option (Int32 × gW) :=
f_Ro_pick_b5 a0 a1 a2 (0 : Int32) (0 : Int32) w
theorem g_Ro_pick_b5_s {l : Launch} {Q : Option Value → gW → Prop} (k5 : Nat → Int32 → Int32 → Int32 → Int32 → gW → Option (Int32 × gW)) (hk5 : ∀ (x0 : Nat) (x1 : Int32) (x2 : Int32) (x3 : Int32) (x4 : Int32) (w : gW), zok eI (k5 x0 x1 x2 x3 x4 w) Q → Gz l m_Ro_pick 4 5 [(0, .ref x0), (1, .int x1), (2, .int x2), (3, .int x3), (4, .int x4)] [] w Q) (x0 : Nat) (x1 : Int32) (x2 : Int32) (x3 : Int32) (x4 : Int32) (w : gW) (h : zok eI (f_Ro_pick_b5_s k5 x0 x1 x2 x3 x4 w) Q) : Gz l m_Ro_pick 4 5 [(0, .ref x0), (1, .int x1), (2, .int x2), (3, .int x3), (4, .int x4)] [] w Q := by
  unfold f_Ro_pick_b5_s at h
  refine Gz.iload_n (q := 2) (pc' := 6) (by decide +kernel) rfl 2 rfl ?_
  refine Gz.if_lt (off := 61) (tgt := 67) (pc' := 9) (by decide +kernel) (by decide) rfl (fun c1 => ?_) (fun c1 => ?_)
  · have h := zok_t c1 h
    refine Gz.iconst (n := -1) (v := (-1 : Int32)) (pc' := 68) (by decide +kernel) rfl rfl ?_
    exact Gz.ireturn (by decide +kernel) rfl (zok_sI h)
  · have h := zok_f c1 h
    refine Gz.iload (i := 4) (pc' := 11) (by decide +kernel) rfl 4 rfl ?_
    refine Gz.iload_n (q := 1) (pc' := 12) (by decide +kernel) rfl 1 rfl ?_
    refine Gz.icmp_ge (off := 55) (tgt := 67) (pc' := 15) (by decide +kernel) (by decide) rfl (fun c2 => ?_) (fun c2 => ?_)
    · have h := zok_t c2 h
      refine Gz.iconst (n := -1) (v := (-1 : Int32)) (pc' := 68) (by decide +kernel) rfl rfl ?_
      exact Gz.ireturn (by decide +kernel) rfl (zok_sI h)
    · have h := zok_f c2 h
      refine Gz.iload (i := 4) (pc' := 17) (by decide +kernel) rfl 4 rfl ?_
      refine Gz.aload_n (q := 0) (pc' := 18) (by decide +kernel) rfl 0 rfl ?_
      obtain ⟨c3, h⟩ := zok_c h
      refine Gz.alen (pc' := 19) (n := g_len 2 x0) (kd := 2) (by decide +kernel) rfl (Or.inr rfl) c3 rfl ?_
      refine Gz.icmp_ge (off := 48) (tgt := 67) (pc' := 22) (by decide +kernel) (by decide) rfl (fun c4 => ?_) (fun c4 => ?_)
      · have h := zok_t c4 h
        refine Gz.iconst (n := -1) (v := (-1 : Int32)) (pc' := 68) (by decide +kernel) rfl rfl ?_
        exact Gz.ireturn (by decide +kernel) rfl (zok_sI h)
      · have h := zok_f c4 h
        refine Gz.aload_n (q := 0) (pc' := 23) (by decide +kernel) rfl 0 rfl ?_
        refine Gz.iload (i := 4) (pc' := 25) (by decide +kernel) rfl 4 rfl ?_
        obtain ⟨c5, h⟩ := zok_c h
        refine Gz.lald (pc' := 26) (n := (g_len 2 x0)) (by decide +kernel) rfl rfl c5 ?_
        refine Gz.callSI (st := []) (pc' := 29) [.long (w.2 x0 (ix x4))] (g_Lng_bitCount (w.2 x0 (ix x4)) w) h ok_m_Lng_bitCount lk_Ro_33 rfl (Nat.le_of_ble_eq_true rfl) (Nat.le_of_ble_eq_true rfl) (Nat.le_of_ble_eq_true rfl) (by decide +kernel) rfl (fun v6 w7 h => ?_)
        refine Gz.istore (i := 5) (pc' := 31) (L' := [(5, .int v6), (0, .ref x0), (1, .int x1), (2, .int x2), (3, .int x3), (4, .int x4)]) (by decide +kernel) rfl (Nat.le_of_ble_eq_true rfl) rfl ?_
        refine Gz.iload_n (q := 2) (pc' := 32) (by decide +kernel) rfl 3 rfl ?_
        refine Gz.iload_n (q := 3) (pc' := 33) (by decide +kernel) rfl 4 rfl ?_
        refine Gz.iload (i := 5) (pc' := 35) (by decide +kernel) rfl 0 rfl ?_
        refine Gz.iadd (pc' := 36) (by decide +kernel) rfl ?_
        refine Gz.icmp_ge (off := 20) (tgt := 56) (pc' := 39) (by decide +kernel) (by decide) rfl (fun c8 => ?_) (fun c8 => ?_)
        · have h := zok_t c8 h
          refine Gz.iload_n (q := 3) (pc' := 57) (by decide +kernel) rfl 4 rfl ?_
          refine Gz.iload (i := 5) (pc' := 59) (by decide +kernel) rfl 0 rfl ?_
          refine Gz.iadd (pc' := 60) (by decide +kernel) rfl ?_
          refine Gz.nmI (fun v9 e10 => ?_)
          have h := zok_l e10 h
          refine Gz.istore_n (q := 3) (pc' := 61) (L' := [(3, .int v9), (5, .int v6), (0, .ref x0), (1, .int x1), (2, .int x2), (4, .int x4)]) (by decide +kernel) rfl (Nat.le_of_ble_eq_true rfl) rfl ?_
          obtain ⟨v11, e12⟩ : ∃ y : Int32, y = x4 + (1 : Int32) := ⟨_, rfl⟩
          have h := zok_l e12 h
          refine Gz.iinc (i := 4) (n := 1) (pc' := 64) (L' := [(4, .int v11), (3, .int v9), (5, .int v6), (0, .ref x0), (1, .int x1), (2, .int x2)]) v11 (by decide +kernel) rfl 5 rfl (by rw [e12]; rfl) (Nat.le_of_ble_eq_true rfl) rfl ?_
          refine Gz.goto (off := -59) (tgt := 5) (by decide +kernel) (by decide) ?_
          refine Gz.sub (L' := [(0, .ref x0), (1, .int x1), (2, .int x2), (3, .int v9), (4, .int v11)]) [3, 4, 5, 1, 0] rfl ?_
          exact hk5 x0 x1 x2 v9 v11 w7 h
        · have h := zok_f c8 h
          refine Gz.iload (i := 4) (pc' := 41) (by decide +kernel) rfl 5 rfl ?_
          refine Gz.bipush (n := 6) (v := (6 : Int32)) (pc' := 43) (by decide +kernel) rfl rfl ?_
          refine Gz.ishl (pc' := 44) (by decide +kernel) rfl ?_
          refine Gz.aload_n (q := 0) (pc' := 45) (by decide +kernel) rfl 1 rfl ?_
          refine Gz.iload (i := 4) (pc' := 47) (by decide +kernel) rfl 5 rfl ?_
          obtain ⟨c13, h⟩ := zok_c h
          refine Gz.lald (pc' := 48) (n := (g_len 2 x0)) (by decide +kernel) rfl rfl c13 ?_
          refine Gz.iload_n (q := 2) (pc' := 49) (by decide +kernel) rfl 3 rfl ?_
          refine Gz.iload_n (q := 3) (pc' := 50) (by decide +kernel) rfl 4 rfl ?_
          refine Gz.isub (pc' := 51) (by decide +kernel) rfl ?_
          refine Gz.callSI (st := [.int (x4 <<< ((6 : Int32) &&& 31))]) (pc' := 54) [.long (w7.2 x0 (ix x4)), .int (x2 - x3)] (g_Ro_bitAt (w7.2 x0 (ix x4)) (x2 - x3) w7) h ok_m_Ro_bitAt lk_Ro_39 rfl (Nat.le_of_ble_eq_true rfl) (Nat.le_of_ble_eq_true rfl) (Nat.le_of_ble_eq_true rfl) (by decide +kernel) rfl (fun v14 w15 h => ?_)
          refine Gz.iadd (pc' := 55) (by decide +kernel) rfl ?_
          exact Gz.ireturn (by decide +kernel) rfl (zok_sI h)
theorem g_Ro_pick_b5 {l : Launch} {Q : Option Value → gW → Prop} (x0 : Nat) (x1 : Int32) (x2 : Int32) (x3 : Int32) (x4 : Int32) (w : gW) (h : zok eI (f_Ro_pick_b5 x0 x1 x2 x3 x4 w) Q) : Gz l m_Ro_pick 4 5 [(0, .ref x0), (1, .int x1), (2, .int x2), (3, .int x3), (4, .int x4)] [] w Q := by
  have key : ∀ (n : Nat) (x0 : Nat) (x1 : Int32) (x2 : Int32) (x3 : Int32) (x4 : Int32) (w : gW), zok eI (zfx (fun _ _ _ _ _ _ => none) (f_Ro_pick_b5_s) n x0 x1 x2 x3 x4 w) Q → Gz l m_Ro_pick 4 5 [(0, .ref x0), (1, .int x1), (2, .int x2), (3, .int x3), (4, .int x4)] [] w Q := by
    intro n
    induction n with
    | zero => intro x0 x1 x2 x3 x4 w h; exact zok_n h
    | succ n ih => intro x0 x1 x2 x3 x4 w h; exact g_Ro_pick_b5_s _ ih x0 x1 x2 x3 x4 w h
  exact key zFU x0 x1 x2 x3 x4 w h
theorem g_Ro_pick {l : Launch} (a0 : Nat) (a1 : Int32) (a2 : Int32) (w : gW) : gCt l m_Ro_pick 4 [.ref a0, .int a1, .int a2] w eI (f_Ro_pick a0 a1 a2 w) := by
  intro Q h
  unfold f_Ro_pick at h
  show Gz l m_Ro_pick 4 0 [(0, .ref a0), (1, .int a1), (2, .int a2)] [] w Q
  refine Gz.iconst (n := 0) (v := (0 : Int32)) (pc' := 1) (by decide +kernel) rfl rfl ?_
  refine Gz.istore_n (q := 3) (pc' := 2) (L' := [(3, .int (0 : Int32)), (0, .ref a0), (1, .int a1), (2, .int a2)]) (by decide +kernel) rfl (Nat.le_of_ble_eq_true rfl) rfl ?_
  refine Gz.iconst (n := 0) (v := (0 : Int32)) (pc' := 3) (by decide +kernel) rfl rfl ?_
  refine Gz.istore (i := 4) (pc' := 5) (L' := [(4, .int (0 : Int32)), (3, .int (0 : Int32)), (0, .ref a0), (1, .int a1), (2, .int a2)]) (by decide +kernel) rfl (Nat.le_of_ble_eq_true rfl) rfl ?_
  refine Gz.sub (L' := [(0, .ref a0), (1, .int a1), (2, .int a2), (3, .int (0 : Int32)), (4, .int (0 : Int32))]) [2, 3, 4, 1, 0] rfl ?_
  exact g_Ro_pick_b5 a0 a1 a2 (0 : Int32) (0 : Int32) w h
def f_La_dayAt (a1 : Int32) (a2 : Int32) (w : gW) : Option (Int32 × gW) :=
zb (f_La_hasDeed a2 w) (fun v1 w2 =>
if v1 = 0 then
(some ((9 : Int32), w2))
else
(if a1 < 0 then
(some ((9 : Int32), w2))
else
(if inb a2 5 then
if (w2.1 22 (ix a2)) ≤ 0 then
(some ((9 : Int32), w2))
else
(if inb a2 5 then
if 0 < (w2.1 21 (ix a2)) then
(if inb a2 5 then
if ¬ (w2.1 22 (ix a2)) = 0 then
if inb a2 5 then
if ¬ (w2.1 21 (ix a2)) = 0 then
zb (f_La_dayOf a2 ((a1 / (w2.1 22 (ix a2))) - (a1 / (w2.1 22 (ix a2))) / (w2.1 21 (ix a2)) * (w2.1 21 (ix a2))) w2) (fun v13 w14 =>
some (v13, w14))
else none
else none
else none
else none)
else
(some ((9 : Int32), w2))
else none)
else none)))
theorem g_La_dayAt {l : Launch} (a1 : Int32) (a2 : Int32) (w : gW) : gCt l m_La_dayAt 3 [.ref 19, .int a1, .int a2] w eI (f_La_dayAt a1 a2 w) := by
  intro Q h
  unfold f_La_dayAt at h
  show Gz l m_La_dayAt 3 0 [(0, .ref 19), (1, .int a1), (2, .int a2)] [] w Q
  refine Gz.aload_n (q := 0) (pc' := 1) (by decide +kernel) rfl 0 rfl ?_
  refine Gz.iload_n (q := 2) (pc' := 2) (by decide +kernel) rfl 2 rfl ?_
  refine Gz.callVI (st := []) (b := 19) (pc' := 5) [.int a2] (g_La_hasDeed a2 w) h ok_m_La_hasDeed lk_La_38 sh_19 rfl rfl rfl (Nat.le_of_ble_eq_true rfl) (Nat.le_of_ble_eq_true rfl) (Nat.le_of_ble_eq_true rfl) (by decide +kernel) rfl (fun v1 w2 h => ?_)
  refine Gz.if_eq (off := 25) (tgt := 30) (pc' := 8) (by decide +kernel) (by decide) rfl (fun c3 => ?_) (fun c3 => ?_)
  · have h := zok_t c3 h
    refine Gz.bipush (n := 9) (v := (9 : Int32)) (pc' := 32) (by decide +kernel) rfl rfl ?_
    exact Gz.ireturn (by decide +kernel) rfl (zok_sI h)
  · have h := zok_f c3 h
    refine Gz.iload_n (q := 1) (pc' := 9) (by decide +kernel) rfl 1 rfl ?_
    refine Gz.if_lt (off := 21) (tgt := 30) (pc' := 12) (by decide +kernel) (by decide) rfl (fun c4 => ?_) (fun c4 => ?_)
    · have h := zok_t c4 h
      refine Gz.bipush (n := 9) (v := (9 : Int32)) (pc' := 32) (by decide +kernel) rfl rfl ?_
      exact Gz.ireturn (by decide +kernel) rfl (zok_sI h)
    · have h := zok_f c4 h
      refine Gz.aload_n (q := 0) (pc' := 13) (by decide +kernel) rfl 0 rfl ?_
      refine Gz.getR (pc' := 16) (j := 2) 22 fd_La_20 sh_19 rfl (by decide +kernel) rfl ?_
      refine Gz.iload_n (q := 2) (pc' := 17) (by decide +kernel) rfl 2 rfl ?_
      obtain ⟨c5, h⟩ := zok_c h
      refine Gz.iald (pc' := 18) (n := 5) (by decide +kernel) rfl rfl c5 ?_
      refine Gz.if_le (off := 12) (tgt := 30) (pc' := 21) (by decide +kernel) (by decide) rfl (fun c6 => ?_) (fun c6 => ?_)
      · have h := zok_t c6 h
        refine Gz.bipush (n := 9) (v := (9 : Int32)) (pc' := 32) (by decide +kernel) rfl rfl ?_
        exact Gz.ireturn (by decide +kernel) rfl (zok_sI h)
      · have h := zok_f c6 h
        refine Gz.aload_n (q := 0) (pc' := 22) (by decide +kernel) rfl 0 rfl ?_
        refine Gz.getR (pc' := 25) (j := 1) 21 fd_La_17 sh_19 rfl (by decide +kernel) rfl ?_
        refine Gz.iload_n (q := 2) (pc' := 26) (by decide +kernel) rfl 2 rfl ?_
        obtain ⟨c7, h⟩ := zok_c h
        refine Gz.iald (pc' := 27) (n := 5) (by decide +kernel) rfl rfl c7 ?_
        refine Gz.if_gt (off := 6) (tgt := 33) (pc' := 30) (by decide +kernel) (by decide) rfl (fun c8 => ?_) (fun c8 => ?_)
        · have h := zok_t c8 h
          refine Gz.aload_n (q := 0) (pc' := 34) (by decide +kernel) rfl 0 rfl ?_
          refine Gz.iload_n (q := 2) (pc' := 35) (by decide +kernel) rfl 2 rfl ?_
          refine Gz.iload_n (q := 1) (pc' := 36) (by decide +kernel) rfl 1 rfl ?_
          refine Gz.aload_n (q := 0) (pc' := 37) (by decide +kernel) rfl 0 rfl ?_
          refine Gz.getR (pc' := 40) (j := 2) 22 fd_La_20 sh_19 rfl (by decide +kernel) rfl ?_
          refine Gz.iload_n (q := 2) (pc' := 41) (by decide +kernel) rfl 2 rfl ?_
          obtain ⟨c9, h⟩ := zok_c h
          refine Gz.iald (pc' := 42) (n := 5) (by decide +kernel) rfl rfl c9 ?_
          obtain ⟨c10, h⟩ := zok_c h
          refine Gz.idiv (pc' := 43) (by decide +kernel) rfl c10 ?_
          refine Gz.aload_n (q := 0) (pc' := 44) (by decide +kernel) rfl 0 rfl ?_
          refine Gz.getR (pc' := 47) (j := 1) 21 fd_La_17 sh_19 rfl (by decide +kernel) rfl ?_
          refine Gz.iload_n (q := 2) (pc' := 48) (by decide +kernel) rfl 2 rfl ?_
          obtain ⟨c11, h⟩ := zok_c h
          refine Gz.iald (pc' := 49) (n := 5) (by decide +kernel) rfl rfl c11 ?_
          obtain ⟨c12, h⟩ := zok_c h
          refine Gz.irem (pc' := 50) (by decide +kernel) rfl c12 ?_
          refine Gz.callVI (st := []) (b := 19) (pc' := 53) [.int a2, .int ((a1 / (w2.1 22 (ix a2))) - (a1 / (w2.1 22 (ix a2))) / (w2.1 21 (ix a2)) * (w2.1 21 (ix a2)))] (g_La_dayOf a2 ((a1 / (w2.1 22 (ix a2))) - (a1 / (w2.1 22 (ix a2))) / (w2.1 21 (ix a2)) * (w2.1 21 (ix a2))) w2) h ok_m_La_dayOf lk_La_46 sh_19 rfl rfl rfl (Nat.le_of_ble_eq_true rfl) (Nat.le_of_ble_eq_true rfl) (Nat.le_of_ble_eq_true rfl) (by decide +kernel) rfl (fun v13 w14 h => ?_)
          exact Gz.ireturn (by decide +kernel) rfl (zok_sI h)
        · have h := zok_f c8 h
          refine Gz.bipush (n := 9) (v := (9 : Int32)) (pc' := 32) (by decide +kernel) rfl rfl ?_
          exact Gz.ireturn (by decide +kernel) rfl (zok_sI h)
def f_La_numberAt_b18_s (k18 : Int32 → Int32 → Int32 → gW → Option (Int32 × gW)) (x1 : Int32) (x2 : Int32) (x3 : Int32) (w : gW) : Option (Int32 × gW) :=
if (w.1 19 5) ≤ x3 then
(some (x2, w))
else
(zb (f_La_dayAt x1 x3 w) (fun v2 w3 =>
zl ((x2 * (10 : Int32)) + v2) (fun v4 =>
zl (x3 + (1 : Int32)) (fun v6 =>
k18 x1 v4 v6 w3))))
def f_La_numberAt_b18 : Int32 → Int32 → Int32 → gW → Option (Int32 × gW) := zfx (fun _ _ _ _ => none) (f_La_numberAt_b18_s) zFU
def f_La_numberAt (a1 : Int32) (w : gW) : Option (Int32 × gW) :=
if a1 < 0 then
(some ((-1 : Int32), w))
else
(if a1 < (w.1 19 6) then
(f_La_numberAt_b18 a1 (0 : Int32) (0 : Int32) w)
else
(some ((-1 : Int32), w)))
theorem g_La_numberAt_b18_s {l : Launch} {Q : Option Value → gW → Prop} (k18 : Int32 → Int32 → Int32 → gW → Option (Int32 × gW)) (hk18 : ∀ (x1 : Int32) (x2 : Int32) (x3 : Int32) (w : gW), zok eI (k18 x1 x2 x3 w) Q → Gz l m_La_numberAt 4 18 [(0, .ref 19), (1, .int x1), (2, .int x2), (3, .int x3)] [] w Q) (x1 : Int32) (x2 : Int32) (x3 : Int32) (w : gW) (h : zok eI (f_La_numberAt_b18_s k18 x1 x2 x3 w) Q) : Gz l m_La_numberAt 4 18 [(0, .ref 19), (1, .int x1), (2, .int x2), (3, .int x3)] [] w Q := by
  unfold f_La_numberAt_b18_s at h
  refine Gz.iload_n (q := 3) (pc' := 19) (by decide +kernel) rfl 3 rfl ?_
  refine Gz.aload_n (q := 0) (pc' := 20) (by decide +kernel) rfl 0 rfl ?_
  refine Gz.getI (pc' := 23) (j := 5) fd_La_28 sh_19 rfl (by decide +kernel) rfl ?_
  refine Gz.icmp_ge (off := 21) (tgt := 44) (pc' := 26) (by decide +kernel) (by decide) rfl (fun c1 => ?_) (fun c1 => ?_)
  · have h := zok_t c1 h
    refine Gz.iload_n (q := 2) (pc' := 45) (by decide +kernel) rfl 2 rfl ?_
    exact Gz.ireturn (by decide +kernel) rfl (zok_sI h)
  · have h := zok_f c1 h
    refine Gz.iload_n (q := 2) (pc' := 27) (by decide +kernel) rfl 2 rfl ?_
    refine Gz.bipush (n := 10) (v := (10 : Int32)) (pc' := 29) (by decide +kernel) rfl rfl ?_
    refine Gz.imul (pc' := 30) (by decide +kernel) rfl ?_
    refine Gz.aload_n (q := 0) (pc' := 31) (by decide +kernel) rfl 0 rfl ?_
    refine Gz.iload_n (q := 1) (pc' := 32) (by decide +kernel) rfl 1 rfl ?_
    refine Gz.iload_n (q := 3) (pc' := 33) (by decide +kernel) rfl 3 rfl ?_
    refine Gz.callVI (st := [.int (x2 * (10 : Int32))]) (b := 19) (pc' := 36) [.int x1, .int x3] (g_La_dayAt x1 x3 w) h ok_m_La_dayAt lk_La_49 sh_19 rfl rfl rfl (Nat.le_of_ble_eq_true rfl) (Nat.le_of_ble_eq_true rfl) (Nat.le_of_ble_eq_true rfl) (by decide +kernel) rfl (fun v2 w3 h => ?_)
    refine Gz.iadd (pc' := 37) (by decide +kernel) rfl ?_
    refine Gz.nmI (fun v4 e5 => ?_)
    have h := zok_l e5 h
    refine Gz.istore_n (q := 2) (pc' := 38) (L' := [(2, .int v4), (0, .ref 19), (1, .int x1), (3, .int x3)]) (by decide +kernel) rfl (Nat.le_of_ble_eq_true rfl) rfl ?_
    obtain ⟨v6, e7⟩ : ∃ y : Int32, y = x3 + (1 : Int32) := ⟨_, rfl⟩
    have h := zok_l e7 h
    refine Gz.iinc (i := 3) (n := 1) (pc' := 41) (L' := [(3, .int v6), (2, .int v4), (0, .ref 19), (1, .int x1)]) v6 (by decide +kernel) rfl 3 rfl (by rw [e7]; rfl) (Nat.le_of_ble_eq_true rfl) rfl ?_
    refine Gz.goto (off := -23) (tgt := 18) (by decide +kernel) (by decide) ?_
    refine Gz.sub (L' := [(0, .ref 19), (1, .int x1), (2, .int v4), (3, .int v6)]) [2, 3, 1, 0] rfl ?_
    exact hk18 x1 v4 v6 w3 h
theorem g_La_numberAt_b18 {l : Launch} {Q : Option Value → gW → Prop} (x1 : Int32) (x2 : Int32) (x3 : Int32) (w : gW) (h : zok eI (f_La_numberAt_b18 x1 x2 x3 w) Q) : Gz l m_La_numberAt 4 18 [(0, .ref 19), (1, .int x1), (2, .int x2), (3, .int x3)] [] w Q := by
  have key : ∀ (n : Nat) (x1 : Int32) (x2 : Int32) (x3 : Int32) (w : gW), zok eI (zfx (fun _ _ _ _ => none) (f_La_numberAt_b18_s) n x1 x2 x3 w) Q → Gz l m_La_numberAt 4 18 [(0, .ref 19), (1, .int x1), (2, .int x2), (3, .int x3)] [] w Q := by
    intro n
    induction n with
    | zero => intro x1 x2 x3 w h; exact zok_n h
    | succ n ih => intro x1 x2 x3 w h; exact g_La_numberAt_b18_s _ ih x1 x2 x3 w h
  exact key zFU x1 x2 x3 w h
theorem g_La_numberAt {l : Launch} (a1 : Int32) (w : gW) : gCt l m_La_numberAt 4 [.ref 19, .int a1] w eI (f_La_numberAt a1 w) := by
  intro Q h
  unfold f_La_numberAt at h
  show Gz l m_La_numberAt 4 0 [(0, .ref 19), (1, .int a1)] [] w Q
  refine Gz.iload_n (q := 1) (pc' := 1) (by decide +kernel) rfl 1 rfl ?_
  refine Gz.if_lt (off := 11) (tgt := 12) (pc' := 4) (by decide +kernel) (by decide) rfl (fun c1 => ?_) (fun c1 => ?_)
  · have h := zok_t c1 h
    refine Gz.iconst (n := -1) (v := (-1 : Int32)) (pc' := 13) (by decide +kernel) rfl rfl ?_
    exact Gz.ireturn (by decide +kernel) rfl (zok_sI h)
  · have h := zok_f c1 h
    refine Gz.iload_n (q := 1) (pc' := 5) (by decide +kernel) rfl 1 rfl ?_
    refine Gz.aload_n (q := 0) (pc' := 6) (by decide +kernel) rfl 0 rfl ?_
    refine Gz.getI (pc' := 9) (j := 6) fd_La_35 sh_19 rfl (by decide +kernel) rfl ?_
    refine Gz.icmp_lt (off := 5) (tgt := 14) (pc' := 12) (by decide +kernel) (by decide) rfl (fun c2 => ?_) (fun c2 => ?_)
    · have h := zok_t c2 h
      refine Gz.iconst (n := 0) (v := (0 : Int32)) (pc' := 15) (by decide +kernel) rfl rfl ?_
      refine Gz.istore_n (q := 2) (pc' := 16) (L' := [(2, .int (0 : Int32)), (0, .ref 19), (1, .int a1)]) (by decide +kernel) rfl (Nat.le_of_ble_eq_true rfl) rfl ?_
      refine Gz.iconst (n := 0) (v := (0 : Int32)) (pc' := 17) (by decide +kernel) rfl rfl ?_
      refine Gz.istore_n (q := 3) (pc' := 18) (L' := [(3, .int (0 : Int32)), (2, .int (0 : Int32)), (0, .ref 19), (1, .int a1)]) (by decide +kernel) rfl (Nat.le_of_ble_eq_true rfl) rfl ?_
      refine Gz.sub (L' := [(0, .ref 19), (1, .int a1), (2, .int (0 : Int32)), (3, .int (0 : Int32))]) [2, 3, 1, 0] rfl ?_
      exact g_La_numberAt_b18 a1 (0 : Int32) (0 : Int32) w h
    · have h := zok_f c2 h
      refine Gz.iconst (n := -1) (v := (-1 : Int32)) (pc' := 13) (by decide +kernel) rfl rfl ?_
      exact Gz.ireturn (by decide +kernel) rfl (zok_sI h)
def f_Co_possible (w : gW) : Option (Nat × gW) :=
some (75, w)
theorem g_Co_possible {l : Launch} (w : gW) : gCt l m_Co_possible 1 [.ref 73] w eR (f_Co_possible w) := by
  intro Q h
  unfold f_Co_possible at h
  show Gz l m_Co_possible 1 0 [(0, .ref 73)] [] w Q
  refine Gz.aload_n (q := 0) (pc' := 1) (by decide +kernel) rfl 0 rfl ?_
  refine Gz.getR (pc' := 4) (j := 4) 75 fd_Co_15 sh_73 rfl (by decide +kernel) rfl ?_
  exact Gz.areturn (by decide +kernel) rfl (zok_sR h)
def f_X_lives_b33 (x2 : Int32) (s0 : Nat) (w : gW) : Option (Int32 × gW) :=
if x2 = (-1 : Int32) then
(zb (f_La_words w) (fun v8 w9 =>
zb (f_Ro_size s0 v8 w9) (fun v10 w11 =>
some (v10, w11))))
else
(zb (f_La_words w) (fun v2 w3 =>
zb (f_Ro_pick s0 v2 x2 w3) (fun v4 w5 =>
zb (f_La_numberAt v4 w5) (fun v6 w7 =>
some (v6, w7)))))
def f_X_lives (a1 : Int32) (a2 : Int32) (w : gW) : Option (Int32 × gW) :=
zb (f_La_isThere w) (fun v1 w2 =>
if v1 = 0 then
(some ((-1 : Int32), w2))
else
(if a1 = 0 then
(zb (f_Co_possible w2) (fun v5 w6 =>
f_X_lives_b33 a2 v5 w6))
else
(zb (f_Co_fitting w2) (fun v7 w8 =>
f_X_lives_b33 a2 v7 w8))))
theorem g_X_lives_b33 {l : Launch} {Q : Option Value → gW → Prop} (x2 : Int32) (s0 : Nat) (w : gW) (h : zok eI (f_X_lives_b33 x2 s0 w) Q) : Gz l m_X_lives 5 33 [(0, .ref 0), (2, .int x2)] [.ref s0] w Q := by
  unfold f_X_lives_b33 at h
  refine Gz.astore_n (q := 3) (pc' := 34) (L' := [(3, .ref s0), (0, .ref 0), (2, .int x2)]) (by decide +kernel) rfl (Nat.le_of_ble_eq_true rfl) rfl ?_
  refine Gz.iload_n (q := 2) (pc' := 35) (by decide +kernel) rfl 2 rfl ?_
  refine Gz.iconst (n := -1) (v := (-1 : Int32)) (pc' := 36) (by decide +kernel) rfl rfl ?_
  refine Gz.icmp_ne (off := 17) (tgt := 53) (pc' := 39) (by decide +kernel) (by decide) rfl (fun c1 => ?_) (fun c1 => ?_)
  · have h := zok_f c1 h
    refine Gz.aload_n (q := 0) (pc' := 54) (by decide +kernel) rfl 1 rfl ?_
    refine Gz.getR (pc' := 57) (j := 3) 19 fd_X_33 sh_0 rfl (by decide +kernel) rfl ?_
    refine Gz.aload_n (q := 3) (pc' := 58) (by decide +kernel) rfl 0 rfl ?_
    refine Gz.aload_n (q := 0) (pc' := 59) (by decide +kernel) rfl 1 rfl ?_
    refine Gz.getR (pc' := 62) (j := 3) 19 fd_X_33 sh_0 rfl (by decide +kernel) rfl ?_
    refine Gz.callVI (st := [.ref s0, .ref 19]) (b := 19) (pc' := 65) [] (g_La_words w) h ok_m_La_words lk_X_187 sh_19 rfl rfl rfl (Nat.le_of_ble_eq_true rfl) (Nat.le_of_ble_eq_true rfl) (Nat.le_of_ble_eq_true rfl) (by decide +kernel) rfl (fun v2 w3 h => ?_)
    refine Gz.iload_n (q := 2) (pc' := 66) (by decide +kernel) rfl 2 rfl ?_
    refine Gz.callSI (st := [.ref 19]) (pc' := 69) [.ref s0, .int v2, .int x2] (g_Ro_pick s0 v2 x2 w3) h ok_m_Ro_pick lk_X_195 rfl (Nat.le_of_ble_eq_true rfl) (Nat.le_of_ble_eq_true rfl) (Nat.le_of_ble_eq_true rfl) (by decide +kernel) rfl (fun v4 w5 h => ?_)
    refine Gz.callVI (st := []) (b := 19) (pc' := 72) [.int v4] (g_La_numberAt v4 w5) h ok_m_La_numberAt lk_X_199 sh_19 rfl rfl rfl (Nat.le_of_ble_eq_true rfl) (Nat.le_of_ble_eq_true rfl) (Nat.le_of_ble_eq_true rfl) (by decide +kernel) rfl (fun v6 w7 h => ?_)
    exact Gz.ireturn (by decide +kernel) rfl (zok_sI h)
  · have h := zok_t c1 h
    refine Gz.aload_n (q := 3) (pc' := 40) (by decide +kernel) rfl 0 rfl ?_
    refine Gz.aload_n (q := 0) (pc' := 41) (by decide +kernel) rfl 1 rfl ?_
    refine Gz.getR (pc' := 44) (j := 3) 19 fd_X_33 sh_0 rfl (by decide +kernel) rfl ?_
    refine Gz.callVI (st := [.ref s0]) (b := 19) (pc' := 47) [] (g_La_words w) h ok_m_La_words lk_X_187 sh_19 rfl rfl rfl (Nat.le_of_ble_eq_true rfl) (Nat.le_of_ble_eq_true rfl) (Nat.le_of_ble_eq_true rfl) (by decide +kernel) rfl (fun v8 w9 h => ?_)
    refine Gz.callSI (st := []) (pc' := 50) [.ref s0, .int v8] (g_Ro_size s0 v8 w9) h ok_m_Ro_size lk_X_190 rfl (Nat.le_of_ble_eq_true rfl) (Nat.le_of_ble_eq_true rfl) (Nat.le_of_ble_eq_true rfl) (by decide +kernel) rfl (fun v10 w11 h => ?_)
    refine Gz.goto (off := 22) (tgt := 72) (by decide +kernel) (by decide) ?_
    exact Gz.ireturn (by decide +kernel) rfl (zok_sI h)
theorem g_X_lives {l : Launch} (a1 : Int32) (a2 : Int32) (w : gW) : gCt l m_X_lives 5 [.ref 0, .int a1, .int a2] w eI (f_X_lives a1 a2 w) := by
  intro Q h
  unfold f_X_lives at h
  show Gz l m_X_lives 5 0 [(0, .ref 0), (1, .int a1), (2, .int a2)] [] w Q
  refine Gz.aload_n (q := 0) (pc' := 1) (by decide +kernel) rfl 0 rfl ?_
  refine Gz.getR (pc' := 4) (j := 3) 19 fd_X_33 sh_0 rfl (by decide +kernel) rfl ?_
  refine Gz.callVI (st := []) (b := 19) (pc' := 7) [] (g_La_isThere w) h ok_m_La_isThere lk_X_176 sh_19 rfl rfl rfl (Nat.le_of_ble_eq_true rfl) (Nat.le_of_ble_eq_true rfl) (Nat.le_of_ble_eq_true rfl) (by decide +kernel) rfl (fun v1 w2 h => ?_)
  refine Gz.if_ne (off := 5) (tgt := 12) (pc' := 10) (by decide +kernel) (by decide) rfl (fun c3 => ?_) (fun c3 => ?_)
  · have h := zok_f c3 h
    refine Gz.iload_n (q := 1) (pc' := 13) (by decide +kernel) rfl 1 rfl ?_
    refine Gz.if_eq (off := 13) (tgt := 26) (pc' := 16) (by decide +kernel) (by decide) rfl (fun c4 => ?_) (fun c4 => ?_)
    · have h := zok_t c4 h
      refine Gz.aload_n (q := 0) (pc' := 27) (by decide +kernel) rfl 0 rfl ?_
      refine Gz.getR (pc' := 30) (j := 6) 73 fd_X_52 sh_0 rfl (by decide +kernel) rfl ?_
      refine Gz.callVR (st := []) (b := 73) (pc' := 33) [] (g_Co_possible w2) h ok_m_Co_possible lk_X_184 sh_73 rfl rfl rfl (Nat.le_of_ble_eq_true rfl) (Nat.le_of_ble_eq_true rfl) (Nat.le_of_ble_eq_true rfl) (by decide +kernel) rfl (fun v5 w6 h => ?_)
      refine Gz.sub (L' := [(0, .ref 0), (2, .int a2)]) [0, 2] rfl ?_
      exact g_X_lives_b33 a2 v5 w6 h
    · have h := zok_f c4 h
      refine Gz.aload_n (q := 0) (pc' := 17) (by decide +kernel) rfl 0 rfl ?_
      refine Gz.getR (pc' := 20) (j := 6) 73 fd_X_52 sh_0 rfl (by decide +kernel) rfl ?_
      refine Gz.callVR (st := []) (b := 73) (pc' := 23) [] (g_Co_fitting w2) h ok_m_Co_fitting lk_X_180 sh_73 rfl rfl rfl (Nat.le_of_ble_eq_true rfl) (Nat.le_of_ble_eq_true rfl) (Nat.le_of_ble_eq_true rfl) (by decide +kernel) rfl (fun v7 w8 h => ?_)
      refine Gz.goto (off := 10) (tgt := 33) (by decide +kernel) (by decide) ?_
      refine Gz.sub (L' := [(0, .ref 0), (2, .int a2)]) [0, 2] rfl ?_
      exact g_X_lives_b33 a2 v7 w8 h
  · have h := zok_t c3 h
    refine Gz.iconst (n := -1) (v := (-1 : Int32)) (pc' := 11) (by decide +kernel) rfl rfl ?_
    exact Gz.ireturn (by decide +kernel) rfl (zok_sI h)
def f_La_optionOf (a1 : Int32) (a2 : Int32) (w : gW) : Option (Int32 × gW) :=
if a2 = (9 : Int32) then
(zb (f_La_options a1 w) (fun v8 w9 =>
some (v8 - (1 : Int32), w9)))
else
(zb (f_La_trait a1 (1 : Int32) w) (fun v2 w3 =>
if a2 < v2 then
(some ((-1 : Int32), w3))
else
(zb (f_La_trait a1 (2 : Int32) w3) (fun v5 w6 =>
if v5 < a2 then
(some ((-1 : Int32), w6))
else
(some (a2 - v2, w6))))))
theorem g_La_optionOf {l : Launch} (a1 : Int32) (a2 : Int32) (w : gW) : gCt l m_La_optionOf 3 [.ref 19, .int a1, .int a2] w eI (f_La_optionOf a1 a2 w) := by
  intro Q h
  unfold f_La_optionOf at h
  show Gz l m_La_optionOf 3 0 [(0, .ref 19), (1, .int a1), (2, .int a2)] [] w Q
  refine Gz.iload_n (q := 2) (pc' := 1) (by decide +kernel) rfl 2 rfl ?_
  refine Gz.bipush (n := 9) (v := (9 : Int32)) (pc' := 3) (by decide +kernel) rfl rfl ?_
  refine Gz.icmp_ne (off := 11) (tgt := 14) (pc' := 6) (by decide +kernel) (by decide) rfl (fun c1 => ?_) (fun c1 => ?_)
  · have h := zok_f c1 h
    refine Gz.aload_n (q := 0) (pc' := 15) (by decide +kernel) rfl 0 rfl ?_
    refine Gz.iload_n (q := 1) (pc' := 16) (by decide +kernel) rfl 1 rfl ?_
    refine Gz.iconst (n := 1) (v := (1 : Int32)) (pc' := 17) (by decide +kernel) rfl rfl ?_
    refine Gz.callVI (st := []) (b := 19) (pc' := 20) [.int a1, .int (1 : Int32)] (g_La_trait a1 (1 : Int32) w) h ok_m_La_trait lk_La_42 sh_19 rfl rfl rfl (Nat.le_of_ble_eq_true rfl) (Nat.le_of_ble_eq_true rfl) (Nat.le_of_ble_eq_true rfl) (by decide +kernel) rfl (fun v2 w3 h => ?_)
    refine Gz.istore_n (q := 3) (pc' := 21) (L' := [(3, .int v2), (0, .ref 19), (1, .int a1), (2, .int a2)]) (by decide +kernel) rfl (Nat.le_of_ble_eq_true rfl) rfl ?_
    refine Gz.iload_n (q := 2) (pc' := 22) (by decide +kernel) rfl 3 rfl ?_
    refine Gz.iload_n (q := 3) (pc' := 23) (by decide +kernel) rfl 0 rfl ?_
    refine Gz.icmp_lt (off := 19) (tgt := 42) (pc' := 26) (by decide +kernel) (by decide) rfl (fun c4 => ?_) (fun c4 => ?_)
    · have h := zok_t c4 h
      refine Gz.iconst (n := -1) (v := (-1 : Int32)) (pc' := 43) (by decide +kernel) rfl rfl ?_
      exact Gz.ireturn (by decide +kernel) rfl (zok_sI h)
    · have h := zok_f c4 h
      refine Gz.iload_n (q := 2) (pc' := 27) (by decide +kernel) rfl 3 rfl ?_
      refine Gz.aload_n (q := 0) (pc' := 28) (by decide +kernel) rfl 1 rfl ?_
      refine Gz.iload_n (q := 1) (pc' := 29) (by decide +kernel) rfl 2 rfl ?_
      refine Gz.iconst (n := 2) (v := (2 : Int32)) (pc' := 30) (by decide +kernel) rfl rfl ?_
      refine Gz.callVI (st := [.int a2]) (b := 19) (pc' := 33) [.int a1, .int (2 : Int32)] (g_La_trait a1 (2 : Int32) w3) h ok_m_La_trait lk_La_42 sh_19 rfl rfl rfl (Nat.le_of_ble_eq_true rfl) (Nat.le_of_ble_eq_true rfl) (Nat.le_of_ble_eq_true rfl) (by decide +kernel) rfl (fun v5 w6 h => ?_)
      refine Gz.icmp_gt (off := 9) (tgt := 42) (pc' := 36) (by decide +kernel) (by decide) rfl (fun c7 => ?_) (fun c7 => ?_)
      · have h := zok_t c7 h
        refine Gz.iconst (n := -1) (v := (-1 : Int32)) (pc' := 43) (by decide +kernel) rfl rfl ?_
        exact Gz.ireturn (by decide +kernel) rfl (zok_sI h)
      · have h := zok_f c7 h
        refine Gz.iload_n (q := 2) (pc' := 37) (by decide +kernel) rfl 3 rfl ?_
        refine Gz.iload_n (q := 3) (pc' := 38) (by decide +kernel) rfl 0 rfl ?_
        refine Gz.isub (pc' := 39) (by decide +kernel) rfl ?_
        refine Gz.goto (off := 4) (tgt := 43) (by decide +kernel) (by decide) ?_
        exact Gz.ireturn (by decide +kernel) rfl (zok_sI h)
  · have h := zok_t c1 h
    refine Gz.aload_n (q := 0) (pc' := 7) (by decide +kernel) rfl 0 rfl ?_
    refine Gz.iload_n (q := 1) (pc' := 8) (by decide +kernel) rfl 1 rfl ?_
    refine Gz.callVI (st := []) (b := 19) (pc' := 11) [.int a1] (g_La_options a1 w) h ok_m_La_options lk_La_77 sh_19 rfl rfl rfl (Nat.le_of_ble_eq_true rfl) (Nat.le_of_ble_eq_true rfl) (Nat.le_of_ble_eq_true rfl) (by decide +kernel) rfl (fun v8 w9 h => ?_)
    refine Gz.iconst (n := 1) (v := (1 : Int32)) (pc' := 12) (by decide +kernel) rfl rfl ?_
    refine Gz.isub (pc' := 13) (by decide +kernel) rfl ?_
    exact Gz.ireturn (by decide +kernel) rfl (zok_sI h)
def f_La_placeOf_b25_s (k25 : Int32 → Int32 → Int32 → gW → Option (Int32 × gW)) (x2 : Int32) (x3 : Int32) (x4 : Int32) (w : gW) : Option (Int32 × gW) :=
if x4 < 0 then
(if x3 = 0 then
(some (x2, w))
else
(some ((-1 : Int32), w)))
else
(zb (f_La_optionOf x4 (x3 - x3 / (10 : Int32) * (10 : Int32)) w) (fun v3 w4 =>
if v3 = (-1 : Int32) then
(some ((-1 : Int32), w4))
else
(zb (f_La_stride x4 w4) (fun v6 w7 =>
zl (x2 + (v3 * v6)) (fun v8 =>
zl (x3 / (10 : Int32)) (fun v10 =>
zl (x4 + (-1 : Int32)) (fun v12 =>
k25 v8 v10 v12 w7)))))))
def f_La_placeOf_b25 : Int32 → Int32 → Int32 → gW → Option (Int32 × gW) := zfx (fun _ _ _ _ => none) (f_La_placeOf_b25_s) zFU
def f_La_placeOf (a1 : Int32) (w : gW) : Option (Int32 × gW) :=
if a1 < 0 then
(some ((-1 : Int32), w))
else
(if (w.1 19 5) = 0 then
(some ((-1 : Int32), w))
else
(zl ((w.1 19 5) - (1 : Int32)) (fun v3 =>
f_La_placeOf_b25 (0 : Int32) a1 v3 w)))
theorem g_La_placeOf_b25_s {l : Launch} {Q : Option Value → gW → Prop} (k25 : Int32 → Int32 → Int32 → gW → Option (Int32 × gW)) (hk25 : ∀ (x2 : Int32) (x3 : Int32) (x4 : Int32) (w : gW), zok eI (k25 x2 x3 x4 w) Q → Gz l m_La_placeOf 4 25 [(0, .ref 19), (2, .int x2), (3, .int x3), (4, .int x4)] [] w Q) (x2 : Int32) (x3 : Int32) (x4 : Int32) (w : gW) (h : zok eI (f_La_placeOf_b25_s k25 x2 x3 x4 w) Q) : Gz l m_La_placeOf 4 25 [(0, .ref 19), (2, .int x2), (3, .int x3), (4, .int x4)] [] w Q := by
  unfold f_La_placeOf_b25_s at h
  refine Gz.iload (i := 4) (pc' := 27) (by decide +kernel) rfl 3 rfl ?_
  refine Gz.if_lt (off := 46) (tgt := 73) (pc' := 30) (by decide +kernel) (by decide) rfl (fun c1 => ?_) (fun c1 => ?_)
  · have h := zok_t c1 h
    refine Gz.iload_n (q := 3) (pc' := 74) (by decide +kernel) rfl 2 rfl ?_
    refine Gz.if_ne (off := 7) (tgt := 81) (pc' := 77) (by decide +kernel) (by decide) rfl (fun c2 => ?_) (fun c2 => ?_)
    · have h := zok_f c2 h
      refine Gz.iconst (n := -1) (v := (-1 : Int32)) (pc' := 82) (by decide +kernel) rfl rfl ?_
      exact Gz.ireturn (by decide +kernel) rfl (zok_sI h)
    · have h := zok_t c2 h
      refine Gz.iload_n (q := 2) (pc' := 78) (by decide +kernel) rfl 1 rfl ?_
      refine Gz.goto (off := 4) (tgt := 82) (by decide +kernel) (by decide) ?_
      exact Gz.ireturn (by decide +kernel) rfl (zok_sI h)
  · have h := zok_f c1 h
    refine Gz.aload_n (q := 0) (pc' := 31) (by decide +kernel) rfl 0 rfl ?_
    refine Gz.iload (i := 4) (pc' := 33) (by decide +kernel) rfl 3 rfl ?_
    refine Gz.iload_n (q := 3) (pc' := 34) (by decide +kernel) rfl 2 rfl ?_
    refine Gz.bipush (n := 10) (v := (10 : Int32)) (pc' := 36) (by decide +kernel) rfl rfl ?_
    refine Gz.irem (pc' := 37) (by decide +kernel) rfl (by decide) ?_
    refine Gz.callVI (st := []) (b := 19) (pc' := 40) [.int x4, .int (x3 - x3 / (10 : Int32) * (10 : Int32))] (g_La_optionOf x4 (x3 - x3 / (10 : Int32) * (10 : Int32)) w) h ok_m_La_optionOf lk_La_52 sh_19 rfl rfl rfl (Nat.le_of_ble_eq_true rfl) (Nat.le_of_ble_eq_true rfl) (Nat.le_of_ble_eq_true rfl) (by decide +kernel) rfl (fun v3 w4 h => ?_)
    refine Gz.istore (i := 5) (pc' := 42) (L' := [(5, .int v3), (0, .ref 19), (2, .int x2), (3, .int x3), (4, .int x4)]) (by decide +kernel) rfl (Nat.le_of_ble_eq_true rfl) rfl ?_
    refine Gz.iload (i := 5) (pc' := 44) (by decide +kernel) rfl 0 rfl ?_
    refine Gz.iconst (n := -1) (v := (-1 : Int32)) (pc' := 45) (by decide +kernel) rfl rfl ?_
    refine Gz.icmp_ne (off := 5) (tgt := 50) (pc' := 48) (by decide +kernel) (by decide) rfl (fun c5 => ?_) (fun c5 => ?_)
    · have h := zok_f c5 h
      refine Gz.iload_n (q := 2) (pc' := 51) (by decide +kernel) rfl 2 rfl ?_
      refine Gz.iload (i := 5) (pc' := 53) (by decide +kernel) rfl 0 rfl ?_
      refine Gz.aload_n (q := 0) (pc' := 54) (by decide +kernel) rfl 1 rfl ?_
      refine Gz.iload (i := 4) (pc' := 56) (by decide +kernel) rfl 4 rfl ?_
      refine Gz.callVI (st := [.int v3, .int x2]) (b := 19) (pc' := 59) [.int x4] (g_La_stride x4 w4) h ok_m_La_stride lk_La_55 sh_19 rfl rfl rfl (Nat.le_of_ble_eq_true rfl) (Nat.le_of_ble_eq_true rfl) (Nat.le_of_ble_eq_true rfl) (by decide +kernel) rfl (fun v6 w7 h => ?_)
      refine Gz.imul (pc' := 60) (by decide +kernel) rfl ?_
      refine Gz.iadd (pc' := 61) (by decide +kernel) rfl ?_
      refine Gz.nmI (fun v8 e9 => ?_)
      have h := zok_l e9 h
      refine Gz.istore_n (q := 2) (pc' := 62) (L' := [(2, .int v8), (5, .int v3), (0, .ref 19), (3, .int x3), (4, .int x4)]) (by decide +kernel) rfl (Nat.le_of_ble_eq_true rfl) rfl ?_
      refine Gz.iload_n (q := 3) (pc' := 63) (by decide +kernel) rfl 3 rfl ?_
      refine Gz.bipush (n := 10) (v := (10 : Int32)) (pc' := 65) (by decide +kernel) rfl rfl ?_
      refine Gz.idiv (pc' := 66) (by decide +kernel) rfl (by decide) ?_
      refine Gz.nmI (fun v10 e11 => ?_)
      have h := zok_l e11 h
      refine Gz.istore_n (q := 3) (pc' := 67) (L' := [(3, .int v10), (2, .int v8), (5, .int v3), (0, .ref 19), (4, .int x4)]) (by decide +kernel) rfl (Nat.le_of_ble_eq_true rfl) rfl ?_
      obtain ⟨v12, e13⟩ : ∃ y : Int32, y = x4 + (-1 : Int32) := ⟨_, rfl⟩
      have h := zok_l e13 h
      refine Gz.iinc (i := 4) (n := -1) (pc' := 70) (L' := [(4, .int v12), (3, .int v10), (2, .int v8), (5, .int v3), (0, .ref 19)]) v12 (by decide +kernel) rfl 4 rfl (by rw [e13]; rfl) (Nat.le_of_ble_eq_true rfl) rfl ?_
      refine Gz.goto (off := -45) (tgt := 25) (by decide +kernel) (by decide) ?_
      refine Gz.sub (L' := [(0, .ref 19), (2, .int v8), (3, .int v10), (4, .int v12)]) [4, 2, 1, 0] rfl ?_
      exact hk25 v8 v10 v12 w7 h
    · have h := zok_t c5 h
      refine Gz.iconst (n := -1) (v := (-1 : Int32)) (pc' := 49) (by decide +kernel) rfl rfl ?_
      exact Gz.ireturn (by decide +kernel) rfl (zok_sI h)
theorem g_La_placeOf_b25 {l : Launch} {Q : Option Value → gW → Prop} (x2 : Int32) (x3 : Int32) (x4 : Int32) (w : gW) (h : zok eI (f_La_placeOf_b25 x2 x3 x4 w) Q) : Gz l m_La_placeOf 4 25 [(0, .ref 19), (2, .int x2), (3, .int x3), (4, .int x4)] [] w Q := by
  have key : ∀ (n : Nat) (x2 : Int32) (x3 : Int32) (x4 : Int32) (w : gW), zok eI (zfx (fun _ _ _ _ => none) (f_La_placeOf_b25_s) n x2 x3 x4 w) Q → Gz l m_La_placeOf 4 25 [(0, .ref 19), (2, .int x2), (3, .int x3), (4, .int x4)] [] w Q := by
    intro n
    induction n with
    | zero => intro x2 x3 x4 w h; exact zok_n h
    | succ n ih => intro x2 x3 x4 w h; exact g_La_placeOf_b25_s _ ih x2 x3 x4 w h
  exact key zFU x2 x3 x4 w h
theorem g_La_placeOf {l : Launch} (a1 : Int32) (w : gW) : gCt l m_La_placeOf 4 [.ref 19, .int a1] w eI (f_La_placeOf a1 w) := by
  intro Q h
  unfold f_La_placeOf at h
  show Gz l m_La_placeOf 4 0 [(0, .ref 19), (1, .int a1)] [] w Q
  refine Gz.iload_n (q := 1) (pc' := 1) (by decide +kernel) rfl 1 rfl ?_
  refine Gz.if_lt (off := 10) (tgt := 11) (pc' := 4) (by decide +kernel) (by decide) rfl (fun c1 => ?_) (fun c1 => ?_)
  · have h := zok_t c1 h
    refine Gz.iconst (n := -1) (v := (-1 : Int32)) (pc' := 12) (by decide +kernel) rfl rfl ?_
    exact Gz.ireturn (by decide +kernel) rfl (zok_sI h)
  · have h := zok_f c1 h
    refine Gz.aload_n (q := 0) (pc' := 5) (by decide +kernel) rfl 0 rfl ?_
    refine Gz.getI (pc' := 8) (j := 5) fd_La_28 sh_19 rfl (by decide +kernel) rfl ?_
    refine Gz.if_ne (off := 5) (tgt := 13) (pc' := 11) (by decide +kernel) (by decide) rfl (fun c2 => ?_) (fun c2 => ?_)
    · have h := zok_f c2 h
      refine Gz.iconst (n := 0) (v := (0 : Int32)) (pc' := 14) (by decide +kernel) rfl rfl ?_
      refine Gz.istore_n (q := 2) (pc' := 15) (L' := [(2, .int (0 : Int32)), (0, .ref 19), (1, .int a1)]) (by decide +kernel) rfl (Nat.le_of_ble_eq_true rfl) rfl ?_
      refine Gz.iload_n (q := 1) (pc' := 16) (by decide +kernel) rfl 2 rfl ?_
      refine Gz.istore_n (q := 3) (pc' := 17) (L' := [(3, .int a1), (2, .int (0 : Int32)), (0, .ref 19), (1, .int a1)]) (by decide +kernel) rfl (Nat.le_of_ble_eq_true rfl) rfl ?_
      refine Gz.aload_n (q := 0) (pc' := 18) (by decide +kernel) rfl 2 rfl ?_
      refine Gz.getI (pc' := 21) (j := 5) fd_La_28 sh_19 rfl (by decide +kernel) rfl ?_
      refine Gz.iconst (n := 1) (v := (1 : Int32)) (pc' := 22) (by decide +kernel) rfl rfl ?_
      refine Gz.isub (pc' := 23) (by decide +kernel) rfl ?_
      refine Gz.nmI (fun v3 e4 => ?_)
      have h := zok_l e4 h
      refine Gz.istore (i := 4) (pc' := 25) (L' := [(4, .int v3), (3, .int a1), (2, .int (0 : Int32)), (0, .ref 19), (1, .int a1)]) (by decide +kernel) rfl (Nat.le_of_ble_eq_true rfl) rfl ?_
      refine Gz.sub (L' := [(0, .ref 19), (2, .int (0 : Int32)), (3, .int a1), (4, .int v3)]) [3, 2, 1, 0] rfl ?_
      exact g_La_placeOf_b25 (0 : Int32) a1 v3 w h
    · have h := zok_t c2 h
      refine Gz.iconst (n := -1) (v := (-1 : Int32)) (pc' := 12) (by decide +kernel) rfl rfl ?_
      exact Gz.ireturn (by decide +kernel) rfl (zok_sI h)
def f_X_holds (a1 : Int32) (a2 : Int32) (a3 : Int32) (w : gW) : Option (Int32 × gW) :=
zb (f_La_placeOf a3 w) (fun v1 w2 =>
zb (f_X_isSuch a1 a2 w2) (fun v3 w4 =>
if v3 = 0 then
(some ((-1 : Int32), w4))
else
(if v1 = (-1 : Int32) then
(some ((-1 : Int32), w4))
else
(zb (f_An_allSworn w4) (fun v7 w8 =>
zb (f_Co_wordOf a1 a2 v7 (v1 >>> ((6 : Int32) &&& 31)) w8) (fun v9 w10 =>
some (((zusL v9 (v1 &&& (63 : Int32))) &&& (1 : Int64)).toInt32, w10)))))))
theorem g_X_holds {l : Launch} (a1 : Int32) (a2 : Int32) (a3 : Int32) (w : gW) : gCt l m_X_holds 5 [.ref 0, .int a1, .int a2, .int a3] w eI (f_X_holds a1 a2 a3 w) := by
  intro Q h
  unfold f_X_holds at h
  show Gz l m_X_holds 5 0 [(0, .ref 0), (1, .int a1), (2, .int a2), (3, .int a3)] [] w Q
  refine Gz.aload_n (q := 0) (pc' := 1) (by decide +kernel) rfl 0 rfl ?_
  refine Gz.getR (pc' := 4) (j := 3) 19 fd_X_33 sh_0 rfl (by decide +kernel) rfl ?_
  refine Gz.iload_n (q := 3) (pc' := 5) (by decide +kernel) rfl 3 rfl ?_
  refine Gz.callVI (st := []) (b := 19) (pc' := 8) [.int a3] (g_La_placeOf a3 w) h ok_m_La_placeOf lk_X_203 sh_19 rfl rfl rfl (Nat.le_of_ble_eq_true rfl) (Nat.le_of_ble_eq_true rfl) (Nat.le_of_ble_eq_true rfl) (by decide +kernel) rfl (fun v1 w2 h => ?_)
  refine Gz.istore (i := 4) (pc' := 10) (L' := [(4, .int v1), (0, .ref 0), (1, .int a1), (2, .int a2), (3, .int a3)]) (by decide +kernel) rfl (Nat.le_of_ble_eq_true rfl) rfl ?_
  refine Gz.aload_n (q := 0) (pc' := 11) (by decide +kernel) rfl 1 rfl ?_
  refine Gz.iload_n (q := 1) (pc' := 12) (by decide +kernel) rfl 2 rfl ?_
  refine Gz.iload_n (q := 2) (pc' := 13) (by decide +kernel) rfl 3 rfl ?_
  refine Gz.callVI (st := []) (b := 0) (pc' := 16) [.int a1, .int a2] (g_X_isSuch a1 a2 w2) h ok_m_X_isSuch lk_X_146 sh_0 rfl rfl rfl (Nat.le_of_ble_eq_true rfl) (Nat.le_of_ble_eq_true rfl) (Nat.le_of_ble_eq_true rfl) (by decide +kernel) rfl (fun v3 w4 h => ?_)
  refine Gz.if_eq (off := 9) (tgt := 25) (pc' := 19) (by decide +kernel) (by decide) rfl (fun c5 => ?_) (fun c5 => ?_)
  · have h := zok_t c5 h
    refine Gz.iconst (n := -1) (v := (-1 : Int32)) (pc' := 26) (by decide +kernel) rfl rfl ?_
    exact Gz.ireturn (by decide +kernel) rfl (zok_sI h)
  · have h := zok_f c5 h
    refine Gz.iload (i := 4) (pc' := 21) (by decide +kernel) rfl 0 rfl ?_
    refine Gz.iconst (n := -1) (v := (-1 : Int32)) (pc' := 22) (by decide +kernel) rfl rfl ?_
    refine Gz.icmp_ne (off := 5) (tgt := 27) (pc' := 25) (by decide +kernel) (by decide) rfl (fun c6 => ?_) (fun c6 => ?_)
    · have h := zok_f c6 h
      refine Gz.aload_n (q := 0) (pc' := 28) (by decide +kernel) rfl 1 rfl ?_
      refine Gz.getR (pc' := 31) (j := 6) 73 fd_X_52 sh_0 rfl (by decide +kernel) rfl ?_
      refine Gz.iload_n (q := 1) (pc' := 32) (by decide +kernel) rfl 2 rfl ?_
      refine Gz.iload_n (q := 2) (pc' := 33) (by decide +kernel) rfl 3 rfl ?_
      refine Gz.aload_n (q := 0) (pc' := 34) (by decide +kernel) rfl 1 rfl ?_
      refine Gz.getR (pc' := 37) (j := 4) 59 fd_X_40 sh_0 rfl (by decide +kernel) rfl ?_
      refine Gz.callVI (st := [.int a2, .int a1, .ref 73]) (b := 59) (pc' := 40) [] (g_An_allSworn w4) h ok_m_An_allSworn lk_X_206 sh_59 rfl rfl rfl (Nat.le_of_ble_eq_true rfl) (Nat.le_of_ble_eq_true rfl) (Nat.le_of_ble_eq_true rfl) (by decide +kernel) rfl (fun v7 w8 h => ?_)
      refine Gz.iload (i := 4) (pc' := 42) (by decide +kernel) rfl 0 rfl ?_
      refine Gz.bipush (n := 6) (v := (6 : Int32)) (pc' := 44) (by decide +kernel) rfl rfl ?_
      refine Gz.ishr (pc' := 45) (by decide +kernel) rfl ?_
      refine Gz.callVJ (st := []) (b := 73) (pc' := 48) [.int a1, .int a2, .int v7, .int (v1 >>> ((6 : Int32) &&& 31))] (g_Co_wordOf a1 a2 v7 (v1 >>> ((6 : Int32) &&& 31)) w8) h ok_m_Co_wordOf lk_X_209 sh_73 rfl rfl rfl (Nat.le_of_ble_eq_true rfl) (Nat.le_of_ble_eq_true rfl) (Nat.le_of_ble_eq_true rfl) (by decide +kernel) rfl (fun v9 w10 h => ?_)
      refine Gz.lstore (i := 5) (pc' := 50) (L' := [(5, .long v9), (4, .int v1), (0, .ref 0), (1, .int a1), (2, .int a2), (3, .int a3)]) (by decide +kernel) rfl (Nat.le_of_ble_eq_true rfl) rfl ?_
      refine Gz.lload (i := 5) (pc' := 52) (by decide +kernel) rfl 0 rfl ?_
      refine Gz.iload (i := 4) (pc' := 54) (by decide +kernel) rfl 1 rfl ?_
      refine Gz.bipush (n := 63) (v := (63 : Int32)) (pc' := 56) (by decide +kernel) rfl rfl ?_
      refine Gz.iand (pc' := 57) (by decide +kernel) rfl ?_
      refine Gz.lushr (pc' := 58) (by decide +kernel) rfl ?_
      refine Gz.lconst (n := 1) (v := (1 : Int64)) (pc' := 59) (by decide +kernel) rfl rfl ?_
      refine Gz.land (pc' := 60) (by decide +kernel) rfl ?_
      refine Gz.l2i (pc' := 61) (by decide +kernel) rfl ?_
      exact Gz.ireturn (by decide +kernel) rfl (zok_sI h)
    · have h := zok_t c6 h
      refine Gz.iconst (n := -1) (v := (-1 : Int32)) (pc' := 26) (by decide +kernel) rfl rfl ?_
      exact Gz.ireturn (by decide +kernel) rfl (zok_sI h)
def f_Ro_word_b16 (w : gW) : Option (Int64 × gW) :=
some ((0 : Int64), w)
def f_Ro_word (a0 : Nat) (a1 : Int32) (w : gW) : Option (Int64 × gW) :=
if a1 < 0 then
(f_Ro_word_b16 w)
else
(if (g_sh a0).1 = 2 then
if (nI (g_len 2 a0)) ≤ a1 then
(f_Ro_word_b16 w)
else
(if inb a1 (g_len 2 a0) then
some (w.2 a0 (ix a1), w)
else none)
else none)
theorem g_Ro_word_b16 {l : Launch} {Q : Option Value → gW → Prop} (w : gW) (h : zok eJ (f_Ro_word_b16 w) Q) : Gz l m_Ro_word 1 16 [] [] w Q := by
  unfold f_Ro_word_b16 at h
  refine Gz.lconst (n := 0) (v := (0 : Int64)) (pc' := 17) (by decide +kernel) rfl rfl ?_
  exact Gz.lreturn (by decide +kernel) rfl (zok_sJ h)
theorem g_Ro_word {l : Launch} (a0 : Nat) (a1 : Int32) (w : gW) : gCt l m_Ro_word 1 [.ref a0, .int a1] w eJ (f_Ro_word a0 a1 w) := by
  intro Q h
  unfold f_Ro_word at h
  show Gz l m_Ro_word 1 0 [(0, .ref a0), (1, .int a1)] [] w Q
  refine Gz.iload_n (q := 1) (pc' := 1) (by decide +kernel) rfl 1 rfl ?_
  refine Gz.if_lt (off := 15) (tgt := 16) (pc' := 4) (by decide +kernel) (by decide) rfl (fun c1 => ?_) (fun c1 => ?_)
  · have h := zok_t c1 h
    refine Gz.sub (L' := []) [] rfl ?_
    exact g_Ro_word_b16 w h
  · have h := zok_f c1 h
    refine Gz.iload_n (q := 1) (pc' := 5) (by decide +kernel) rfl 1 rfl ?_
    refine Gz.aload_n (q := 0) (pc' := 6) (by decide +kernel) rfl 0 rfl ?_
    obtain ⟨c2, h⟩ := zok_c h
    refine Gz.alen (pc' := 7) (n := g_len 2 a0) (kd := 2) (by decide +kernel) rfl (Or.inr rfl) c2 rfl ?_
    refine Gz.icmp_ge (off := 9) (tgt := 16) (pc' := 10) (by decide +kernel) (by decide) rfl (fun c3 => ?_) (fun c3 => ?_)
    · have h := zok_t c3 h
      refine Gz.sub (L' := []) [] rfl ?_
      exact g_Ro_word_b16 w h
    · have h := zok_f c3 h
      refine Gz.aload_n (q := 0) (pc' := 11) (by decide +kernel) rfl 0 rfl ?_
      refine Gz.iload_n (q := 1) (pc' := 12) (by decide +kernel) rfl 1 rfl ?_
      obtain ⟨c4, h⟩ := zok_c h
      refine Gz.lald (pc' := 13) (n := (g_len 2 a0)) (by decide +kernel) rfl rfl c4 ?_
      refine Gz.goto (off := 4) (tgt := 17) (by decide +kernel) (by decide) ?_
      exact Gz.lreturn (by decide +kernel) rfl (zok_sJ h)
def f_Cs_isDone_b2_s (k2 : Int32 → Int32 → Int32 → gW → Option (Int32 × gW)) (x1 : Int32) (x2 : Int32) (x3 : Int32) (w : gW) : Option (Int32 × gW) :=
zb (f_La_words w) (fun v1 w2 =>
if v1 ≤ x3 then
(some ((0 : Int32), w2))
else
(zb (f_Co_fitting w2) (fun v4 w5 =>
zb (f_Ro_word v4 x3 w5) (fun v6 w7 =>
zb (f_La_dateWord x1 x2 x3 w7) (fun v8 w9 =>
if (lg_cmp (v6 &&& v8) (0 : Int64)) = 0 then
(zl (x3 + (1 : Int32)) (fun v11 =>
k2 x1 x2 v11 w9))
else
(some ((1 : Int32), w9)))))))
def f_Cs_isDone_b2 : Int32 → Int32 → Int32 → gW → Option (Int32 × gW) := zfx (fun _ _ _ _ => none) (f_Cs_isDone_b2_s) zFU
def f_Cs_isDone (a1 : Int32) (a2 : Int32) (w : gW) : Option (Int32 × gW) :=
f_Cs_isDone_b2 a1 a2 (0 : Int32) w
theorem g_Cs_isDone_b2_s {l : Launch} {Q : Option Value → gW → Prop} (k2 : Int32 → Int32 → Int32 → gW → Option (Int32 × gW)) (hk2 : ∀ (x1 : Int32) (x2 : Int32) (x3 : Int32) (w : gW), zok eI (k2 x1 x2 x3 w) Q → Gz l m_Cs_isDone 4 2 [(0, .ref 88), (1, .int x1), (2, .int x2), (3, .int x3)] [] w Q) (x1 : Int32) (x2 : Int32) (x3 : Int32) (w : gW) (h : zok eI (f_Cs_isDone_b2_s k2 x1 x2 x3 w) Q) : Gz l m_Cs_isDone 4 2 [(0, .ref 88), (1, .int x1), (2, .int x2), (3, .int x3)] [] w Q := by
  unfold f_Cs_isDone_b2_s at h
  refine Gz.iload_n (q := 3) (pc' := 3) (by decide +kernel) rfl 3 rfl ?_
  refine Gz.aload_n (q := 0) (pc' := 4) (by decide +kernel) rfl 0 rfl ?_
  refine Gz.getR (pc' := 7) (j := 0) 19 fd_Cs_20 sh_88 rfl (by decide +kernel) rfl ?_
  refine Gz.callVI (st := [.int x3]) (b := 19) (pc' := 10) [] (g_La_words w) h ok_m_La_words lk_Cs_52 sh_19 rfl rfl rfl (Nat.le_of_ble_eq_true rfl) (Nat.le_of_ble_eq_true rfl) (Nat.le_of_ble_eq_true rfl) (by decide +kernel) rfl (fun v1 w2 h => ?_)
  refine Gz.icmp_ge (off := 38) (tgt := 48) (pc' := 13) (by decide +kernel) (by decide) rfl (fun c3 => ?_) (fun c3 => ?_)
  · have h := zok_t c3 h
    refine Gz.iconst (n := 0) (v := (0 : Int32)) (pc' := 49) (by decide +kernel) rfl rfl ?_
    exact Gz.zreturn (by decide +kernel) rfl (by decide) (zok_sI h)
  · have h := zok_f c3 h
    refine Gz.aload_n (q := 0) (pc' := 14) (by decide +kernel) rfl 0 rfl ?_
    refine Gz.getR (pc' := 17) (j := 2) 73 fd_Cs_28 sh_88 rfl (by decide +kernel) rfl ?_
    refine Gz.callVR (st := []) (b := 73) (pc' := 20) [] (g_Co_fitting w2) h ok_m_Co_fitting lk_Cs_44 sh_73 rfl rfl rfl (Nat.le_of_ble_eq_true rfl) (Nat.le_of_ble_eq_true rfl) (Nat.le_of_ble_eq_true rfl) (by decide +kernel) rfl (fun v4 w5 h => ?_)
    refine Gz.iload_n (q := 3) (pc' := 21) (by decide +kernel) rfl 3 rfl ?_
    refine Gz.callSJ (st := []) (pc' := 24) [.ref v4, .int x3] (g_Ro_word v4 x3 w5) h ok_m_Ro_word lk_Cs_87 rfl (Nat.le_of_ble_eq_true rfl) (Nat.le_of_ble_eq_true rfl) (Nat.le_of_ble_eq_true rfl) (by decide +kernel) rfl (fun v6 w7 h => ?_)
    refine Gz.aload_n (q := 0) (pc' := 25) (by decide +kernel) rfl 0 rfl ?_
    refine Gz.getR (pc' := 28) (j := 0) 19 fd_Cs_20 sh_88 rfl (by decide +kernel) rfl ?_
    refine Gz.iload_n (q := 1) (pc' := 29) (by decide +kernel) rfl 1 rfl ?_
    refine Gz.iload_n (q := 2) (pc' := 30) (by decide +kernel) rfl 2 rfl ?_
    refine Gz.iload_n (q := 3) (pc' := 31) (by decide +kernel) rfl 3 rfl ?_
    refine Gz.callVJ (st := [.long v6]) (b := 19) (pc' := 34) [.int x1, .int x2, .int x3] (g_La_dateWord x1 x2 x3 w7) h ok_m_La_dateWord lk_Cs_130 sh_19 rfl rfl rfl (Nat.le_of_ble_eq_true rfl) (Nat.le_of_ble_eq_true rfl) (Nat.le_of_ble_eq_true rfl) (by decide +kernel) rfl (fun v8 w9 h => ?_)
    refine Gz.land (pc' := 35) (by decide +kernel) rfl ?_
    refine Gz.lconst (n := 0) (v := (0 : Int64)) (pc' := 36) (by decide +kernel) rfl rfl ?_
    refine Gz.lcmp (pc' := 37) (by decide +kernel) rfl ?_
    refine Gz.if_eq (off := 5) (tgt := 42) (pc' := 40) (by decide +kernel) (by decide) rfl (fun c10 => ?_) (fun c10 => ?_)
    · have h := zok_t c10 h
      obtain ⟨v11, e12⟩ : ∃ y : Int32, y = x3 + (1 : Int32) := ⟨_, rfl⟩
      have h := zok_l e12 h
      refine Gz.iinc (i := 3) (n := 1) (pc' := 45) (L' := [(3, .int v11), (0, .ref 88), (1, .int x1), (2, .int x2)]) v11 (by decide +kernel) rfl 3 rfl (by rw [e12]; rfl) (Nat.le_of_ble_eq_true rfl) rfl ?_
      refine Gz.goto (off := -43) (tgt := 2) (by decide +kernel) (by decide) ?_
      refine Gz.sub (L' := [(0, .ref 88), (1, .int x1), (2, .int x2), (3, .int v11)]) [1, 2, 3, 0] rfl ?_
      exact hk2 x1 x2 v11 w9 h
    · have h := zok_f c10 h
      refine Gz.iconst (n := 1) (v := (1 : Int32)) (pc' := 41) (by decide +kernel) rfl rfl ?_
      exact Gz.zreturn (by decide +kernel) rfl (by decide) (zok_sI h)
theorem g_Cs_isDone_b2 {l : Launch} {Q : Option Value → gW → Prop} (x1 : Int32) (x2 : Int32) (x3 : Int32) (w : gW) (h : zok eI (f_Cs_isDone_b2 x1 x2 x3 w) Q) : Gz l m_Cs_isDone 4 2 [(0, .ref 88), (1, .int x1), (2, .int x2), (3, .int x3)] [] w Q := by
  have key : ∀ (n : Nat) (x1 : Int32) (x2 : Int32) (x3 : Int32) (w : gW), zok eI (zfx (fun _ _ _ _ => none) (f_Cs_isDone_b2_s) n x1 x2 x3 w) Q → Gz l m_Cs_isDone 4 2 [(0, .ref 88), (1, .int x1), (2, .int x2), (3, .int x3)] [] w Q := by
    intro n
    induction n with
    | zero => intro x1 x2 x3 w h; exact zok_n h
    | succ n ih => intro x1 x2 x3 w h; exact g_Cs_isDone_b2_s _ ih x1 x2 x3 w h
  exact key zFU x1 x2 x3 w h
theorem g_Cs_isDone {l : Launch} (a1 : Int32) (a2 : Int32) (w : gW) : gCt l m_Cs_isDone 4 [.ref 88, .int a1, .int a2] w eI (f_Cs_isDone a1 a2 w) := by
  intro Q h
  unfold f_Cs_isDone at h
  show Gz l m_Cs_isDone 4 0 [(0, .ref 88), (1, .int a1), (2, .int a2)] [] w Q
  refine Gz.iconst (n := 0) (v := (0 : Int32)) (pc' := 1) (by decide +kernel) rfl rfl ?_
  refine Gz.istore_n (q := 3) (pc' := 2) (L' := [(3, .int (0 : Int32)), (0, .ref 88), (1, .int a1), (2, .int a2)]) (by decide +kernel) rfl (Nat.le_of_ble_eq_true rfl) rfl ?_
  refine Gz.sub (L' := [(0, .ref 88), (1, .int a1), (2, .int a2), (3, .int (0 : Int32))]) [1, 2, 3, 0] rfl ?_
  exact g_Cs_isDone_b2 a1 a2 (0 : Int32) w h
