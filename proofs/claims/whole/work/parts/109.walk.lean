def f_Cs_settlement (a1 : Int32) (a2 : Int32) (w : gW) : Option (Int32 × gW) :=
zb (f_Cs_rowOf a1 w) (fun v1 w2 =>
zb (f_Co_hear a1 a2 v1 w2) (fun _ w3 =>
zb (f_Co_fitting w3) (fun v4 w5 =>
zb (f_La_words w5) (fun v6 w7 =>
zb (f_Ro_isEmpty v4 v6 w7) (fun v8 w9 =>
if v8 = 0 then
(zb (f_Cs_canBe a1 w9) (fun v11 w12 =>
if v11 = 0 then
(some ((0 : Int32), w12))
else
(zb (f_Co_fitting w12) (fun v14 w15 =>
zb (f_Cs_rowOf a1 w15) (fun v16 w17 =>
zb (f_La_words w17) (fun v18 w19 =>
zb (f_Ro_isWithin v14 v16 v18 w19) (fun v20 w21 =>
if v20 = 0 then
(some ((2 : Int32), w21))
else
(some ((1 : Int32), w21)))))))))
else
(some ((-1 : Int32), w9)))))))
theorem g_Cs_settlement {l : Launch} (a1 : Int32) (a2 : Int32) (w : gW) : gCt l m_Cs_settlement 5 [.ref 88, .int a1, .int a2] w eI (f_Cs_settlement a1 a2 w) := by
  intro Q h
  unfold f_Cs_settlement at h
  show Gz l m_Cs_settlement 5 0 [(0, .ref 88), (1, .int a1), (2, .int a2)] [] w Q
  refine Gz.aload_n (q := 0) (pc' := 1) (by decide +kernel) rfl 0 rfl ?_
  refine Gz.getR (pc' := 4) (j := 2) 73 fd_Cs_28 sh_88 rfl (by decide +kernel) rfl ?_
  refine Gz.iload_n (q := 1) (pc' := 5) (by decide +kernel) rfl 1 rfl ?_
  refine Gz.iload_n (q := 2) (pc' := 6) (by decide +kernel) rfl 2 rfl ?_
  refine Gz.aload_n (q := 0) (pc' := 7) (by decide +kernel) rfl 0 rfl ?_
  refine Gz.iload_n (q := 1) (pc' := 8) (by decide +kernel) rfl 1 rfl ?_
  refine Gz.callVR (st := [.int a2, .int a1, .ref 73]) (b := 88) (pc' := 11) [.int a1] (g_Cs_rowOf a1 w) h ok_m_Cs_rowOf lk_Cs_48 sh_88 rfl rfl rfl (Nat.le_of_ble_eq_true rfl) (Nat.le_of_ble_eq_true rfl) (Nat.le_of_ble_eq_true rfl) (by decide +kernel) rfl (fun v1 w2 h => ?_)
  refine Gz.callVV (st := []) (b := 73) (pc' := 14) [.int a1, .int a2, .ref v1] (g_Co_hear a1 a2 v1 w2) h ok_m_Co_hear lk_Cs_38 sh_73 rfl rfl rfl (Nat.le_of_ble_eq_true rfl) (Nat.le_of_ble_eq_true rfl) (Nat.le_of_ble_eq_true rfl) (by decide +kernel) rfl (fun _ w3 h => ?_)
  refine Gz.aload_n (q := 0) (pc' := 15) (by decide +kernel) rfl 0 rfl ?_
  refine Gz.getR (pc' := 18) (j := 2) 73 fd_Cs_28 sh_88 rfl (by decide +kernel) rfl ?_
  refine Gz.callVR (st := []) (b := 73) (pc' := 21) [] (g_Co_fitting w3) h ok_m_Co_fitting lk_Cs_44 sh_73 rfl rfl rfl (Nat.le_of_ble_eq_true rfl) (Nat.le_of_ble_eq_true rfl) (Nat.le_of_ble_eq_true rfl) (by decide +kernel) rfl (fun v4 w5 h => ?_)
  refine Gz.aload_n (q := 0) (pc' := 22) (by decide +kernel) rfl 0 rfl ?_
  refine Gz.getR (pc' := 25) (j := 0) 19 fd_Cs_20 sh_88 rfl (by decide +kernel) rfl ?_
  refine Gz.callVI (st := [.ref v4]) (b := 19) (pc' := 28) [] (g_La_words w5) h ok_m_La_words lk_Cs_52 sh_19 rfl rfl rfl (Nat.le_of_ble_eq_true rfl) (Nat.le_of_ble_eq_true rfl) (Nat.le_of_ble_eq_true rfl) (by decide +kernel) rfl (fun v6 w7 h => ?_)
  refine Gz.callSI (st := []) (pc' := 31) [.ref v4, .int v6] (g_Ro_isEmpty v4 v6 w7) h ok_m_Ro_isEmpty lk_Cs_110 rfl (Nat.le_of_ble_eq_true rfl) (Nat.le_of_ble_eq_true rfl) (Nat.le_of_ble_eq_true rfl) (by decide +kernel) rfl (fun v8 w9 h => ?_)
  refine Gz.if_eq (off := 5) (tgt := 36) (pc' := 34) (by decide +kernel) (by decide) rfl (fun c10 => ?_) (fun c10 => ?_)
  · have h := zok_t c10 h
    refine Gz.aload_n (q := 0) (pc' := 37) (by decide +kernel) rfl 0 rfl ?_
    refine Gz.iload_n (q := 1) (pc' := 38) (by decide +kernel) rfl 1 rfl ?_
    refine Gz.callVI (st := []) (b := 88) (pc' := 41) [.int a1] (g_Cs_canBe a1 w9) h ok_m_Cs_canBe lk_Cs_80 sh_88 rfl rfl rfl (Nat.le_of_ble_eq_true rfl) (Nat.le_of_ble_eq_true rfl) (Nat.le_of_ble_eq_true rfl) (by decide +kernel) rfl (fun v11 w12 h => ?_)
    refine Gz.if_ne (off := 5) (tgt := 46) (pc' := 44) (by decide +kernel) (by decide) rfl (fun c13 => ?_) (fun c13 => ?_)
    · have h := zok_f c13 h
      refine Gz.aload_n (q := 0) (pc' := 47) (by decide +kernel) rfl 0 rfl ?_
      refine Gz.getR (pc' := 50) (j := 2) 73 fd_Cs_28 sh_88 rfl (by decide +kernel) rfl ?_
      refine Gz.callVR (st := []) (b := 73) (pc' := 53) [] (g_Co_fitting w12) h ok_m_Co_fitting lk_Cs_44 sh_73 rfl rfl rfl (Nat.le_of_ble_eq_true rfl) (Nat.le_of_ble_eq_true rfl) (Nat.le_of_ble_eq_true rfl) (by decide +kernel) rfl (fun v14 w15 h => ?_)
      refine Gz.aload_n (q := 0) (pc' := 54) (by decide +kernel) rfl 0 rfl ?_
      refine Gz.iload_n (q := 1) (pc' := 55) (by decide +kernel) rfl 1 rfl ?_
      refine Gz.callVR (st := [.ref v14]) (b := 88) (pc' := 58) [.int a1] (g_Cs_rowOf a1 w15) h ok_m_Cs_rowOf lk_Cs_48 sh_88 rfl rfl rfl (Nat.le_of_ble_eq_true rfl) (Nat.le_of_ble_eq_true rfl) (Nat.le_of_ble_eq_true rfl) (by decide +kernel) rfl (fun v16 w17 h => ?_)
      refine Gz.aload_n (q := 0) (pc' := 59) (by decide +kernel) rfl 0 rfl ?_
      refine Gz.getR (pc' := 62) (j := 0) 19 fd_Cs_20 sh_88 rfl (by decide +kernel) rfl ?_
      refine Gz.callVI (st := [.ref v16, .ref v14]) (b := 19) (pc' := 65) [] (g_La_words w17) h ok_m_La_words lk_Cs_52 sh_19 rfl rfl rfl (Nat.le_of_ble_eq_true rfl) (Nat.le_of_ble_eq_true rfl) (Nat.le_of_ble_eq_true rfl) (by decide +kernel) rfl (fun v18 w19 h => ?_)
      refine Gz.callSI (st := []) (pc' := 68) [.ref v14, .ref v16, .int v18] (g_Ro_isWithin v14 v16 v18 w19) h ok_m_Ro_isWithin lk_Cs_106 rfl (Nat.le_of_ble_eq_true rfl) (Nat.le_of_ble_eq_true rfl) (Nat.le_of_ble_eq_true rfl) (by decide +kernel) rfl (fun v20 w21 h => ?_)
      refine Gz.if_eq (off := 7) (tgt := 75) (pc' := 71) (by decide +kernel) (by decide) rfl (fun c22 => ?_) (fun c22 => ?_)
      · have h := zok_t c22 h
        refine Gz.iconst (n := 2) (v := (2 : Int32)) (pc' := 76) (by decide +kernel) rfl rfl ?_
        exact Gz.ireturn (by decide +kernel) rfl (zok_sI h)
      · have h := zok_f c22 h
        refine Gz.iconst (n := 1) (v := (1 : Int32)) (pc' := 72) (by decide +kernel) rfl rfl ?_
        refine Gz.goto (off := 4) (tgt := 76) (by decide +kernel) (by decide) ?_
        exact Gz.ireturn (by decide +kernel) rfl (zok_sI h)
    · have h := zok_t c13 h
      refine Gz.iconst (n := 0) (v := (0 : Int32)) (pc' := 45) (by decide +kernel) rfl rfl ?_
      exact Gz.ireturn (by decide +kernel) rfl (zok_sI h)
  · have h := zok_f c10 h
    refine Gz.iconst (n := -1) (v := (-1 : Int32)) (pc' := 35) (by decide +kernel) rfl rfl ?_
    exact Gz.ireturn (by decide +kernel) rfl (zok_sI h)
def f_X_settled (a1 : Int32) (a2 : Int32) (w : gW) : Option (Int32 × gW) :=
zb (f_X_isSuch a1 a2 w) (fun v1 w2 =>
if v1 = 0 then
(some ((-1 : Int32), w2))
else
(zb (f_Cs_settlement a1 a2 w2) (fun v4 w5 =>
some (v4, w5))))
theorem g_X_settled {l : Launch} (a1 : Int32) (a2 : Int32) (w : gW) : gCt l m_X_settled 6 [.ref 0, .int a1, .int a2] w eI (f_X_settled a1 a2 w) := by
  intro Q h
  unfold f_X_settled at h
  show Gz l m_X_settled 6 0 [(0, .ref 0), (1, .int a1), (2, .int a2)] [] w Q
  refine Gz.aload_n (q := 0) (pc' := 1) (by decide +kernel) rfl 0 rfl ?_
  refine Gz.iload_n (q := 1) (pc' := 2) (by decide +kernel) rfl 1 rfl ?_
  refine Gz.iload_n (q := 2) (pc' := 3) (by decide +kernel) rfl 2 rfl ?_
  refine Gz.callVI (st := []) (b := 0) (pc' := 6) [.int a1, .int a2] (g_X_isSuch a1 a2 w) h ok_m_X_isSuch lk_X_146 sh_0 rfl rfl rfl (Nat.le_of_ble_eq_true rfl) (Nat.le_of_ble_eq_true rfl) (Nat.le_of_ble_eq_true rfl) (by decide +kernel) rfl (fun v1 w2 h => ?_)
  refine Gz.if_eq (off := 15) (tgt := 21) (pc' := 9) (by decide +kernel) (by decide) rfl (fun c3 => ?_) (fun c3 => ?_)
  · have h := zok_t c3 h
    refine Gz.iconst (n := -1) (v := (-1 : Int32)) (pc' := 22) (by decide +kernel) rfl rfl ?_
    exact Gz.ireturn (by decide +kernel) rfl (zok_sI h)
  · have h := zok_f c3 h
    refine Gz.aload_n (q := 0) (pc' := 10) (by decide +kernel) rfl 0 rfl ?_
    refine Gz.getR (pc' := 13) (j := 7) 88 fd_X_61 sh_0 rfl (by decide +kernel) rfl ?_
    refine Gz.iload_n (q := 1) (pc' := 14) (by decide +kernel) rfl 1 rfl ?_
    refine Gz.iload_n (q := 2) (pc' := 15) (by decide +kernel) rfl 2 rfl ?_
    refine Gz.callVI (st := []) (b := 88) (pc' := 18) [.int a1, .int a2] (g_Cs_settlement a1 a2 w2) h ok_m_Cs_settlement lk_X_276 sh_88 rfl rfl rfl (Nat.le_of_ble_eq_true rfl) (Nat.le_of_ble_eq_true rfl) (Nat.le_of_ble_eq_true rfl) (by decide +kernel) rfl (fun v4 w5 h => ?_)
    refine Gz.goto (off := 4) (tgt := 22) (by decide +kernel) (by decide) ?_
    exact Gz.ireturn (by decide +kernel) rfl (zok_sI h)
def f_Le_withoutNames_b41 (k4 : Int32 → Int32 → gW → Option (Int32 × gW)) (x2 : Int32) (s0 : Int32) (s1 : Int32) (w : gW) : Option (Int32 × gW) :=
zl (s0 ||| s1) (fun v1 =>
zl (x2 + (1 : Int32)) (fun v3 =>
k4 v1 v3 w))
def f_Le_withoutNames_b4_s (k4 : Int32 → Int32 → gW → Option (Int32 × gW)) (x1 : Int32) (x2 : Int32) (w : gW) : Option (Int32 × gW) :=
zb (f_An_swornCount w) (fun v1 w2 =>
if v1 ≤ x2 then
(some (x1, w2))
else
(zb (f_An_oathOf x2 w2) (fun v4 w5 =>
zb (f_Oa_named v4 w5) (fun v6 w7 =>
if v6 = 0 then
(f_Le_withoutNames_b41 k4 x2 x1 ((1 : Int32) <<< (x2 &&& 31)) w7)
else
(f_Le_withoutNames_b41 k4 x2 x1 (0 : Int32) w7)))))
def f_Le_withoutNames_b4 : Int32 → Int32 → gW → Option (Int32 × gW) := zfx (fun _ _ _ => none) (f_Le_withoutNames_b4_s) zFU
def f_Le_withoutNames (w : gW) : Option (Int32 × gW) :=
f_Le_withoutNames_b4 (0 : Int32) (0 : Int32) w
theorem g_Le_withoutNames_b41 {l : Launch} {Q : Option Value → gW → Prop} (k4 : Int32 → Int32 → gW → Option (Int32 × gW)) (hk4 : ∀ (x1 : Int32) (x2 : Int32) (w : gW), zok eI (k4 x1 x2 w) Q → Gz l m_Le_withoutNames 3 4 [(0, .ref 99), (1, .int x1), (2, .int x2)] [] w Q) (x2 : Int32) (s0 : Int32) (s1 : Int32) (w : gW) (h : zok eI (f_Le_withoutNames_b41 k4 x2 s0 s1 w) Q) : Gz l m_Le_withoutNames 3 41 [(0, .ref 99), (2, .int x2)] [.int s1, .int s0] w Q := by
  unfold f_Le_withoutNames_b41 at h
  refine Gz.ior (pc' := 42) (by decide +kernel) rfl ?_
  refine Gz.nmI (fun v1 e2 => ?_)
  have h := zok_l e2 h
  refine Gz.istore_n (q := 1) (pc' := 43) (L' := [(1, .int v1), (0, .ref 99), (2, .int x2)]) (by decide +kernel) rfl (Nat.le_of_ble_eq_true rfl) rfl ?_
  obtain ⟨v3, e4⟩ : ∃ y : Int32, y = x2 + (1 : Int32) := ⟨_, rfl⟩
  have h := zok_l e4 h
  refine Gz.iinc (i := 2) (n := 1) (pc' := 46) (L' := [(2, .int v3), (1, .int v1), (0, .ref 99)]) v3 (by decide +kernel) rfl 2 rfl (by rw [e4]; rfl) (Nat.le_of_ble_eq_true rfl) rfl ?_
  refine Gz.goto (off := -42) (tgt := 4) (by decide +kernel) (by decide) ?_
  refine Gz.sub (L' := [(0, .ref 99), (1, .int v1), (2, .int v3)]) [2, 1, 0] rfl ?_
  exact hk4 v1 v3 w h
theorem g_Le_withoutNames_b4_s {l : Launch} {Q : Option Value → gW → Prop} (k4 : Int32 → Int32 → gW → Option (Int32 × gW)) (hk4 : ∀ (x1 : Int32) (x2 : Int32) (w : gW), zok eI (k4 x1 x2 w) Q → Gz l m_Le_withoutNames 3 4 [(0, .ref 99), (1, .int x1), (2, .int x2)] [] w Q) (x1 : Int32) (x2 : Int32) (w : gW) (h : zok eI (f_Le_withoutNames_b4_s k4 x1 x2 w) Q) : Gz l m_Le_withoutNames 3 4 [(0, .ref 99), (1, .int x1), (2, .int x2)] [] w Q := by
  unfold f_Le_withoutNames_b4_s at h
  refine Gz.iload_n (q := 2) (pc' := 5) (by decide +kernel) rfl 2 rfl ?_
  refine Gz.aload_n (q := 0) (pc' := 6) (by decide +kernel) rfl 0 rfl ?_
  refine Gz.getR (pc' := 9) (j := 2) 59 fd_Le_26 sh_99 rfl (by decide +kernel) rfl ?_
  refine Gz.callVI (st := [.int x2]) (b := 59) (pc' := 12) [] (g_An_swornCount w) h ok_m_An_swornCount lk_Le_52 sh_59 rfl rfl rfl (Nat.le_of_ble_eq_true rfl) (Nat.le_of_ble_eq_true rfl) (Nat.le_of_ble_eq_true rfl) (by decide +kernel) rfl (fun v1 w2 h => ?_)
  refine Gz.icmp_ge (off := 37) (tgt := 49) (pc' := 15) (by decide +kernel) (by decide) rfl (fun c3 => ?_) (fun c3 => ?_)
  · have h := zok_t c3 h
    refine Gz.iload_n (q := 1) (pc' := 50) (by decide +kernel) rfl 1 rfl ?_
    exact Gz.ireturn (by decide +kernel) rfl (zok_sI h)
  · have h := zok_f c3 h
    refine Gz.iload_n (q := 1) (pc' := 16) (by decide +kernel) rfl 1 rfl ?_
    refine Gz.aload_n (q := 0) (pc' := 17) (by decide +kernel) rfl 0 rfl ?_
    refine Gz.getR (pc' := 20) (j := 1) 5 fd_Le_22 sh_99 rfl (by decide +kernel) rfl ?_
    refine Gz.aload_n (q := 0) (pc' := 21) (by decide +kernel) rfl 0 rfl ?_
    refine Gz.getR (pc' := 24) (j := 2) 59 fd_Le_26 sh_99 rfl (by decide +kernel) rfl ?_
    refine Gz.iload_n (q := 2) (pc' := 25) (by decide +kernel) rfl 2 rfl ?_
    refine Gz.callVI (st := [.ref 5, .int x1]) (b := 59) (pc' := 28) [.int x2] (g_An_oathOf x2 w2) h ok_m_An_oathOf lk_Le_116 sh_59 rfl rfl rfl (Nat.le_of_ble_eq_true rfl) (Nat.le_of_ble_eq_true rfl) (Nat.le_of_ble_eq_true rfl) (by decide +kernel) rfl (fun v4 w5 h => ?_)
    refine Gz.callVI (st := [.int x1]) (b := 5) (pc' := 31) [.int v4] (g_Oa_named v4 w5) h ok_m_Oa_named lk_Le_119 sh_5 rfl rfl rfl (Nat.le_of_ble_eq_true rfl) (Nat.le_of_ble_eq_true rfl) (Nat.le_of_ble_eq_true rfl) (by decide +kernel) rfl (fun v6 w7 h => ?_)
    refine Gz.if_ne (off := 9) (tgt := 40) (pc' := 34) (by decide +kernel) (by decide) rfl (fun c8 => ?_) (fun c8 => ?_)
    · have h := zok_f c8 h
      refine Gz.iconst (n := 0) (v := (0 : Int32)) (pc' := 41) (by decide +kernel) rfl rfl ?_
      refine Gz.sub (L' := [(0, .ref 99), (2, .int x2)]) [0, 2] rfl ?_
      exact g_Le_withoutNames_b41 k4 hk4 x2 x1 (0 : Int32) w7 h
    · have h := zok_t c8 h
      refine Gz.iconst (n := 1) (v := (1 : Int32)) (pc' := 35) (by decide +kernel) rfl rfl ?_
      refine Gz.iload_n (q := 2) (pc' := 36) (by decide +kernel) rfl 2 rfl ?_
      refine Gz.ishl (pc' := 37) (by decide +kernel) rfl ?_
      refine Gz.goto (off := 4) (tgt := 41) (by decide +kernel) (by decide) ?_
      refine Gz.sub (L' := [(0, .ref 99), (2, .int x2)]) [0, 2] rfl ?_
      exact g_Le_withoutNames_b41 k4 hk4 x2 x1 ((1 : Int32) <<< (x2 &&& 31)) w7 h
theorem g_Le_withoutNames_b4 {l : Launch} {Q : Option Value → gW → Prop} (x1 : Int32) (x2 : Int32) (w : gW) (h : zok eI (f_Le_withoutNames_b4 x1 x2 w) Q) : Gz l m_Le_withoutNames 3 4 [(0, .ref 99), (1, .int x1), (2, .int x2)] [] w Q := by
  have key : ∀ (n : Nat) (x1 : Int32) (x2 : Int32) (w : gW), zok eI (zfx (fun _ _ _ => none) (f_Le_withoutNames_b4_s) n x1 x2 w) Q → Gz l m_Le_withoutNames 3 4 [(0, .ref 99), (1, .int x1), (2, .int x2)] [] w Q := by
    intro n
    induction n with
    | zero => intro x1 x2 w h; exact zok_n h
    | succ n ih => intro x1 x2 w h; exact g_Le_withoutNames_b4_s _ ih x1 x2 w h
  exact key zFU x1 x2 w h
theorem g_Le_withoutNames {l : Launch} (w : gW) : gCt l m_Le_withoutNames 3 [.ref 99] w eI (f_Le_withoutNames w) := by
  intro Q h
  unfold f_Le_withoutNames at h
  show Gz l m_Le_withoutNames 3 0 [(0, .ref 99)] [] w Q
  refine Gz.iconst (n := 0) (v := (0 : Int32)) (pc' := 1) (by decide +kernel) rfl rfl ?_
  refine Gz.istore_n (q := 1) (pc' := 2) (L' := [(1, .int (0 : Int32)), (0, .ref 99)]) (by decide +kernel) rfl (Nat.le_of_ble_eq_true rfl) rfl ?_
  refine Gz.iconst (n := 0) (v := (0 : Int32)) (pc' := 3) (by decide +kernel) rfl rfl ?_
  refine Gz.istore_n (q := 2) (pc' := 4) (L' := [(2, .int (0 : Int32)), (1, .int (0 : Int32)), (0, .ref 99)]) (by decide +kernel) rfl (Nat.le_of_ble_eq_true rfl) rfl ?_
  refine Gz.sub (L' := [(0, .ref 99), (1, .int (0 : Int32)), (2, .int (0 : Int32))]) [2, 1, 0] rfl ?_
  exact g_Le_withoutNames_b4 (0 : Int32) (0 : Int32) w h
def f_Le_ringsAt_b93 (k20 : Int32 → Int32 → Int32 → Int32 → Int32 → Int32 → gW → Option (Int32 × gW)) (x1 : Int32) (x2 : Int32) (x3 : Int32) (x4 : Int32) (x6 : Int32) (s0 : Int32) (s1 : Int32) (w : gW) : Option (Int32 × gW) :=
zl (s0 + s1) (fun v1 =>
zl (x6 + (1 : Int32)) (fun v3 =>
k20 x1 x2 x3 x4 v1 v3 w))
def f_Le_ringsAt_b81 (k20 : Int32 → Int32 → Int32 → Int32 → Int32 → Int32 → gW → Option (Int32 × gW)) (x1 : Int32) (x2 : Int32) (x3 : Int32) (x4 : Int32) (x5 : Int32) (x6 : Int32) (x7 : Int32) (w : gW) : Option (Int32 × gW) :=
if x7 = 0 then
(f_Le_ringsAt_b93 k20 x1 x2 x3 x4 x6 x5 (0 : Int32) w)
else
(f_Le_ringsAt_b93 k20 x1 x2 x3 x4 x6 x5 (1 : Int32) w)
def f_Le_ringsAt_b65 (k20 : Int32 → Int32 → Int32 → Int32 → Int32 → Int32 → gW → Option (Int32 × gW)) (x1 : Int32) (x2 : Int32) (x3 : Int32) (x4 : Int32) (x5 : Int32) (x6 : Int32) (s0 : Int32) (w : gW) : Option (Int32 × gW) :=
if s0 = 0 then
(f_Le_ringsAt_b81 k20 x1 x2 x3 x4 x5 x6 s0 w)
else
(if x5 = x2 then
(some (x6, w))
else
(f_Le_ringsAt_b81 k20 x1 x2 x3 x4 x5 x6 s0 w))
def f_Le_ringsAt_b64 (k20 : Int32 → Int32 → Int32 → Int32 → Int32 → Int32 → gW → Option (Int32 × gW)) (x1 : Int32) (x2 : Int32) (x3 : Int32) (x4 : Int32) (x5 : Int32) (x6 : Int32) (w : gW) : Option (Int32 × gW) :=
f_Le_ringsAt_b65 k20 x1 x2 x3 x4 x5 x6 (0 : Int32) w
def f_Le_ringsAt_b20_s (k20 : Int32 → Int32 → Int32 → Int32 → Int32 → Int32 → gW → Option (Int32 × gW)) (x1 : Int32) (x2 : Int32) (x3 : Int32) (x4 : Int32) (x5 : Int32) (x6 : Int32) (w : gW) : Option (Int32 × gW) :=
zb (f_An_allSworn w) (fun v1 w2 =>
if v1 < x6 then
(if x2 = (-1 : Int32) then
(some (x5, w2))
else
(some ((-1 : Int32), w2)))
else
(if (x6 &&& x3) = x4 then
(zb (f_Le_holdingAt x1 (x3 ^^^ (-1 : Int32)) x6 w2) (fun v6 w7 =>
if v6 = (x6 &&& (x3 ^^^ (-1 : Int32))) then
(f_Le_ringsAt_b65 k20 x1 x2 x3 x4 x5 x6 (1 : Int32) w7)
else
(f_Le_ringsAt_b64 k20 x1 x2 x3 x4 x5 x6 w7)))
else
(f_Le_ringsAt_b64 k20 x1 x2 x3 x4 x5 x6 w2)))
def f_Le_ringsAt_b20 : Int32 → Int32 → Int32 → Int32 → Int32 → Int32 → gW → Option (Int32 × gW) := zfx (fun _ _ _ _ _ _ _ => none) (f_Le_ringsAt_b20_s) zFU
def f_Le_ringsAt (a1 : Int32) (a2 : Int32) (w : gW) : Option (Int32 × gW) :=
zb (f_Le_withoutNames w) (fun v1 w2 =>
zb (f_Le_holdingAt a1 v1 (0 : Int32) w2) (fun v3 w4 =>
f_Le_ringsAt_b20 a1 a2 v1 v3 (0 : Int32) (0 : Int32) w4))
theorem g_Le_ringsAt_b93 {l : Launch} {Q : Option Value → gW → Prop} (k20 : Int32 → Int32 → Int32 → Int32 → Int32 → Int32 → gW → Option (Int32 × gW)) (hk20 : ∀ (x1 : Int32) (x2 : Int32) (x3 : Int32) (x4 : Int32) (x5 : Int32) (x6 : Int32) (w : gW), zok eI (k20 x1 x2 x3 x4 x5 x6 w) Q → Gz l m_Le_ringsAt 6 20 [(0, .ref 99), (1, .int x1), (2, .int x2), (3, .int x3), (4, .int x4), (5, .int x5), (6, .int x6)] [] w Q) (x1 : Int32) (x2 : Int32) (x3 : Int32) (x4 : Int32) (x6 : Int32) (s0 : Int32) (s1 : Int32) (w : gW) (h : zok eI (f_Le_ringsAt_b93 k20 x1 x2 x3 x4 x6 s0 s1 w) Q) : Gz l m_Le_ringsAt 6 93 [(0, .ref 99), (1, .int x1), (2, .int x2), (3, .int x3), (4, .int x4), (6, .int x6)] [.int s1, .int s0] w Q := by
  unfold f_Le_ringsAt_b93 at h
  refine Gz.iadd (pc' := 94) (by decide +kernel) rfl ?_
  refine Gz.nmI (fun v1 e2 => ?_)
  have h := zok_l e2 h
  refine Gz.istore (i := 5) (pc' := 96) (L' := [(5, .int v1), (0, .ref 99), (1, .int x1), (2, .int x2), (3, .int x3), (4, .int x4), (6, .int x6)]) (by decide +kernel) rfl (Nat.le_of_ble_eq_true rfl) rfl ?_
  obtain ⟨v3, e4⟩ : ∃ y : Int32, y = x6 + (1 : Int32) := ⟨_, rfl⟩
  have h := zok_l e4 h
  refine Gz.iinc (i := 6) (n := 1) (pc' := 99) (L' := [(6, .int v3), (5, .int v1), (0, .ref 99), (1, .int x1), (2, .int x2), (3, .int x3), (4, .int x4)]) v3 (by decide +kernel) rfl 6 rfl (by rw [e4]; rfl) (Nat.le_of_ble_eq_true rfl) rfl ?_
  refine Gz.goto (off := -79) (tgt := 20) (by decide +kernel) (by decide) ?_
  refine Gz.sub (L' := [(0, .ref 99), (1, .int x1), (2, .int x2), (3, .int x3), (4, .int x4), (5, .int v1), (6, .int v3)]) [2, 3, 4, 5, 6, 1, 0] rfl ?_
  exact hk20 x1 x2 x3 x4 v1 v3 w h
theorem g_Le_ringsAt_b81 {l : Launch} {Q : Option Value → gW → Prop} (k20 : Int32 → Int32 → Int32 → Int32 → Int32 → Int32 → gW → Option (Int32 × gW)) (hk20 : ∀ (x1 : Int32) (x2 : Int32) (x3 : Int32) (x4 : Int32) (x5 : Int32) (x6 : Int32) (w : gW), zok eI (k20 x1 x2 x3 x4 x5 x6 w) Q → Gz l m_Le_ringsAt 6 20 [(0, .ref 99), (1, .int x1), (2, .int x2), (3, .int x3), (4, .int x4), (5, .int x5), (6, .int x6)] [] w Q) (x1 : Int32) (x2 : Int32) (x3 : Int32) (x4 : Int32) (x5 : Int32) (x6 : Int32) (x7 : Int32) (w : gW) (h : zok eI (f_Le_ringsAt_b81 k20 x1 x2 x3 x4 x5 x6 x7 w) Q) : Gz l m_Le_ringsAt 6 81 [(0, .ref 99), (1, .int x1), (2, .int x2), (3, .int x3), (4, .int x4), (5, .int x5), (6, .int x6), (7, .int x7)] [] w Q := by
  unfold f_Le_ringsAt_b81 at h
  refine Gz.iload (i := 5) (pc' := 83) (by decide +kernel) rfl 5 rfl ?_
  refine Gz.iload (i := 7) (pc' := 85) (by decide +kernel) rfl 7 rfl ?_
  refine Gz.if_eq (off := 7) (tgt := 92) (pc' := 88) (by decide +kernel) (by decide) rfl (fun c1 => ?_) (fun c1 => ?_)
  · have h := zok_t c1 h
    refine Gz.iconst (n := 0) (v := (0 : Int32)) (pc' := 93) (by decide +kernel) rfl rfl ?_
    refine Gz.sub (L' := [(0, .ref 99), (1, .int x1), (2, .int x2), (3, .int x3), (4, .int x4), (6, .int x6)]) [0, 1, 2, 3, 4, 6] rfl ?_
    exact g_Le_ringsAt_b93 k20 hk20 x1 x2 x3 x4 x6 x5 (0 : Int32) w h
  · have h := zok_f c1 h
    refine Gz.iconst (n := 1) (v := (1 : Int32)) (pc' := 89) (by decide +kernel) rfl rfl ?_
    refine Gz.goto (off := 4) (tgt := 93) (by decide +kernel) (by decide) ?_
    refine Gz.sub (L' := [(0, .ref 99), (1, .int x1), (2, .int x2), (3, .int x3), (4, .int x4), (6, .int x6)]) [0, 1, 2, 3, 4, 6] rfl ?_
    exact g_Le_ringsAt_b93 k20 hk20 x1 x2 x3 x4 x6 x5 (1 : Int32) w h
theorem g_Le_ringsAt_b65 {l : Launch} {Q : Option Value → gW → Prop} (k20 : Int32 → Int32 → Int32 → Int32 → Int32 → Int32 → gW → Option (Int32 × gW)) (hk20 : ∀ (x1 : Int32) (x2 : Int32) (x3 : Int32) (x4 : Int32) (x5 : Int32) (x6 : Int32) (w : gW), zok eI (k20 x1 x2 x3 x4 x5 x6 w) Q → Gz l m_Le_ringsAt 6 20 [(0, .ref 99), (1, .int x1), (2, .int x2), (3, .int x3), (4, .int x4), (5, .int x5), (6, .int x6)] [] w Q) (x1 : Int32) (x2 : Int32) (x3 : Int32) (x4 : Int32) (x5 : Int32) (x6 : Int32) (s0 : Int32) (w : gW) (h : zok eI (f_Le_ringsAt_b65 k20 x1 x2 x3 x4 x5 x6 s0 w) Q) : Gz l m_Le_ringsAt 6 65 [(0, .ref 99), (1, .int x1), (2, .int x2), (3, .int x3), (4, .int x4), (5, .int x5), (6, .int x6)] [.int s0] w Q := by
  unfold f_Le_ringsAt_b65 at h
  refine Gz.istore (i := 7) (pc' := 67) (L' := [(7, .int s0), (0, .ref 99), (1, .int x1), (2, .int x2), (3, .int x3), (4, .int x4), (5, .int x5), (6, .int x6)]) (by decide +kernel) rfl (Nat.le_of_ble_eq_true rfl) rfl ?_
  refine Gz.iload (i := 7) (pc' := 69) (by decide +kernel) rfl 0 rfl ?_
  refine Gz.if_eq (off := 12) (tgt := 81) (pc' := 72) (by decide +kernel) (by decide) rfl (fun c1 => ?_) (fun c1 => ?_)
  · have h := zok_t c1 h
    refine Gz.sub (L' := [(0, .ref 99), (1, .int x1), (2, .int x2), (3, .int x3), (4, .int x4), (5, .int x5), (6, .int x6), (7, .int s0)]) [1, 2, 3, 4, 5, 6, 7, 0] rfl ?_
    exact g_Le_ringsAt_b81 k20 hk20 x1 x2 x3 x4 x5 x6 s0 w h
  · have h := zok_f c1 h
    refine Gz.iload (i := 5) (pc' := 74) (by decide +kernel) rfl 6 rfl ?_
    refine Gz.iload_n (q := 2) (pc' := 75) (by decide +kernel) rfl 3 rfl ?_
    refine Gz.icmp_ne (off := 6) (tgt := 81) (pc' := 78) (by decide +kernel) (by decide) rfl (fun c2 => ?_) (fun c2 => ?_)
    · have h := zok_f c2 h
      refine Gz.sub (L' := [(0, .ref 99), (1, .int x1), (2, .int x2), (3, .int x3), (4, .int x4), (5, .int x5), (6, .int x6), (7, .int s0)]) [1, 2, 3, 4, 5, 6, 7, 0] rfl ?_
      exact g_Le_ringsAt_b81 k20 hk20 x1 x2 x3 x4 x5 x6 s0 w h
    · have h := zok_t c2 h
      refine Gz.iload (i := 6) (pc' := 80) (by decide +kernel) rfl 7 rfl ?_
      exact Gz.ireturn (by decide +kernel) rfl (zok_sI h)
theorem g_Le_ringsAt_b64 {l : Launch} {Q : Option Value → gW → Prop} (k20 : Int32 → Int32 → Int32 → Int32 → Int32 → Int32 → gW → Option (Int32 × gW)) (hk20 : ∀ (x1 : Int32) (x2 : Int32) (x3 : Int32) (x4 : Int32) (x5 : Int32) (x6 : Int32) (w : gW), zok eI (k20 x1 x2 x3 x4 x5 x6 w) Q → Gz l m_Le_ringsAt 6 20 [(0, .ref 99), (1, .int x1), (2, .int x2), (3, .int x3), (4, .int x4), (5, .int x5), (6, .int x6)] [] w Q) (x1 : Int32) (x2 : Int32) (x3 : Int32) (x4 : Int32) (x5 : Int32) (x6 : Int32) (w : gW) (h : zok eI (f_Le_ringsAt_b64 k20 x1 x2 x3 x4 x5 x6 w) Q) : Gz l m_Le_ringsAt 6 64 [(0, .ref 99), (1, .int x1), (2, .int x2), (3, .int x3), (4, .int x4), (5, .int x5), (6, .int x6)] [] w Q := by
  unfold f_Le_ringsAt_b64 at h
  refine Gz.iconst (n := 0) (v := (0 : Int32)) (pc' := 65) (by decide +kernel) rfl rfl ?_
  exact g_Le_ringsAt_b65 k20 hk20 x1 x2 x3 x4 x5 x6 (0 : Int32) w h
theorem g_Le_ringsAt_b20_s {l : Launch} {Q : Option Value → gW → Prop} (k20 : Int32 → Int32 → Int32 → Int32 → Int32 → Int32 → gW → Option (Int32 × gW)) (hk20 : ∀ (x1 : Int32) (x2 : Int32) (x3 : Int32) (x4 : Int32) (x5 : Int32) (x6 : Int32) (w : gW), zok eI (k20 x1 x2 x3 x4 x5 x6 w) Q → Gz l m_Le_ringsAt 6 20 [(0, .ref 99), (1, .int x1), (2, .int x2), (3, .int x3), (4, .int x4), (5, .int x5), (6, .int x6)] [] w Q) (x1 : Int32) (x2 : Int32) (x3 : Int32) (x4 : Int32) (x5 : Int32) (x6 : Int32) (w : gW) (h : zok eI (f_Le_ringsAt_b20_s k20 x1 x2 x3 x4 x5 x6 w) Q) : Gz l m_Le_ringsAt 6 20 [(0, .ref 99), (1, .int x1), (2, .int x2), (3, .int x3), (4, .int x4), (5, .int x5), (6, .int x6)] [] w Q := by
  unfold f_Le_ringsAt_b20_s at h
  refine Gz.iload (i := 6) (pc' := 22) (by decide +kernel) rfl 6 rfl ?_
  refine Gz.aload_n (q := 0) (pc' := 23) (by decide +kernel) rfl 0 rfl ?_
  refine Gz.getR (pc' := 26) (j := 2) 59 fd_Le_26 sh_99 rfl (by decide +kernel) rfl ?_
  refine Gz.callVI (st := [.int x6]) (b := 59) (pc' := 29) [] (g_An_allSworn w) h ok_m_An_allSworn lk_Le_34 sh_59 rfl rfl rfl (Nat.le_of_ble_eq_true rfl) (Nat.le_of_ble_eq_true rfl) (Nat.le_of_ble_eq_true rfl) (by decide +kernel) rfl (fun v1 w2 h => ?_)
  refine Gz.icmp_gt (off := 73) (tgt := 102) (pc' := 32) (by decide +kernel) (by decide) rfl (fun c3 => ?_) (fun c3 => ?_)
  · have h := zok_t c3 h
    refine Gz.iload_n (q := 2) (pc' := 103) (by decide +kernel) rfl 2 rfl ?_
    refine Gz.iconst (n := -1) (v := (-1 : Int32)) (pc' := 104) (by decide +kernel) rfl rfl ?_
    refine Gz.icmp_ne (off := 8) (tgt := 112) (pc' := 107) (by decide +kernel) (by decide) rfl (fun c4 => ?_) (fun c4 => ?_)
    · have h := zok_f c4 h
      refine Gz.iconst (n := -1) (v := (-1 : Int32)) (pc' := 113) (by decide +kernel) rfl rfl ?_
      exact Gz.ireturn (by decide +kernel) rfl (zok_sI h)
    · have h := zok_t c4 h
      refine Gz.iload (i := 5) (pc' := 109) (by decide +kernel) rfl 5 rfl ?_
      refine Gz.goto (off := 4) (tgt := 113) (by decide +kernel) (by decide) ?_
      exact Gz.ireturn (by decide +kernel) rfl (zok_sI h)
  · have h := zok_f c3 h
    refine Gz.iload (i := 6) (pc' := 34) (by decide +kernel) rfl 6 rfl ?_
    refine Gz.iload_n (q := 3) (pc' := 35) (by decide +kernel) rfl 3 rfl ?_
    refine Gz.iand (pc' := 36) (by decide +kernel) rfl ?_
    refine Gz.iload (i := 4) (pc' := 38) (by decide +kernel) rfl 4 rfl ?_
    refine Gz.icmp_ne (off := 26) (tgt := 64) (pc' := 41) (by decide +kernel) (by decide) rfl (fun c5 => ?_) (fun c5 => ?_)
    · have h := zok_f c5 h
      exact g_Le_ringsAt_b64 k20 hk20 x1 x2 x3 x4 x5 x6 w2 h
    · have h := zok_t c5 h
      refine Gz.aload_n (q := 0) (pc' := 42) (by decide +kernel) rfl 0 rfl ?_
      refine Gz.iload_n (q := 1) (pc' := 43) (by decide +kernel) rfl 1 rfl ?_
      refine Gz.iload_n (q := 3) (pc' := 44) (by decide +kernel) rfl 3 rfl ?_
      refine Gz.iconst (n := -1) (v := (-1 : Int32)) (pc' := 45) (by decide +kernel) rfl rfl ?_
      refine Gz.ixor (pc' := 46) (by decide +kernel) rfl ?_
      refine Gz.iload (i := 6) (pc' := 48) (by decide +kernel) rfl 6 rfl ?_
      refine Gz.callVI (st := []) (b := 99) (pc' := 51) [.int x1, .int (x3 ^^^ (-1 : Int32)), .int x6] (g_Le_holdingAt x1 (x3 ^^^ (-1 : Int32)) x6 w2) h ok_m_Le_holdingAt lk_Le_79 sh_99 rfl rfl rfl (Nat.le_of_ble_eq_true rfl) (Nat.le_of_ble_eq_true rfl) (Nat.le_of_ble_eq_true rfl) (by decide +kernel) rfl (fun v6 w7 h => ?_)
      refine Gz.iload (i := 6) (pc' := 53) (by decide +kernel) rfl 6 rfl ?_
      refine Gz.iload_n (q := 3) (pc' := 54) (by decide +kernel) rfl 3 rfl ?_
      refine Gz.iconst (n := -1) (v := (-1 : Int32)) (pc' := 55) (by decide +kernel) rfl rfl ?_
      refine Gz.ixor (pc' := 56) (by decide +kernel) rfl ?_
      refine Gz.iand (pc' := 57) (by decide +kernel) rfl ?_
      refine Gz.icmp_ne (off := 7) (tgt := 64) (pc' := 60) (by decide +kernel) (by decide) rfl (fun c8 => ?_) (fun c8 => ?_)
      · have h := zok_f c8 h
        exact g_Le_ringsAt_b64 k20 hk20 x1 x2 x3 x4 x5 x6 w7 h
      · have h := zok_t c8 h
        refine Gz.iconst (n := 1) (v := (1 : Int32)) (pc' := 61) (by decide +kernel) rfl rfl ?_
        refine Gz.goto (off := 4) (tgt := 65) (by decide +kernel) (by decide) ?_
        exact g_Le_ringsAt_b65 k20 hk20 x1 x2 x3 x4 x5 x6 (1 : Int32) w7 h
theorem g_Le_ringsAt_b20 {l : Launch} {Q : Option Value → gW → Prop} (x1 : Int32) (x2 : Int32) (x3 : Int32) (x4 : Int32) (x5 : Int32) (x6 : Int32) (w : gW) (h : zok eI (f_Le_ringsAt_b20 x1 x2 x3 x4 x5 x6 w) Q) : Gz l m_Le_ringsAt 6 20 [(0, .ref 99), (1, .int x1), (2, .int x2), (3, .int x3), (4, .int x4), (5, .int x5), (6, .int x6)] [] w Q := by
  have key : ∀ (n : Nat) (x1 : Int32) (x2 : Int32) (x3 : Int32) (x4 : Int32) (x5 : Int32) (x6 : Int32) (w : gW), zok eI (zfx (fun _ _ _ _ _ _ _ => none) (f_Le_ringsAt_b20_s) n x1 x2 x3 x4 x5 x6 w) Q → Gz l m_Le_ringsAt 6 20 [(0, .ref 99), (1, .int x1), (2, .int x2), (3, .int x3), (4, .int x4), (5, .int x5), (6, .int x6)] [] w Q := by
    intro n
    induction n with
    | zero => intro x1 x2 x3 x4 x5 x6 w h; exact zok_n h
    | succ n ih => intro x1 x2 x3 x4 x5 x6 w h; exact g_Le_ringsAt_b20_s _ ih x1 x2 x3 x4 x5 x6 w h
  exact key zFU x1 x2 x3 x4 x5 x6 w h
theorem g_Le_ringsAt {l : Launch} (a1 : Int32) (a2 : Int32) (w : gW) : gCt l m_Le_ringsAt 6 [.ref 99, .int a1, .int a2] w eI (f_Le_ringsAt a1 a2 w) := by
  intro Q h
  unfold f_Le_ringsAt at h
  show Gz l m_Le_ringsAt 6 0 [(0, .ref 99), (1, .int a1), (2, .int a2)] [] w Q
  refine Gz.aload_n (q := 0) (pc' := 1) (by decide +kernel) rfl 0 rfl ?_
  refine Gz.callVI (st := []) (b := 99) (pc' := 4) [] (g_Le_withoutNames w) h ok_m_Le_withoutNames lk_Le_98 sh_99 rfl rfl rfl (Nat.le_of_ble_eq_true rfl) (Nat.le_of_ble_eq_true rfl) (Nat.le_of_ble_eq_true rfl) (by decide +kernel) rfl (fun v1 w2 h => ?_)
  refine Gz.istore_n (q := 3) (pc' := 5) (L' := [(3, .int v1), (0, .ref 99), (1, .int a1), (2, .int a2)]) (by decide +kernel) rfl (Nat.le_of_ble_eq_true rfl) rfl ?_
  refine Gz.aload_n (q := 0) (pc' := 6) (by decide +kernel) rfl 1 rfl ?_
  refine Gz.iload_n (q := 1) (pc' := 7) (by decide +kernel) rfl 2 rfl ?_
  refine Gz.iload_n (q := 3) (pc' := 8) (by decide +kernel) rfl 0 rfl ?_
  refine Gz.iconst (n := 0) (v := (0 : Int32)) (pc' := 9) (by decide +kernel) rfl rfl ?_
  refine Gz.callVI (st := []) (b := 99) (pc' := 12) [.int a1, .int v1, .int (0 : Int32)] (g_Le_holdingAt a1 v1 (0 : Int32) w2) h ok_m_Le_holdingAt lk_Le_79 sh_99 rfl rfl rfl (Nat.le_of_ble_eq_true rfl) (Nat.le_of_ble_eq_true rfl) (Nat.le_of_ble_eq_true rfl) (by decide +kernel) rfl (fun v3 w4 h => ?_)
  refine Gz.istore (i := 4) (pc' := 14) (L' := [(4, .int v3), (3, .int v1), (0, .ref 99), (1, .int a1), (2, .int a2)]) (by decide +kernel) rfl (Nat.le_of_ble_eq_true rfl) rfl ?_
  refine Gz.iconst (n := 0) (v := (0 : Int32)) (pc' := 15) (by decide +kernel) rfl rfl ?_
  refine Gz.istore (i := 5) (pc' := 17) (L' := [(5, .int (0 : Int32)), (4, .int v3), (3, .int v1), (0, .ref 99), (1, .int a1), (2, .int a2)]) (by decide +kernel) rfl (Nat.le_of_ble_eq_true rfl) rfl ?_
  refine Gz.iconst (n := 0) (v := (0 : Int32)) (pc' := 18) (by decide +kernel) rfl rfl ?_
  refine Gz.istore (i := 6) (pc' := 20) (L' := [(6, .int (0 : Int32)), (5, .int (0 : Int32)), (4, .int v3), (3, .int v1), (0, .ref 99), (1, .int a1), (2, .int a2)]) (by decide +kernel) rfl (Nat.le_of_ble_eq_true rfl) rfl ?_
  refine Gz.sub (L' := [(0, .ref 99), (1, .int a1), (2, .int a2), (3, .int v1), (4, .int v3), (5, .int (0 : Int32)), (6, .int (0 : Int32))]) [4, 5, 6, 3, 2, 1, 0] rfl ?_
  exact g_Le_ringsAt_b20 a1 a2 v1 v3 (0 : Int32) (0 : Int32) w4 h
def f_X_rings (a1 : Int32) (a2 : Int32) (w : gW) : Option (Int32 × gW) :=
zb (f_La_placeOf a1 w) (fun v1 w2 =>
if v1 = (-1 : Int32) then
(some ((-1 : Int32), w2))
else
(zb (f_Le_ringsAt v1 a2 w2) (fun v4 w5 =>
some (v4, w5))))
theorem g_X_rings {l : Launch} (a1 : Int32) (a2 : Int32) (w : gW) : gCt l m_X_rings 7 [.ref 0, .int a1, .int a2] w eI (f_X_rings a1 a2 w) := by
  intro Q h
  unfold f_X_rings at h
  show Gz l m_X_rings 7 0 [(0, .ref 0), (1, .int a1), (2, .int a2)] [] w Q
  refine Gz.aload_n (q := 0) (pc' := 1) (by decide +kernel) rfl 0 rfl ?_
  refine Gz.getR (pc' := 4) (j := 3) 19 fd_X_33 sh_0 rfl (by decide +kernel) rfl ?_
  refine Gz.iload_n (q := 1) (pc' := 5) (by decide +kernel) rfl 1 rfl ?_
  refine Gz.callVI (st := []) (b := 19) (pc' := 8) [.int a1] (g_La_placeOf a1 w) h ok_m_La_placeOf lk_X_203 sh_19 rfl rfl rfl (Nat.le_of_ble_eq_true rfl) (Nat.le_of_ble_eq_true rfl) (Nat.le_of_ble_eq_true rfl) (by decide +kernel) rfl (fun v1 w2 h => ?_)
  refine Gz.istore_n (q := 3) (pc' := 9) (L' := [(3, .int v1), (0, .ref 0), (1, .int a1), (2, .int a2)]) (by decide +kernel) rfl (Nat.le_of_ble_eq_true rfl) rfl ?_
  refine Gz.iload_n (q := 3) (pc' := 10) (by decide +kernel) rfl 0 rfl ?_
  refine Gz.iconst (n := -1) (v := (-1 : Int32)) (pc' := 11) (by decide +kernel) rfl rfl ?_
  refine Gz.icmp_ne (off := 7) (tgt := 18) (pc' := 14) (by decide +kernel) (by decide) rfl (fun c3 => ?_) (fun c3 => ?_)
  · have h := zok_f c3 h
    refine Gz.aload_n (q := 0) (pc' := 19) (by decide +kernel) rfl 1 rfl ?_
    refine Gz.getR (pc' := 22) (j := 8) 99 fd_X_70 sh_0 rfl (by decide +kernel) rfl ?_
    refine Gz.iload_n (q := 3) (pc' := 23) (by decide +kernel) rfl 0 rfl ?_
    refine Gz.iload_n (q := 2) (pc' := 24) (by decide +kernel) rfl 3 rfl ?_
    refine Gz.callVI (st := []) (b := 99) (pc' := 27) [.int v1, .int a2] (g_Le_ringsAt v1 a2 w2) h ok_m_Le_ringsAt lk_X_279 sh_99 rfl rfl rfl (Nat.le_of_ble_eq_true rfl) (Nat.le_of_ble_eq_true rfl) (Nat.le_of_ble_eq_true rfl) (by decide +kernel) rfl (fun v4 w5 h => ?_)
    exact Gz.ireturn (by decide +kernel) rfl (zok_sI h)
  · have h := zok_t c3 h
    refine Gz.iconst (n := -1) (v := (-1 : Int32)) (pc' := 15) (by decide +kernel) rfl rfl ?_
    refine Gz.goto (off := 12) (tgt := 27) (by decide +kernel) (by decide) ?_
    exact Gz.ireturn (by decide +kernel) rfl (zok_sI h)
def f_Le_canAllHold_b81 (k2 : Int32 → Int32 → gW → Option (Int32 × gW)) (x1 : Int32) (x2 : Int32) (x3 : Int64) (w : gW) : Option (Int32 × gW) :=
if (lg_cmp x3 (0 : Int64)) = 0 then
(zl (x2 + (1 : Int32)) (fun v2 =>
k2 x1 v2 w))
else
(some ((1 : Int32), w))
def f_Le_canAllHold_b73 (k2 : Int32 → Int32 → gW → Option (Int32 × gW)) (k28 : Int32 → Int32 → Int64 → Int32 → gW → Option (Int32 × gW)) (x1 : Int32) (x2 : Int32) (x5 : Int32) (s0 : Int64) (s1 : Int64) (w : gW) : Option (Int32 × gW) :=
zl (s0 &&& s1) (fun v1 =>
zl (x5 + (1 : Int32)) (fun v3 =>
k28 x1 x2 v1 v3 w))
def f_Le_canAllHold_b28_s (k2 : Int32 → Int32 → gW → Option (Int32 × gW)) (k28 : Int32 → Int32 → Int64 → Int32 → gW → Option (Int32 × gW)) (x1 : Int32) (x2 : Int32) (x3 : Int64) (x5 : Int32) (w : gW) : Option (Int32 × gW) :=
if (lg_cmp x3 (0 : Int64)) = 0 then
(f_Le_canAllHold_b81 k2 x1 x2 x3 w)
else
(zb (f_An_swornCount w) (fun v2 w3 =>
if v2 ≤ x5 then
(f_Le_canAllHold_b81 k2 x1 x2 x3 w3)
else
(if ((x1 >>> (x5 &&& 31)) &&& (1 : Int32)) = 0 then
(f_Le_canAllHold_b73 k2 k28 x1 x2 x5 x3 (-1 : Int64) w3)
else
(zb (f_Co_swornWord x5 x1 x2 w3) (fun v6 w7 =>
f_Le_canAllHold_b73 k2 k28 x1 x2 x5 x3 v6 w7)))))
def f_Le_canAllHold_b28 (k2 : Int32 → Int32 → gW → Option (Int32 × gW)) : Int32 → Int32 → Int64 → Int32 → gW → Option (Int32 × gW) := zfx (fun _ _ _ _ _ => none) (f_Le_canAllHold_b28_s k2) zFU
def f_Le_canAllHold_b2_s (k2 : Int32 → Int32 → gW → Option (Int32 × gW)) (x1 : Int32) (x2 : Int32) (w : gW) : Option (Int32 × gW) :=
zb (f_La_words w) (fun v1 w2 =>
if v1 ≤ x2 then
(some ((0 : Int32), w2))
else
(zb (f_Co_possible w2) (fun v4 w5 =>
zb (f_Ro_word v4 x2 w5) (fun v6 w7 =>
f_Le_canAllHold_b28 k2 x1 x2 v6 (0 : Int32) w7))))
def f_Le_canAllHold_b2 : Int32 → Int32 → gW → Option (Int32 × gW) := zfx (fun _ _ _ => none) (f_Le_canAllHold_b2_s) zFU
def f_Le_canAllHold (a1 : Int32) (w : gW) : Option (Int32 × gW) :=
f_Le_canAllHold_b2 a1 (0 : Int32) w
theorem g_Le_canAllHold_b81 {l : Launch} {Q : Option Value → gW → Prop} (k2 : Int32 → Int32 → gW → Option (Int32 × gW)) (hk2 : ∀ (x1 : Int32) (x2 : Int32) (w : gW), zok eI (k2 x1 x2 w) Q → Gz l m_Le_canAllHold 5 2 [(0, .ref 99), (1, .int x1), (2, .int x2)] [] w Q) (x1 : Int32) (x2 : Int32) (x3 : Int64) (w : gW) (h : zok eI (f_Le_canAllHold_b81 k2 x1 x2 x3 w) Q) : Gz l m_Le_canAllHold 5 81 [(0, .ref 99), (1, .int x1), (2, .int x2), (3, .long x3)] [] w Q := by
  unfold f_Le_canAllHold_b81 at h
  refine Gz.lload_n (q := 3) (pc' := 82) (by decide +kernel) rfl 3 rfl ?_
  refine Gz.lconst (n := 0) (v := (0 : Int64)) (pc' := 83) (by decide +kernel) rfl rfl ?_
  refine Gz.lcmp (pc' := 84) (by decide +kernel) rfl ?_
  refine Gz.if_eq (off := 5) (tgt := 89) (pc' := 87) (by decide +kernel) (by decide) rfl (fun c1 => ?_) (fun c1 => ?_)
  · have h := zok_t c1 h
    obtain ⟨v2, e3⟩ : ∃ y : Int32, y = x2 + (1 : Int32) := ⟨_, rfl⟩
    have h := zok_l e3 h
    refine Gz.iinc (i := 2) (n := 1) (pc' := 92) (L' := [(2, .int v2), (0, .ref 99), (1, .int x1), (3, .long x3)]) v2 (by decide +kernel) rfl 2 rfl (by rw [e3]; rfl) (Nat.le_of_ble_eq_true rfl) rfl ?_
    refine Gz.goto (off := -90) (tgt := 2) (by decide +kernel) (by decide) ?_
    refine Gz.sub (L' := [(0, .ref 99), (1, .int x1), (2, .int v2)]) [1, 2, 0] rfl ?_
    exact hk2 x1 v2 w h
  · have h := zok_f c1 h
    refine Gz.iconst (n := 1) (v := (1 : Int32)) (pc' := 88) (by decide +kernel) rfl rfl ?_
    exact Gz.zreturn (by decide +kernel) rfl (by decide) (zok_sI h)
theorem g_Le_canAllHold_b73 {l : Launch} {Q : Option Value → gW → Prop} (k2 : Int32 → Int32 → gW → Option (Int32 × gW)) (hk2 : ∀ (x1 : Int32) (x2 : Int32) (w : gW), zok eI (k2 x1 x2 w) Q → Gz l m_Le_canAllHold 5 2 [(0, .ref 99), (1, .int x1), (2, .int x2)] [] w Q) (k28 : Int32 → Int32 → Int64 → Int32 → gW → Option (Int32 × gW)) (hk28 : ∀ (x1 : Int32) (x2 : Int32) (x3 : Int64) (x5 : Int32) (w : gW), zok eI (k28 x1 x2 x3 x5 w) Q → Gz l m_Le_canAllHold 5 28 [(0, .ref 99), (1, .int x1), (2, .int x2), (3, .long x3), (5, .int x5)] [] w Q) (x1 : Int32) (x2 : Int32) (x5 : Int32) (s0 : Int64) (s1 : Int64) (w : gW) (h : zok eI (f_Le_canAllHold_b73 k2 k28 x1 x2 x5 s0 s1 w) Q) : Gz l m_Le_canAllHold 5 73 [(0, .ref 99), (1, .int x1), (2, .int x2), (5, .int x5)] [.long s1, .long s0] w Q := by
  unfold f_Le_canAllHold_b73 at h
  refine Gz.land (pc' := 74) (by decide +kernel) rfl ?_
  refine Gz.nmJ (fun v1 e2 => ?_)
  have h := zok_l e2 h
  refine Gz.lstore_n (q := 3) (pc' := 75) (L' := [(3, .long v1), (0, .ref 99), (1, .int x1), (2, .int x2), (5, .int x5)]) (by decide +kernel) rfl (Nat.le_of_ble_eq_true rfl) rfl ?_
  obtain ⟨v3, e4⟩ : ∃ y : Int32, y = x5 + (1 : Int32) := ⟨_, rfl⟩
  have h := zok_l e4 h
  refine Gz.iinc (i := 5) (n := 1) (pc' := 78) (L' := [(5, .int v3), (3, .long v1), (0, .ref 99), (1, .int x1), (2, .int x2)]) v3 (by decide +kernel) rfl 4 rfl (by rw [e4]; rfl) (Nat.le_of_ble_eq_true rfl) rfl ?_
  refine Gz.goto (off := -50) (tgt := 28) (by decide +kernel) (by decide) ?_
  refine Gz.sub (L' := [(0, .ref 99), (1, .int x1), (2, .int x2), (3, .long v1), (5, .int v3)]) [2, 3, 4, 1, 0] rfl ?_
  exact hk28 x1 x2 v1 v3 w h
theorem g_Le_canAllHold_b28_s {l : Launch} {Q : Option Value → gW → Prop} (k2 : Int32 → Int32 → gW → Option (Int32 × gW)) (hk2 : ∀ (x1 : Int32) (x2 : Int32) (w : gW), zok eI (k2 x1 x2 w) Q → Gz l m_Le_canAllHold 5 2 [(0, .ref 99), (1, .int x1), (2, .int x2)] [] w Q) (k28 : Int32 → Int32 → Int64 → Int32 → gW → Option (Int32 × gW)) (hk28 : ∀ (x1 : Int32) (x2 : Int32) (x3 : Int64) (x5 : Int32) (w : gW), zok eI (k28 x1 x2 x3 x5 w) Q → Gz l m_Le_canAllHold 5 28 [(0, .ref 99), (1, .int x1), (2, .int x2), (3, .long x3), (5, .int x5)] [] w Q) (x1 : Int32) (x2 : Int32) (x3 : Int64) (x5 : Int32) (w : gW) (h : zok eI (f_Le_canAllHold_b28_s k2 k28 x1 x2 x3 x5 w) Q) : Gz l m_Le_canAllHold 5 28 [(0, .ref 99), (1, .int x1), (2, .int x2), (3, .long x3), (5, .int x5)] [] w Q := by
  unfold f_Le_canAllHold_b28_s at h
  refine Gz.lload_n (q := 3) (pc' := 29) (by decide +kernel) rfl 3 rfl ?_
  refine Gz.lconst (n := 0) (v := (0 : Int64)) (pc' := 30) (by decide +kernel) rfl rfl ?_
  refine Gz.lcmp (pc' := 31) (by decide +kernel) rfl ?_
  refine Gz.if_eq (off := 50) (tgt := 81) (pc' := 34) (by decide +kernel) (by decide) rfl (fun c1 => ?_) (fun c1 => ?_)
  · have h := zok_t c1 h
    refine Gz.sub (L' := [(0, .ref 99), (1, .int x1), (2, .int x2), (3, .long x3)]) [0, 1, 2, 3] rfl ?_
    exact g_Le_canAllHold_b81 k2 hk2 x1 x2 x3 w h
  · have h := zok_f c1 h
    refine Gz.iload (i := 5) (pc' := 36) (by decide +kernel) rfl 4 rfl ?_
    refine Gz.aload_n (q := 0) (pc' := 37) (by decide +kernel) rfl 0 rfl ?_
    refine Gz.getR (pc' := 40) (j := 2) 59 fd_Le_26 sh_99 rfl (by decide +kernel) rfl ?_
    refine Gz.callVI (st := [.int x5]) (b := 59) (pc' := 43) [] (g_An_swornCount w) h ok_m_An_swornCount lk_Le_52 sh_59 rfl rfl rfl (Nat.le_of_ble_eq_true rfl) (Nat.le_of_ble_eq_true rfl) (Nat.le_of_ble_eq_true rfl) (by decide +kernel) rfl (fun v2 w3 h => ?_)
    refine Gz.icmp_ge (off := 38) (tgt := 81) (pc' := 46) (by decide +kernel) (by decide) rfl (fun c4 => ?_) (fun c4 => ?_)
    · have h := zok_t c4 h
      refine Gz.sub (L' := [(0, .ref 99), (1, .int x1), (2, .int x2), (3, .long x3)]) [0, 1, 2, 3] rfl ?_
      exact g_Le_canAllHold_b81 k2 hk2 x1 x2 x3 w3 h
    · have h := zok_f c4 h
      refine Gz.lload_n (q := 3) (pc' := 47) (by decide +kernel) rfl 3 rfl ?_
      refine Gz.iload_n (q := 1) (pc' := 48) (by decide +kernel) rfl 1 rfl ?_
      refine Gz.iload (i := 5) (pc' := 50) (by decide +kernel) rfl 4 rfl ?_
      refine Gz.ishr (pc' := 51) (by decide +kernel) rfl ?_
      refine Gz.iconst (n := 1) (v := (1 : Int32)) (pc' := 52) (by decide +kernel) rfl rfl ?_
      refine Gz.iand (pc' := 53) (by decide +kernel) rfl ?_
      refine Gz.if_ne (off := 9) (tgt := 62) (pc' := 56) (by decide +kernel) (by decide) rfl (fun c5 => ?_) (fun c5 => ?_)
      · have h := zok_f c5 h
        refine Gz.aload_n (q := 0) (pc' := 63) (by decide +kernel) rfl 0 rfl ?_
        refine Gz.getR (pc' := 66) (j := 3) 73 fd_Le_30 sh_99 rfl (by decide +kernel) rfl ?_
        refine Gz.iload (i := 5) (pc' := 68) (by decide +kernel) rfl 4 rfl ?_
        refine Gz.iload_n (q := 1) (pc' := 69) (by decide +kernel) rfl 1 rfl ?_
        refine Gz.iload_n (q := 2) (pc' := 70) (by decide +kernel) rfl 2 rfl ?_
        refine Gz.callVJ (st := [.long x3]) (b := 73) (pc' := 73) [.int x5, .int x1, .int x2] (g_Co_swornWord x5 x1 x2 w3) h ok_m_Co_swornWord lk_Le_59 sh_73 rfl rfl rfl (Nat.le_of_ble_eq_true rfl) (Nat.le_of_ble_eq_true rfl) (Nat.le_of_ble_eq_true rfl) (by decide +kernel) rfl (fun v6 w7 h => ?_)
        refine Gz.sub (L' := [(0, .ref 99), (1, .int x1), (2, .int x2), (5, .int x5)]) [0, 1, 2, 4] rfl ?_
        exact g_Le_canAllHold_b73 k2 hk2 k28 hk28 x1 x2 x5 x3 v6 w7 h
      · have h := zok_t c5 h
        refine Gz.ldc2 (idx := 114) (v := (-1 : Int64)) (pc' := 59) (by decide +kernel) rfl kc_Le_114 ?_
        refine Gz.goto (off := 14) (tgt := 73) (by decide +kernel) (by decide) ?_
        refine Gz.sub (L' := [(0, .ref 99), (1, .int x1), (2, .int x2), (5, .int x5)]) [0, 1, 2, 4] rfl ?_
        exact g_Le_canAllHold_b73 k2 hk2 k28 hk28 x1 x2 x5 x3 (-1 : Int64) w3 h
theorem g_Le_canAllHold_b28 {l : Launch} {Q : Option Value → gW → Prop} (k2 : Int32 → Int32 → gW → Option (Int32 × gW)) (hk2 : ∀ (x1 : Int32) (x2 : Int32) (w : gW), zok eI (k2 x1 x2 w) Q → Gz l m_Le_canAllHold 5 2 [(0, .ref 99), (1, .int x1), (2, .int x2)] [] w Q) (x1 : Int32) (x2 : Int32) (x3 : Int64) (x5 : Int32) (w : gW) (h : zok eI (f_Le_canAllHold_b28 k2 x1 x2 x3 x5 w) Q) : Gz l m_Le_canAllHold 5 28 [(0, .ref 99), (1, .int x1), (2, .int x2), (3, .long x3), (5, .int x5)] [] w Q := by
  have key : ∀ (n : Nat) (x1 : Int32) (x2 : Int32) (x3 : Int64) (x5 : Int32) (w : gW), zok eI (zfx (fun _ _ _ _ _ => none) (f_Le_canAllHold_b28_s k2) n x1 x2 x3 x5 w) Q → Gz l m_Le_canAllHold 5 28 [(0, .ref 99), (1, .int x1), (2, .int x2), (3, .long x3), (5, .int x5)] [] w Q := by
    intro n
    induction n with
    | zero => intro x1 x2 x3 x5 w h; exact zok_n h
    | succ n ih => intro x1 x2 x3 x5 w h; exact g_Le_canAllHold_b28_s k2 hk2 _ ih x1 x2 x3 x5 w h
  exact key zFU x1 x2 x3 x5 w h
theorem g_Le_canAllHold_b2_s {l : Launch} {Q : Option Value → gW → Prop} (k2 : Int32 → Int32 → gW → Option (Int32 × gW)) (hk2 : ∀ (x1 : Int32) (x2 : Int32) (w : gW), zok eI (k2 x1 x2 w) Q → Gz l m_Le_canAllHold 5 2 [(0, .ref 99), (1, .int x1), (2, .int x2)] [] w Q) (x1 : Int32) (x2 : Int32) (w : gW) (h : zok eI (f_Le_canAllHold_b2_s k2 x1 x2 w) Q) : Gz l m_Le_canAllHold 5 2 [(0, .ref 99), (1, .int x1), (2, .int x2)] [] w Q := by
  unfold f_Le_canAllHold_b2_s at h
  refine Gz.iload_n (q := 2) (pc' := 3) (by decide +kernel) rfl 2 rfl ?_
  refine Gz.aload_n (q := 0) (pc' := 4) (by decide +kernel) rfl 0 rfl ?_
  refine Gz.getR (pc' := 7) (j := 0) 19 fd_Le_18 sh_99 rfl (by decide +kernel) rfl ?_
  refine Gz.callVI (st := [.int x2]) (b := 19) (pc' := 10) [] (g_La_words w) h ok_m_La_words lk_Le_55 sh_19 rfl rfl rfl (Nat.le_of_ble_eq_true rfl) (Nat.le_of_ble_eq_true rfl) (Nat.le_of_ble_eq_true rfl) (by decide +kernel) rfl (fun v1 w2 h => ?_)
  refine Gz.icmp_ge (off := 85) (tgt := 95) (pc' := 13) (by decide +kernel) (by decide) rfl (fun c3 => ?_) (fun c3 => ?_)
  · have h := zok_t c3 h
    refine Gz.iconst (n := 0) (v := (0 : Int32)) (pc' := 96) (by decide +kernel) rfl rfl ?_
    exact Gz.zreturn (by decide +kernel) rfl (by decide) (zok_sI h)
  · have h := zok_f c3 h
    refine Gz.aload_n (q := 0) (pc' := 14) (by decide +kernel) rfl 0 rfl ?_
    refine Gz.getR (pc' := 17) (j := 3) 73 fd_Le_30 sh_99 rfl (by decide +kernel) rfl ?_
    refine Gz.callVR (st := []) (b := 73) (pc' := 20) [] (g_Co_possible w2) h ok_m_Co_possible lk_Le_40 sh_73 rfl rfl rfl (Nat.le_of_ble_eq_true rfl) (Nat.le_of_ble_eq_true rfl) (Nat.le_of_ble_eq_true rfl) (by decide +kernel) rfl (fun v4 w5 h => ?_)
    refine Gz.iload_n (q := 2) (pc' := 21) (by decide +kernel) rfl 2 rfl ?_
    refine Gz.callSJ (st := []) (pc' := 24) [.ref v4, .int x2] (g_Ro_word v4 x2 w5) h ok_m_Ro_word lk_Le_110 rfl (Nat.le_of_ble_eq_true rfl) (Nat.le_of_ble_eq_true rfl) (Nat.le_of_ble_eq_true rfl) (by decide +kernel) rfl (fun v6 w7 h => ?_)
    refine Gz.lstore_n (q := 3) (pc' := 25) (L' := [(3, .long v6), (0, .ref 99), (1, .int x1), (2, .int x2)]) (by decide +kernel) rfl (Nat.le_of_ble_eq_true rfl) rfl ?_
    refine Gz.iconst (n := 0) (v := (0 : Int32)) (pc' := 26) (by decide +kernel) rfl rfl ?_
    refine Gz.istore (i := 5) (pc' := 28) (L' := [(5, .int (0 : Int32)), (3, .long v6), (0, .ref 99), (1, .int x1), (2, .int x2)]) (by decide +kernel) rfl (Nat.le_of_ble_eq_true rfl) rfl ?_
    refine Gz.sub (L' := [(0, .ref 99), (1, .int x1), (2, .int x2), (3, .long v6), (5, .int (0 : Int32))]) [2, 3, 4, 1, 0] rfl ?_
    exact g_Le_canAllHold_b28 k2 hk2 x1 x2 v6 (0 : Int32) w7 h
theorem g_Le_canAllHold_b2 {l : Launch} {Q : Option Value → gW → Prop} (x1 : Int32) (x2 : Int32) (w : gW) (h : zok eI (f_Le_canAllHold_b2 x1 x2 w) Q) : Gz l m_Le_canAllHold 5 2 [(0, .ref 99), (1, .int x1), (2, .int x2)] [] w Q := by
  have key : ∀ (n : Nat) (x1 : Int32) (x2 : Int32) (w : gW), zok eI (zfx (fun _ _ _ => none) (f_Le_canAllHold_b2_s) n x1 x2 w) Q → Gz l m_Le_canAllHold 5 2 [(0, .ref 99), (1, .int x1), (2, .int x2)] [] w Q := by
    intro n
    induction n with
    | zero => intro x1 x2 w h; exact zok_n h
    | succ n ih => intro x1 x2 w h; exact g_Le_canAllHold_b2_s _ ih x1 x2 w h
  exact key zFU x1 x2 w h
theorem g_Le_canAllHold {l : Launch} (a1 : Int32) (w : gW) : gCt l m_Le_canAllHold 5 [.ref 99, .int a1] w eI (f_Le_canAllHold a1 w) := by
  intro Q h
  unfold f_Le_canAllHold at h
  show Gz l m_Le_canAllHold 5 0 [(0, .ref 99), (1, .int a1)] [] w Q
  refine Gz.iconst (n := 0) (v := (0 : Int32)) (pc' := 1) (by decide +kernel) rfl rfl ?_
  refine Gz.istore_n (q := 2) (pc' := 2) (L' := [(2, .int (0 : Int32)), (0, .ref 99), (1, .int a1)]) (by decide +kernel) rfl (Nat.le_of_ble_eq_true rfl) rfl ?_
  refine Gz.sub (L' := [(0, .ref 99), (1, .int a1), (2, .int (0 : Int32))]) [1, 2, 0] rfl ?_
  exact g_Le_canAllHold_b2 a1 (0 : Int32) w h
def f_Le_leastFall_b73 (k32 : Int32 → Int32 → Int32 → Int32 → gW → Option (Int32 × gW)) (x1 : Int32) (x2 : Int32) (x4 : Int32) (s0 : Int32) (s1 : Int32) (w : gW) : Option (Int32 × gW) :=
zl (s0 ||| s1) (fun v1 =>
zl (x4 + (1 : Int32)) (fun v3 =>
k32 x1 x2 v1 v3 w))
def f_Le_leastFall_b72 (k32 : Int32 → Int32 → Int32 → Int32 → gW → Option (Int32 × gW)) (x1 : Int32) (x2 : Int32) (x4 : Int32) (s0 : Int32) (w : gW) : Option (Int32 × gW) :=
f_Le_leastFall_b73 k32 x1 x2 x4 s0 (0 : Int32) w
def f_Le_leastFall_b173 (k84 : Int32 → Int32 → Int32 → gW → Option (Int32 × gW)) (k99 : Int32 → Int32 → Int32 → Int32 → gW → Option (Int32 × gW)) (x1 : Int32) (x3 : Int32) (x4 : Int32) (x5 : Int32) (w : gW) : Option (Int32 × gW) :=
zl (x5 + (1 : Int32)) (fun v1 =>
k99 x1 x3 x4 v1 w)
def f_Le_leastFall_b135 (k84 : Int32 → Int32 → Int32 → gW → Option (Int32 × gW)) (k99 : Int32 → Int32 → Int32 → Int32 → gW → Option (Int32 × gW)) (x1 : Int32) (x3 : Int32) (x4 : Int32) (x5 : Int32) (s0 : Int32) (w : gW) : Option (Int32 × gW) :=
if s0 = 0 then
(f_Le_leastFall_b173 k84 k99 x1 x3 x4 x5 w)
else
(zb (f_An_allSworn w) (fun v2 w3 =>
zb (f_Le_canAllHold (v2 &&& (x5 ^^^ (-1 : Int32))) w3) (fun v4 w5 =>
if v4 = 0 then
(f_Le_leastFall_b173 k84 k99 x1 x3 x4 x5 w5)
else
(if x1 = 0 then
(some (x4, w5))
else
(some (x5, w5))))))
def f_Le_leastFall_b134 (k84 : Int32 → Int32 → Int32 → gW → Option (Int32 × gW)) (k99 : Int32 → Int32 → Int32 → Int32 → gW → Option (Int32 × gW)) (x1 : Int32) (x3 : Int32) (x4 : Int32) (x5 : Int32) (w : gW) : Option (Int32 × gW) :=
f_Le_leastFall_b135 k84 k99 x1 x3 x4 x5 (0 : Int32) w
def f_Le_leastFall_b99_s (k84 : Int32 → Int32 → Int32 → gW → Option (Int32 × gW)) (k99 : Int32 → Int32 → Int32 → Int32 → gW → Option (Int32 × gW)) (x1 : Int32) (x3 : Int32) (x4 : Int32) (x5 : Int32) (w : gW) : Option (Int32 × gW) :=
zb (f_An_allSworn w) (fun v1 w2 =>
if v1 < x5 then
(zl (x4 + (1 : Int32)) (fun v4 =>
k84 x1 x3 v4 w2))
else
(zb (f_Int_bitCount x5 w2) (fun v6 w7 =>
if v6 = x4 then
(if (x3 &&& (x5 ^^^ (-1 : Int32))) = 0 then
(f_Le_leastFall_b135 k84 k99 x1 x3 x4 x5 (1 : Int32) w7)
else
(f_Le_leastFall_b134 k84 k99 x1 x3 x4 x5 w7))
else
(f_Le_leastFall_b134 k84 k99 x1 x3 x4 x5 w7))))
def f_Le_leastFall_b99 (k84 : Int32 → Int32 → Int32 → gW → Option (Int32 × gW)) : Int32 → Int32 → Int32 → Int32 → gW → Option (Int32 × gW) := zfx (fun _ _ _ _ _ => none) (f_Le_leastFall_b99_s k84) zFU
def f_Le_leastFall_b84_s (k84 : Int32 → Int32 → Int32 → gW → Option (Int32 × gW)) (x1 : Int32) (x3 : Int32) (x4 : Int32) (w : gW) : Option (Int32 × gW) :=
zb (f_An_swornCount w) (fun v1 w2 =>
if v1 < x4 then
(some ((-1 : Int32), w2))
else
(f_Le_leastFall_b99 k84 x1 x3 x4 (0 : Int32) w2))
def f_Le_leastFall_b84 : Int32 → Int32 → Int32 → gW → Option (Int32 × gW) := zfx (fun _ _ _ _ => none) (f_Le_leastFall_b84_s) zFU
def f_Le_leastFall_b32_s (k32 : Int32 → Int32 → Int32 → Int32 → gW → Option (Int32 × gW)) (x1 : Int32) (x2 : Int32) (x3 : Int32) (x4 : Int32) (w : gW) : Option (Int32 × gW) :=
zb (f_An_swornCount w) (fun v1 w2 =>
if v1 ≤ x4 then
(f_Le_leastFall_b84 x1 x3 (0 : Int32) w2)
else
(if ((x2 >>> (x4 &&& 31)) &&& (1 : Int32)) = 0 then
(f_Le_leastFall_b72 k32 x1 x2 x4 x3 w2)
else
(zb (f_Le_canHold x4 x4 w2) (fun v5 w6 =>
if v5 = 0 then
(f_Le_leastFall_b73 k32 x1 x2 x4 x3 ((1 : Int32) <<< (x4 &&& 31)) w6)
else
(f_Le_leastFall_b72 k32 x1 x2 x4 x3 w6)))))
def f_Le_leastFall_b32 : Int32 → Int32 → Int32 → Int32 → gW → Option (Int32 × gW) := zfx (fun _ _ _ _ _ => none) (f_Le_leastFall_b32_s) zFU
def f_Le_leastFall (a1 : Int32) (w : gW) : Option (Int32 × gW) :=
zb (f_Co_possible w) (fun v1 w2 =>
zb (f_La_words w2) (fun v3 w4 =>
zb (f_Ro_isEmpty v1 v3 w4) (fun v5 w6 =>
if v5 = 0 then
(zb (f_Le_withoutNames w6) (fun v8 w9 =>
f_Le_leastFall_b32 a1 v8 (0 : Int32) (0 : Int32) w9))
else
(some ((-1 : Int32), w6)))))
theorem g_Le_leastFall_b73 {l : Launch} {Q : Option Value → gW → Prop} (k32 : Int32 → Int32 → Int32 → Int32 → gW → Option (Int32 × gW)) (hk32 : ∀ (x1 : Int32) (x2 : Int32) (x3 : Int32) (x4 : Int32) (w : gW), zok eI (k32 x1 x2 x3 x4 w) Q → Gz l m_Le_leastFall 6 32 [(0, .ref 99), (1, .int x1), (2, .int x2), (3, .int x3), (4, .int x4)] [] w Q) (x1 : Int32) (x2 : Int32) (x4 : Int32) (s0 : Int32) (s1 : Int32) (w : gW) (h : zok eI (f_Le_leastFall_b73 k32 x1 x2 x4 s0 s1 w) Q) : Gz l m_Le_leastFall 6 73 [(0, .ref 99), (1, .int x1), (2, .int x2), (4, .int x4)] [.int s1, .int s0] w Q := by
  unfold f_Le_leastFall_b73 at h
  refine Gz.ior (pc' := 74) (by decide +kernel) rfl ?_
  refine Gz.nmI (fun v1 e2 => ?_)
  have h := zok_l e2 h
  refine Gz.istore_n (q := 3) (pc' := 75) (L' := [(3, .int v1), (0, .ref 99), (1, .int x1), (2, .int x2), (4, .int x4)]) (by decide +kernel) rfl (Nat.le_of_ble_eq_true rfl) rfl ?_
  obtain ⟨v3, e4⟩ : ∃ y : Int32, y = x4 + (1 : Int32) := ⟨_, rfl⟩
  have h := zok_l e4 h
  refine Gz.iinc (i := 4) (n := 1) (pc' := 78) (L' := [(4, .int v3), (3, .int v1), (0, .ref 99), (1, .int x1), (2, .int x2)]) v3 (by decide +kernel) rfl 4 rfl (by rw [e4]; rfl) (Nat.le_of_ble_eq_true rfl) rfl ?_
  refine Gz.goto (off := -46) (tgt := 32) (by decide +kernel) (by decide) ?_
  refine Gz.sub (L' := [(0, .ref 99), (1, .int x1), (2, .int x2), (3, .int v1), (4, .int v3)]) [2, 3, 4, 1, 0] rfl ?_
  exact hk32 x1 x2 v1 v3 w h
theorem g_Le_leastFall_b72 {l : Launch} {Q : Option Value → gW → Prop} (k32 : Int32 → Int32 → Int32 → Int32 → gW → Option (Int32 × gW)) (hk32 : ∀ (x1 : Int32) (x2 : Int32) (x3 : Int32) (x4 : Int32) (w : gW), zok eI (k32 x1 x2 x3 x4 w) Q → Gz l m_Le_leastFall 6 32 [(0, .ref 99), (1, .int x1), (2, .int x2), (3, .int x3), (4, .int x4)] [] w Q) (x1 : Int32) (x2 : Int32) (x4 : Int32) (s0 : Int32) (w : gW) (h : zok eI (f_Le_leastFall_b72 k32 x1 x2 x4 s0 w) Q) : Gz l m_Le_leastFall 6 72 [(0, .ref 99), (1, .int x1), (2, .int x2), (4, .int x4)] [.int s0] w Q := by
  unfold f_Le_leastFall_b72 at h
  refine Gz.iconst (n := 0) (v := (0 : Int32)) (pc' := 73) (by decide +kernel) rfl rfl ?_
  exact g_Le_leastFall_b73 k32 hk32 x1 x2 x4 s0 (0 : Int32) w h
theorem g_Le_leastFall_b173 {l : Launch} {Q : Option Value → gW → Prop} (k84 : Int32 → Int32 → Int32 → gW → Option (Int32 × gW)) (hk84 : ∀ (x1 : Int32) (x3 : Int32) (x4 : Int32) (w : gW), zok eI (k84 x1 x3 x4 w) Q → Gz l m_Le_leastFall 6 84 [(0, .ref 99), (1, .int x1), (3, .int x3), (4, .int x4)] [] w Q) (k99 : Int32 → Int32 → Int32 → Int32 → gW → Option (Int32 × gW)) (hk99 : ∀ (x1 : Int32) (x3 : Int32) (x4 : Int32) (x5 : Int32) (w : gW), zok eI (k99 x1 x3 x4 x5 w) Q → Gz l m_Le_leastFall 6 99 [(0, .ref 99), (1, .int x1), (3, .int x3), (4, .int x4), (5, .int x5)] [] w Q) (x1 : Int32) (x3 : Int32) (x4 : Int32) (x5 : Int32) (w : gW) (h : zok eI (f_Le_leastFall_b173 k84 k99 x1 x3 x4 x5 w) Q) : Gz l m_Le_leastFall 6 173 [(0, .ref 99), (1, .int x1), (3, .int x3), (4, .int x4), (5, .int x5)] [] w Q := by
  unfold f_Le_leastFall_b173 at h
  obtain ⟨v1, e2⟩ : ∃ y : Int32, y = x5 + (1 : Int32) := ⟨_, rfl⟩
  have h := zok_l e2 h
  refine Gz.iinc (i := 5) (n := 1) (pc' := 176) (L' := [(5, .int v1), (0, .ref 99), (1, .int x1), (3, .int x3), (4, .int x4)]) v1 (by decide +kernel) rfl 4 rfl (by rw [e2]; rfl) (Nat.le_of_ble_eq_true rfl) rfl ?_
  refine Gz.goto (off := -77) (tgt := 99) (by decide +kernel) (by decide) ?_
  refine Gz.sub (L' := [(0, .ref 99), (1, .int x1), (3, .int x3), (4, .int x4), (5, .int v1)]) [1, 2, 3, 4, 0] rfl ?_
  exact hk99 x1 x3 x4 v1 w h
theorem g_Le_leastFall_b135 {l : Launch} {Q : Option Value → gW → Prop} (k84 : Int32 → Int32 → Int32 → gW → Option (Int32 × gW)) (hk84 : ∀ (x1 : Int32) (x3 : Int32) (x4 : Int32) (w : gW), zok eI (k84 x1 x3 x4 w) Q → Gz l m_Le_leastFall 6 84 [(0, .ref 99), (1, .int x1), (3, .int x3), (4, .int x4)] [] w Q) (k99 : Int32 → Int32 → Int32 → Int32 → gW → Option (Int32 × gW)) (hk99 : ∀ (x1 : Int32) (x3 : Int32) (x4 : Int32) (x5 : Int32) (w : gW), zok eI (k99 x1 x3 x4 x5 w) Q → Gz l m_Le_leastFall 6 99 [(0, .ref 99), (1, .int x1), (3, .int x3), (4, .int x4), (5, .int x5)] [] w Q) (x1 : Int32) (x3 : Int32) (x4 : Int32) (x5 : Int32) (s0 : Int32) (w : gW) (h : zok eI (f_Le_leastFall_b135 k84 k99 x1 x3 x4 x5 s0 w) Q) : Gz l m_Le_leastFall 6 135 [(0, .ref 99), (1, .int x1), (3, .int x3), (4, .int x4), (5, .int x5)] [.int s0] w Q := by
  unfold f_Le_leastFall_b135 at h
  refine Gz.istore (i := 6) (pc' := 137) (L' := [(6, .int s0), (0, .ref 99), (1, .int x1), (3, .int x3), (4, .int x4), (5, .int x5)]) (by decide +kernel) rfl (Nat.le_of_ble_eq_true rfl) rfl ?_
  refine Gz.iload (i := 6) (pc' := 139) (by decide +kernel) rfl 0 rfl ?_
  refine Gz.if_eq (off := 34) (tgt := 173) (pc' := 142) (by decide +kernel) (by decide) rfl (fun c1 => ?_) (fun c1 => ?_)
  · have h := zok_t c1 h
    refine Gz.sub (L' := [(0, .ref 99), (1, .int x1), (3, .int x3), (4, .int x4), (5, .int x5)]) [1, 2, 3, 4, 5] rfl ?_
    exact g_Le_leastFall_b173 k84 hk84 k99 hk99 x1 x3 x4 x5 w h
  · have h := zok_f c1 h
    refine Gz.aload_n (q := 0) (pc' := 143) (by decide +kernel) rfl 1 rfl ?_
    refine Gz.aload_n (q := 0) (pc' := 144) (by decide +kernel) rfl 1 rfl ?_
    refine Gz.getR (pc' := 147) (j := 2) 59 fd_Le_26 sh_99 rfl (by decide +kernel) rfl ?_
    refine Gz.callVI (st := [.ref 99]) (b := 59) (pc' := 150) [] (g_An_allSworn w) h ok_m_An_allSworn lk_Le_34 sh_59 rfl rfl rfl (Nat.le_of_ble_eq_true rfl) (Nat.le_of_ble_eq_true rfl) (Nat.le_of_ble_eq_true rfl) (by decide +kernel) rfl (fun v2 w3 h => ?_)
    refine Gz.iload (i := 5) (pc' := 152) (by decide +kernel) rfl 5 rfl ?_
    refine Gz.iconst (n := -1) (v := (-1 : Int32)) (pc' := 153) (by decide +kernel) rfl rfl ?_
    refine Gz.ixor (pc' := 154) (by decide +kernel) rfl ?_
    refine Gz.iand (pc' := 155) (by decide +kernel) rfl ?_
    refine Gz.callVI (st := []) (b := 99) (pc' := 158) [.int (v2 &&& (x5 ^^^ (-1 : Int32)))] (g_Le_canAllHold (v2 &&& (x5 ^^^ (-1 : Int32))) w3) h ok_m_Le_canAllHold lk_Le_106 sh_99 rfl rfl rfl (Nat.le_of_ble_eq_true rfl) (Nat.le_of_ble_eq_true rfl) (Nat.le_of_ble_eq_true rfl) (by decide +kernel) rfl (fun v4 w5 h => ?_)
    refine Gz.if_eq (off := 15) (tgt := 173) (pc' := 161) (by decide +kernel) (by decide) rfl (fun c6 => ?_) (fun c6 => ?_)
    · have h := zok_t c6 h
      refine Gz.sub (L' := [(0, .ref 99), (1, .int x1), (3, .int x3), (4, .int x4), (5, .int x5)]) [1, 2, 3, 4, 5] rfl ?_
      exact g_Le_leastFall_b173 k84 hk84 k99 hk99 x1 x3 x4 x5 w5 h
    · have h := zok_f c6 h
      refine Gz.iload_n (q := 1) (pc' := 162) (by decide +kernel) rfl 2 rfl ?_
      refine Gz.if_ne (off := 8) (tgt := 170) (pc' := 165) (by decide +kernel) (by decide) rfl (fun c7 => ?_) (fun c7 => ?_)
      · have h := zok_f c7 h
        refine Gz.iload (i := 5) (pc' := 172) (by decide +kernel) rfl 5 rfl ?_
        exact Gz.ireturn (by decide +kernel) rfl (zok_sI h)
      · have h := zok_t c7 h
        refine Gz.iload (i := 4) (pc' := 167) (by decide +kernel) rfl 4 rfl ?_
        refine Gz.goto (off := 5) (tgt := 172) (by decide +kernel) (by decide) ?_
        exact Gz.ireturn (by decide +kernel) rfl (zok_sI h)
theorem g_Le_leastFall_b134 {l : Launch} {Q : Option Value → gW → Prop} (k84 : Int32 → Int32 → Int32 → gW → Option (Int32 × gW)) (hk84 : ∀ (x1 : Int32) (x3 : Int32) (x4 : Int32) (w : gW), zok eI (k84 x1 x3 x4 w) Q → Gz l m_Le_leastFall 6 84 [(0, .ref 99), (1, .int x1), (3, .int x3), (4, .int x4)] [] w Q) (k99 : Int32 → Int32 → Int32 → Int32 → gW → Option (Int32 × gW)) (hk99 : ∀ (x1 : Int32) (x3 : Int32) (x4 : Int32) (x5 : Int32) (w : gW), zok eI (k99 x1 x3 x4 x5 w) Q → Gz l m_Le_leastFall 6 99 [(0, .ref 99), (1, .int x1), (3, .int x3), (4, .int x4), (5, .int x5)] [] w Q) (x1 : Int32) (x3 : Int32) (x4 : Int32) (x5 : Int32) (w : gW) (h : zok eI (f_Le_leastFall_b134 k84 k99 x1 x3 x4 x5 w) Q) : Gz l m_Le_leastFall 6 134 [(0, .ref 99), (1, .int x1), (3, .int x3), (4, .int x4), (5, .int x5)] [] w Q := by
  unfold f_Le_leastFall_b134 at h
  refine Gz.iconst (n := 0) (v := (0 : Int32)) (pc' := 135) (by decide +kernel) rfl rfl ?_
  exact g_Le_leastFall_b135 k84 hk84 k99 hk99 x1 x3 x4 x5 (0 : Int32) w h
theorem g_Le_leastFall_b99_s {l : Launch} {Q : Option Value → gW → Prop} (k84 : Int32 → Int32 → Int32 → gW → Option (Int32 × gW)) (hk84 : ∀ (x1 : Int32) (x3 : Int32) (x4 : Int32) (w : gW), zok eI (k84 x1 x3 x4 w) Q → Gz l m_Le_leastFall 6 84 [(0, .ref 99), (1, .int x1), (3, .int x3), (4, .int x4)] [] w Q) (k99 : Int32 → Int32 → Int32 → Int32 → gW → Option (Int32 × gW)) (hk99 : ∀ (x1 : Int32) (x3 : Int32) (x4 : Int32) (x5 : Int32) (w : gW), zok eI (k99 x1 x3 x4 x5 w) Q → Gz l m_Le_leastFall 6 99 [(0, .ref 99), (1, .int x1), (3, .int x3), (4, .int x4), (5, .int x5)] [] w Q) (x1 : Int32) (x3 : Int32) (x4 : Int32) (x5 : Int32) (w : gW) (h : zok eI (f_Le_leastFall_b99_s k84 k99 x1 x3 x4 x5 w) Q) : Gz l m_Le_leastFall 6 99 [(0, .ref 99), (1, .int x1), (3, .int x3), (4, .int x4), (5, .int x5)] [] w Q := by
  unfold f_Le_leastFall_b99_s at h
  refine Gz.iload (i := 5) (pc' := 101) (by decide +kernel) rfl 4 rfl ?_
  refine Gz.aload_n (q := 0) (pc' := 102) (by decide +kernel) rfl 0 rfl ?_
  refine Gz.getR (pc' := 105) (j := 2) 59 fd_Le_26 sh_99 rfl (by decide +kernel) rfl ?_
  refine Gz.callVI (st := [.int x5]) (b := 59) (pc' := 108) [] (g_An_allSworn w) h ok_m_An_allSworn lk_Le_34 sh_59 rfl rfl rfl (Nat.le_of_ble_eq_true rfl) (Nat.le_of_ble_eq_true rfl) (Nat.le_of_ble_eq_true rfl) (by decide +kernel) rfl (fun v1 w2 h => ?_)
  refine Gz.icmp_gt (off := 71) (tgt := 179) (pc' := 111) (by decide +kernel) (by decide) rfl (fun c3 => ?_) (fun c3 => ?_)
  · have h := zok_t c3 h
    obtain ⟨v4, e5⟩ : ∃ y : Int32, y = x4 + (1 : Int32) := ⟨_, rfl⟩
    have h := zok_l e5 h
    refine Gz.iinc (i := 4) (n := 1) (pc' := 182) (L' := [(4, .int v4), (0, .ref 99), (1, .int x1), (3, .int x3), (5, .int x5)]) v4 (by decide +kernel) rfl 3 rfl (by rw [e5]; rfl) (Nat.le_of_ble_eq_true rfl) rfl ?_
    refine Gz.goto (off := -98) (tgt := 84) (by decide +kernel) (by decide) ?_
    refine Gz.sub (L' := [(0, .ref 99), (1, .int x1), (3, .int x3), (4, .int v4)]) [1, 2, 3, 0] rfl ?_
    exact hk84 x1 x3 v4 w2 h
  · have h := zok_f c3 h
    refine Gz.iload (i := 5) (pc' := 113) (by decide +kernel) rfl 4 rfl ?_
    refine Gz.callSI (st := []) (pc' := 116) [.int x5] (g_Int_bitCount x5 w2) h ok_m_Int_bitCount lk_Le_101 rfl (Nat.le_of_ble_eq_true rfl) (Nat.le_of_ble_eq_true rfl) (Nat.le_of_ble_eq_true rfl) (by decide +kernel) rfl (fun v6 w7 h => ?_)
    refine Gz.iload (i := 4) (pc' := 118) (by decide +kernel) rfl 3 rfl ?_
    refine Gz.icmp_ne (off := 16) (tgt := 134) (pc' := 121) (by decide +kernel) (by decide) rfl (fun c8 => ?_) (fun c8 => ?_)
    · have h := zok_f c8 h
      exact g_Le_leastFall_b134 k84 hk84 k99 hk99 x1 x3 x4 x5 w7 h
    · have h := zok_t c8 h
      refine Gz.iload_n (q := 3) (pc' := 122) (by decide +kernel) rfl 2 rfl ?_
      refine Gz.iload (i := 5) (pc' := 124) (by decide +kernel) rfl 4 rfl ?_
      refine Gz.iconst (n := -1) (v := (-1 : Int32)) (pc' := 125) (by decide +kernel) rfl rfl ?_
      refine Gz.ixor (pc' := 126) (by decide +kernel) rfl ?_
      refine Gz.iand (pc' := 127) (by decide +kernel) rfl ?_
      refine Gz.if_ne (off := 7) (tgt := 134) (pc' := 130) (by decide +kernel) (by decide) rfl (fun c9 => ?_) (fun c9 => ?_)
      · have h := zok_f c9 h
        exact g_Le_leastFall_b134 k84 hk84 k99 hk99 x1 x3 x4 x5 w7 h
      · have h := zok_t c9 h
        refine Gz.iconst (n := 1) (v := (1 : Int32)) (pc' := 131) (by decide +kernel) rfl rfl ?_
        refine Gz.goto (off := 4) (tgt := 135) (by decide +kernel) (by decide) ?_
        exact g_Le_leastFall_b135 k84 hk84 k99 hk99 x1 x3 x4 x5 (1 : Int32) w7 h
theorem g_Le_leastFall_b99 {l : Launch} {Q : Option Value → gW → Prop} (k84 : Int32 → Int32 → Int32 → gW → Option (Int32 × gW)) (hk84 : ∀ (x1 : Int32) (x3 : Int32) (x4 : Int32) (w : gW), zok eI (k84 x1 x3 x4 w) Q → Gz l m_Le_leastFall 6 84 [(0, .ref 99), (1, .int x1), (3, .int x3), (4, .int x4)] [] w Q) (x1 : Int32) (x3 : Int32) (x4 : Int32) (x5 : Int32) (w : gW) (h : zok eI (f_Le_leastFall_b99 k84 x1 x3 x4 x5 w) Q) : Gz l m_Le_leastFall 6 99 [(0, .ref 99), (1, .int x1), (3, .int x3), (4, .int x4), (5, .int x5)] [] w Q := by
  have key : ∀ (n : Nat) (x1 : Int32) (x3 : Int32) (x4 : Int32) (x5 : Int32) (w : gW), zok eI (zfx (fun _ _ _ _ _ => none) (f_Le_leastFall_b99_s k84) n x1 x3 x4 x5 w) Q → Gz l m_Le_leastFall 6 99 [(0, .ref 99), (1, .int x1), (3, .int x3), (4, .int x4), (5, .int x5)] [] w Q := by
    intro n
    induction n with
    | zero => intro x1 x3 x4 x5 w h; exact zok_n h
    | succ n ih => intro x1 x3 x4 x5 w h; exact g_Le_leastFall_b99_s k84 hk84 _ ih x1 x3 x4 x5 w h
  exact key zFU x1 x3 x4 x5 w h
theorem g_Le_leastFall_b84_s {l : Launch} {Q : Option Value → gW → Prop} (k84 : Int32 → Int32 → Int32 → gW → Option (Int32 × gW)) (hk84 : ∀ (x1 : Int32) (x3 : Int32) (x4 : Int32) (w : gW), zok eI (k84 x1 x3 x4 w) Q → Gz l m_Le_leastFall 6 84 [(0, .ref 99), (1, .int x1), (3, .int x3), (4, .int x4)] [] w Q) (x1 : Int32) (x3 : Int32) (x4 : Int32) (w : gW) (h : zok eI (f_Le_leastFall_b84_s k84 x1 x3 x4 w) Q) : Gz l m_Le_leastFall 6 84 [(0, .ref 99), (1, .int x1), (3, .int x3), (4, .int x4)] [] w Q := by
  unfold f_Le_leastFall_b84_s at h
  refine Gz.iload (i := 4) (pc' := 86) (by decide +kernel) rfl 3 rfl ?_
  refine Gz.aload_n (q := 0) (pc' := 87) (by decide +kernel) rfl 0 rfl ?_
  refine Gz.getR (pc' := 90) (j := 2) 59 fd_Le_26 sh_99 rfl (by decide +kernel) rfl ?_
  refine Gz.callVI (st := [.int x4]) (b := 59) (pc' := 93) [] (g_An_swornCount w) h ok_m_An_swornCount lk_Le_52 sh_59 rfl rfl rfl (Nat.le_of_ble_eq_true rfl) (Nat.le_of_ble_eq_true rfl) (Nat.le_of_ble_eq_true rfl) (by decide +kernel) rfl (fun v1 w2 h => ?_)
  refine Gz.icmp_gt (off := 92) (tgt := 185) (pc' := 96) (by decide +kernel) (by decide) rfl (fun c3 => ?_) (fun c3 => ?_)
  · have h := zok_t c3 h
    refine Gz.iconst (n := -1) (v := (-1 : Int32)) (pc' := 186) (by decide +kernel) rfl rfl ?_
    exact Gz.ireturn (by decide +kernel) rfl (zok_sI h)
  · have h := zok_f c3 h
    refine Gz.iconst (n := 0) (v := (0 : Int32)) (pc' := 97) (by decide +kernel) rfl rfl ?_
    refine Gz.istore (i := 5) (pc' := 99) (L' := [(5, .int (0 : Int32)), (0, .ref 99), (1, .int x1), (3, .int x3), (4, .int x4)]) (by decide +kernel) rfl (Nat.le_of_ble_eq_true rfl) rfl ?_
    refine Gz.sub (L' := [(0, .ref 99), (1, .int x1), (3, .int x3), (4, .int x4), (5, .int (0 : Int32))]) [1, 2, 3, 4, 0] rfl ?_
    exact g_Le_leastFall_b99 k84 hk84 x1 x3 x4 (0 : Int32) w2 h
theorem g_Le_leastFall_b84 {l : Launch} {Q : Option Value → gW → Prop} (x1 : Int32) (x3 : Int32) (x4 : Int32) (w : gW) (h : zok eI (f_Le_leastFall_b84 x1 x3 x4 w) Q) : Gz l m_Le_leastFall 6 84 [(0, .ref 99), (1, .int x1), (3, .int x3), (4, .int x4)] [] w Q := by
  have key : ∀ (n : Nat) (x1 : Int32) (x3 : Int32) (x4 : Int32) (w : gW), zok eI (zfx (fun _ _ _ _ => none) (f_Le_leastFall_b84_s) n x1 x3 x4 w) Q → Gz l m_Le_leastFall 6 84 [(0, .ref 99), (1, .int x1), (3, .int x3), (4, .int x4)] [] w Q := by
    intro n
    induction n with
    | zero => intro x1 x3 x4 w h; exact zok_n h
    | succ n ih => intro x1 x3 x4 w h; exact g_Le_leastFall_b84_s _ ih x1 x3 x4 w h
  exact key zFU x1 x3 x4 w h
theorem g_Le_leastFall_b32_s {l : Launch} {Q : Option Value → gW → Prop} (k32 : Int32 → Int32 → Int32 → Int32 → gW → Option (Int32 × gW)) (hk32 : ∀ (x1 : Int32) (x2 : Int32) (x3 : Int32) (x4 : Int32) (w : gW), zok eI (k32 x1 x2 x3 x4 w) Q → Gz l m_Le_leastFall 6 32 [(0, .ref 99), (1, .int x1), (2, .int x2), (3, .int x3), (4, .int x4)] [] w Q) (x1 : Int32) (x2 : Int32) (x3 : Int32) (x4 : Int32) (w : gW) (h : zok eI (f_Le_leastFall_b32_s k32 x1 x2 x3 x4 w) Q) : Gz l m_Le_leastFall 6 32 [(0, .ref 99), (1, .int x1), (2, .int x2), (3, .int x3), (4, .int x4)] [] w Q := by
  unfold f_Le_leastFall_b32_s at h
  refine Gz.iload (i := 4) (pc' := 34) (by decide +kernel) rfl 4 rfl ?_
  refine Gz.aload_n (q := 0) (pc' := 35) (by decide +kernel) rfl 0 rfl ?_
  refine Gz.getR (pc' := 38) (j := 2) 59 fd_Le_26 sh_99 rfl (by decide +kernel) rfl ?_
  refine Gz.callVI (st := [.int x4]) (b := 59) (pc' := 41) [] (g_An_swornCount w) h ok_m_An_swornCount lk_Le_52 sh_59 rfl rfl rfl (Nat.le_of_ble_eq_true rfl) (Nat.le_of_ble_eq_true rfl) (Nat.le_of_ble_eq_true rfl) (by decide +kernel) rfl (fun v1 w2 h => ?_)
  refine Gz.icmp_ge (off := 40) (tgt := 81) (pc' := 44) (by decide +kernel) (by decide) rfl (fun c3 => ?_) (fun c3 => ?_)
  · have h := zok_t c3 h
    refine Gz.iconst (n := 0) (v := (0 : Int32)) (pc' := 82) (by decide +kernel) rfl rfl ?_
    refine Gz.istore (i := 4) (pc' := 84) (L' := [(4, .int (0 : Int32)), (0, .ref 99), (1, .int x1), (2, .int x2), (3, .int x3)]) (by decide +kernel) rfl (Nat.le_of_ble_eq_true rfl) rfl ?_
    refine Gz.sub (L' := [(0, .ref 99), (1, .int x1), (3, .int x3), (4, .int (0 : Int32))]) [1, 2, 4, 0] rfl ?_
    exact g_Le_leastFall_b84 x1 x3 (0 : Int32) w2 h
  · have h := zok_f c3 h
    refine Gz.iload_n (q := 3) (pc' := 45) (by decide +kernel) rfl 3 rfl ?_
    refine Gz.iload_n (q := 2) (pc' := 46) (by decide +kernel) rfl 2 rfl ?_
    refine Gz.iload (i := 4) (pc' := 48) (by decide +kernel) rfl 4 rfl ?_
    refine Gz.ishr (pc' := 49) (by decide +kernel) rfl ?_
    refine Gz.iconst (n := 1) (v := (1 : Int32)) (pc' := 50) (by decide +kernel) rfl rfl ?_
    refine Gz.iand (pc' := 51) (by decide +kernel) rfl ?_
    refine Gz.if_eq (off := 21) (tgt := 72) (pc' := 54) (by decide +kernel) (by decide) rfl (fun c4 => ?_) (fun c4 => ?_)
    · have h := zok_t c4 h
      refine Gz.sub (L' := [(0, .ref 99), (1, .int x1), (2, .int x2), (4, .int x4)]) [0, 1, 2, 4] rfl ?_
      exact g_Le_leastFall_b72 k32 hk32 x1 x2 x4 x3 w2 h
    · have h := zok_f c4 h
      refine Gz.aload_n (q := 0) (pc' := 55) (by decide +kernel) rfl 0 rfl ?_
      refine Gz.iload (i := 4) (pc' := 57) (by decide +kernel) rfl 4 rfl ?_
      refine Gz.iload (i := 4) (pc' := 59) (by decide +kernel) rfl 4 rfl ?_
      refine Gz.callVI (st := [.int x3]) (b := 99) (pc' := 62) [.int x4, .int x4] (g_Le_canHold x4 x4 w2) h ok_m_Le_canHold lk_Le_67 sh_99 rfl rfl rfl (Nat.le_of_ble_eq_true rfl) (Nat.le_of_ble_eq_true rfl) (Nat.le_of_ble_eq_true rfl) (by decide +kernel) rfl (fun v5 w6 h => ?_)
      refine Gz.if_ne (off := 10) (tgt := 72) (pc' := 65) (by decide +kernel) (by decide) rfl (fun c7 => ?_) (fun c7 => ?_)
      · have h := zok_f c7 h
        refine Gz.sub (L' := [(0, .ref 99), (1, .int x1), (2, .int x2), (4, .int x4)]) [0, 1, 2, 4] rfl ?_
        exact g_Le_leastFall_b72 k32 hk32 x1 x2 x4 x3 w6 h
      · have h := zok_t c7 h
        refine Gz.iconst (n := 1) (v := (1 : Int32)) (pc' := 66) (by decide +kernel) rfl rfl ?_
        refine Gz.iload (i := 4) (pc' := 68) (by decide +kernel) rfl 4 rfl ?_
        refine Gz.ishl (pc' := 69) (by decide +kernel) rfl ?_
        refine Gz.goto (off := 4) (tgt := 73) (by decide +kernel) (by decide) ?_
        refine Gz.sub (L' := [(0, .ref 99), (1, .int x1), (2, .int x2), (4, .int x4)]) [0, 1, 2, 4] rfl ?_
        exact g_Le_leastFall_b73 k32 hk32 x1 x2 x4 x3 ((1 : Int32) <<< (x4 &&& 31)) w6 h
theorem g_Le_leastFall_b32 {l : Launch} {Q : Option Value → gW → Prop} (x1 : Int32) (x2 : Int32) (x3 : Int32) (x4 : Int32) (w : gW) (h : zok eI (f_Le_leastFall_b32 x1 x2 x3 x4 w) Q) : Gz l m_Le_leastFall 6 32 [(0, .ref 99), (1, .int x1), (2, .int x2), (3, .int x3), (4, .int x4)] [] w Q := by
  have key : ∀ (n : Nat) (x1 : Int32) (x2 : Int32) (x3 : Int32) (x4 : Int32) (w : gW), zok eI (zfx (fun _ _ _ _ _ => none) (f_Le_leastFall_b32_s) n x1 x2 x3 x4 w) Q → Gz l m_Le_leastFall 6 32 [(0, .ref 99), (1, .int x1), (2, .int x2), (3, .int x3), (4, .int x4)] [] w Q := by
    intro n
    induction n with
    | zero => intro x1 x2 x3 x4 w h; exact zok_n h
    | succ n ih => intro x1 x2 x3 x4 w h; exact g_Le_leastFall_b32_s _ ih x1 x2 x3 x4 w h
  exact key zFU x1 x2 x3 x4 w h
theorem g_Le_leastFall {l : Launch} (a1 : Int32) (w : gW) : gCt l m_Le_leastFall 6 [.ref 99, .int a1] w eI (f_Le_leastFall a1 w) := by
  intro Q h
  unfold f_Le_leastFall at h
  show Gz l m_Le_leastFall 6 0 [(0, .ref 99), (1, .int a1)] [] w Q
  refine Gz.aload_n (q := 0) (pc' := 1) (by decide +kernel) rfl 0 rfl ?_
  refine Gz.getR (pc' := 4) (j := 3) 73 fd_Le_30 sh_99 rfl (by decide +kernel) rfl ?_
  refine Gz.callVR (st := []) (b := 73) (pc' := 7) [] (g_Co_possible w) h ok_m_Co_possible lk_Le_40 sh_73 rfl rfl rfl (Nat.le_of_ble_eq_true rfl) (Nat.le_of_ble_eq_true rfl) (Nat.le_of_ble_eq_true rfl) (by decide +kernel) rfl (fun v1 w2 h => ?_)
  refine Gz.aload_n (q := 0) (pc' := 8) (by decide +kernel) rfl 0 rfl ?_
  refine Gz.getR (pc' := 11) (j := 0) 19 fd_Le_18 sh_99 rfl (by decide +kernel) rfl ?_
  refine Gz.callVI (st := [.ref v1]) (b := 19) (pc' := 14) [] (g_La_words w2) h ok_m_La_words lk_Le_55 sh_19 rfl rfl rfl (Nat.le_of_ble_eq_true rfl) (Nat.le_of_ble_eq_true rfl) (Nat.le_of_ble_eq_true rfl) (by decide +kernel) rfl (fun v3 w4 h => ?_)
  refine Gz.callSI (st := []) (pc' := 17) [.ref v1, .int v3] (g_Ro_isEmpty v1 v3 w4) h ok_m_Ro_isEmpty lk_Le_63 rfl (Nat.le_of_ble_eq_true rfl) (Nat.le_of_ble_eq_true rfl) (Nat.le_of_ble_eq_true rfl) (by decide +kernel) rfl (fun v5 w6 h => ?_)
  refine Gz.if_eq (off := 5) (tgt := 22) (pc' := 20) (by decide +kernel) (by decide) rfl (fun c7 => ?_) (fun c7 => ?_)
  · have h := zok_t c7 h
    refine Gz.aload_n (q := 0) (pc' := 23) (by decide +kernel) rfl 0 rfl ?_
    refine Gz.callVI (st := []) (b := 99) (pc' := 26) [] (g_Le_withoutNames w6) h ok_m_Le_withoutNames lk_Le_98 sh_99 rfl rfl rfl (Nat.le_of_ble_eq_true rfl) (Nat.le_of_ble_eq_true rfl) (Nat.le_of_ble_eq_true rfl) (by decide +kernel) rfl (fun v8 w9 h => ?_)
    refine Gz.istore_n (q := 2) (pc' := 27) (L' := [(2, .int v8), (0, .ref 99), (1, .int a1)]) (by decide +kernel) rfl (Nat.le_of_ble_eq_true rfl) rfl ?_
    refine Gz.iconst (n := 0) (v := (0 : Int32)) (pc' := 28) (by decide +kernel) rfl rfl ?_
    refine Gz.istore_n (q := 3) (pc' := 29) (L' := [(3, .int (0 : Int32)), (2, .int v8), (0, .ref 99), (1, .int a1)]) (by decide +kernel) rfl (Nat.le_of_ble_eq_true rfl) rfl ?_
    refine Gz.iconst (n := 0) (v := (0 : Int32)) (pc' := 30) (by decide +kernel) rfl rfl ?_
    refine Gz.istore (i := 4) (pc' := 32) (L' := [(4, .int (0 : Int32)), (3, .int (0 : Int32)), (2, .int v8), (0, .ref 99), (1, .int a1)]) (by decide +kernel) rfl (Nat.le_of_ble_eq_true rfl) rfl ?_
    refine Gz.sub (L' := [(0, .ref 99), (1, .int a1), (2, .int v8), (3, .int (0 : Int32)), (4, .int (0 : Int32))]) [3, 4, 2, 1, 0] rfl ?_
    exact g_Le_leastFall_b32 a1 v8 (0 : Int32) (0 : Int32) w9 h
  · have h := zok_f c7 h
    refine Gz.iconst (n := -1) (v := (-1 : Int32)) (pc' := 21) (by decide +kernel) rfl rfl ?_
    exact Gz.ireturn (by decide +kernel) rfl (zok_sI h)
def f_X_fall (a1 : Int32) (w : gW) : Option (Int32 × gW) :=
zb (f_La_isThere w) (fun v1 w2 =>
if v1 = 0 then
(some ((-1 : Int32), w2))
else
(zb (f_X_isZeroOrOne a1 w2) (fun v4 w5 =>
if v4 = 0 then
(some ((-1 : Int32), w5))
else
(zb (f_Le_leastFall a1 w5) (fun v7 w8 =>
some (v7, w8))))))
theorem g_X_fall {l : Launch} (a1 : Int32) (w : gW) : gCt l m_X_fall 7 [.ref 0, .int a1] w eI (f_X_fall a1 w) := by
  intro Q h
  unfold f_X_fall at h
  show Gz l m_X_fall 7 0 [(0, .ref 0), (1, .int a1)] [] w Q
  refine Gz.aload_n (q := 0) (pc' := 1) (by decide +kernel) rfl 0 rfl ?_
  refine Gz.getR (pc' := 4) (j := 3) 19 fd_X_33 sh_0 rfl (by decide +kernel) rfl ?_
  refine Gz.callVI (st := []) (b := 19) (pc' := 7) [] (g_La_isThere w) h ok_m_La_isThere lk_X_176 sh_19 rfl rfl rfl (Nat.le_of_ble_eq_true rfl) (Nat.le_of_ble_eq_true rfl) (Nat.le_of_ble_eq_true rfl) (by decide +kernel) rfl (fun v1 w2 h => ?_)
  refine Gz.if_eq (off := 21) (tgt := 28) (pc' := 10) (by decide +kernel) (by decide) rfl (fun c3 => ?_) (fun c3 => ?_)
  · have h := zok_t c3 h
    refine Gz.iconst (n := -1) (v := (-1 : Int32)) (pc' := 29) (by decide +kernel) rfl rfl ?_
    exact Gz.ireturn (by decide +kernel) rfl (zok_sI h)
  · have h := zok_f c3 h
    refine Gz.iload_n (q := 1) (pc' := 11) (by decide +kernel) rfl 1 rfl ?_
    refine Gz.callSI (st := []) (pc' := 14) [.int a1] (g_X_isZeroOrOne a1 w2) h ok_m_X_isZeroOrOne lk_X_228 rfl (Nat.le_of_ble_eq_true rfl) (Nat.le_of_ble_eq_true rfl) (Nat.le_of_ble_eq_true rfl) (by decide +kernel) rfl (fun v4 w5 h => ?_)
    refine Gz.if_eq (off := 14) (tgt := 28) (pc' := 17) (by decide +kernel) (by decide) rfl (fun c6 => ?_) (fun c6 => ?_)
    · have h := zok_t c6 h
      refine Gz.iconst (n := -1) (v := (-1 : Int32)) (pc' := 29) (by decide +kernel) rfl rfl ?_
      exact Gz.ireturn (by decide +kernel) rfl (zok_sI h)
    · have h := zok_f c6 h
      refine Gz.aload_n (q := 0) (pc' := 18) (by decide +kernel) rfl 0 rfl ?_
      refine Gz.getR (pc' := 21) (j := 8) 99 fd_X_70 sh_0 rfl (by decide +kernel) rfl ?_
      refine Gz.iload_n (q := 1) (pc' := 22) (by decide +kernel) rfl 1 rfl ?_
      refine Gz.callVI (st := []) (b := 99) (pc' := 25) [.int a1] (g_Le_leastFall a1 w5) h ok_m_Le_leastFall lk_X_282 sh_99 rfl rfl rfl (Nat.le_of_ble_eq_true rfl) (Nat.le_of_ble_eq_true rfl) (Nat.le_of_ble_eq_true rfl) (by decide +kernel) rfl (fun v7 w8 h => ?_)
      refine Gz.goto (off := 4) (tgt := 29) (by decide +kernel) (by decide) ?_
      exact Gz.ireturn (by decide +kernel) rfl (zok_sI h)
def f_Oa_setGain (a1 : Int32) (a2 : Int32) (w : gW) : Option (Unit × gW) :=
zb (f_Oa_has a1 w) (fun v1 w2 =>
if v1 = 0 then
(some ((), w2))
else
(if inb a1 8 then
zl (zsI w2 18 (ix a1) a2) (fun w5 =>
some ((), w5))
else none))
theorem g_Oa_setGain {l : Launch} (a1 : Int32) (a2 : Int32) (w : gW) : gCt l m_Oa_setGain 2 [.ref 5, .int a1, .int a2] w eV (f_Oa_setGain a1 a2 w) := by
  intro Q h
  unfold f_Oa_setGain at h
  show Gz l m_Oa_setGain 2 0 [(0, .ref 5), (1, .int a1), (2, .int a2)] [] w Q
  refine Gz.aload_n (q := 0) (pc' := 1) (by decide +kernel) rfl 0 rfl ?_
  refine Gz.iload_n (q := 1) (pc' := 2) (by decide +kernel) rfl 1 rfl ?_
  refine Gz.callVI (st := []) (b := 5) (pc' := 5) [.int a1] (g_Oa_has a1 w) h ok_m_Oa_has lk_Oa_30 sh_5 rfl rfl rfl (Nat.le_of_ble_eq_true rfl) (Nat.le_of_ble_eq_true rfl) (Nat.le_of_ble_eq_true rfl) (by decide +kernel) rfl (fun v1 w2 h => ?_)
  refine Gz.if_eq (off := 10) (tgt := 15) (pc' := 8) (by decide +kernel) (by decide) rfl (fun c3 => ?_) (fun c3 => ?_)
  · have h := zok_t c3 h
    exact Gz.return_ (by decide +kernel) rfl (zok_sV h)
  · have h := zok_f c3 h
    refine Gz.aload_n (q := 0) (pc' := 9) (by decide +kernel) rfl 0 rfl ?_
    refine Gz.getR (pc' := 12) (j := 3) 18 fd_Oa_23 sh_5 rfl (by decide +kernel) rfl ?_
    refine Gz.iload_n (q := 1) (pc' := 13) (by decide +kernel) rfl 1 rfl ?_
    refine Gz.iload_n (q := 2) (pc' := 14) (by decide +kernel) rfl 2 rfl ?_
    obtain ⟨c4, h⟩ := zok_c h
    refine Gz.iast (pc' := 15) (n := 8) (by decide +kernel) rfl rfl c4 ?_
    refine Gz.nmW (fun w5 e6 => ?_)
    have h := zok_l e6 h
    exact Gz.return_ (by decide +kernel) rfl (zok_sV h)
def f_X_stake (a1 : Int32) (a2 : Int32) (w : gW) : Option (Int32 × gW) :=
zb (f_Oa_has a1 w) (fun v1 w2 =>
if v1 = 0 then
(some ((0 : Int32), w2))
else
(if a2 < 0 then
(some ((0 : Int32), w2))
else
(if a2 ≤ (99 : Int32) then
(zb (f_Oa_setGain a1 a2 w2) (fun _ w6 =>
some ((1 : Int32), w6)))
else
(some ((0 : Int32), w2)))))
theorem g_X_stake {l : Launch} (a1 : Int32) (a2 : Int32) (w : gW) : gCt l m_X_stake 3 [.ref 0, .int a1, .int a2] w eI (f_X_stake a1 a2 w) := by
  intro Q h
  unfold f_X_stake at h
  show Gz l m_X_stake 3 0 [(0, .ref 0), (1, .int a1), (2, .int a2)] [] w Q
  refine Gz.aload_n (q := 0) (pc' := 1) (by decide +kernel) rfl 0 rfl ?_
  refine Gz.getR (pc' := 4) (j := 2) 5 fd_X_26 sh_0 rfl (by decide +kernel) rfl ?_
  refine Gz.iload_n (q := 1) (pc' := 5) (by decide +kernel) rfl 1 rfl ?_
  refine Gz.callVI (st := []) (b := 5) (pc' := 8) [.int a1] (g_Oa_has a1 w) h ok_m_Oa_has lk_X_285 sh_5 rfl rfl rfl (Nat.le_of_ble_eq_true rfl) (Nat.le_of_ble_eq_true rfl) (Nat.le_of_ble_eq_true rfl) (by decide +kernel) rfl (fun v1 w2 h => ?_)
  refine Gz.if_eq (off := 13) (tgt := 21) (pc' := 11) (by decide +kernel) (by decide) rfl (fun c3 => ?_) (fun c3 => ?_)
  · have h := zok_t c3 h
    refine Gz.iconst (n := 0) (v := (0 : Int32)) (pc' := 22) (by decide +kernel) rfl rfl ?_
    exact Gz.zreturn (by decide +kernel) rfl (by decide) (zok_sI h)
  · have h := zok_f c3 h
    refine Gz.iload_n (q := 2) (pc' := 12) (by decide +kernel) rfl 2 rfl ?_
    refine Gz.if_lt (off := 9) (tgt := 21) (pc' := 15) (by decide +kernel) (by decide) rfl (fun c4 => ?_) (fun c4 => ?_)
    · have h := zok_t c4 h
      refine Gz.iconst (n := 0) (v := (0 : Int32)) (pc' := 22) (by decide +kernel) rfl rfl ?_
      exact Gz.zreturn (by decide +kernel) rfl (by decide) (zok_sI h)
    · have h := zok_f c4 h
      refine Gz.iload_n (q := 2) (pc' := 16) (by decide +kernel) rfl 2 rfl ?_
      refine Gz.bipush (n := 99) (v := (99 : Int32)) (pc' := 18) (by decide +kernel) rfl rfl ?_
      refine Gz.icmp_le (off := 5) (tgt := 23) (pc' := 21) (by decide +kernel) (by decide) rfl (fun c5 => ?_) (fun c5 => ?_)
      · have h := zok_t c5 h
        refine Gz.aload_n (q := 0) (pc' := 24) (by decide +kernel) rfl 0 rfl ?_
        refine Gz.getR (pc' := 27) (j := 2) 5 fd_X_26 sh_0 rfl (by decide +kernel) rfl ?_
        refine Gz.iload_n (q := 1) (pc' := 28) (by decide +kernel) rfl 1 rfl ?_
        refine Gz.iload_n (q := 2) (pc' := 29) (by decide +kernel) rfl 2 rfl ?_
        refine Gz.callVV (st := []) (b := 5) (pc' := 32) [.int a1, .int a2] (g_Oa_setGain a1 a2 w2) h ok_m_Oa_setGain lk_X_288 sh_5 rfl rfl rfl (Nat.le_of_ble_eq_true rfl) (Nat.le_of_ble_eq_true rfl) (Nat.le_of_ble_eq_true rfl) (by decide +kernel) rfl (fun _ w6 h => ?_)
        refine Gz.iconst (n := 1) (v := (1 : Int32)) (pc' := 33) (by decide +kernel) rfl rfl ?_
        exact Gz.zreturn (by decide +kernel) rfl (by decide) (zok_sI h)
      · have h := zok_f c5 h
        refine Gz.iconst (n := 0) (v := (0 : Int32)) (pc' := 22) (by decide +kernel) rfl rfl ?_
        exact Gz.zreturn (by decide +kernel) rfl (by decide) (zok_sI h)
def f_X_isPrice (a0 : Int32) (w : gW) : Option (Int32 × gW) :=
if a0 < 0 then
(some ((0 : Int32), w))
else
(if (99 : Int32) < a0 then
(some ((0 : Int32), w))
else
(some ((1 : Int32), w)))
theorem g_X_isPrice {l : Launch} (a0 : Int32) (w : gW) : gCt l m_X_isPrice 1 [.int a0] w eI (f_X_isPrice a0 w) := by
  intro Q h
  unfold f_X_isPrice at h
  show Gz l m_X_isPrice 1 0 [(0, .int a0)] [] w Q
  refine Gz.iload_n (q := 0) (pc' := 1) (by decide +kernel) rfl 0 rfl ?_
  refine Gz.if_lt (off := 13) (tgt := 14) (pc' := 4) (by decide +kernel) (by decide) rfl (fun c1 => ?_) (fun c1 => ?_)
  · have h := zok_t c1 h
    refine Gz.iconst (n := 0) (v := (0 : Int32)) (pc' := 15) (by decide +kernel) rfl rfl ?_
    exact Gz.zreturn (by decide +kernel) rfl (by decide) (zok_sI h)
  · have h := zok_f c1 h
    refine Gz.iload_n (q := 0) (pc' := 5) (by decide +kernel) rfl 0 rfl ?_
    refine Gz.bipush (n := 99) (v := (99 : Int32)) (pc' := 7) (by decide +kernel) rfl rfl ?_
    refine Gz.icmp_gt (off := 7) (tgt := 14) (pc' := 10) (by decide +kernel) (by decide) rfl (fun c2 => ?_) (fun c2 => ?_)
    · have h := zok_t c2 h
      refine Gz.iconst (n := 0) (v := (0 : Int32)) (pc' := 15) (by decide +kernel) rfl rfl ?_
      exact Gz.zreturn (by decide +kernel) rfl (by decide) (zok_sI h)
    · have h := zok_f c2 h
      refine Gz.iconst (n := 1) (v := (1 : Int32)) (pc' := 11) (by decide +kernel) rfl rfl ?_
      refine Gz.goto (off := 4) (tgt := 15) (by decide +kernel) (by decide) ?_
      exact Gz.zreturn (by decide +kernel) rfl (by decide) (zok_sI h)
def f_Ga_prepare_b84 (k32 : Int32 → Int32 → gW → Option (Unit × gW)) (k48 : Int32 → Int32 → Int32 → gW → Option (Unit × gW)) (x3 : Int32) (x4 : Int32) (x5 : Int32) (s1 : Int32) (s2 : Int32) (s3 : Int32) (w : gW) : Option (Unit × gW) :=
if inb s1 9 then
zl (zsI w 106 (ix s1) (s2 ||| s3)) (fun w2 =>
zl (x5 + (1 : Int32)) (fun v4 =>
k48 x3 x4 v4 w2))
else none
def f_Ga_prepare_b119 (k32 : Int32 → Int32 → gW → Option (Unit × gW)) (x3 : Int32) (x4 : Int32) (s1 : Int32) (s2 : Int32) (s3 : Int32) (w : gW) : Option (Unit × gW) :=
if inb s1 9 then
zl (zsI w 106 (ix s1) (s2 ||| s3)) (fun w2 =>
zl (x4 + (1 : Int32)) (fun v4 =>
k32 x3 v4 w2))
else none
def f_Ga_prepare_b48_s (k32 : Int32 → Int32 → gW → Option (Unit × gW)) (k48 : Int32 → Int32 → Int32 → gW → Option (Unit × gW)) (x3 : Int32) (x4 : Int32) (x5 : Int32) (w : gW) : Option (Unit × gW) :=
if x3 ≤ x5 then
(if inb x4 9 then
zb (f_Cs_canBe x4 w) (fun v3 w4 =>
if v3 = 0 then
(f_Ga_prepare_b119 k32 x3 x4 x4 (w.1 106 (ix x4)) (0 : Int32) w4)
else
(f_Ga_prepare_b119 k32 x3 x4 x4 (w.1 106 (ix x4)) ((1 : Int32) <<< (x3 &&& 31)) w4))
else none)
else
(if inb x4 9 then
zb (f_Cs_canBoth x4 x5 w) (fun v7 w8 =>
if v7 = 0 then
(f_Ga_prepare_b84 k32 k48 x3 x4 x5 x4 (w.1 106 (ix x4)) (0 : Int32) w8)
else
(f_Ga_prepare_b84 k32 k48 x3 x4 x5 x4 (w.1 106 (ix x4)) ((1 : Int32) <<< (x5 &&& 31)) w8))
else none)
def f_Ga_prepare_b48 (k32 : Int32 → Int32 → gW → Option (Unit × gW)) : Int32 → Int32 → Int32 → gW → Option (Unit × gW) := zfx (fun _ _ _ _ => none) (f_Ga_prepare_b48_s k32) zFU
def f_Ga_prepare_b32_s (k32 : Int32 → Int32 → gW → Option (Unit × gW)) (x3 : Int32) (x4 : Int32) (w : gW) : Option (Unit × gW) :=
if x3 ≤ x4 then
(some ((), w))
else
(if (8 : Int32) ≤ x4 then
(some ((), w))
else
(f_Ga_prepare_b48 k32 x3 x4 (0 : Int32) w))
def f_Ga_prepare_b32 : Int32 → Int32 → gW → Option (Unit × gW) := zfx (fun _ _ _ => none) (f_Ga_prepare_b32_s) zFU
def f_Ga_prepare (a1 : Int32) (a2 : Int32) (w : gW) : Option (Unit × gW) :=
zl (zsI w 105 3 a2) (fun w1 =>
zb (f_Cs_hearAll a1 w1) (fun _ w3 =>
zb (f_Arr_fill_AII 106 (0 : Int32) w3) (fun _ w4 =>
zb (f_Oa_size w4) (fun v5 w6 =>
f_Ga_prepare_b32 v5 (0 : Int32) w6))))
theorem g_Ga_prepare_b84 {l : Launch} {Q : Option Value → gW → Prop} (k32 : Int32 → Int32 → gW → Option (Unit × gW)) (hk32 : ∀ (x3 : Int32) (x4 : Int32) (w : gW), zok eV (k32 x3 x4 w) Q → Gz l m_Ga_prepare 6 32 [(0, .ref 105), (3, .int x3), (4, .int x4)] [] w Q) (k48 : Int32 → Int32 → Int32 → gW → Option (Unit × gW)) (hk48 : ∀ (x3 : Int32) (x4 : Int32) (x5 : Int32) (w : gW), zok eV (k48 x3 x4 x5 w) Q → Gz l m_Ga_prepare 6 48 [(0, .ref 105), (3, .int x3), (4, .int x4), (5, .int x5)] [] w Q) (x3 : Int32) (x4 : Int32) (x5 : Int32) (s1 : Int32) (s2 : Int32) (s3 : Int32) (w : gW) (h : zok eV (f_Ga_prepare_b84 k32 k48 x3 x4 x5 s1 s2 s3 w) Q) : Gz l m_Ga_prepare 6 84 [(0, .ref 105), (3, .int x3), (4, .int x4), (5, .int x5)] [.int s3, .int s2, .int s1, .ref 106] w Q := by
  unfold f_Ga_prepare_b84 at h
  refine Gz.ior (pc' := 85) (by decide +kernel) rfl ?_
  obtain ⟨c1, h⟩ := zok_c h
  refine Gz.iast (pc' := 86) (n := 9) (by decide +kernel) rfl rfl c1 ?_
  refine Gz.nmW (fun w2 e3 => ?_)
  have h := zok_l e3 h
  obtain ⟨v4, e5⟩ : ∃ y : Int32, y = x5 + (1 : Int32) := ⟨_, rfl⟩
  have h := zok_l e5 h
  refine Gz.iinc (i := 5) (n := 1) (pc' := 89) (L' := [(5, .int v4), (0, .ref 105), (3, .int x3), (4, .int x4)]) v4 (by decide +kernel) rfl 3 rfl (by rw [e5]; rfl) (Nat.le_of_ble_eq_true rfl) rfl ?_
  refine Gz.goto (off := -41) (tgt := 48) (by decide +kernel) (by decide) ?_
  refine Gz.sub (L' := [(0, .ref 105), (3, .int x3), (4, .int x4), (5, .int v4)]) [1, 2, 3, 0] rfl ?_
  exact hk48 x3 x4 v4 w2 h
theorem g_Ga_prepare_b119 {l : Launch} {Q : Option Value → gW → Prop} (k32 : Int32 → Int32 → gW → Option (Unit × gW)) (hk32 : ∀ (x3 : Int32) (x4 : Int32) (w : gW), zok eV (k32 x3 x4 w) Q → Gz l m_Ga_prepare 6 32 [(0, .ref 105), (3, .int x3), (4, .int x4)] [] w Q) (x3 : Int32) (x4 : Int32) (s1 : Int32) (s2 : Int32) (s3 : Int32) (w : gW) (h : zok eV (f_Ga_prepare_b119 k32 x3 x4 s1 s2 s3 w) Q) : Gz l m_Ga_prepare 6 119 [(0, .ref 105), (3, .int x3), (4, .int x4)] [.int s3, .int s2, .int s1, .ref 106] w Q := by
  unfold f_Ga_prepare_b119 at h
  refine Gz.ior (pc' := 120) (by decide +kernel) rfl ?_
  obtain ⟨c1, h⟩ := zok_c h
  refine Gz.iast (pc' := 121) (n := 9) (by decide +kernel) rfl rfl c1 ?_
  refine Gz.nmW (fun w2 e3 => ?_)
  have h := zok_l e3 h
  obtain ⟨v4, e5⟩ : ∃ y : Int32, y = x4 + (1 : Int32) := ⟨_, rfl⟩
  have h := zok_l e5 h
  refine Gz.iinc (i := 4) (n := 1) (pc' := 124) (L' := [(4, .int v4), (0, .ref 105), (3, .int x3)]) v4 (by decide +kernel) rfl 2 rfl (by rw [e5]; rfl) (Nat.le_of_ble_eq_true rfl) rfl ?_
  refine Gz.goto (off := -92) (tgt := 32) (by decide +kernel) (by decide) ?_
  refine Gz.sub (L' := [(0, .ref 105), (3, .int x3), (4, .int v4)]) [1, 2, 0] rfl ?_
  exact hk32 x3 v4 w2 h
theorem g_Ga_prepare_b48_s {l : Launch} {Q : Option Value → gW → Prop} (k32 : Int32 → Int32 → gW → Option (Unit × gW)) (hk32 : ∀ (x3 : Int32) (x4 : Int32) (w : gW), zok eV (k32 x3 x4 w) Q → Gz l m_Ga_prepare 6 32 [(0, .ref 105), (3, .int x3), (4, .int x4)] [] w Q) (k48 : Int32 → Int32 → Int32 → gW → Option (Unit × gW)) (hk48 : ∀ (x3 : Int32) (x4 : Int32) (x5 : Int32) (w : gW), zok eV (k48 x3 x4 x5 w) Q → Gz l m_Ga_prepare 6 48 [(0, .ref 105), (3, .int x3), (4, .int x4), (5, .int x5)] [] w Q) (x3 : Int32) (x4 : Int32) (x5 : Int32) (w : gW) (h : zok eV (f_Ga_prepare_b48_s k32 k48 x3 x4 x5 w) Q) : Gz l m_Ga_prepare 6 48 [(0, .ref 105), (3, .int x3), (4, .int x4), (5, .int x5)] [] w Q := by
  unfold f_Ga_prepare_b48_s at h
  refine Gz.iload (i := 5) (pc' := 50) (by decide +kernel) rfl 3 rfl ?_
  refine Gz.iload_n (q := 3) (pc' := 51) (by decide +kernel) rfl 1 rfl ?_
  refine Gz.icmp_ge (off := 41) (tgt := 92) (pc' := 54) (by decide +kernel) (by decide) rfl (fun c1 => ?_) (fun c1 => ?_)
  · have h := zok_t c1 h
    refine Gz.aload_n (q := 0) (pc' := 93) (by decide +kernel) rfl 0 rfl ?_
    refine Gz.getR (pc' := 96) (j := 2) 106 fd_Ga_9 sh_105 rfl (by decide +kernel) rfl ?_
    refine Gz.iload (i := 4) (pc' := 98) (by decide +kernel) rfl 2 rfl ?_
    refine Gz.dup2 (pc' := 99) (by decide +kernel) rfl rfl rfl ?_
    obtain ⟨c2, h⟩ := zok_c h
    refine Gz.iald (pc' := 100) (n := 9) (by decide +kernel) rfl rfl c2 ?_
    refine Gz.aload_n (q := 0) (pc' := 101) (by decide +kernel) rfl 0 rfl ?_
    refine Gz.getR (pc' := 104) (j := 1) 88 fd_Ga_19 sh_105 rfl (by decide +kernel) rfl ?_
    refine Gz.iload (i := 4) (pc' := 106) (by decide +kernel) rfl 2 rfl ?_
    refine Gz.callVI (st := [.int (w.1 106 (ix x4)), .int x4, .ref 106]) (b := 88) (pc' := 109) [.int x4] (g_Cs_canBe x4 w) h ok_m_Cs_canBe lk_Ga_49 sh_88 rfl rfl rfl (Nat.le_of_ble_eq_true rfl) (Nat.le_of_ble_eq_true rfl) (Nat.le_of_ble_eq_true rfl) (by decide +kernel) rfl (fun v3 w4 h => ?_)
    refine Gz.if_eq (off := 9) (tgt := 118) (pc' := 112) (by decide +kernel) (by decide) rfl (fun c5 => ?_) (fun c5 => ?_)
    · have h := zok_t c5 h
      refine Gz.iconst (n := 0) (v := (0 : Int32)) (pc' := 119) (by decide +kernel) rfl rfl ?_
      refine Gz.sub (L' := [(0, .ref 105), (3, .int x3), (4, .int x4)]) [0, 1, 2] rfl ?_
      exact g_Ga_prepare_b119 k32 hk32 x3 x4 x4 (w.1 106 (ix x4)) (0 : Int32) w4 h
    · have h := zok_f c5 h
      refine Gz.iconst (n := 1) (v := (1 : Int32)) (pc' := 113) (by decide +kernel) rfl rfl ?_
      refine Gz.iload_n (q := 3) (pc' := 114) (by decide +kernel) rfl 1 rfl ?_
      refine Gz.ishl (pc' := 115) (by decide +kernel) rfl ?_
      refine Gz.goto (off := 4) (tgt := 119) (by decide +kernel) (by decide) ?_
      refine Gz.sub (L' := [(0, .ref 105), (3, .int x3), (4, .int x4)]) [0, 1, 2] rfl ?_
      exact g_Ga_prepare_b119 k32 hk32 x3 x4 x4 (w.1 106 (ix x4)) ((1 : Int32) <<< (x3 &&& 31)) w4 h
  · have h := zok_f c1 h
    refine Gz.aload_n (q := 0) (pc' := 55) (by decide +kernel) rfl 0 rfl ?_
    refine Gz.getR (pc' := 58) (j := 2) 106 fd_Ga_9 sh_105 rfl (by decide +kernel) rfl ?_
    refine Gz.iload (i := 4) (pc' := 60) (by decide +kernel) rfl 2 rfl ?_
    refine Gz.dup2 (pc' := 61) (by decide +kernel) rfl rfl rfl ?_
    obtain ⟨c6, h⟩ := zok_c h
    refine Gz.iald (pc' := 62) (n := 9) (by decide +kernel) rfl rfl c6 ?_
    refine Gz.aload_n (q := 0) (pc' := 63) (by decide +kernel) rfl 0 rfl ?_
    refine Gz.getR (pc' := 66) (j := 1) 88 fd_Ga_19 sh_105 rfl (by decide +kernel) rfl ?_
    refine Gz.iload (i := 4) (pc' := 68) (by decide +kernel) rfl 2 rfl ?_
    refine Gz.iload (i := 5) (pc' := 70) (by decide +kernel) rfl 3 rfl ?_
    refine Gz.callVI (st := [.int (w.1 106 (ix x4)), .int x4, .ref 106]) (b := 88) (pc' := 73) [.int x4, .int x5] (g_Cs_canBoth x4 x5 w) h ok_m_Cs_canBoth lk_Ga_45 sh_88 rfl rfl rfl (Nat.le_of_ble_eq_true rfl) (Nat.le_of_ble_eq_true rfl) (Nat.le_of_ble_eq_true rfl) (by decide +kernel) rfl (fun v7 w8 h => ?_)
    refine Gz.if_eq (off := 10) (tgt := 83) (pc' := 76) (by decide +kernel) (by decide) rfl (fun c9 => ?_) (fun c9 => ?_)
    · have h := zok_t c9 h
      refine Gz.iconst (n := 0) (v := (0 : Int32)) (pc' := 84) (by decide +kernel) rfl rfl ?_
      exact g_Ga_prepare_b84 k32 hk32 k48 hk48 x3 x4 x5 x4 (w.1 106 (ix x4)) (0 : Int32) w8 h
    · have h := zok_f c9 h
      refine Gz.iconst (n := 1) (v := (1 : Int32)) (pc' := 77) (by decide +kernel) rfl rfl ?_
      refine Gz.iload (i := 5) (pc' := 79) (by decide +kernel) rfl 3 rfl ?_
      refine Gz.ishl (pc' := 80) (by decide +kernel) rfl ?_
      refine Gz.goto (off := 4) (tgt := 84) (by decide +kernel) (by decide) ?_
      exact g_Ga_prepare_b84 k32 hk32 k48 hk48 x3 x4 x5 x4 (w.1 106 (ix x4)) ((1 : Int32) <<< (x5 &&& 31)) w8 h
theorem g_Ga_prepare_b48 {l : Launch} {Q : Option Value → gW → Prop} (k32 : Int32 → Int32 → gW → Option (Unit × gW)) (hk32 : ∀ (x3 : Int32) (x4 : Int32) (w : gW), zok eV (k32 x3 x4 w) Q → Gz l m_Ga_prepare 6 32 [(0, .ref 105), (3, .int x3), (4, .int x4)] [] w Q) (x3 : Int32) (x4 : Int32) (x5 : Int32) (w : gW) (h : zok eV (f_Ga_prepare_b48 k32 x3 x4 x5 w) Q) : Gz l m_Ga_prepare 6 48 [(0, .ref 105), (3, .int x3), (4, .int x4), (5, .int x5)] [] w Q := by
  have key : ∀ (n : Nat) (x3 : Int32) (x4 : Int32) (x5 : Int32) (w : gW), zok eV (zfx (fun _ _ _ _ => none) (f_Ga_prepare_b48_s k32) n x3 x4 x5 w) Q → Gz l m_Ga_prepare 6 48 [(0, .ref 105), (3, .int x3), (4, .int x4), (5, .int x5)] [] w Q := by
    intro n
    induction n with
    | zero => intro x3 x4 x5 w h; exact zok_n h
    | succ n ih => intro x3 x4 x5 w h; exact g_Ga_prepare_b48_s k32 hk32 _ ih x3 x4 x5 w h
  exact key zFU x3 x4 x5 w h
theorem g_Ga_prepare_b32_s {l : Launch} {Q : Option Value → gW → Prop} (k32 : Int32 → Int32 → gW → Option (Unit × gW)) (hk32 : ∀ (x3 : Int32) (x4 : Int32) (w : gW), zok eV (k32 x3 x4 w) Q → Gz l m_Ga_prepare 6 32 [(0, .ref 105), (3, .int x3), (4, .int x4)] [] w Q) (x3 : Int32) (x4 : Int32) (w : gW) (h : zok eV (f_Ga_prepare_b32_s k32 x3 x4 w) Q) : Gz l m_Ga_prepare 6 32 [(0, .ref 105), (3, .int x3), (4, .int x4)] [] w Q := by
  unfold f_Ga_prepare_b32_s at h
  refine Gz.iload (i := 4) (pc' := 34) (by decide +kernel) rfl 2 rfl ?_
  refine Gz.iload_n (q := 3) (pc' := 35) (by decide +kernel) rfl 1 rfl ?_
  refine Gz.icmp_ge (off := 92) (tgt := 127) (pc' := 38) (by decide +kernel) (by decide) rfl (fun c1 => ?_) (fun c1 => ?_)
  · have h := zok_t c1 h
    exact Gz.return_ (by decide +kernel) rfl (zok_sV h)
  · have h := zok_f c1 h
    refine Gz.iload (i := 4) (pc' := 40) (by decide +kernel) rfl 2 rfl ?_
    refine Gz.bipush (n := 8) (v := (8 : Int32)) (pc' := 42) (by decide +kernel) rfl rfl ?_
    refine Gz.icmp_ge (off := 85) (tgt := 127) (pc' := 45) (by decide +kernel) (by decide) rfl (fun c2 => ?_) (fun c2 => ?_)
    · have h := zok_t c2 h
      exact Gz.return_ (by decide +kernel) rfl (zok_sV h)
    · have h := zok_f c2 h
      refine Gz.iconst (n := 0) (v := (0 : Int32)) (pc' := 46) (by decide +kernel) rfl rfl ?_
      refine Gz.istore (i := 5) (pc' := 48) (L' := [(5, .int (0 : Int32)), (0, .ref 105), (3, .int x3), (4, .int x4)]) (by decide +kernel) rfl (Nat.le_of_ble_eq_true rfl) rfl ?_
      refine Gz.sub (L' := [(0, .ref 105), (3, .int x3), (4, .int x4), (5, .int (0 : Int32))]) [1, 2, 3, 0] rfl ?_
      exact g_Ga_prepare_b48 k32 hk32 x3 x4 (0 : Int32) w h
theorem g_Ga_prepare_b32 {l : Launch} {Q : Option Value → gW → Prop} (x3 : Int32) (x4 : Int32) (w : gW) (h : zok eV (f_Ga_prepare_b32 x3 x4 w) Q) : Gz l m_Ga_prepare 6 32 [(0, .ref 105), (3, .int x3), (4, .int x4)] [] w Q := by
  have key : ∀ (n : Nat) (x3 : Int32) (x4 : Int32) (w : gW), zok eV (zfx (fun _ _ _ => none) (f_Ga_prepare_b32_s) n x3 x4 w) Q → Gz l m_Ga_prepare 6 32 [(0, .ref 105), (3, .int x3), (4, .int x4)] [] w Q := by
    intro n
    induction n with
    | zero => intro x3 x4 w h; exact zok_n h
    | succ n ih => intro x3 x4 w h; exact g_Ga_prepare_b32_s _ ih x3 x4 w h
  exact key zFU x3 x4 w h
theorem g_Ga_prepare {l : Launch} (a1 : Int32) (a2 : Int32) (w : gW) : gCt l m_Ga_prepare 6 [.ref 105, .int a1, .int a2] w eV (f_Ga_prepare a1 a2 w) := by
  intro Q h
  unfold f_Ga_prepare at h
  show Gz l m_Ga_prepare 6 0 [(0, .ref 105), (1, .int a1), (2, .int a2)] [] w Q
  refine Gz.aload_n (q := 0) (pc' := 1) (by decide +kernel) rfl 0 rfl ?_
  refine Gz.iload_n (q := 2) (pc' := 2) (by decide +kernel) rfl 2 rfl ?_
  refine Gz.putI (pc' := 5) (j := 3) fd_Ga_23 sh_105 rfl (by decide +kernel) rfl ?_
  refine Gz.nmW (fun w1 e2 => ?_)
  have h := zok_l e2 h
  refine Gz.aload_n (q := 0) (pc' := 6) (by decide +kernel) rfl 0 rfl ?_
  refine Gz.getR (pc' := 9) (j := 1) 88 fd_Ga_19 sh_105 rfl (by decide +kernel) rfl ?_
  refine Gz.iload_n (q := 1) (pc' := 10) (by decide +kernel) rfl 1 rfl ?_
  refine Gz.callVV (st := []) (b := 88) (pc' := 13) [.int a1] (g_Cs_hearAll a1 w1) h ok_m_Cs_hearAll lk_Ga_27 sh_88 rfl rfl rfl (Nat.le_of_ble_eq_true rfl) (Nat.le_of_ble_eq_true rfl) (Nat.le_of_ble_eq_true rfl) (by decide +kernel) rfl (fun _ w3 h => ?_)
  refine Gz.aload_n (q := 0) (pc' := 14) (by decide +kernel) rfl 0 rfl ?_
  refine Gz.getR (pc' := 17) (j := 2) 106 fd_Ga_9 sh_105 rfl (by decide +kernel) rfl ?_
  refine Gz.iconst (n := 0) (v := (0 : Int32)) (pc' := 18) (by decide +kernel) rfl rfl ?_
  refine Gz.callSV (st := []) (pc' := 21) [.ref 106, .int (0 : Int32)] (g_Arr_fill_AII 106 (0 : Int32) w3) h ok_m_Arr_fill_AII lk_Ga_33 rfl (Nat.le_of_ble_eq_true rfl) (Nat.le_of_ble_eq_true rfl) (Nat.le_of_ble_eq_true rfl) (by decide +kernel) rfl (fun _ w4 h => ?_)
  refine Gz.aload_n (q := 0) (pc' := 22) (by decide +kernel) rfl 0 rfl ?_
  refine Gz.getR (pc' := 25) (j := 0) 5 fd_Ga_15 sh_105 rfl (by decide +kernel) rfl ?_
  refine Gz.callVI (st := []) (b := 5) (pc' := 28) [] (g_Oa_size w4) h ok_m_Oa_size lk_Ga_39 sh_5 rfl rfl rfl (Nat.le_of_ble_eq_true rfl) (Nat.le_of_ble_eq_true rfl) (Nat.le_of_ble_eq_true rfl) (by decide +kernel) rfl (fun v5 w6 h => ?_)
  refine Gz.istore_n (q := 3) (pc' := 29) (L' := [(3, .int v5), (0, .ref 105), (1, .int a1), (2, .int a2)]) (by decide +kernel) rfl (Nat.le_of_ble_eq_true rfl) rfl ?_
  refine Gz.iconst (n := 0) (v := (0 : Int32)) (pc' := 30) (by decide +kernel) rfl rfl ?_
  refine Gz.istore (i := 4) (pc' := 32) (L' := [(4, .int (0 : Int32)), (3, .int v5), (0, .ref 105), (1, .int a1), (2, .int a2)]) (by decide +kernel) rfl (Nat.le_of_ble_eq_true rfl) rfl ?_
  refine Gz.sub (L' := [(0, .ref 105), (3, .int v5), (4, .int (0 : Int32))]) [2, 1, 0] rfl ?_
  exact g_Ga_prepare_b32 v5 (0 : Int32) w6 h
