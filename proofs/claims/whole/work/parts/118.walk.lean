def f_M_layPerjured_b157 (k7 : Int32 → Int32 → Int32 → gW → Option (Unit × gW)) (x1 : Int32) (x2 : Int32) (x3 : Int32) (w : gW) : Option (Unit × gW) :=
zl (x3 + (1 : Int32)) (fun v1 =>
k7 x1 x2 v1 w)
def f_M_layPerjured_b109 (k7 : Int32 → Int32 → Int32 → gW → Option (Unit × gW)) (k44 : Int32 → Int32 → Int32 → Int32 → Int32 → Int32 → gW → Option (Unit × gW)) (x1 : Int32) (x2 : Int32) (x3 : Int32) (x4 : Int32) (x5 : Int32) (x6 : Int32) (w : gW) : Option (Unit × gW) :=
zl (x6 + (1 : Int32)) (fun v1 =>
k44 x1 x2 x3 x4 x5 v1 w)
def f_M_layPerjured_b106 (k7 : Int32 → Int32 → Int32 → gW → Option (Unit × gW)) (k44 : Int32 → Int32 → Int32 → Int32 → Int32 → Int32 → gW → Option (Unit × gW)) (x1 : Int32) (x2 : Int32) (x3 : Int32) (x5 : Int32) (x6 : Int32) (s0 : Int32) (s1 : Int32) (w : gW) : Option (Unit × gW) :=
zl (s0 + s1) (fun v1 =>
f_M_layPerjured_b109 k7 k44 x1 x2 x3 v1 x5 x6 w)
def f_M_layPerjured_b135 (k7 : Int32 → Int32 → Int32 → gW → Option (Unit × gW)) (x1 : Int32) (x2 : Int32) (x3 : Int32) (x4 : Int32) (x5 : Int32) (w : gW) : Option (Unit × gW) :=
zl (zsI w 107 46 x4) (fun w1 =>
if inb x3 16807 then
zl (zsI w1 107 47 (w1.1 118 (ix x3))) (fun w4 =>
zl (zsI w4 107 48 x5) (fun w6 =>
f_M_layPerjured_b157 k7 x1 x2 x3 w6))
else none)
def f_M_layPerjured_b44_s (k7 : Int32 → Int32 → Int32 → gW → Option (Unit × gW)) (k44 : Int32 → Int32 → Int32 → Int32 → Int32 → Int32 → gW → Option (Unit × gW)) (x1 : Int32) (x2 : Int32) (x3 : Int32) (x4 : Int32) (x5 : Int32) (x6 : Int32) (w : gW) : Option (Unit × gW) :=
if (w.1 107 35) ≤ x6 then
(if (w.1 107 47) = (-1 : Int32) then
(f_M_layPerjured_b135 k7 x1 x2 x3 x4 x5 w)
else
(if x4 < (w.1 107 46) then
(f_M_layPerjured_b135 k7 x1 x2 x3 x4 x5 w)
else
(f_M_layPerjured_b157 k7 x1 x2 x3 w)))
else
(zb (f_M_has x2 x6 w) (fun v4 w5 =>
if v4 = 0 then
(f_M_layPerjured_b109 k7 k44 x1 x2 x3 x4 x5 x6 w5)
else
(zb (f_M_holdsSworn x6 x2 w5) (fun v7 w8 =>
if v7 = 0 then
(zl (x5 ||| ((1 : Int32) <<< (x6 &&& 31))) (fun v10 =>
zb (f_M_has x1 x6 w8) (fun v12 w13 =>
if v12 = 0 then
(f_M_layPerjured_b106 k7 k44 x1 x2 x3 v10 x6 x4 (0 : Int32) w13)
else
(if inb x6 10 then
f_M_layPerjured_b106 k7 k44 x1 x2 x3 v10 x6 x4 (w13.1 122 (ix x6)) w13
else none))))
else
(f_M_layPerjured_b109 k7 k44 x1 x2 x3 x4 x5 x6 w8)))))
def f_M_layPerjured_b44 (k7 : Int32 → Int32 → Int32 → gW → Option (Unit × gW)) : Int32 → Int32 → Int32 → Int32 → Int32 → Int32 → gW → Option (Unit × gW) := zfx (fun _ _ _ _ _ _ _ => none) (f_M_layPerjured_b44_s k7) zFU
def f_M_layPerjured_b7_s (k7 : Int32 → Int32 → Int32 → gW → Option (Unit × gW)) (x1 : Int32) (x2 : Int32) (x3 : Int32) (w : gW) : Option (Unit × gW) :=
if (w.1 107 26) ≤ x3 then
(some ((), w))
else
(if inb x3 16807 then
zb (f_M_live (w.1 118 (ix x3)) w) (fun _ w3 =>
zb (f_M_isPossible w3) (fun v4 w5 =>
if v4 = 0 then
(f_M_layPerjured_b157 k7 x1 x2 x3 w5)
else
(f_M_layPerjured_b44 k7 x1 x2 x3 (0 : Int32) (0 : Int32) (0 : Int32) w5)))
else none)
def f_M_layPerjured_b7 : Int32 → Int32 → Int32 → gW → Option (Unit × gW) := zfx (fun _ _ _ _ => none) (f_M_layPerjured_b7_s) zFU
def f_M_layPerjured (a1 : Int32) (a2 : Int32) (w : gW) : Option (Unit × gW) :=
zl (zsI w 107 47 (-1 : Int32)) (fun w1 =>
f_M_layPerjured_b7 a1 a2 (0 : Int32) w1)
theorem g_M_layPerjured_b157 {l : Launch} {Q : Option Value → gW → Prop} (k7 : Int32 → Int32 → Int32 → gW → Option (Unit × gW)) (hk7 : ∀ (x1 : Int32) (x2 : Int32) (x3 : Int32) (w : gW), zok eV (k7 x1 x2 x3 w) Q → Gz l m_M_layPerjured 56 7 [(0, .ref 107), (1, .int x1), (2, .int x2), (3, .int x3)] [] w Q) (x1 : Int32) (x2 : Int32) (x3 : Int32) (w : gW) (h : zok eV (f_M_layPerjured_b157 k7 x1 x2 x3 w) Q) : Gz l m_M_layPerjured 56 157 [(0, .ref 107), (1, .int x1), (2, .int x2), (3, .int x3)] [] w Q := by
  unfold f_M_layPerjured_b157 at h
  obtain ⟨v1, e2⟩ : ∃ y : Int32, y = x3 + (1 : Int32) := ⟨_, rfl⟩
  have h := zok_l e2 h
  refine Gz.iinc (i := 3) (n := 1) (pc' := 160) (L' := [(3, .int v1), (0, .ref 107), (1, .int x1), (2, .int x2)]) v1 (by decide +kernel) rfl 3 rfl (by rw [e2]; rfl) (Nat.le_of_ble_eq_true rfl) rfl ?_
  refine Gz.goto (off := -153) (tgt := 7) (by decide +kernel) (by decide) ?_
  refine Gz.sub (L' := [(0, .ref 107), (1, .int x1), (2, .int x2), (3, .int v1)]) [1, 2, 3, 0] rfl ?_
  exact hk7 x1 x2 v1 w h
theorem g_M_layPerjured_b109 {l : Launch} {Q : Option Value → gW → Prop} (k7 : Int32 → Int32 → Int32 → gW → Option (Unit × gW)) (hk7 : ∀ (x1 : Int32) (x2 : Int32) (x3 : Int32) (w : gW), zok eV (k7 x1 x2 x3 w) Q → Gz l m_M_layPerjured 56 7 [(0, .ref 107), (1, .int x1), (2, .int x2), (3, .int x3)] [] w Q) (k44 : Int32 → Int32 → Int32 → Int32 → Int32 → Int32 → gW → Option (Unit × gW)) (hk44 : ∀ (x1 : Int32) (x2 : Int32) (x3 : Int32) (x4 : Int32) (x5 : Int32) (x6 : Int32) (w : gW), zok eV (k44 x1 x2 x3 x4 x5 x6 w) Q → Gz l m_M_layPerjured 56 44 [(0, .ref 107), (1, .int x1), (2, .int x2), (3, .int x3), (4, .int x4), (5, .int x5), (6, .int x6)] [] w Q) (x1 : Int32) (x2 : Int32) (x3 : Int32) (x4 : Int32) (x5 : Int32) (x6 : Int32) (w : gW) (h : zok eV (f_M_layPerjured_b109 k7 k44 x1 x2 x3 x4 x5 x6 w) Q) : Gz l m_M_layPerjured 56 109 [(0, .ref 107), (1, .int x1), (2, .int x2), (3, .int x3), (4, .int x4), (5, .int x5), (6, .int x6)] [] w Q := by
  unfold f_M_layPerjured_b109 at h
  obtain ⟨v1, e2⟩ : ∃ y : Int32, y = x6 + (1 : Int32) := ⟨_, rfl⟩
  have h := zok_l e2 h
  refine Gz.iinc (i := 6) (n := 1) (pc' := 112) (L' := [(6, .int v1), (0, .ref 107), (1, .int x1), (2, .int x2), (3, .int x3), (4, .int x4), (5, .int x5)]) v1 (by decide +kernel) rfl 6 rfl (by rw [e2]; rfl) (Nat.le_of_ble_eq_true rfl) rfl ?_
  refine Gz.goto (off := -68) (tgt := 44) (by decide +kernel) (by decide) ?_
  refine Gz.sub (L' := [(0, .ref 107), (1, .int x1), (2, .int x2), (3, .int x3), (4, .int x4), (5, .int x5), (6, .int v1)]) [1, 2, 3, 4, 5, 6, 0] rfl ?_
  exact hk44 x1 x2 x3 x4 x5 v1 w h
theorem g_M_layPerjured_b106 {l : Launch} {Q : Option Value → gW → Prop} (k7 : Int32 → Int32 → Int32 → gW → Option (Unit × gW)) (hk7 : ∀ (x1 : Int32) (x2 : Int32) (x3 : Int32) (w : gW), zok eV (k7 x1 x2 x3 w) Q → Gz l m_M_layPerjured 56 7 [(0, .ref 107), (1, .int x1), (2, .int x2), (3, .int x3)] [] w Q) (k44 : Int32 → Int32 → Int32 → Int32 → Int32 → Int32 → gW → Option (Unit × gW)) (hk44 : ∀ (x1 : Int32) (x2 : Int32) (x3 : Int32) (x4 : Int32) (x5 : Int32) (x6 : Int32) (w : gW), zok eV (k44 x1 x2 x3 x4 x5 x6 w) Q → Gz l m_M_layPerjured 56 44 [(0, .ref 107), (1, .int x1), (2, .int x2), (3, .int x3), (4, .int x4), (5, .int x5), (6, .int x6)] [] w Q) (x1 : Int32) (x2 : Int32) (x3 : Int32) (x5 : Int32) (x6 : Int32) (s0 : Int32) (s1 : Int32) (w : gW) (h : zok eV (f_M_layPerjured_b106 k7 k44 x1 x2 x3 x5 x6 s0 s1 w) Q) : Gz l m_M_layPerjured 56 106 [(0, .ref 107), (1, .int x1), (2, .int x2), (3, .int x3), (5, .int x5), (6, .int x6)] [.int s1, .int s0] w Q := by
  unfold f_M_layPerjured_b106 at h
  refine Gz.iadd (pc' := 107) (by decide +kernel) rfl ?_
  refine Gz.nmI (fun v1 e2 => ?_)
  have h := zok_l e2 h
  refine Gz.istore (i := 4) (pc' := 109) (L' := [(4, .int v1), (0, .ref 107), (1, .int x1), (2, .int x2), (3, .int x3), (5, .int x5), (6, .int x6)]) (by decide +kernel) rfl (Nat.le_of_ble_eq_true rfl) rfl ?_
  refine Gz.sub (L' := [(0, .ref 107), (1, .int x1), (2, .int x2), (3, .int x3), (4, .int v1), (5, .int x5), (6, .int x6)]) [1, 2, 3, 4, 0, 5, 6] rfl ?_
  exact g_M_layPerjured_b109 k7 hk7 k44 hk44 x1 x2 x3 v1 x5 x6 w h
theorem g_M_layPerjured_b135 {l : Launch} {Q : Option Value → gW → Prop} (k7 : Int32 → Int32 → Int32 → gW → Option (Unit × gW)) (hk7 : ∀ (x1 : Int32) (x2 : Int32) (x3 : Int32) (w : gW), zok eV (k7 x1 x2 x3 w) Q → Gz l m_M_layPerjured 56 7 [(0, .ref 107), (1, .int x1), (2, .int x2), (3, .int x3)] [] w Q) (x1 : Int32) (x2 : Int32) (x3 : Int32) (x4 : Int32) (x5 : Int32) (w : gW) (h : zok eV (f_M_layPerjured_b135 k7 x1 x2 x3 x4 x5 w) Q) : Gz l m_M_layPerjured 56 135 [(0, .ref 107), (1, .int x1), (2, .int x2), (3, .int x3), (4, .int x4), (5, .int x5)] [] w Q := by
  unfold f_M_layPerjured_b135 at h
  refine Gz.aload_n (q := 0) (pc' := 136) (by decide +kernel) rfl 0 rfl ?_
  refine Gz.iload (i := 4) (pc' := 138) (by decide +kernel) rfl 4 rfl ?_
  refine Gz.putI (pc' := 141) (j := 46) fd_M_311 sh_107 rfl (by decide +kernel) rfl ?_
  refine Gz.nmW (fun w1 e2 => ?_)
  have h := zok_l e2 h
  refine Gz.aload_n (q := 0) (pc' := 142) (by decide +kernel) rfl 0 rfl ?_
  refine Gz.aload_n (q := 0) (pc' := 143) (by decide +kernel) rfl 0 rfl ?_
  refine Gz.getR (pc' := 146) (j := 25) 118 fd_M_44 sh_107 rfl (by decide +kernel) rfl ?_
  refine Gz.iload_n (q := 3) (pc' := 147) (by decide +kernel) rfl 3 rfl ?_
  obtain ⟨c3, h⟩ := zok_c h
  refine Gz.iald (pc' := 148) (n := 16807) (by decide +kernel) rfl rfl c3 ?_
  refine Gz.putI (pc' := 151) (j := 47) fd_M_308 sh_107 rfl (by decide +kernel) rfl ?_
  refine Gz.nmW (fun w4 e5 => ?_)
  have h := zok_l e5 h
  refine Gz.aload_n (q := 0) (pc' := 152) (by decide +kernel) rfl 0 rfl ?_
  refine Gz.iload (i := 5) (pc' := 154) (by decide +kernel) rfl 5 rfl ?_
  refine Gz.putI (pc' := 157) (j := 48) fd_M_314 sh_107 rfl (by decide +kernel) rfl ?_
  refine Gz.nmW (fun w6 e7 => ?_)
  have h := zok_l e7 h
  refine Gz.sub (L' := [(0, .ref 107), (1, .int x1), (2, .int x2), (3, .int x3)]) [0, 1, 2, 3] rfl ?_
  exact g_M_layPerjured_b157 k7 hk7 x1 x2 x3 w6 h
theorem g_M_layPerjured_b44_s {l : Launch} {Q : Option Value → gW → Prop} (k7 : Int32 → Int32 → Int32 → gW → Option (Unit × gW)) (hk7 : ∀ (x1 : Int32) (x2 : Int32) (x3 : Int32) (w : gW), zok eV (k7 x1 x2 x3 w) Q → Gz l m_M_layPerjured 56 7 [(0, .ref 107), (1, .int x1), (2, .int x2), (3, .int x3)] [] w Q) (k44 : Int32 → Int32 → Int32 → Int32 → Int32 → Int32 → gW → Option (Unit × gW)) (hk44 : ∀ (x1 : Int32) (x2 : Int32) (x3 : Int32) (x4 : Int32) (x5 : Int32) (x6 : Int32) (w : gW), zok eV (k44 x1 x2 x3 x4 x5 x6 w) Q → Gz l m_M_layPerjured 56 44 [(0, .ref 107), (1, .int x1), (2, .int x2), (3, .int x3), (4, .int x4), (5, .int x5), (6, .int x6)] [] w Q) (x1 : Int32) (x2 : Int32) (x3 : Int32) (x4 : Int32) (x5 : Int32) (x6 : Int32) (w : gW) (h : zok eV (f_M_layPerjured_b44_s k7 k44 x1 x2 x3 x4 x5 x6 w) Q) : Gz l m_M_layPerjured 56 44 [(0, .ref 107), (1, .int x1), (2, .int x2), (3, .int x3), (4, .int x4), (5, .int x5), (6, .int x6)] [] w Q := by
  unfold f_M_layPerjured_b44_s at h
  refine Gz.iload (i := 6) (pc' := 46) (by decide +kernel) rfl 6 rfl ?_
  refine Gz.aload_n (q := 0) (pc' := 47) (by decide +kernel) rfl 0 rfl ?_
  refine Gz.getI (pc' := 50) (j := 35) fd_M_211 sh_107 rfl (by decide +kernel) rfl ?_
  refine Gz.icmp_ge (off := 65) (tgt := 115) (pc' := 53) (by decide +kernel) (by decide) rfl (fun c1 => ?_) (fun c1 => ?_)
  · have h := zok_t c1 h
    refine Gz.aload_n (q := 0) (pc' := 116) (by decide +kernel) rfl 0 rfl ?_
    refine Gz.getI (pc' := 119) (j := 47) fd_M_308 sh_107 rfl (by decide +kernel) rfl ?_
    refine Gz.iconst (n := -1) (v := (-1 : Int32)) (pc' := 120) (by decide +kernel) rfl rfl ?_
    refine Gz.icmp_eq (off := 15) (tgt := 135) (pc' := 123) (by decide +kernel) (by decide) rfl (fun c2 => ?_) (fun c2 => ?_)
    · have h := zok_t c2 h
      refine Gz.sub (L' := [(0, .ref 107), (1, .int x1), (2, .int x2), (3, .int x3), (4, .int x4), (5, .int x5)]) [0, 1, 2, 3, 4, 5] rfl ?_
      exact g_M_layPerjured_b135 k7 hk7 x1 x2 x3 x4 x5 w h
    · have h := zok_f c2 h
      refine Gz.iload (i := 4) (pc' := 125) (by decide +kernel) rfl 4 rfl ?_
      refine Gz.aload_n (q := 0) (pc' := 126) (by decide +kernel) rfl 0 rfl ?_
      refine Gz.getI (pc' := 129) (j := 46) fd_M_311 sh_107 rfl (by decide +kernel) rfl ?_
      refine Gz.icmp_lt (off := 6) (tgt := 135) (pc' := 132) (by decide +kernel) (by decide) rfl (fun c3 => ?_) (fun c3 => ?_)
      · have h := zok_t c3 h
        refine Gz.sub (L' := [(0, .ref 107), (1, .int x1), (2, .int x2), (3, .int x3), (4, .int x4), (5, .int x5)]) [0, 1, 2, 3, 4, 5] rfl ?_
        exact g_M_layPerjured_b135 k7 hk7 x1 x2 x3 x4 x5 w h
      · have h := zok_f c3 h
        refine Gz.goto (off := 25) (tgt := 157) (by decide +kernel) (by decide) ?_
        refine Gz.sub (L' := [(0, .ref 107), (1, .int x1), (2, .int x2), (3, .int x3)]) [0, 1, 2, 3] rfl ?_
        exact g_M_layPerjured_b157 k7 hk7 x1 x2 x3 w h
  · have h := zok_f c1 h
    refine Gz.iload_n (q := 2) (pc' := 54) (by decide +kernel) rfl 2 rfl ?_
    refine Gz.iload (i := 6) (pc' := 56) (by decide +kernel) rfl 6 rfl ?_
    refine Gz.callSI (st := []) (pc' := 59) [.int x2, .int x6] (g_M_has x2 x6 w) h ok_m_M_has lk_M_170 rfl (Nat.le_of_ble_eq_true rfl) (Nat.le_of_ble_eq_true rfl) (Nat.le_of_ble_eq_true rfl) (by decide +kernel) rfl (fun v4 w5 h => ?_)
    refine Gz.if_eq (off := 50) (tgt := 109) (pc' := 62) (by decide +kernel) (by decide) rfl (fun c6 => ?_) (fun c6 => ?_)
    · have h := zok_t c6 h
      exact g_M_layPerjured_b109 k7 hk7 k44 hk44 x1 x2 x3 x4 x5 x6 w5 h
    · have h := zok_f c6 h
      refine Gz.aload_n (q := 0) (pc' := 63) (by decide +kernel) rfl 0 rfl ?_
      refine Gz.iload (i := 6) (pc' := 65) (by decide +kernel) rfl 6 rfl ?_
      refine Gz.iload_n (q := 2) (pc' := 66) (by decide +kernel) rfl 2 rfl ?_
      refine Gz.callVI (st := []) (b := 107) (pc' := 69) [.int x6, .int x2] (g_M_holdsSworn x6 x2 w5) h ok_m_M_holdsSworn lk_M_264 sh_107 rfl rfl rfl (Nat.le_of_ble_eq_true rfl) (Nat.le_of_ble_eq_true rfl) (Nat.le_of_ble_eq_true rfl) (by decide +kernel) rfl (fun v7 w8 h => ?_)
      refine Gz.if_eq (off := 6) (tgt := 75) (pc' := 72) (by decide +kernel) (by decide) rfl (fun c9 => ?_) (fun c9 => ?_)
      · have h := zok_t c9 h
        refine Gz.iload (i := 5) (pc' := 77) (by decide +kernel) rfl 5 rfl ?_
        refine Gz.iconst (n := 1) (v := (1 : Int32)) (pc' := 78) (by decide +kernel) rfl rfl ?_
        refine Gz.iload (i := 6) (pc' := 80) (by decide +kernel) rfl 6 rfl ?_
        refine Gz.ishl (pc' := 81) (by decide +kernel) rfl ?_
        refine Gz.ior (pc' := 82) (by decide +kernel) rfl ?_
        refine Gz.nmI (fun v10 e11 => ?_)
        have h := zok_l e11 h
        refine Gz.istore (i := 5) (pc' := 84) (L' := [(5, .int v10), (0, .ref 107), (1, .int x1), (2, .int x2), (3, .int x3), (4, .int x4), (6, .int x6)]) (by decide +kernel) rfl (Nat.le_of_ble_eq_true rfl) rfl ?_
        refine Gz.iload (i := 4) (pc' := 86) (by decide +kernel) rfl 5 rfl ?_
        refine Gz.iload_n (q := 1) (pc' := 87) (by decide +kernel) rfl 2 rfl ?_
        refine Gz.iload (i := 6) (pc' := 89) (by decide +kernel) rfl 6 rfl ?_
        refine Gz.callSI (st := [.int x4]) (pc' := 92) [.int x1, .int x6] (g_M_has x1 x6 w8) h ok_m_M_has lk_M_170 rfl (Nat.le_of_ble_eq_true rfl) (Nat.le_of_ble_eq_true rfl) (Nat.le_of_ble_eq_true rfl) (by decide +kernel) rfl (fun v12 w13 h => ?_)
        refine Gz.if_eq (off := 13) (tgt := 105) (pc' := 95) (by decide +kernel) (by decide) rfl (fun c14 => ?_) (fun c14 => ?_)
        · have h := zok_t c14 h
          refine Gz.iconst (n := 0) (v := (0 : Int32)) (pc' := 106) (by decide +kernel) rfl rfl ?_
          refine Gz.sub (L' := [(0, .ref 107), (1, .int x1), (2, .int x2), (3, .int x3), (5, .int v10), (6, .int x6)]) [1, 2, 3, 4, 0, 6] rfl ?_
          exact g_M_layPerjured_b106 k7 hk7 k44 hk44 x1 x2 x3 v10 x6 x4 (0 : Int32) w13 h
        · have h := zok_f c14 h
          refine Gz.aload_n (q := 0) (pc' := 96) (by decide +kernel) rfl 1 rfl ?_
          refine Gz.getR (pc' := 99) (j := 30) 122 fd_M_56 sh_107 rfl (by decide +kernel) rfl ?_
          refine Gz.iload (i := 6) (pc' := 101) (by decide +kernel) rfl 6 rfl ?_
          obtain ⟨c15, h⟩ := zok_c h
          refine Gz.iald (pc' := 102) (n := 10) (by decide +kernel) rfl rfl c15 ?_
          refine Gz.goto (off := 4) (tgt := 106) (by decide +kernel) (by decide) ?_
          refine Gz.sub (L' := [(0, .ref 107), (1, .int x1), (2, .int x2), (3, .int x3), (5, .int v10), (6, .int x6)]) [1, 2, 3, 4, 0, 6] rfl ?_
          exact g_M_layPerjured_b106 k7 hk7 k44 hk44 x1 x2 x3 v10 x6 x4 (w13.1 122 (ix x6)) w13 h
      · have h := zok_f c9 h
        refine Gz.goto (off := 37) (tgt := 109) (by decide +kernel) (by decide) ?_
        exact g_M_layPerjured_b109 k7 hk7 k44 hk44 x1 x2 x3 x4 x5 x6 w8 h
theorem g_M_layPerjured_b44 {l : Launch} {Q : Option Value → gW → Prop} (k7 : Int32 → Int32 → Int32 → gW → Option (Unit × gW)) (hk7 : ∀ (x1 : Int32) (x2 : Int32) (x3 : Int32) (w : gW), zok eV (k7 x1 x2 x3 w) Q → Gz l m_M_layPerjured 56 7 [(0, .ref 107), (1, .int x1), (2, .int x2), (3, .int x3)] [] w Q) (x1 : Int32) (x2 : Int32) (x3 : Int32) (x4 : Int32) (x5 : Int32) (x6 : Int32) (w : gW) (h : zok eV (f_M_layPerjured_b44 k7 x1 x2 x3 x4 x5 x6 w) Q) : Gz l m_M_layPerjured 56 44 [(0, .ref 107), (1, .int x1), (2, .int x2), (3, .int x3), (4, .int x4), (5, .int x5), (6, .int x6)] [] w Q := by
  have key : ∀ (n : Nat) (x1 : Int32) (x2 : Int32) (x3 : Int32) (x4 : Int32) (x5 : Int32) (x6 : Int32) (w : gW), zok eV (zfx (fun _ _ _ _ _ _ _ => none) (f_M_layPerjured_b44_s k7) n x1 x2 x3 x4 x5 x6 w) Q → Gz l m_M_layPerjured 56 44 [(0, .ref 107), (1, .int x1), (2, .int x2), (3, .int x3), (4, .int x4), (5, .int x5), (6, .int x6)] [] w Q := by
    intro n
    induction n with
    | zero => intro x1 x2 x3 x4 x5 x6 w h; exact zok_n h
    | succ n ih => intro x1 x2 x3 x4 x5 x6 w h; exact g_M_layPerjured_b44_s k7 hk7 _ ih x1 x2 x3 x4 x5 x6 w h
  exact key zFU x1 x2 x3 x4 x5 x6 w h
theorem g_M_layPerjured_b7_s {l : Launch} {Q : Option Value → gW → Prop} (k7 : Int32 → Int32 → Int32 → gW → Option (Unit × gW)) (hk7 : ∀ (x1 : Int32) (x2 : Int32) (x3 : Int32) (w : gW), zok eV (k7 x1 x2 x3 w) Q → Gz l m_M_layPerjured 56 7 [(0, .ref 107), (1, .int x1), (2, .int x2), (3, .int x3)] [] w Q) (x1 : Int32) (x2 : Int32) (x3 : Int32) (w : gW) (h : zok eV (f_M_layPerjured_b7_s k7 x1 x2 x3 w) Q) : Gz l m_M_layPerjured 56 7 [(0, .ref 107), (1, .int x1), (2, .int x2), (3, .int x3)] [] w Q := by
  unfold f_M_layPerjured_b7_s at h
  refine Gz.iload_n (q := 3) (pc' := 8) (by decide +kernel) rfl 3 rfl ?_
  refine Gz.aload_n (q := 0) (pc' := 9) (by decide +kernel) rfl 0 rfl ?_
  refine Gz.getI (pc' := 12) (j := 26) fd_M_224 sh_107 rfl (by decide +kernel) rfl ?_
  refine Gz.icmp_ge (off := 151) (tgt := 163) (pc' := 15) (by decide +kernel) (by decide) rfl (fun c1 => ?_) (fun c1 => ?_)
  · have h := zok_t c1 h
    exact Gz.return_ (by decide +kernel) rfl (zok_sV h)
  · have h := zok_f c1 h
    refine Gz.aload_n (q := 0) (pc' := 16) (by decide +kernel) rfl 0 rfl ?_
    refine Gz.aload_n (q := 0) (pc' := 17) (by decide +kernel) rfl 0 rfl ?_
    refine Gz.getR (pc' := 20) (j := 25) 118 fd_M_44 sh_107 rfl (by decide +kernel) rfl ?_
    refine Gz.iload_n (q := 3) (pc' := 21) (by decide +kernel) rfl 3 rfl ?_
    obtain ⟨c2, h⟩ := zok_c h
    refine Gz.iald (pc' := 22) (n := 16807) (by decide +kernel) rfl rfl c2 ?_
    refine Gz.callVV (st := []) (b := 107) (pc' := 25) [.int (w.1 118 (ix x3))] (g_M_live (w.1 118 (ix x3)) w) h ok_m_M_live lk_M_231 sh_107 rfl rfl rfl (Nat.le_of_ble_eq_true rfl) (Nat.le_of_ble_eq_true rfl) (Nat.le_of_ble_eq_true rfl) (by decide +kernel) rfl (fun _ w3 h => ?_)
    refine Gz.aload_n (q := 0) (pc' := 26) (by decide +kernel) rfl 0 rfl ?_
    refine Gz.callVI (st := []) (b := 107) (pc' := 29) [] (g_M_isPossible w3) h ok_m_M_isPossible lk_M_258 sh_107 rfl rfl rfl (Nat.le_of_ble_eq_true rfl) (Nat.le_of_ble_eq_true rfl) (Nat.le_of_ble_eq_true rfl) (by decide +kernel) rfl (fun v4 w5 h => ?_)
    refine Gz.if_ne (off := 6) (tgt := 35) (pc' := 32) (by decide +kernel) (by decide) rfl (fun c6 => ?_) (fun c6 => ?_)
    · have h := zok_f c6 h
      refine Gz.iconst (n := 0) (v := (0 : Int32)) (pc' := 36) (by decide +kernel) rfl rfl ?_
      refine Gz.istore (i := 4) (pc' := 38) (L' := [(4, .int (0 : Int32)), (0, .ref 107), (1, .int x1), (2, .int x2), (3, .int x3)]) (by decide +kernel) rfl (Nat.le_of_ble_eq_true rfl) rfl ?_
      refine Gz.iconst (n := 0) (v := (0 : Int32)) (pc' := 39) (by decide +kernel) rfl rfl ?_
      refine Gz.istore (i := 5) (pc' := 41) (L' := [(5, .int (0 : Int32)), (4, .int (0 : Int32)), (0, .ref 107), (1, .int x1), (2, .int x2), (3, .int x3)]) (by decide +kernel) rfl (Nat.le_of_ble_eq_true rfl) rfl ?_
      refine Gz.iconst (n := 0) (v := (0 : Int32)) (pc' := 42) (by decide +kernel) rfl rfl ?_
      refine Gz.istore (i := 6) (pc' := 44) (L' := [(6, .int (0 : Int32)), (5, .int (0 : Int32)), (4, .int (0 : Int32)), (0, .ref 107), (1, .int x1), (2, .int x2), (3, .int x3)]) (by decide +kernel) rfl (Nat.le_of_ble_eq_true rfl) rfl ?_
      refine Gz.sub (L' := [(0, .ref 107), (1, .int x1), (2, .int x2), (3, .int x3), (4, .int (0 : Int32)), (5, .int (0 : Int32)), (6, .int (0 : Int32))]) [3, 4, 5, 6, 2, 1, 0] rfl ?_
      exact g_M_layPerjured_b44 k7 hk7 x1 x2 x3 (0 : Int32) (0 : Int32) (0 : Int32) w5 h
    · have h := zok_t c6 h
      refine Gz.goto (off := 125) (tgt := 157) (by decide +kernel) (by decide) ?_
      exact g_M_layPerjured_b157 k7 hk7 x1 x2 x3 w5 h
theorem g_M_layPerjured_b7 {l : Launch} {Q : Option Value → gW → Prop} (x1 : Int32) (x2 : Int32) (x3 : Int32) (w : gW) (h : zok eV (f_M_layPerjured_b7 x1 x2 x3 w) Q) : Gz l m_M_layPerjured 56 7 [(0, .ref 107), (1, .int x1), (2, .int x2), (3, .int x3)] [] w Q := by
  have key : ∀ (n : Nat) (x1 : Int32) (x2 : Int32) (x3 : Int32) (w : gW), zok eV (zfx (fun _ _ _ _ => none) (f_M_layPerjured_b7_s) n x1 x2 x3 w) Q → Gz l m_M_layPerjured 56 7 [(0, .ref 107), (1, .int x1), (2, .int x2), (3, .int x3)] [] w Q := by
    intro n
    induction n with
    | zero => intro x1 x2 x3 w h; exact zok_n h
    | succ n ih => intro x1 x2 x3 w h; exact g_M_layPerjured_b7_s _ ih x1 x2 x3 w h
  exact key zFU x1 x2 x3 w h
theorem g_M_layPerjured {l : Launch} (a1 : Int32) (a2 : Int32) (w : gW) : gCt l m_M_layPerjured 56 [.ref 107, .int a1, .int a2] w eV (f_M_layPerjured a1 a2 w) := by
  intro Q h
  unfold f_M_layPerjured at h
  show Gz l m_M_layPerjured 56 0 [(0, .ref 107), (1, .int a1), (2, .int a2)] [] w Q
  refine Gz.aload_n (q := 0) (pc' := 1) (by decide +kernel) rfl 0 rfl ?_
  refine Gz.iconst (n := -1) (v := (-1 : Int32)) (pc' := 2) (by decide +kernel) rfl rfl ?_
  refine Gz.putI (pc' := 5) (j := 47) fd_M_308 sh_107 rfl (by decide +kernel) rfl ?_
  refine Gz.nmW (fun w1 e2 => ?_)
  have h := zok_l e2 h
  refine Gz.iconst (n := 0) (v := (0 : Int32)) (pc' := 6) (by decide +kernel) rfl rfl ?_
  refine Gz.istore_n (q := 3) (pc' := 7) (L' := [(3, .int (0 : Int32)), (0, .ref 107), (1, .int a1), (2, .int a2)]) (by decide +kernel) rfl (Nat.le_of_ble_eq_true rfl) rfl ?_
  refine Gz.sub (L' := [(0, .ref 107), (1, .int a1), (2, .int a2), (3, .int (0 : Int32))]) [1, 2, 3, 0] rfl ?_
  exact g_M_layPerjured_b7 a1 a2 (0 : Int32) w1 h
def f_M_perjured (a1 : Int32) (w : gW) : Option (Int32 × gW) :=
zl (zsI w 107 0 (0 : Int32)) (fun w1 =>
if (w1.1 107 21) = 0 then
(some ((-1 : Int32), w1))
else
(zb (f_M_isIn (a1.toInt64) (0 : Int64) (2 : Int64) w1) (fun v4 w5 =>
if v4 = 0 then
(some ((-1 : Int32), w5))
else
(zb (f_M_all w5) (fun v7 w8 =>
zb (f_M_all w8) (fun v9 w10 =>
zb (f_M_layPerjured v7 v9 w10) (fun _ w11 =>
if (w11.1 107 47) = (-1 : Int32) then
(some ((-1 : Int32), w11))
else
(if a1 = 0 then
(some (w11.1 107 46, w11))
else
(if a1 = (1 : Int32) then
(some (w11.1 107 47, w11))
else
(some (w11.1 107 48, w11)))))))))))
theorem g_M_perjured {l : Launch} (a1 : Int32) (w : gW) : gCt l m_M_perjured 57 [.ref 107, .int a1] w eI (f_M_perjured a1 w) := by
  intro Q h
  unfold f_M_perjured at h
  show Gz l m_M_perjured 57 0 [(0, .ref 107), (1, .int a1)] [] w Q
  refine Gz.aload_n (q := 0) (pc' := 1) (by decide +kernel) rfl 0 rfl ?_
  refine Gz.iconst (n := 0) (v := (0 : Int32)) (pc' := 2) (by decide +kernel) rfl rfl ?_
  refine Gz.putI (pc' := 5) (j := 0) fd_M_96 sh_107 rfl (by decide +kernel) rfl ?_
  refine Gz.nmW (fun w1 e2 => ?_)
  have h := zok_l e2 h
  refine Gz.aload_n (q := 0) (pc' := 6) (by decide +kernel) rfl 0 rfl ?_
  refine Gz.getI (pc' := 9) (j := 21) fd_M_141 sh_107 rfl (by decide +kernel) rfl ?_
  refine Gz.if_eq (off := 15) (tgt := 24) (pc' := 12) (by decide +kernel) (by decide) rfl (fun c3 => ?_) (fun c3 => ?_)
  · have h := zok_t c3 h
    refine Gz.iconst (n := -1) (v := (-1 : Int32)) (pc' := 25) (by decide +kernel) rfl rfl ?_
    exact Gz.ireturn (by decide +kernel) rfl (zok_sI h)
  · have h := zok_f c3 h
    refine Gz.iload_n (q := 1) (pc' := 13) (by decide +kernel) rfl 1 rfl ?_
    refine Gz.i2l (pc' := 14) (by decide +kernel) rfl ?_
    refine Gz.lconst (n := 0) (v := (0 : Int64)) (pc' := 15) (by decide +kernel) rfl rfl ?_
    refine Gz.ldc2 (idx := 237) (v := (2 : Int64)) (pc' := 18) (by decide +kernel) rfl kc_M_237 ?_
    refine Gz.callSI (st := []) (pc' := 21) [.long (a1.toInt64), .long (0 : Int64), .long (2 : Int64)] (g_M_isIn (a1.toInt64) (0 : Int64) (2 : Int64) w1) h ok_m_M_isIn lk_M_137 rfl (Nat.le_of_ble_eq_true rfl) (Nat.le_of_ble_eq_true rfl) (Nat.le_of_ble_eq_true rfl) (by decide +kernel) rfl (fun v4 w5 h => ?_)
    refine Gz.if_ne (off := 5) (tgt := 26) (pc' := 24) (by decide +kernel) (by decide) rfl (fun c6 => ?_) (fun c6 => ?_)
    · have h := zok_f c6 h
      refine Gz.aload_n (q := 0) (pc' := 27) (by decide +kernel) rfl 0 rfl ?_
      refine Gz.aload_n (q := 0) (pc' := 28) (by decide +kernel) rfl 0 rfl ?_
      refine Gz.callVI (st := [.ref 107]) (b := 107) (pc' := 31) [] (g_M_all w5) h ok_m_M_all lk_M_261 sh_107 rfl rfl rfl (Nat.le_of_ble_eq_true rfl) (Nat.le_of_ble_eq_true rfl) (Nat.le_of_ble_eq_true rfl) (by decide +kernel) rfl (fun v7 w8 h => ?_)
      refine Gz.aload_n (q := 0) (pc' := 32) (by decide +kernel) rfl 0 rfl ?_
      refine Gz.callVI (st := [.int v7, .ref 107]) (b := 107) (pc' := 35) [] (g_M_all w8) h ok_m_M_all lk_M_261 sh_107 rfl rfl rfl (Nat.le_of_ble_eq_true rfl) (Nat.le_of_ble_eq_true rfl) (Nat.le_of_ble_eq_true rfl) (by decide +kernel) rfl (fun v9 w10 h => ?_)
      refine Gz.callVV (st := []) (b := 107) (pc' := 38) [.int v7, .int v9] (g_M_layPerjured v7 v9 w10) h ok_m_M_layPerjured lk_M_317 sh_107 rfl rfl rfl (Nat.le_of_ble_eq_true rfl) (Nat.le_of_ble_eq_true rfl) (Nat.le_of_ble_eq_true rfl) (by decide +kernel) rfl (fun _ w11 h => ?_)
      refine Gz.aload_n (q := 0) (pc' := 39) (by decide +kernel) rfl 0 rfl ?_
      refine Gz.getI (pc' := 42) (j := 47) fd_M_308 sh_107 rfl (by decide +kernel) rfl ?_
      refine Gz.iconst (n := -1) (v := (-1 : Int32)) (pc' := 43) (by decide +kernel) rfl rfl ?_
      refine Gz.icmp_ne (off := 7) (tgt := 50) (pc' := 46) (by decide +kernel) (by decide) rfl (fun c12 => ?_) (fun c12 => ?_)
      · have h := zok_f c12 h
        refine Gz.iload_n (q := 1) (pc' := 51) (by decide +kernel) rfl 1 rfl ?_
        refine Gz.if_ne (off := 10) (tgt := 61) (pc' := 54) (by decide +kernel) (by decide) rfl (fun c13 => ?_) (fun c13 => ?_)
        · have h := zok_f c13 h
          refine Gz.iload_n (q := 1) (pc' := 62) (by decide +kernel) rfl 1 rfl ?_
          refine Gz.iconst (n := 1) (v := (1 : Int32)) (pc' := 63) (by decide +kernel) rfl rfl ?_
          refine Gz.icmp_ne (off := 10) (tgt := 73) (pc' := 66) (by decide +kernel) (by decide) rfl (fun c14 => ?_) (fun c14 => ?_)
          · have h := zok_f c14 h
            refine Gz.aload_n (q := 0) (pc' := 74) (by decide +kernel) rfl 0 rfl ?_
            refine Gz.getI (pc' := 77) (j := 48) fd_M_314 sh_107 rfl (by decide +kernel) rfl ?_
            exact Gz.ireturn (by decide +kernel) rfl (zok_sI h)
          · have h := zok_t c14 h
            refine Gz.aload_n (q := 0) (pc' := 67) (by decide +kernel) rfl 0 rfl ?_
            refine Gz.getI (pc' := 70) (j := 47) fd_M_308 sh_107 rfl (by decide +kernel) rfl ?_
            refine Gz.goto (off := 7) (tgt := 77) (by decide +kernel) (by decide) ?_
            exact Gz.ireturn (by decide +kernel) rfl (zok_sI h)
        · have h := zok_t c13 h
          refine Gz.aload_n (q := 0) (pc' := 55) (by decide +kernel) rfl 0 rfl ?_
          refine Gz.getI (pc' := 58) (j := 46) fd_M_311 sh_107 rfl (by decide +kernel) rfl ?_
          refine Gz.goto (off := 19) (tgt := 77) (by decide +kernel) (by decide) ?_
          exact Gz.ireturn (by decide +kernel) rfl (zok_sI h)
      · have h := zok_t c12 h
        refine Gz.iconst (n := -1) (v := (-1 : Int32)) (pc' := 47) (by decide +kernel) rfl rfl ?_
        refine Gz.goto (off := 30) (tgt := 77) (by decide +kernel) (by decide) ?_
        exact Gz.ireturn (by decide +kernel) rfl (zok_sI h)
    · have h := zok_t c6 h
      refine Gz.iconst (n := -1) (v := (-1 : Int32)) (pc' := 25) (by decide +kernel) rfl rfl ?_
      exact Gz.ireturn (by decide +kernel) rfl (zok_sI h)
def f_M_ofPerson_b30 (k4 : Int32 → Int32 → Int32 → gW → Option (Int32 × gW)) (x1 : Int32) (x3 : Int32) (s0 : Int32) (s1 : Int32) (w : gW) : Option (Int32 × gW) :=
zl (s0 ||| s1) (fun v1 =>
zl (x3 + (1 : Int32)) (fun v3 =>
k4 x1 v1 v3 w))
def f_M_ofPerson_b4_s (k4 : Int32 → Int32 → Int32 → gW → Option (Int32 × gW)) (x1 : Int32) (x2 : Int32) (x3 : Int32) (w : gW) : Option (Int32 × gW) :=
if (w.1 107 35) ≤ x3 then
(some (x2, w))
else
(if inb x3 10 then
if (w.1 119 (ix x3)) = x1 then
(f_M_ofPerson_b30 k4 x1 x3 x2 ((1 : Int32) <<< (x3 &&& 31)) w)
else
(f_M_ofPerson_b30 k4 x1 x3 x2 (0 : Int32) w)
else none)
def f_M_ofPerson_b4 : Int32 → Int32 → Int32 → gW → Option (Int32 × gW) := zfx (fun _ _ _ _ => none) (f_M_ofPerson_b4_s) zFU
def f_M_ofPerson (a1 : Int32) (w : gW) : Option (Int32 × gW) :=
f_M_ofPerson_b4 a1 (0 : Int32) (0 : Int32) w
theorem g_M_ofPerson_b30 {l : Launch} {Q : Option Value → gW → Prop} (k4 : Int32 → Int32 → Int32 → gW → Option (Int32 × gW)) (hk4 : ∀ (x1 : Int32) (x2 : Int32) (x3 : Int32) (w : gW), zok eI (k4 x1 x2 x3 w) Q → Gz l m_M_ofPerson 1 4 [(0, .ref 107), (1, .int x1), (2, .int x2), (3, .int x3)] [] w Q) (x1 : Int32) (x3 : Int32) (s0 : Int32) (s1 : Int32) (w : gW) (h : zok eI (f_M_ofPerson_b30 k4 x1 x3 s0 s1 w) Q) : Gz l m_M_ofPerson 1 30 [(0, .ref 107), (1, .int x1), (3, .int x3)] [.int s1, .int s0] w Q := by
  unfold f_M_ofPerson_b30 at h
  refine Gz.ior (pc' := 31) (by decide +kernel) rfl ?_
  refine Gz.nmI (fun v1 e2 => ?_)
  have h := zok_l e2 h
  refine Gz.istore_n (q := 2) (pc' := 32) (L' := [(2, .int v1), (0, .ref 107), (1, .int x1), (3, .int x3)]) (by decide +kernel) rfl (Nat.le_of_ble_eq_true rfl) rfl ?_
  obtain ⟨v3, e4⟩ : ∃ y : Int32, y = x3 + (1 : Int32) := ⟨_, rfl⟩
  have h := zok_l e4 h
  refine Gz.iinc (i := 3) (n := 1) (pc' := 35) (L' := [(3, .int v3), (2, .int v1), (0, .ref 107), (1, .int x1)]) v3 (by decide +kernel) rfl 3 rfl (by rw [e4]; rfl) (Nat.le_of_ble_eq_true rfl) rfl ?_
  refine Gz.goto (off := -31) (tgt := 4) (by decide +kernel) (by decide) ?_
  refine Gz.sub (L' := [(0, .ref 107), (1, .int x1), (2, .int v1), (3, .int v3)]) [2, 3, 1, 0] rfl ?_
  exact hk4 x1 v1 v3 w h
theorem g_M_ofPerson_b4_s {l : Launch} {Q : Option Value → gW → Prop} (k4 : Int32 → Int32 → Int32 → gW → Option (Int32 × gW)) (hk4 : ∀ (x1 : Int32) (x2 : Int32) (x3 : Int32) (w : gW), zok eI (k4 x1 x2 x3 w) Q → Gz l m_M_ofPerson 1 4 [(0, .ref 107), (1, .int x1), (2, .int x2), (3, .int x3)] [] w Q) (x1 : Int32) (x2 : Int32) (x3 : Int32) (w : gW) (h : zok eI (f_M_ofPerson_b4_s k4 x1 x2 x3 w) Q) : Gz l m_M_ofPerson 1 4 [(0, .ref 107), (1, .int x1), (2, .int x2), (3, .int x3)] [] w Q := by
  unfold f_M_ofPerson_b4_s at h
  refine Gz.iload_n (q := 3) (pc' := 5) (by decide +kernel) rfl 3 rfl ?_
  refine Gz.aload_n (q := 0) (pc' := 6) (by decide +kernel) rfl 0 rfl ?_
  refine Gz.getI (pc' := 9) (j := 35) fd_M_211 sh_107 rfl (by decide +kernel) rfl ?_
  refine Gz.icmp_ge (off := 29) (tgt := 38) (pc' := 12) (by decide +kernel) (by decide) rfl (fun c1 => ?_) (fun c1 => ?_)
  · have h := zok_t c1 h
    refine Gz.iload_n (q := 2) (pc' := 39) (by decide +kernel) rfl 2 rfl ?_
    exact Gz.ireturn (by decide +kernel) rfl (zok_sI h)
  · have h := zok_f c1 h
    refine Gz.iload_n (q := 2) (pc' := 13) (by decide +kernel) rfl 2 rfl ?_
    refine Gz.aload_n (q := 0) (pc' := 14) (by decide +kernel) rfl 0 rfl ?_
    refine Gz.getR (pc' := 17) (j := 27) 119 fd_M_47 sh_107 rfl (by decide +kernel) rfl ?_
    refine Gz.iload_n (q := 3) (pc' := 18) (by decide +kernel) rfl 3 rfl ?_
    obtain ⟨c2, h⟩ := zok_c h
    refine Gz.iald (pc' := 19) (n := 10) (by decide +kernel) rfl rfl c2 ?_
    refine Gz.iload_n (q := 1) (pc' := 20) (by decide +kernel) rfl 1 rfl ?_
    refine Gz.icmp_ne (off := 9) (tgt := 29) (pc' := 23) (by decide +kernel) (by decide) rfl (fun c3 => ?_) (fun c3 => ?_)
    · have h := zok_f c3 h
      refine Gz.iconst (n := 0) (v := (0 : Int32)) (pc' := 30) (by decide +kernel) rfl rfl ?_
      refine Gz.sub (L' := [(0, .ref 107), (1, .int x1), (3, .int x3)]) [0, 1, 3] rfl ?_
      exact g_M_ofPerson_b30 k4 hk4 x1 x3 x2 (0 : Int32) w h
    · have h := zok_t c3 h
      refine Gz.iconst (n := 1) (v := (1 : Int32)) (pc' := 24) (by decide +kernel) rfl rfl ?_
      refine Gz.iload_n (q := 3) (pc' := 25) (by decide +kernel) rfl 3 rfl ?_
      refine Gz.ishl (pc' := 26) (by decide +kernel) rfl ?_
      refine Gz.goto (off := 4) (tgt := 30) (by decide +kernel) (by decide) ?_
      refine Gz.sub (L' := [(0, .ref 107), (1, .int x1), (3, .int x3)]) [0, 1, 3] rfl ?_
      exact g_M_ofPerson_b30 k4 hk4 x1 x3 x2 ((1 : Int32) <<< (x3 &&& 31)) w h
theorem g_M_ofPerson_b4 {l : Launch} {Q : Option Value → gW → Prop} (x1 : Int32) (x2 : Int32) (x3 : Int32) (w : gW) (h : zok eI (f_M_ofPerson_b4 x1 x2 x3 w) Q) : Gz l m_M_ofPerson 1 4 [(0, .ref 107), (1, .int x1), (2, .int x2), (3, .int x3)] [] w Q := by
  have key : ∀ (n : Nat) (x1 : Int32) (x2 : Int32) (x3 : Int32) (w : gW), zok eI (zfx (fun _ _ _ _ => none) (f_M_ofPerson_b4_s) n x1 x2 x3 w) Q → Gz l m_M_ofPerson 1 4 [(0, .ref 107), (1, .int x1), (2, .int x2), (3, .int x3)] [] w Q := by
    intro n
    induction n with
    | zero => intro x1 x2 x3 w h; exact zok_n h
    | succ n ih => intro x1 x2 x3 w h; exact g_M_ofPerson_b4_s _ ih x1 x2 x3 w h
  exact key zFU x1 x2 x3 w h
theorem g_M_ofPerson {l : Launch} (a1 : Int32) (w : gW) : gCt l m_M_ofPerson 1 [.ref 107, .int a1] w eI (f_M_ofPerson a1 w) := by
  intro Q h
  unfold f_M_ofPerson at h
  show Gz l m_M_ofPerson 1 0 [(0, .ref 107), (1, .int a1)] [] w Q
  refine Gz.iconst (n := 0) (v := (0 : Int32)) (pc' := 1) (by decide +kernel) rfl rfl ?_
  refine Gz.istore_n (q := 2) (pc' := 2) (L' := [(2, .int (0 : Int32)), (0, .ref 107), (1, .int a1)]) (by decide +kernel) rfl (Nat.le_of_ble_eq_true rfl) rfl ?_
  refine Gz.iconst (n := 0) (v := (0 : Int32)) (pc' := 3) (by decide +kernel) rfl rfl ?_
  refine Gz.istore_n (q := 3) (pc' := 4) (L' := [(3, .int (0 : Int32)), (2, .int (0 : Int32)), (0, .ref 107), (1, .int a1)]) (by decide +kernel) rfl (Nat.le_of_ble_eq_true rfl) rfl ?_
  refine Gz.sub (L' := [(0, .ref 107), (1, .int a1), (2, .int (0 : Int32)), (3, .int (0 : Int32))]) [2, 3, 1, 0] rfl ?_
  exact g_M_ofPerson_b4 a1 (0 : Int32) (0 : Int32) w h
def f_M_guilt (a1 : Int32) (w : gW) : Option (Int32 × gW) :=
zl (zsI w 107 0 (0 : Int32)) (fun w1 =>
if (w1.1 107 21) = 0 then
(some ((-1 : Int32), w1))
else
(zb (f_M_isIn (a1.toInt64) (0 : Int64) (5 : Int64) w1) (fun v4 w5 =>
if v4 = 0 then
(some ((-1 : Int32), w5))
else
(zb (f_M_all w5) (fun v7 w8 =>
zb (f_M_all w8) (fun v9 w10 =>
zb (f_M_layPerjured v7 v9 w10) (fun _ w11 =>
if (w11.1 107 47) = (-1 : Int32) then
(some ((-1 : Int32), w11))
else
(zb (f_M_ofPerson a1 w11) (fun v13 w14 =>
zb (f_Int_bitCount ((w11.1 107 48) &&& v13) w14) (fun v15 w16 =>
some (v15, w16)))))))))))
theorem g_M_guilt {l : Launch} (a1 : Int32) (w : gW) : gCt l m_M_guilt 57 [.ref 107, .int a1] w eI (f_M_guilt a1 w) := by
  intro Q h
  unfold f_M_guilt at h
  show Gz l m_M_guilt 57 0 [(0, .ref 107), (1, .int a1)] [] w Q
  refine Gz.aload_n (q := 0) (pc' := 1) (by decide +kernel) rfl 0 rfl ?_
  refine Gz.iconst (n := 0) (v := (0 : Int32)) (pc' := 2) (by decide +kernel) rfl rfl ?_
  refine Gz.putI (pc' := 5) (j := 0) fd_M_96 sh_107 rfl (by decide +kernel) rfl ?_
  refine Gz.nmW (fun w1 e2 => ?_)
  have h := zok_l e2 h
  refine Gz.aload_n (q := 0) (pc' := 6) (by decide +kernel) rfl 0 rfl ?_
  refine Gz.getI (pc' := 9) (j := 21) fd_M_141 sh_107 rfl (by decide +kernel) rfl ?_
  refine Gz.if_eq (off := 15) (tgt := 24) (pc' := 12) (by decide +kernel) (by decide) rfl (fun c3 => ?_) (fun c3 => ?_)
  · have h := zok_t c3 h
    refine Gz.iconst (n := -1) (v := (-1 : Int32)) (pc' := 25) (by decide +kernel) rfl rfl ?_
    exact Gz.ireturn (by decide +kernel) rfl (zok_sI h)
  · have h := zok_f c3 h
    refine Gz.iload_n (q := 1) (pc' := 13) (by decide +kernel) rfl 1 rfl ?_
    refine Gz.i2l (pc' := 14) (by decide +kernel) rfl ?_
    refine Gz.lconst (n := 0) (v := (0 : Int64)) (pc' := 15) (by decide +kernel) rfl rfl ?_
    refine Gz.ldc2 (idx := 239) (v := (5 : Int64)) (pc' := 18) (by decide +kernel) rfl kc_M_239 ?_
    refine Gz.callSI (st := []) (pc' := 21) [.long (a1.toInt64), .long (0 : Int64), .long (5 : Int64)] (g_M_isIn (a1.toInt64) (0 : Int64) (5 : Int64) w1) h ok_m_M_isIn lk_M_137 rfl (Nat.le_of_ble_eq_true rfl) (Nat.le_of_ble_eq_true rfl) (Nat.le_of_ble_eq_true rfl) (by decide +kernel) rfl (fun v4 w5 h => ?_)
    refine Gz.if_ne (off := 5) (tgt := 26) (pc' := 24) (by decide +kernel) (by decide) rfl (fun c6 => ?_) (fun c6 => ?_)
    · have h := zok_f c6 h
      refine Gz.aload_n (q := 0) (pc' := 27) (by decide +kernel) rfl 0 rfl ?_
      refine Gz.aload_n (q := 0) (pc' := 28) (by decide +kernel) rfl 0 rfl ?_
      refine Gz.callVI (st := [.ref 107]) (b := 107) (pc' := 31) [] (g_M_all w5) h ok_m_M_all lk_M_261 sh_107 rfl rfl rfl (Nat.le_of_ble_eq_true rfl) (Nat.le_of_ble_eq_true rfl) (Nat.le_of_ble_eq_true rfl) (by decide +kernel) rfl (fun v7 w8 h => ?_)
      refine Gz.aload_n (q := 0) (pc' := 32) (by decide +kernel) rfl 0 rfl ?_
      refine Gz.callVI (st := [.int v7, .ref 107]) (b := 107) (pc' := 35) [] (g_M_all w8) h ok_m_M_all lk_M_261 sh_107 rfl rfl rfl (Nat.le_of_ble_eq_true rfl) (Nat.le_of_ble_eq_true rfl) (Nat.le_of_ble_eq_true rfl) (by decide +kernel) rfl (fun v9 w10 h => ?_)
      refine Gz.callVV (st := []) (b := 107) (pc' := 38) [.int v7, .int v9] (g_M_layPerjured v7 v9 w10) h ok_m_M_layPerjured lk_M_317 sh_107 rfl rfl rfl (Nat.le_of_ble_eq_true rfl) (Nat.le_of_ble_eq_true rfl) (Nat.le_of_ble_eq_true rfl) (by decide +kernel) rfl (fun _ w11 h => ?_)
      refine Gz.aload_n (q := 0) (pc' := 39) (by decide +kernel) rfl 0 rfl ?_
      refine Gz.getI (pc' := 42) (j := 47) fd_M_308 sh_107 rfl (by decide +kernel) rfl ?_
      refine Gz.iconst (n := -1) (v := (-1 : Int32)) (pc' := 43) (by decide +kernel) rfl rfl ?_
      refine Gz.icmp_ne (off := 7) (tgt := 50) (pc' := 46) (by decide +kernel) (by decide) rfl (fun c12 => ?_) (fun c12 => ?_)
      · have h := zok_f c12 h
        refine Gz.aload_n (q := 0) (pc' := 51) (by decide +kernel) rfl 0 rfl ?_
        refine Gz.getI (pc' := 54) (j := 48) fd_M_314 sh_107 rfl (by decide +kernel) rfl ?_
        refine Gz.aload_n (q := 0) (pc' := 55) (by decide +kernel) rfl 0 rfl ?_
        refine Gz.iload_n (q := 1) (pc' := 56) (by decide +kernel) rfl 1 rfl ?_
        refine Gz.callVI (st := [.int (w11.1 107 48)]) (b := 107) (pc' := 59) [.int a1] (g_M_ofPerson a1 w11) h ok_m_M_ofPerson lk_M_320 sh_107 rfl rfl rfl (Nat.le_of_ble_eq_true rfl) (Nat.le_of_ble_eq_true rfl) (Nat.le_of_ble_eq_true rfl) (by decide +kernel) rfl (fun v13 w14 h => ?_)
        refine Gz.iand (pc' := 60) (by decide +kernel) rfl ?_
        refine Gz.callSI (st := []) (pc' := 63) [.int ((w11.1 107 48) &&& v13)] (g_Int_bitCount ((w11.1 107 48) &&& v13) w14) h ok_m_Int_bitCount lk_M_297 rfl (Nat.le_of_ble_eq_true rfl) (Nat.le_of_ble_eq_true rfl) (Nat.le_of_ble_eq_true rfl) (by decide +kernel) rfl (fun v15 w16 h => ?_)
        exact Gz.ireturn (by decide +kernel) rfl (zok_sI h)
      · have h := zok_t c12 h
        refine Gz.iconst (n := -1) (v := (-1 : Int32)) (pc' := 47) (by decide +kernel) rfl rfl ?_
        refine Gz.goto (off := 16) (tgt := 63) (by decide +kernel) (by decide) ?_
        exact Gz.ireturn (by decide +kernel) rfl (zok_sI h)
    · have h := zok_t c6 h
      refine Gz.iconst (n := -1) (v := (-1 : Int32)) (pc' := 25) (by decide +kernel) rfl rfl ?_
      exact Gz.ireturn (by decide +kernel) rfl (zok_sI h)
def f_M_blame_b93 (k31 : Int32 → Int32 → Int32 → Int32 → gW → Option (Int32 × gW)) (x1 : Int32) (x2 : Int32) (x3 : Int32) (x4 : Int32) (w : gW) : Option (Int32 × gW) :=
zl (x4 + (1 : Int32)) (fun v1 =>
k31 x1 x2 x3 v1 w)
def f_M_blame_b85 (k31 : Int32 → Int32 → Int32 → Int32 → gW → Option (Int32 × gW)) (x1 : Int32) (x4 : Int32) (w : gW) : Option (Int32 × gW) :=
zl (w.1 107 46) (fun v1 =>
f_M_blame_b93 k31 x1 x4 v1 x4 w)
def f_M_blame_b31_s (k31 : Int32 → Int32 → Int32 → Int32 → gW → Option (Int32 × gW)) (x1 : Int32) (x2 : Int32) (x3 : Int32) (x4 : Int32) (w : gW) : Option (Int32 × gW) :=
if (6 : Int32) ≤ x4 then
(if x1 = 0 then
(some (x2, w))
else
(some (x3, w)))
else
(zb (f_M_all w) (fun v3 w4 =>
zb (f_M_ofPerson x4 w4) (fun v5 w6 =>
zb (f_M_all w6) (fun v7 w8 =>
zb (f_M_layPerjured (v3 &&& (v5 ^^^ (-1 : Int32))) v7 w8) (fun _ w9 =>
if (w9.1 107 47) = (-1 : Int32) then
(some ((-1 : Int32), w9))
else
(if x2 = (-1 : Int32) then
(f_M_blame_b85 k31 x1 x4 w9)
else
(if (w9.1 107 46) < x3 then
(f_M_blame_b85 k31 x1 x4 w9)
else
(f_M_blame_b93 k31 x1 x2 x3 x4 w9))))))))
def f_M_blame_b31 : Int32 → Int32 → Int32 → Int32 → gW → Option (Int32 × gW) := zfx (fun _ _ _ _ _ => none) (f_M_blame_b31_s) zFU
def f_M_blame (a1 : Int32) (w : gW) : Option (Int32 × gW) :=
zl (zsI w 107 0 (0 : Int32)) (fun w1 =>
if (w1.1 107 21) = 0 then
(some ((-1 : Int32), w1))
else
(zb (f_M_isIn (a1.toInt64) (0 : Int64) (1 : Int64) w1) (fun v4 w5 =>
if v4 = 0 then
(some ((-1 : Int32), w5))
else
(f_M_blame_b31 a1 (-1 : Int32) (0 : Int32) (0 : Int32) w5))))
theorem g_M_blame_b93 {l : Launch} {Q : Option Value → gW → Prop} (k31 : Int32 → Int32 → Int32 → Int32 → gW → Option (Int32 × gW)) (hk31 : ∀ (x1 : Int32) (x2 : Int32) (x3 : Int32) (x4 : Int32) (w : gW), zok eI (k31 x1 x2 x3 x4 w) Q → Gz l m_M_blame 57 31 [(0, .ref 107), (1, .int x1), (2, .int x2), (3, .int x3), (4, .int x4)] [] w Q) (x1 : Int32) (x2 : Int32) (x3 : Int32) (x4 : Int32) (w : gW) (h : zok eI (f_M_blame_b93 k31 x1 x2 x3 x4 w) Q) : Gz l m_M_blame 57 93 [(0, .ref 107), (1, .int x1), (2, .int x2), (3, .int x3), (4, .int x4)] [] w Q := by
  unfold f_M_blame_b93 at h
  obtain ⟨v1, e2⟩ : ∃ y : Int32, y = x4 + (1 : Int32) := ⟨_, rfl⟩
  have h := zok_l e2 h
  refine Gz.iinc (i := 4) (n := 1) (pc' := 96) (L' := [(4, .int v1), (0, .ref 107), (1, .int x1), (2, .int x2), (3, .int x3)]) v1 (by decide +kernel) rfl 4 rfl (by rw [e2]; rfl) (Nat.le_of_ble_eq_true rfl) rfl ?_
  refine Gz.goto (off := -65) (tgt := 31) (by decide +kernel) (by decide) ?_
  refine Gz.sub (L' := [(0, .ref 107), (1, .int x1), (2, .int x2), (3, .int x3), (4, .int v1)]) [1, 2, 3, 4, 0] rfl ?_
  exact hk31 x1 x2 x3 v1 w h
theorem g_M_blame_b85 {l : Launch} {Q : Option Value → gW → Prop} (k31 : Int32 → Int32 → Int32 → Int32 → gW → Option (Int32 × gW)) (hk31 : ∀ (x1 : Int32) (x2 : Int32) (x3 : Int32) (x4 : Int32) (w : gW), zok eI (k31 x1 x2 x3 x4 w) Q → Gz l m_M_blame 57 31 [(0, .ref 107), (1, .int x1), (2, .int x2), (3, .int x3), (4, .int x4)] [] w Q) (x1 : Int32) (x4 : Int32) (w : gW) (h : zok eI (f_M_blame_b85 k31 x1 x4 w) Q) : Gz l m_M_blame 57 85 [(0, .ref 107), (1, .int x1), (4, .int x4)] [] w Q := by
  unfold f_M_blame_b85 at h
  refine Gz.iload (i := 4) (pc' := 87) (by decide +kernel) rfl 2 rfl ?_
  refine Gz.istore_n (q := 2) (pc' := 88) (L' := [(2, .int x4), (0, .ref 107), (1, .int x1), (4, .int x4)]) (by decide +kernel) rfl (Nat.le_of_ble_eq_true rfl) rfl ?_
  refine Gz.aload_n (q := 0) (pc' := 89) (by decide +kernel) rfl 1 rfl ?_
  refine Gz.getI (pc' := 92) (j := 46) fd_M_311 sh_107 rfl (by decide +kernel) rfl ?_
  refine Gz.nmI (fun v1 e2 => ?_)
  have h := zok_l e2 h
  refine Gz.istore_n (q := 3) (pc' := 93) (L' := [(3, .int v1), (2, .int x4), (0, .ref 107), (1, .int x1), (4, .int x4)]) (by decide +kernel) rfl (Nat.le_of_ble_eq_true rfl) rfl ?_
  refine Gz.sub (L' := [(0, .ref 107), (1, .int x1), (2, .int x4), (3, .int v1), (4, .int x4)]) [2, 3, 1, 0, 4] rfl ?_
  exact g_M_blame_b93 k31 hk31 x1 x4 v1 x4 w h
theorem g_M_blame_b31_s {l : Launch} {Q : Option Value → gW → Prop} (k31 : Int32 → Int32 → Int32 → Int32 → gW → Option (Int32 × gW)) (hk31 : ∀ (x1 : Int32) (x2 : Int32) (x3 : Int32) (x4 : Int32) (w : gW), zok eI (k31 x1 x2 x3 x4 w) Q → Gz l m_M_blame 57 31 [(0, .ref 107), (1, .int x1), (2, .int x2), (3, .int x3), (4, .int x4)] [] w Q) (x1 : Int32) (x2 : Int32) (x3 : Int32) (x4 : Int32) (w : gW) (h : zok eI (f_M_blame_b31_s k31 x1 x2 x3 x4 w) Q) : Gz l m_M_blame 57 31 [(0, .ref 107), (1, .int x1), (2, .int x2), (3, .int x3), (4, .int x4)] [] w Q := by
  unfold f_M_blame_b31_s at h
  refine Gz.iload (i := 4) (pc' := 33) (by decide +kernel) rfl 4 rfl ?_
  refine Gz.bipush (n := 6) (v := (6 : Int32)) (pc' := 35) (by decide +kernel) rfl rfl ?_
  refine Gz.icmp_ge (off := 64) (tgt := 99) (pc' := 38) (by decide +kernel) (by decide) rfl (fun c1 => ?_) (fun c1 => ?_)
  · have h := zok_t c1 h
    refine Gz.iload_n (q := 1) (pc' := 100) (by decide +kernel) rfl 1 rfl ?_
    refine Gz.if_ne (off := 7) (tgt := 107) (pc' := 103) (by decide +kernel) (by decide) rfl (fun c2 => ?_) (fun c2 => ?_)
    · have h := zok_f c2 h
      refine Gz.iload_n (q := 3) (pc' := 108) (by decide +kernel) rfl 3 rfl ?_
      exact Gz.ireturn (by decide +kernel) rfl (zok_sI h)
    · have h := zok_t c2 h
      refine Gz.iload_n (q := 2) (pc' := 104) (by decide +kernel) rfl 2 rfl ?_
      refine Gz.goto (off := 4) (tgt := 108) (by decide +kernel) (by decide) ?_
      exact Gz.ireturn (by decide +kernel) rfl (zok_sI h)
  · have h := zok_f c1 h
    refine Gz.aload_n (q := 0) (pc' := 39) (by decide +kernel) rfl 0 rfl ?_
    refine Gz.aload_n (q := 0) (pc' := 40) (by decide +kernel) rfl 0 rfl ?_
    refine Gz.callVI (st := [.ref 107]) (b := 107) (pc' := 43) [] (g_M_all w) h ok_m_M_all lk_M_261 sh_107 rfl rfl rfl (Nat.le_of_ble_eq_true rfl) (Nat.le_of_ble_eq_true rfl) (Nat.le_of_ble_eq_true rfl) (by decide +kernel) rfl (fun v3 w4 h => ?_)
    refine Gz.aload_n (q := 0) (pc' := 44) (by decide +kernel) rfl 0 rfl ?_
    refine Gz.iload (i := 4) (pc' := 46) (by decide +kernel) rfl 4 rfl ?_
    refine Gz.callVI (st := [.int v3, .ref 107]) (b := 107) (pc' := 49) [.int x4] (g_M_ofPerson x4 w4) h ok_m_M_ofPerson lk_M_320 sh_107 rfl rfl rfl (Nat.le_of_ble_eq_true rfl) (Nat.le_of_ble_eq_true rfl) (Nat.le_of_ble_eq_true rfl) (by decide +kernel) rfl (fun v5 w6 h => ?_)
    refine Gz.iconst (n := -1) (v := (-1 : Int32)) (pc' := 50) (by decide +kernel) rfl rfl ?_
    refine Gz.ixor (pc' := 51) (by decide +kernel) rfl ?_
    refine Gz.iand (pc' := 52) (by decide +kernel) rfl ?_
    refine Gz.aload_n (q := 0) (pc' := 53) (by decide +kernel) rfl 0 rfl ?_
    refine Gz.callVI (st := [.int (v3 &&& (v5 ^^^ (-1 : Int32))), .ref 107]) (b := 107) (pc' := 56) [] (g_M_all w6) h ok_m_M_all lk_M_261 sh_107 rfl rfl rfl (Nat.le_of_ble_eq_true rfl) (Nat.le_of_ble_eq_true rfl) (Nat.le_of_ble_eq_true rfl) (by decide +kernel) rfl (fun v7 w8 h => ?_)
    refine Gz.callVV (st := []) (b := 107) (pc' := 59) [.int (v3 &&& (v5 ^^^ (-1 : Int32))), .int v7] (g_M_layPerjured (v3 &&& (v5 ^^^ (-1 : Int32))) v7 w8) h ok_m_M_layPerjured lk_M_317 sh_107 rfl rfl rfl (Nat.le_of_ble_eq_true rfl) (Nat.le_of_ble_eq_true rfl) (Nat.le_of_ble_eq_true rfl) (by decide +kernel) rfl (fun _ w9 h => ?_)
    refine Gz.aload_n (q := 0) (pc' := 60) (by decide +kernel) rfl 0 rfl ?_
    refine Gz.getI (pc' := 63) (j := 47) fd_M_308 sh_107 rfl (by decide +kernel) rfl ?_
    refine Gz.iconst (n := -1) (v := (-1 : Int32)) (pc' := 64) (by decide +kernel) rfl rfl ?_
    refine Gz.icmp_ne (off := 5) (tgt := 69) (pc' := 67) (by decide +kernel) (by decide) rfl (fun c10 => ?_) (fun c10 => ?_)
    · have h := zok_f c10 h
      refine Gz.iload_n (q := 2) (pc' := 70) (by decide +kernel) rfl 2 rfl ?_
      refine Gz.iconst (n := -1) (v := (-1 : Int32)) (pc' := 71) (by decide +kernel) rfl rfl ?_
      refine Gz.icmp_eq (off := 14) (tgt := 85) (pc' := 74) (by decide +kernel) (by decide) rfl (fun c11 => ?_) (fun c11 => ?_)
      · have h := zok_t c11 h
        refine Gz.sub (L' := [(0, .ref 107), (1, .int x1), (4, .int x4)]) [0, 1, 4] rfl ?_
        exact g_M_blame_b85 k31 hk31 x1 x4 w9 h
      · have h := zok_f c11 h
        refine Gz.aload_n (q := 0) (pc' := 75) (by decide +kernel) rfl 0 rfl ?_
        refine Gz.getI (pc' := 78) (j := 46) fd_M_311 sh_107 rfl (by decide +kernel) rfl ?_
        refine Gz.iload_n (q := 3) (pc' := 79) (by decide +kernel) rfl 3 rfl ?_
        refine Gz.icmp_lt (off := 6) (tgt := 85) (pc' := 82) (by decide +kernel) (by decide) rfl (fun c12 => ?_) (fun c12 => ?_)
        · have h := zok_t c12 h
          refine Gz.sub (L' := [(0, .ref 107), (1, .int x1), (4, .int x4)]) [0, 1, 4] rfl ?_
          exact g_M_blame_b85 k31 hk31 x1 x4 w9 h
        · have h := zok_f c12 h
          refine Gz.goto (off := 11) (tgt := 93) (by decide +kernel) (by decide) ?_
          exact g_M_blame_b93 k31 hk31 x1 x2 x3 x4 w9 h
    · have h := zok_t c10 h
      refine Gz.iconst (n := -1) (v := (-1 : Int32)) (pc' := 68) (by decide +kernel) rfl rfl ?_
      exact Gz.ireturn (by decide +kernel) rfl (zok_sI h)
theorem g_M_blame_b31 {l : Launch} {Q : Option Value → gW → Prop} (x1 : Int32) (x2 : Int32) (x3 : Int32) (x4 : Int32) (w : gW) (h : zok eI (f_M_blame_b31 x1 x2 x3 x4 w) Q) : Gz l m_M_blame 57 31 [(0, .ref 107), (1, .int x1), (2, .int x2), (3, .int x3), (4, .int x4)] [] w Q := by
  have key : ∀ (n : Nat) (x1 : Int32) (x2 : Int32) (x3 : Int32) (x4 : Int32) (w : gW), zok eI (zfx (fun _ _ _ _ _ => none) (f_M_blame_b31_s) n x1 x2 x3 x4 w) Q → Gz l m_M_blame 57 31 [(0, .ref 107), (1, .int x1), (2, .int x2), (3, .int x3), (4, .int x4)] [] w Q := by
    intro n
    induction n with
    | zero => intro x1 x2 x3 x4 w h; exact zok_n h
    | succ n ih => intro x1 x2 x3 x4 w h; exact g_M_blame_b31_s _ ih x1 x2 x3 x4 w h
  exact key zFU x1 x2 x3 x4 w h
theorem g_M_blame {l : Launch} (a1 : Int32) (w : gW) : gCt l m_M_blame 57 [.ref 107, .int a1] w eI (f_M_blame a1 w) := by
  intro Q h
  unfold f_M_blame at h
  show Gz l m_M_blame 57 0 [(0, .ref 107), (1, .int a1)] [] w Q
  refine Gz.aload_n (q := 0) (pc' := 1) (by decide +kernel) rfl 0 rfl ?_
  refine Gz.iconst (n := 0) (v := (0 : Int32)) (pc' := 2) (by decide +kernel) rfl rfl ?_
  refine Gz.putI (pc' := 5) (j := 0) fd_M_96 sh_107 rfl (by decide +kernel) rfl ?_
  refine Gz.nmW (fun w1 e2 => ?_)
  have h := zok_l e2 h
  refine Gz.aload_n (q := 0) (pc' := 6) (by decide +kernel) rfl 0 rfl ?_
  refine Gz.getI (pc' := 9) (j := 21) fd_M_141 sh_107 rfl (by decide +kernel) rfl ?_
  refine Gz.if_eq (off := 13) (tgt := 22) (pc' := 12) (by decide +kernel) (by decide) rfl (fun c3 => ?_) (fun c3 => ?_)
  · have h := zok_t c3 h
    refine Gz.iconst (n := -1) (v := (-1 : Int32)) (pc' := 23) (by decide +kernel) rfl rfl ?_
    exact Gz.ireturn (by decide +kernel) rfl (zok_sI h)
  · have h := zok_f c3 h
    refine Gz.iload_n (q := 1) (pc' := 13) (by decide +kernel) rfl 1 rfl ?_
    refine Gz.i2l (pc' := 14) (by decide +kernel) rfl ?_
    refine Gz.lconst (n := 0) (v := (0 : Int64)) (pc' := 15) (by decide +kernel) rfl rfl ?_
    refine Gz.lconst (n := 1) (v := (1 : Int64)) (pc' := 16) (by decide +kernel) rfl rfl ?_
    refine Gz.callSI (st := []) (pc' := 19) [.long (a1.toInt64), .long (0 : Int64), .long (1 : Int64)] (g_M_isIn (a1.toInt64) (0 : Int64) (1 : Int64) w1) h ok_m_M_isIn lk_M_137 rfl (Nat.le_of_ble_eq_true rfl) (Nat.le_of_ble_eq_true rfl) (Nat.le_of_ble_eq_true rfl) (by decide +kernel) rfl (fun v4 w5 h => ?_)
    refine Gz.if_ne (off := 5) (tgt := 24) (pc' := 22) (by decide +kernel) (by decide) rfl (fun c6 => ?_) (fun c6 => ?_)
    · have h := zok_f c6 h
      refine Gz.iconst (n := -1) (v := (-1 : Int32)) (pc' := 25) (by decide +kernel) rfl rfl ?_
      refine Gz.istore_n (q := 2) (pc' := 26) (L' := [(2, .int (-1 : Int32)), (0, .ref 107), (1, .int a1)]) (by decide +kernel) rfl (Nat.le_of_ble_eq_true rfl) rfl ?_
      refine Gz.iconst (n := 0) (v := (0 : Int32)) (pc' := 27) (by decide +kernel) rfl rfl ?_
      refine Gz.istore_n (q := 3) (pc' := 28) (L' := [(3, .int (0 : Int32)), (2, .int (-1 : Int32)), (0, .ref 107), (1, .int a1)]) (by decide +kernel) rfl (Nat.le_of_ble_eq_true rfl) rfl ?_
      refine Gz.iconst (n := 0) (v := (0 : Int32)) (pc' := 29) (by decide +kernel) rfl rfl ?_
      refine Gz.istore (i := 4) (pc' := 31) (L' := [(4, .int (0 : Int32)), (3, .int (0 : Int32)), (2, .int (-1 : Int32)), (0, .ref 107), (1, .int a1)]) (by decide +kernel) rfl (Nat.le_of_ble_eq_true rfl) rfl ?_
      refine Gz.sub (L' := [(0, .ref 107), (1, .int a1), (2, .int (-1 : Int32)), (3, .int (0 : Int32)), (4, .int (0 : Int32))]) [3, 4, 2, 1, 0] rfl ?_
      exact g_M_blame_b31 a1 (-1 : Int32) (0 : Int32) (0 : Int32) w5 h
    · have h := zok_t c6 h
      refine Gz.iconst (n := -1) (v := (-1 : Int32)) (pc' := 23) (by decide +kernel) rfl rfl ?_
      exact Gz.ireturn (by decide +kernel) rfl (zok_sI h)
def f_M_worth_b33 (w : gW) : Option (Int32 × gW) :=
some ((-1000000 : Int32), w)
def f_M_worth_b207 (k75 : Int32 → Int32 → Int32 → Int32 → Int32 → Int32 → Int32 → gW → Option (Int32 × gW)) (x1 : Int32) (x2 : Int32) (x3 : Int32) (x4 : Int32) (x5 : Int32) (x6 : Int32) (x7 : Int32) (w : gW) : Option (Int32 × gW) :=
zl (x7 + (1 : Int32)) (fun v1 =>
k75 x1 x2 x3 x4 x5 x6 v1 w)
def f_M_worth_b178 (k75 : Int32 → Int32 → Int32 → Int32 → Int32 → Int32 → Int32 → gW → Option (Int32 × gW)) (k131 : Int32 → Int32 → Int32 → Int32 → Int32 → Int32 → Int32 → Int32 → Int32 → gW → Option (Int32 × gW)) (x1 : Int32) (x2 : Int32) (x3 : Int32) (x4 : Int32) (x5 : Int32) (x6 : Int32) (x7 : Int32) (x9 : Int32) (s0 : Int32) (s1 : Int32) (w : gW) : Option (Int32 × gW) :=
zl (s0 + s1) (fun v1 =>
zl (x9 + (1 : Int32)) (fun v3 =>
k131 x1 x2 x3 x4 x5 x6 x7 v1 v3 w))
def f_M_worth_b177 (k75 : Int32 → Int32 → Int32 → Int32 → Int32 → Int32 → Int32 → gW → Option (Int32 × gW)) (k131 : Int32 → Int32 → Int32 → Int32 → Int32 → Int32 → Int32 → Int32 → Int32 → gW → Option (Int32 × gW)) (x1 : Int32) (x2 : Int32) (x3 : Int32) (x4 : Int32) (x5 : Int32) (x6 : Int32) (x7 : Int32) (x9 : Int32) (s0 : Int32) (w : gW) : Option (Int32 × gW) :=
f_M_worth_b178 k75 k131 x1 x2 x3 x4 x5 x6 x7 x9 s0 (0 : Int32) w
def f_M_worth_b205 (k75 : Int32 → Int32 → Int32 → Int32 → Int32 → Int32 → Int32 → gW → Option (Int32 × gW)) (x1 : Int32) (x2 : Int32) (x3 : Int32) (x4 : Int32) (x5 : Int32) (x7 : Int32) (s0 : Int32) (w : gW) : Option (Int32 × gW) :=
f_M_worth_b207 k75 x1 x2 x3 x4 x5 s0 x7 w
def f_M_worth_b131_s (k75 : Int32 → Int32 → Int32 → Int32 → Int32 → Int32 → Int32 → gW → Option (Int32 × gW)) (k131 : Int32 → Int32 → Int32 → Int32 → Int32 → Int32 → Int32 → Int32 → Int32 → gW → Option (Int32 × gW)) (x1 : Int32) (x2 : Int32) (x3 : Int32) (x4 : Int32) (x5 : Int32) (x6 : Int32) (x7 : Int32) (x8 : Int32) (x9 : Int32) (w : gW) : Option (Int32 × gW) :=
if (w.1 107 35) ≤ x9 then
(if x6 = (-1 : Int32) then
(f_M_worth_b205 k75 x1 x2 x3 x4 x5 x7 x8 w)
else
(zl (if x8 < x6 then x8 else x6) (fun v3 =>
f_M_worth_b205 k75 x1 x2 x3 x4 x5 x7 v3 w)))
else
(if inb x9 10 then
if (w.1 119 (ix x9)) = x1 then
(zb (f_M_ofPerson x1 w) (fun v7 w8 =>
zb (f_M_holdsSworn x9 v7 w8) (fun v9 w10 =>
if v9 = 0 then
(if inb x9 10 then
f_M_worth_b178 k75 k131 x1 x2 x3 x4 x5 x6 x7 x9 x8 (w10.1 122 (ix x9)) w10
else none)
else
(f_M_worth_b177 k75 k131 x1 x2 x3 x4 x5 x6 x7 x9 x8 w10))))
else
(f_M_worth_b177 k75 k131 x1 x2 x3 x4 x5 x6 x7 x9 x8 w)
else none)
def f_M_worth_b131 (k75 : Int32 → Int32 → Int32 → Int32 → Int32 → Int32 → Int32 → gW → Option (Int32 × gW)) : Int32 → Int32 → Int32 → Int32 → Int32 → Int32 → Int32 → Int32 → Int32 → gW → Option (Int32 × gW) := zfx (fun _ _ _ _ _ _ _ _ _ _ => none) (f_M_worth_b131_s k75) zFU
def f_M_worth_b117 (k75 : Int32 → Int32 → Int32 → Int32 → Int32 → Int32 → Int32 → gW → Option (Int32 × gW)) (x1 : Int32) (x2 : Int32) (x3 : Int32) (x4 : Int32) (x5 : Int32) (x6 : Int32) (x7 : Int32) (s0 : Int32) (w : gW) : Option (Int32 × gW) :=
if s0 = x4 then
(f_M_worth_b131 k75 x1 x2 x3 x4 x5 x6 x7 (0 : Int32) (0 : Int32) w)
else
(f_M_worth_b207 k75 x1 x2 x3 x4 x5 x6 x7 w)
def f_M_worth_b75_s (k75 : Int32 → Int32 → Int32 → Int32 → Int32 → Int32 → Int32 → gW → Option (Int32 × gW)) (x1 : Int32) (x2 : Int32) (x3 : Int32) (x4 : Int32) (x5 : Int32) (x6 : Int32) (x7 : Int32) (w : gW) : Option (Int32 × gW) :=
if (w.1 107 26) ≤ x7 then
(if x6 = (-1 : Int32) then
(some ((0 : Int32), w))
else
(some (x5 - x6, w)))
else
(if inb x7 16807 then
zb (f_M_live (w.1 118 (ix x7)) w) (fun _ w4 =>
zb (f_M_isPossible w4) (fun v5 w6 =>
if v5 = 0 then
(f_M_worth_b207 k75 x1 x2 x3 x4 x5 x6 x7 w6)
else
(if inb x2 5 then
if (w6.1 111 (ix x2)) = x3 then
(f_M_worth_b117 k75 x1 x2 x3 x4 x5 x6 x7 (1 : Int32) w6)
else
(f_M_worth_b117 k75 x1 x2 x3 x4 x5 x6 x7 (0 : Int32) w6)
else none)))
else none)
def f_M_worth_b75 : Int32 → Int32 → Int32 → Int32 → Int32 → Int32 → Int32 → gW → Option (Int32 × gW) := zfx (fun _ _ _ _ _ _ _ _ => none) (f_M_worth_b75_s) zFU
def f_M_worth (a1 : Int32) (a2 : Int32) (a3 : Int32) (a4 : Int32) (w : gW) : Option (Int32 × gW) :=
zl (zsI w 107 0 (0 : Int32)) (fun w1 =>
zb (f_M_isIn (a1.toInt64) (0 : Int64) (5 : Int64) w1) (fun v3 w4 =>
if v3 = 0 then
(f_M_worth_b33 w4)
else
(zb (f_M_isDeed a2 w4) (fun v6 w7 =>
if v6 = 0 then
(f_M_worth_b33 w7)
else
(zb (f_M_isFactDay a3 w7) (fun v9 w10 =>
if v9 = 0 then
(f_M_worth_b33 w10)
else
(zb (f_M_ofPerson a1 w10) (fun v12 w13 =>
zb (f_M_ofPerson a1 w13) (fun v14 w15 =>
zb (f_M_layPerjured v12 v14 w15) (fun _ w16 =>
if (w16.1 107 47) = (-1 : Int32) then
(some ((-1000000 : Int32), w16))
else
(zl (w16.1 107 46) (fun v18 =>
f_M_worth_b75 a1 a2 a3 a4 v18 (-1 : Int32) (0 : Int32) w16))))))))))))
theorem g_M_worth_b33 {l : Launch} {Q : Option Value → gW → Prop} (w : gW) (h : zok eI (f_M_worth_b33 w) Q) : Gz l m_M_worth 57 33 [] [] w Q := by
  unfold f_M_worth_b33 at h
  refine Gz.ldcw (idx := 323) (v := (-1000000 : Int32)) (pc' := 36) (by decide +kernel) rfl kc_M_323 ?_
  exact Gz.ireturn (by decide +kernel) rfl (zok_sI h)
theorem g_M_worth_b207 {l : Launch} {Q : Option Value → gW → Prop} (k75 : Int32 → Int32 → Int32 → Int32 → Int32 → Int32 → Int32 → gW → Option (Int32 × gW)) (hk75 : ∀ (x1 : Int32) (x2 : Int32) (x3 : Int32) (x4 : Int32) (x5 : Int32) (x6 : Int32) (x7 : Int32) (w : gW), zok eI (k75 x1 x2 x3 x4 x5 x6 x7 w) Q → Gz l m_M_worth 57 75 [(0, .ref 107), (1, .int x1), (2, .int x2), (3, .int x3), (4, .int x4), (5, .int x5), (6, .int x6), (7, .int x7)] [] w Q) (x1 : Int32) (x2 : Int32) (x3 : Int32) (x4 : Int32) (x5 : Int32) (x6 : Int32) (x7 : Int32) (w : gW) (h : zok eI (f_M_worth_b207 k75 x1 x2 x3 x4 x5 x6 x7 w) Q) : Gz l m_M_worth 57 207 [(0, .ref 107), (1, .int x1), (2, .int x2), (3, .int x3), (4, .int x4), (5, .int x5), (6, .int x6), (7, .int x7)] [] w Q := by
  unfold f_M_worth_b207 at h
  obtain ⟨v1, e2⟩ : ∃ y : Int32, y = x7 + (1 : Int32) := ⟨_, rfl⟩
  have h := zok_l e2 h
  refine Gz.iinc (i := 7) (n := 1) (pc' := 210) (L' := [(7, .int v1), (0, .ref 107), (1, .int x1), (2, .int x2), (3, .int x3), (4, .int x4), (5, .int x5), (6, .int x6)]) v1 (by decide +kernel) rfl 7 rfl (by rw [e2]; rfl) (Nat.le_of_ble_eq_true rfl) rfl ?_
  refine Gz.goto (off := -135) (tgt := 75) (by decide +kernel) (by decide) ?_
  refine Gz.sub (L' := [(0, .ref 107), (1, .int x1), (2, .int x2), (3, .int x3), (4, .int x4), (5, .int x5), (6, .int x6), (7, .int v1)]) [1, 2, 3, 4, 5, 6, 7, 0] rfl ?_
  exact hk75 x1 x2 x3 x4 x5 x6 v1 w h
theorem g_M_worth_b178 {l : Launch} {Q : Option Value → gW → Prop} (k75 : Int32 → Int32 → Int32 → Int32 → Int32 → Int32 → Int32 → gW → Option (Int32 × gW)) (hk75 : ∀ (x1 : Int32) (x2 : Int32) (x3 : Int32) (x4 : Int32) (x5 : Int32) (x6 : Int32) (x7 : Int32) (w : gW), zok eI (k75 x1 x2 x3 x4 x5 x6 x7 w) Q → Gz l m_M_worth 57 75 [(0, .ref 107), (1, .int x1), (2, .int x2), (3, .int x3), (4, .int x4), (5, .int x5), (6, .int x6), (7, .int x7)] [] w Q) (k131 : Int32 → Int32 → Int32 → Int32 → Int32 → Int32 → Int32 → Int32 → Int32 → gW → Option (Int32 × gW)) (hk131 : ∀ (x1 : Int32) (x2 : Int32) (x3 : Int32) (x4 : Int32) (x5 : Int32) (x6 : Int32) (x7 : Int32) (x8 : Int32) (x9 : Int32) (w : gW), zok eI (k131 x1 x2 x3 x4 x5 x6 x7 x8 x9 w) Q → Gz l m_M_worth 57 131 [(0, .ref 107), (1, .int x1), (2, .int x2), (3, .int x3), (4, .int x4), (5, .int x5), (6, .int x6), (7, .int x7), (8, .int x8), (9, .int x9)] [] w Q) (x1 : Int32) (x2 : Int32) (x3 : Int32) (x4 : Int32) (x5 : Int32) (x6 : Int32) (x7 : Int32) (x9 : Int32) (s0 : Int32) (s1 : Int32) (w : gW) (h : zok eI (f_M_worth_b178 k75 k131 x1 x2 x3 x4 x5 x6 x7 x9 s0 s1 w) Q) : Gz l m_M_worth 57 178 [(0, .ref 107), (1, .int x1), (2, .int x2), (3, .int x3), (4, .int x4), (5, .int x5), (6, .int x6), (7, .int x7), (9, .int x9)] [.int s1, .int s0] w Q := by
  unfold f_M_worth_b178 at h
  refine Gz.iadd (pc' := 179) (by decide +kernel) rfl ?_
  refine Gz.nmI (fun v1 e2 => ?_)
  have h := zok_l e2 h
  refine Gz.istore (i := 8) (pc' := 181) (L' := [(8, .int v1), (0, .ref 107), (1, .int x1), (2, .int x2), (3, .int x3), (4, .int x4), (5, .int x5), (6, .int x6), (7, .int x7), (9, .int x9)]) (by decide +kernel) rfl (Nat.le_of_ble_eq_true rfl) rfl ?_
  obtain ⟨v3, e4⟩ : ∃ y : Int32, y = x9 + (1 : Int32) := ⟨_, rfl⟩
  have h := zok_l e4 h
  refine Gz.iinc (i := 9) (n := 1) (pc' := 184) (L' := [(9, .int v3), (8, .int v1), (0, .ref 107), (1, .int x1), (2, .int x2), (3, .int x3), (4, .int x4), (5, .int x5), (6, .int x6), (7, .int x7)]) v3 (by decide +kernel) rfl 9 rfl (by rw [e4]; rfl) (Nat.le_of_ble_eq_true rfl) rfl ?_
  refine Gz.goto (off := -53) (tgt := 131) (by decide +kernel) (by decide) ?_
  refine Gz.sub (L' := [(0, .ref 107), (1, .int x1), (2, .int x2), (3, .int x3), (4, .int x4), (5, .int x5), (6, .int x6), (7, .int x7), (8, .int v1), (9, .int v3)]) [2, 3, 4, 5, 6, 7, 8, 9, 1, 0] rfl ?_
  exact hk131 x1 x2 x3 x4 x5 x6 x7 v1 v3 w h
theorem g_M_worth_b177 {l : Launch} {Q : Option Value → gW → Prop} (k75 : Int32 → Int32 → Int32 → Int32 → Int32 → Int32 → Int32 → gW → Option (Int32 × gW)) (hk75 : ∀ (x1 : Int32) (x2 : Int32) (x3 : Int32) (x4 : Int32) (x5 : Int32) (x6 : Int32) (x7 : Int32) (w : gW), zok eI (k75 x1 x2 x3 x4 x5 x6 x7 w) Q → Gz l m_M_worth 57 75 [(0, .ref 107), (1, .int x1), (2, .int x2), (3, .int x3), (4, .int x4), (5, .int x5), (6, .int x6), (7, .int x7)] [] w Q) (k131 : Int32 → Int32 → Int32 → Int32 → Int32 → Int32 → Int32 → Int32 → Int32 → gW → Option (Int32 × gW)) (hk131 : ∀ (x1 : Int32) (x2 : Int32) (x3 : Int32) (x4 : Int32) (x5 : Int32) (x6 : Int32) (x7 : Int32) (x8 : Int32) (x9 : Int32) (w : gW), zok eI (k131 x1 x2 x3 x4 x5 x6 x7 x8 x9 w) Q → Gz l m_M_worth 57 131 [(0, .ref 107), (1, .int x1), (2, .int x2), (3, .int x3), (4, .int x4), (5, .int x5), (6, .int x6), (7, .int x7), (8, .int x8), (9, .int x9)] [] w Q) (x1 : Int32) (x2 : Int32) (x3 : Int32) (x4 : Int32) (x5 : Int32) (x6 : Int32) (x7 : Int32) (x9 : Int32) (s0 : Int32) (w : gW) (h : zok eI (f_M_worth_b177 k75 k131 x1 x2 x3 x4 x5 x6 x7 x9 s0 w) Q) : Gz l m_M_worth 57 177 [(0, .ref 107), (1, .int x1), (2, .int x2), (3, .int x3), (4, .int x4), (5, .int x5), (6, .int x6), (7, .int x7), (9, .int x9)] [.int s0] w Q := by
  unfold f_M_worth_b177 at h
  refine Gz.iconst (n := 0) (v := (0 : Int32)) (pc' := 178) (by decide +kernel) rfl rfl ?_
  exact g_M_worth_b178 k75 hk75 k131 hk131 x1 x2 x3 x4 x5 x6 x7 x9 s0 (0 : Int32) w h
theorem g_M_worth_b205 {l : Launch} {Q : Option Value → gW → Prop} (k75 : Int32 → Int32 → Int32 → Int32 → Int32 → Int32 → Int32 → gW → Option (Int32 × gW)) (hk75 : ∀ (x1 : Int32) (x2 : Int32) (x3 : Int32) (x4 : Int32) (x5 : Int32) (x6 : Int32) (x7 : Int32) (w : gW), zok eI (k75 x1 x2 x3 x4 x5 x6 x7 w) Q → Gz l m_M_worth 57 75 [(0, .ref 107), (1, .int x1), (2, .int x2), (3, .int x3), (4, .int x4), (5, .int x5), (6, .int x6), (7, .int x7)] [] w Q) (x1 : Int32) (x2 : Int32) (x3 : Int32) (x4 : Int32) (x5 : Int32) (x7 : Int32) (s0 : Int32) (w : gW) (h : zok eI (f_M_worth_b205 k75 x1 x2 x3 x4 x5 x7 s0 w) Q) : Gz l m_M_worth 57 205 [(0, .ref 107), (1, .int x1), (2, .int x2), (3, .int x3), (4, .int x4), (5, .int x5), (7, .int x7)] [.int s0] w Q := by
  unfold f_M_worth_b205 at h
  refine Gz.istore (i := 6) (pc' := 207) (L' := [(6, .int s0), (0, .ref 107), (1, .int x1), (2, .int x2), (3, .int x3), (4, .int x4), (5, .int x5), (7, .int x7)]) (by decide +kernel) rfl (Nat.le_of_ble_eq_true rfl) rfl ?_
  refine Gz.sub (L' := [(0, .ref 107), (1, .int x1), (2, .int x2), (3, .int x3), (4, .int x4), (5, .int x5), (6, .int s0), (7, .int x7)]) [1, 2, 3, 4, 5, 6, 0, 7] rfl ?_
  exact g_M_worth_b207 k75 hk75 x1 x2 x3 x4 x5 s0 x7 w h
theorem g_M_worth_b131_s {l : Launch} {Q : Option Value → gW → Prop} (k75 : Int32 → Int32 → Int32 → Int32 → Int32 → Int32 → Int32 → gW → Option (Int32 × gW)) (hk75 : ∀ (x1 : Int32) (x2 : Int32) (x3 : Int32) (x4 : Int32) (x5 : Int32) (x6 : Int32) (x7 : Int32) (w : gW), zok eI (k75 x1 x2 x3 x4 x5 x6 x7 w) Q → Gz l m_M_worth 57 75 [(0, .ref 107), (1, .int x1), (2, .int x2), (3, .int x3), (4, .int x4), (5, .int x5), (6, .int x6), (7, .int x7)] [] w Q) (k131 : Int32 → Int32 → Int32 → Int32 → Int32 → Int32 → Int32 → Int32 → Int32 → gW → Option (Int32 × gW)) (hk131 : ∀ (x1 : Int32) (x2 : Int32) (x3 : Int32) (x4 : Int32) (x5 : Int32) (x6 : Int32) (x7 : Int32) (x8 : Int32) (x9 : Int32) (w : gW), zok eI (k131 x1 x2 x3 x4 x5 x6 x7 x8 x9 w) Q → Gz l m_M_worth 57 131 [(0, .ref 107), (1, .int x1), (2, .int x2), (3, .int x3), (4, .int x4), (5, .int x5), (6, .int x6), (7, .int x7), (8, .int x8), (9, .int x9)] [] w Q) (x1 : Int32) (x2 : Int32) (x3 : Int32) (x4 : Int32) (x5 : Int32) (x6 : Int32) (x7 : Int32) (x8 : Int32) (x9 : Int32) (w : gW) (h : zok eI (f_M_worth_b131_s k75 k131 x1 x2 x3 x4 x5 x6 x7 x8 x9 w) Q) : Gz l m_M_worth 57 131 [(0, .ref 107), (1, .int x1), (2, .int x2), (3, .int x3), (4, .int x4), (5, .int x5), (6, .int x6), (7, .int x7), (8, .int x8), (9, .int x9)] [] w Q := by
  unfold f_M_worth_b131_s at h
  refine Gz.iload (i := 9) (pc' := 133) (by decide +kernel) rfl 9 rfl ?_
  refine Gz.aload_n (q := 0) (pc' := 134) (by decide +kernel) rfl 0 rfl ?_
  refine Gz.getI (pc' := 137) (j := 35) fd_M_211 sh_107 rfl (by decide +kernel) rfl ?_
  refine Gz.icmp_ge (off := 50) (tgt := 187) (pc' := 140) (by decide +kernel) (by decide) rfl (fun c1 => ?_) (fun c1 => ?_)
  · have h := zok_t c1 h
    refine Gz.iload (i := 6) (pc' := 189) (by decide +kernel) rfl 6 rfl ?_
    refine Gz.iconst (n := -1) (v := (-1 : Int32)) (pc' := 190) (by decide +kernel) rfl rfl ?_
    refine Gz.icmp_ne (off := 8) (tgt := 198) (pc' := 193) (by decide +kernel) (by decide) rfl (fun c2 => ?_) (fun c2 => ?_)
    · have h := zok_f c2 h
      refine Gz.iload (i := 6) (pc' := 200) (by decide +kernel) rfl 6 rfl ?_
      refine Gz.iload (i := 8) (pc' := 202) (by decide +kernel) rfl 8 rfl ?_
      refine Gz.mmin (pc' := 205) (by decide +kernel) rfl lk_M_324 mmin_s math_i mmin_c (Nat.le_of_ble_eq_true rfl) (Nat.le_of_ble_eq_true rfl) ?_
      refine Gz.nmI (fun v3 e4 => ?_)
      have h := zok_l e4 h
      refine Gz.sub (L' := [(0, .ref 107), (1, .int x1), (2, .int x2), (3, .int x3), (4, .int x4), (5, .int x5), (7, .int x7)]) [0, 1, 2, 3, 4, 5, 7] rfl ?_
      exact g_M_worth_b205 k75 hk75 x1 x2 x3 x4 x5 x7 v3 w h
    · have h := zok_t c2 h
      refine Gz.iload (i := 8) (pc' := 195) (by decide +kernel) rfl 8 rfl ?_
      refine Gz.goto (off := 10) (tgt := 205) (by decide +kernel) (by decide) ?_
      refine Gz.sub (L' := [(0, .ref 107), (1, .int x1), (2, .int x2), (3, .int x3), (4, .int x4), (5, .int x5), (7, .int x7)]) [0, 1, 2, 3, 4, 5, 7] rfl ?_
      exact g_M_worth_b205 k75 hk75 x1 x2 x3 x4 x5 x7 x8 w h
  · have h := zok_f c1 h
    refine Gz.iload (i := 8) (pc' := 142) (by decide +kernel) rfl 8 rfl ?_
    refine Gz.aload_n (q := 0) (pc' := 143) (by decide +kernel) rfl 0 rfl ?_
    refine Gz.getR (pc' := 146) (j := 27) 119 fd_M_47 sh_107 rfl (by decide +kernel) rfl ?_
    refine Gz.iload (i := 9) (pc' := 148) (by decide +kernel) rfl 9 rfl ?_
    obtain ⟨c5, h⟩ := zok_c h
    refine Gz.iald (pc' := 149) (n := 10) (by decide +kernel) rfl rfl c5 ?_
    refine Gz.iload_n (q := 1) (pc' := 150) (by decide +kernel) rfl 1 rfl ?_
    refine Gz.icmp_ne (off := 27) (tgt := 177) (pc' := 153) (by decide +kernel) (by decide) rfl (fun c6 => ?_) (fun c6 => ?_)
    · have h := zok_f c6 h
      refine Gz.sub (L' := [(0, .ref 107), (1, .int x1), (2, .int x2), (3, .int x3), (4, .int x4), (5, .int x5), (6, .int x6), (7, .int x7), (9, .int x9)]) [0, 1, 2, 3, 4, 5, 6, 7, 9] rfl ?_
      exact g_M_worth_b177 k75 hk75 k131 hk131 x1 x2 x3 x4 x5 x6 x7 x9 x8 w h
    · have h := zok_t c6 h
      refine Gz.aload_n (q := 0) (pc' := 154) (by decide +kernel) rfl 0 rfl ?_
      refine Gz.iload (i := 9) (pc' := 156) (by decide +kernel) rfl 9 rfl ?_
      refine Gz.aload_n (q := 0) (pc' := 157) (by decide +kernel) rfl 0 rfl ?_
      refine Gz.iload_n (q := 1) (pc' := 158) (by decide +kernel) rfl 1 rfl ?_
      refine Gz.callVI (st := [.int x9, .ref 107, .int x8]) (b := 107) (pc' := 161) [.int x1] (g_M_ofPerson x1 w) h ok_m_M_ofPerson lk_M_320 sh_107 rfl rfl rfl (Nat.le_of_ble_eq_true rfl) (Nat.le_of_ble_eq_true rfl) (Nat.le_of_ble_eq_true rfl) (by decide +kernel) rfl (fun v7 w8 h => ?_)
      refine Gz.callVI (st := [.int x8]) (b := 107) (pc' := 164) [.int x9, .int v7] (g_M_holdsSworn x9 v7 w8) h ok_m_M_holdsSworn lk_M_264 sh_107 rfl rfl rfl (Nat.le_of_ble_eq_true rfl) (Nat.le_of_ble_eq_true rfl) (Nat.le_of_ble_eq_true rfl) (by decide +kernel) rfl (fun v9 w10 h => ?_)
      refine Gz.if_ne (off := 13) (tgt := 177) (pc' := 167) (by decide +kernel) (by decide) rfl (fun c11 => ?_) (fun c11 => ?_)
      · have h := zok_f c11 h
        refine Gz.sub (L' := [(0, .ref 107), (1, .int x1), (2, .int x2), (3, .int x3), (4, .int x4), (5, .int x5), (6, .int x6), (7, .int x7), (9, .int x9)]) [0, 1, 2, 3, 4, 5, 6, 7, 9] rfl ?_
        exact g_M_worth_b177 k75 hk75 k131 hk131 x1 x2 x3 x4 x5 x6 x7 x9 x8 w10 h
      · have h := zok_t c11 h
        refine Gz.aload_n (q := 0) (pc' := 168) (by decide +kernel) rfl 0 rfl ?_
        refine Gz.getR (pc' := 171) (j := 30) 122 fd_M_56 sh_107 rfl (by decide +kernel) rfl ?_
        refine Gz.iload (i := 9) (pc' := 173) (by decide +kernel) rfl 9 rfl ?_
        obtain ⟨c12, h⟩ := zok_c h
        refine Gz.iald (pc' := 174) (n := 10) (by decide +kernel) rfl rfl c12 ?_
        refine Gz.goto (off := 4) (tgt := 178) (by decide +kernel) (by decide) ?_
        refine Gz.sub (L' := [(0, .ref 107), (1, .int x1), (2, .int x2), (3, .int x3), (4, .int x4), (5, .int x5), (6, .int x6), (7, .int x7), (9, .int x9)]) [0, 1, 2, 3, 4, 5, 6, 7, 9] rfl ?_
        exact g_M_worth_b178 k75 hk75 k131 hk131 x1 x2 x3 x4 x5 x6 x7 x9 x8 (w10.1 122 (ix x9)) w10 h
theorem g_M_worth_b131 {l : Launch} {Q : Option Value → gW → Prop} (k75 : Int32 → Int32 → Int32 → Int32 → Int32 → Int32 → Int32 → gW → Option (Int32 × gW)) (hk75 : ∀ (x1 : Int32) (x2 : Int32) (x3 : Int32) (x4 : Int32) (x5 : Int32) (x6 : Int32) (x7 : Int32) (w : gW), zok eI (k75 x1 x2 x3 x4 x5 x6 x7 w) Q → Gz l m_M_worth 57 75 [(0, .ref 107), (1, .int x1), (2, .int x2), (3, .int x3), (4, .int x4), (5, .int x5), (6, .int x6), (7, .int x7)] [] w Q) (x1 : Int32) (x2 : Int32) (x3 : Int32) (x4 : Int32) (x5 : Int32) (x6 : Int32) (x7 : Int32) (x8 : Int32) (x9 : Int32) (w : gW) (h : zok eI (f_M_worth_b131 k75 x1 x2 x3 x4 x5 x6 x7 x8 x9 w) Q) : Gz l m_M_worth 57 131 [(0, .ref 107), (1, .int x1), (2, .int x2), (3, .int x3), (4, .int x4), (5, .int x5), (6, .int x6), (7, .int x7), (8, .int x8), (9, .int x9)] [] w Q := by
  have key : ∀ (n : Nat) (x1 : Int32) (x2 : Int32) (x3 : Int32) (x4 : Int32) (x5 : Int32) (x6 : Int32) (x7 : Int32) (x8 : Int32) (x9 : Int32) (w : gW), zok eI (zfx (fun _ _ _ _ _ _ _ _ _ _ => none) (f_M_worth_b131_s k75) n x1 x2 x3 x4 x5 x6 x7 x8 x9 w) Q → Gz l m_M_worth 57 131 [(0, .ref 107), (1, .int x1), (2, .int x2), (3, .int x3), (4, .int x4), (5, .int x5), (6, .int x6), (7, .int x7), (8, .int x8), (9, .int x9)] [] w Q := by
    intro n
    induction n with
    | zero => intro x1 x2 x3 x4 x5 x6 x7 x8 x9 w h; exact zok_n h
    | succ n ih => intro x1 x2 x3 x4 x5 x6 x7 x8 x9 w h; exact g_M_worth_b131_s k75 hk75 _ ih x1 x2 x3 x4 x5 x6 x7 x8 x9 w h
  exact key zFU x1 x2 x3 x4 x5 x6 x7 x8 x9 w h
theorem g_M_worth_b117 {l : Launch} {Q : Option Value → gW → Prop} (k75 : Int32 → Int32 → Int32 → Int32 → Int32 → Int32 → Int32 → gW → Option (Int32 × gW)) (hk75 : ∀ (x1 : Int32) (x2 : Int32) (x3 : Int32) (x4 : Int32) (x5 : Int32) (x6 : Int32) (x7 : Int32) (w : gW), zok eI (k75 x1 x2 x3 x4 x5 x6 x7 w) Q → Gz l m_M_worth 57 75 [(0, .ref 107), (1, .int x1), (2, .int x2), (3, .int x3), (4, .int x4), (5, .int x5), (6, .int x6), (7, .int x7)] [] w Q) (x1 : Int32) (x2 : Int32) (x3 : Int32) (x4 : Int32) (x5 : Int32) (x6 : Int32) (x7 : Int32) (s0 : Int32) (w : gW) (h : zok eI (f_M_worth_b117 k75 x1 x2 x3 x4 x5 x6 x7 s0 w) Q) : Gz l m_M_worth 57 117 [(0, .ref 107), (1, .int x1), (2, .int x2), (3, .int x3), (4, .int x4), (5, .int x5), (6, .int x6), (7, .int x7)] [.int s0] w Q := by
  unfold f_M_worth_b117 at h
  refine Gz.iload (i := 4) (pc' := 119) (by decide +kernel) rfl 4 rfl ?_
  refine Gz.icmp_eq (off := 6) (tgt := 125) (pc' := 122) (by decide +kernel) (by decide) rfl (fun c1 => ?_) (fun c1 => ?_)
  · have h := zok_t c1 h
    refine Gz.iconst (n := 0) (v := (0 : Int32)) (pc' := 126) (by decide +kernel) rfl rfl ?_
    refine Gz.istore (i := 8) (pc' := 128) (L' := [(8, .int (0 : Int32)), (0, .ref 107), (1, .int x1), (2, .int x2), (3, .int x3), (4, .int x4), (5, .int x5), (6, .int x6), (7, .int x7)]) (by decide +kernel) rfl (Nat.le_of_ble_eq_true rfl) rfl ?_
    refine Gz.iconst (n := 0) (v := (0 : Int32)) (pc' := 129) (by decide +kernel) rfl rfl ?_
    refine Gz.istore (i := 9) (pc' := 131) (L' := [(9, .int (0 : Int32)), (8, .int (0 : Int32)), (0, .ref 107), (1, .int x1), (2, .int x2), (3, .int x3), (4, .int x4), (5, .int x5), (6, .int x6), (7, .int x7)]) (by decide +kernel) rfl (Nat.le_of_ble_eq_true rfl) rfl ?_
    refine Gz.sub (L' := [(0, .ref 107), (1, .int x1), (2, .int x2), (3, .int x3), (4, .int x4), (5, .int x5), (6, .int x6), (7, .int x7), (8, .int (0 : Int32)), (9, .int (0 : Int32))]) [2, 3, 4, 5, 6, 7, 8, 9, 1, 0] rfl ?_
    exact g_M_worth_b131 k75 hk75 x1 x2 x3 x4 x5 x6 x7 (0 : Int32) (0 : Int32) w h
  · have h := zok_f c1 h
    refine Gz.goto (off := 85) (tgt := 207) (by decide +kernel) (by decide) ?_
    exact g_M_worth_b207 k75 hk75 x1 x2 x3 x4 x5 x6 x7 w h
theorem g_M_worth_b75_s {l : Launch} {Q : Option Value → gW → Prop} (k75 : Int32 → Int32 → Int32 → Int32 → Int32 → Int32 → Int32 → gW → Option (Int32 × gW)) (hk75 : ∀ (x1 : Int32) (x2 : Int32) (x3 : Int32) (x4 : Int32) (x5 : Int32) (x6 : Int32) (x7 : Int32) (w : gW), zok eI (k75 x1 x2 x3 x4 x5 x6 x7 w) Q → Gz l m_M_worth 57 75 [(0, .ref 107), (1, .int x1), (2, .int x2), (3, .int x3), (4, .int x4), (5, .int x5), (6, .int x6), (7, .int x7)] [] w Q) (x1 : Int32) (x2 : Int32) (x3 : Int32) (x4 : Int32) (x5 : Int32) (x6 : Int32) (x7 : Int32) (w : gW) (h : zok eI (f_M_worth_b75_s k75 x1 x2 x3 x4 x5 x6 x7 w) Q) : Gz l m_M_worth 57 75 [(0, .ref 107), (1, .int x1), (2, .int x2), (3, .int x3), (4, .int x4), (5, .int x5), (6, .int x6), (7, .int x7)] [] w Q := by
  unfold f_M_worth_b75_s at h
  refine Gz.iload (i := 7) (pc' := 77) (by decide +kernel) rfl 7 rfl ?_
  refine Gz.aload_n (q := 0) (pc' := 78) (by decide +kernel) rfl 0 rfl ?_
  refine Gz.getI (pc' := 81) (j := 26) fd_M_224 sh_107 rfl (by decide +kernel) rfl ?_
  refine Gz.icmp_ge (off := 132) (tgt := 213) (pc' := 84) (by decide +kernel) (by decide) rfl (fun c1 => ?_) (fun c1 => ?_)
  · have h := zok_t c1 h
    refine Gz.iload (i := 6) (pc' := 215) (by decide +kernel) rfl 6 rfl ?_
    refine Gz.iconst (n := -1) (v := (-1 : Int32)) (pc' := 216) (by decide +kernel) rfl rfl ?_
    refine Gz.icmp_ne (off := 7) (tgt := 223) (pc' := 219) (by decide +kernel) (by decide) rfl (fun c2 => ?_) (fun c2 => ?_)
    · have h := zok_f c2 h
      refine Gz.iload (i := 5) (pc' := 225) (by decide +kernel) rfl 5 rfl ?_
      refine Gz.iload (i := 6) (pc' := 227) (by decide +kernel) rfl 6 rfl ?_
      refine Gz.isub (pc' := 228) (by decide +kernel) rfl ?_
      exact Gz.ireturn (by decide +kernel) rfl (zok_sI h)
    · have h := zok_t c2 h
      refine Gz.iconst (n := 0) (v := (0 : Int32)) (pc' := 220) (by decide +kernel) rfl rfl ?_
      refine Gz.goto (off := 8) (tgt := 228) (by decide +kernel) (by decide) ?_
      exact Gz.ireturn (by decide +kernel) rfl (zok_sI h)
  · have h := zok_f c1 h
    refine Gz.aload_n (q := 0) (pc' := 85) (by decide +kernel) rfl 0 rfl ?_
    refine Gz.aload_n (q := 0) (pc' := 86) (by decide +kernel) rfl 0 rfl ?_
    refine Gz.getR (pc' := 89) (j := 25) 118 fd_M_44 sh_107 rfl (by decide +kernel) rfl ?_
    refine Gz.iload (i := 7) (pc' := 91) (by decide +kernel) rfl 7 rfl ?_
    obtain ⟨c3, h⟩ := zok_c h
    refine Gz.iald (pc' := 92) (n := 16807) (by decide +kernel) rfl rfl c3 ?_
    refine Gz.callVV (st := []) (b := 107) (pc' := 95) [.int (w.1 118 (ix x7))] (g_M_live (w.1 118 (ix x7)) w) h ok_m_M_live lk_M_231 sh_107 rfl rfl rfl (Nat.le_of_ble_eq_true rfl) (Nat.le_of_ble_eq_true rfl) (Nat.le_of_ble_eq_true rfl) (by decide +kernel) rfl (fun _ w4 h => ?_)
    refine Gz.aload_n (q := 0) (pc' := 96) (by decide +kernel) rfl 0 rfl ?_
    refine Gz.callVI (st := []) (b := 107) (pc' := 99) [] (g_M_isPossible w4) h ok_m_M_isPossible lk_M_258 sh_107 rfl rfl rfl (Nat.le_of_ble_eq_true rfl) (Nat.le_of_ble_eq_true rfl) (Nat.le_of_ble_eq_true rfl) (by decide +kernel) rfl (fun v5 w6 h => ?_)
    refine Gz.if_eq (off := 108) (tgt := 207) (pc' := 102) (by decide +kernel) (by decide) rfl (fun c7 => ?_) (fun c7 => ?_)
    · have h := zok_t c7 h
      exact g_M_worth_b207 k75 hk75 x1 x2 x3 x4 x5 x6 x7 w6 h
    · have h := zok_f c7 h
      refine Gz.aload_n (q := 0) (pc' := 103) (by decide +kernel) rfl 0 rfl ?_
      refine Gz.getR (pc' := 106) (j := 12) 111 fd_M_23 sh_107 rfl (by decide +kernel) rfl ?_
      refine Gz.iload_n (q := 2) (pc' := 107) (by decide +kernel) rfl 2 rfl ?_
      obtain ⟨c8, h⟩ := zok_c h
      refine Gz.iald (pc' := 108) (n := 5) (by decide +kernel) rfl rfl c8 ?_
      refine Gz.iload_n (q := 3) (pc' := 109) (by decide +kernel) rfl 3 rfl ?_
      refine Gz.icmp_ne (off := 7) (tgt := 116) (pc' := 112) (by decide +kernel) (by decide) rfl (fun c9 => ?_) (fun c9 => ?_)
      · have h := zok_f c9 h
        refine Gz.iconst (n := 0) (v := (0 : Int32)) (pc' := 117) (by decide +kernel) rfl rfl ?_
        exact g_M_worth_b117 k75 hk75 x1 x2 x3 x4 x5 x6 x7 (0 : Int32) w6 h
      · have h := zok_t c9 h
        refine Gz.iconst (n := 1) (v := (1 : Int32)) (pc' := 113) (by decide +kernel) rfl rfl ?_
        refine Gz.goto (off := 4) (tgt := 117) (by decide +kernel) (by decide) ?_
        exact g_M_worth_b117 k75 hk75 x1 x2 x3 x4 x5 x6 x7 (1 : Int32) w6 h
theorem g_M_worth_b75 {l : Launch} {Q : Option Value → gW → Prop} (x1 : Int32) (x2 : Int32) (x3 : Int32) (x4 : Int32) (x5 : Int32) (x6 : Int32) (x7 : Int32) (w : gW) (h : zok eI (f_M_worth_b75 x1 x2 x3 x4 x5 x6 x7 w) Q) : Gz l m_M_worth 57 75 [(0, .ref 107), (1, .int x1), (2, .int x2), (3, .int x3), (4, .int x4), (5, .int x5), (6, .int x6), (7, .int x7)] [] w Q := by
  have key : ∀ (n : Nat) (x1 : Int32) (x2 : Int32) (x3 : Int32) (x4 : Int32) (x5 : Int32) (x6 : Int32) (x7 : Int32) (w : gW), zok eI (zfx (fun _ _ _ _ _ _ _ _ => none) (f_M_worth_b75_s) n x1 x2 x3 x4 x5 x6 x7 w) Q → Gz l m_M_worth 57 75 [(0, .ref 107), (1, .int x1), (2, .int x2), (3, .int x3), (4, .int x4), (5, .int x5), (6, .int x6), (7, .int x7)] [] w Q := by
    intro n
    induction n with
    | zero => intro x1 x2 x3 x4 x5 x6 x7 w h; exact zok_n h
    | succ n ih => intro x1 x2 x3 x4 x5 x6 x7 w h; exact g_M_worth_b75_s _ ih x1 x2 x3 x4 x5 x6 x7 w h
  exact key zFU x1 x2 x3 x4 x5 x6 x7 w h
theorem g_M_worth {l : Launch} (a1 : Int32) (a2 : Int32) (a3 : Int32) (a4 : Int32) (w : gW) : gCt l m_M_worth 57 [.ref 107, .int a1, .int a2, .int a3, .int a4] w eI (f_M_worth a1 a2 a3 a4 w) := by
  intro Q h
  unfold f_M_worth at h
  show Gz l m_M_worth 57 0 [(0, .ref 107), (1, .int a1), (2, .int a2), (3, .int a3), (4, .int a4)] [] w Q
  refine Gz.aload_n (q := 0) (pc' := 1) (by decide +kernel) rfl 0 rfl ?_
  refine Gz.iconst (n := 0) (v := (0 : Int32)) (pc' := 2) (by decide +kernel) rfl rfl ?_
  refine Gz.putI (pc' := 5) (j := 0) fd_M_96 sh_107 rfl (by decide +kernel) rfl ?_
  refine Gz.nmW (fun w1 e2 => ?_)
  have h := zok_l e2 h
  refine Gz.iload_n (q := 1) (pc' := 6) (by decide +kernel) rfl 1 rfl ?_
  refine Gz.i2l (pc' := 7) (by decide +kernel) rfl ?_
  refine Gz.lconst (n := 0) (v := (0 : Int64)) (pc' := 8) (by decide +kernel) rfl rfl ?_
  refine Gz.ldc2 (idx := 239) (v := (5 : Int64)) (pc' := 11) (by decide +kernel) rfl kc_M_239 ?_
  refine Gz.callSI (st := []) (pc' := 14) [.long (a1.toInt64), .long (0 : Int64), .long (5 : Int64)] (g_M_isIn (a1.toInt64) (0 : Int64) (5 : Int64) w1) h ok_m_M_isIn lk_M_137 rfl (Nat.le_of_ble_eq_true rfl) (Nat.le_of_ble_eq_true rfl) (Nat.le_of_ble_eq_true rfl) (by decide +kernel) rfl (fun v3 w4 h => ?_)
  refine Gz.if_eq (off := 19) (tgt := 33) (pc' := 17) (by decide +kernel) (by decide) rfl (fun c5 => ?_) (fun c5 => ?_)
  · have h := zok_t c5 h
    refine Gz.sub (L' := []) [] rfl ?_
    exact g_M_worth_b33 w4 h
  · have h := zok_f c5 h
    refine Gz.aload_n (q := 0) (pc' := 18) (by decide +kernel) rfl 0 rfl ?_
    refine Gz.iload_n (q := 2) (pc' := 19) (by decide +kernel) rfl 2 rfl ?_
    refine Gz.callVI (st := []) (b := 107) (pc' := 22) [.int a2] (g_M_isDeed a2 w4) h ok_m_M_isDeed lk_M_234 sh_107 rfl rfl rfl (Nat.le_of_ble_eq_true rfl) (Nat.le_of_ble_eq_true rfl) (Nat.le_of_ble_eq_true rfl) (by decide +kernel) rfl (fun v6 w7 h => ?_)
    refine Gz.if_eq (off := 11) (tgt := 33) (pc' := 25) (by decide +kernel) (by decide) rfl (fun c8 => ?_) (fun c8 => ?_)
    · have h := zok_t c8 h
      refine Gz.sub (L' := []) [] rfl ?_
      exact g_M_worth_b33 w7 h
    · have h := zok_f c8 h
      refine Gz.aload_n (q := 0) (pc' := 26) (by decide +kernel) rfl 0 rfl ?_
      refine Gz.iload_n (q := 3) (pc' := 27) (by decide +kernel) rfl 3 rfl ?_
      refine Gz.callVI (st := []) (b := 107) (pc' := 30) [.int a3] (g_M_isFactDay a3 w7) h ok_m_M_isFactDay lk_M_251 sh_107 rfl rfl rfl (Nat.le_of_ble_eq_true rfl) (Nat.le_of_ble_eq_true rfl) (Nat.le_of_ble_eq_true rfl) (by decide +kernel) rfl (fun v9 w10 h => ?_)
      refine Gz.if_ne (off := 7) (tgt := 37) (pc' := 33) (by decide +kernel) (by decide) rfl (fun c11 => ?_) (fun c11 => ?_)
      · have h := zok_f c11 h
        refine Gz.aload_n (q := 0) (pc' := 38) (by decide +kernel) rfl 0 rfl ?_
        refine Gz.aload_n (q := 0) (pc' := 39) (by decide +kernel) rfl 0 rfl ?_
        refine Gz.iload_n (q := 1) (pc' := 40) (by decide +kernel) rfl 1 rfl ?_
        refine Gz.callVI (st := [.ref 107]) (b := 107) (pc' := 43) [.int a1] (g_M_ofPerson a1 w10) h ok_m_M_ofPerson lk_M_320 sh_107 rfl rfl rfl (Nat.le_of_ble_eq_true rfl) (Nat.le_of_ble_eq_true rfl) (Nat.le_of_ble_eq_true rfl) (by decide +kernel) rfl (fun v12 w13 h => ?_)
        refine Gz.aload_n (q := 0) (pc' := 44) (by decide +kernel) rfl 0 rfl ?_
        refine Gz.iload_n (q := 1) (pc' := 45) (by decide +kernel) rfl 1 rfl ?_
        refine Gz.callVI (st := [.int v12, .ref 107]) (b := 107) (pc' := 48) [.int a1] (g_M_ofPerson a1 w13) h ok_m_M_ofPerson lk_M_320 sh_107 rfl rfl rfl (Nat.le_of_ble_eq_true rfl) (Nat.le_of_ble_eq_true rfl) (Nat.le_of_ble_eq_true rfl) (by decide +kernel) rfl (fun v14 w15 h => ?_)
        refine Gz.callVV (st := []) (b := 107) (pc' := 51) [.int v12, .int v14] (g_M_layPerjured v12 v14 w15) h ok_m_M_layPerjured lk_M_317 sh_107 rfl rfl rfl (Nat.le_of_ble_eq_true rfl) (Nat.le_of_ble_eq_true rfl) (Nat.le_of_ble_eq_true rfl) (by decide +kernel) rfl (fun _ w16 h => ?_)
        refine Gz.aload_n (q := 0) (pc' := 52) (by decide +kernel) rfl 0 rfl ?_
        refine Gz.getI (pc' := 55) (j := 47) fd_M_308 sh_107 rfl (by decide +kernel) rfl ?_
        refine Gz.iconst (n := -1) (v := (-1 : Int32)) (pc' := 56) (by decide +kernel) rfl rfl ?_
        refine Gz.icmp_ne (off := 7) (tgt := 63) (pc' := 59) (by decide +kernel) (by decide) rfl (fun c17 => ?_) (fun c17 => ?_)
        · have h := zok_f c17 h
          refine Gz.aload_n (q := 0) (pc' := 64) (by decide +kernel) rfl 0 rfl ?_
          refine Gz.getI (pc' := 67) (j := 46) fd_M_311 sh_107 rfl (by decide +kernel) rfl ?_
          refine Gz.nmI (fun v18 e19 => ?_)
          have h := zok_l e19 h
          refine Gz.istore (i := 5) (pc' := 69) (L' := [(5, .int v18), (0, .ref 107), (1, .int a1), (2, .int a2), (3, .int a3), (4, .int a4)]) (by decide +kernel) rfl (Nat.le_of_ble_eq_true rfl) rfl ?_
          refine Gz.iconst (n := -1) (v := (-1 : Int32)) (pc' := 70) (by decide +kernel) rfl rfl ?_
          refine Gz.istore (i := 6) (pc' := 72) (L' := [(6, .int (-1 : Int32)), (5, .int v18), (0, .ref 107), (1, .int a1), (2, .int a2), (3, .int a3), (4, .int a4)]) (by decide +kernel) rfl (Nat.le_of_ble_eq_true rfl) rfl ?_
          refine Gz.iconst (n := 0) (v := (0 : Int32)) (pc' := 73) (by decide +kernel) rfl rfl ?_
          refine Gz.istore (i := 7) (pc' := 75) (L' := [(7, .int (0 : Int32)), (6, .int (-1 : Int32)), (5, .int v18), (0, .ref 107), (1, .int a1), (2, .int a2), (3, .int a3), (4, .int a4)]) (by decide +kernel) rfl (Nat.le_of_ble_eq_true rfl) rfl ?_
          refine Gz.sub (L' := [(0, .ref 107), (1, .int a1), (2, .int a2), (3, .int a3), (4, .int a4), (5, .int v18), (6, .int (-1 : Int32)), (7, .int (0 : Int32))]) [3, 4, 5, 6, 7, 2, 1, 0] rfl ?_
          exact g_M_worth_b75 a1 a2 a3 a4 v18 (-1 : Int32) (0 : Int32) w16 h
        · have h := zok_t c17 h
          refine Gz.ldcw (idx := 323) (v := (-1000000 : Int32)) (pc' := 62) (by decide +kernel) rfl kc_M_323 ?_
          exact Gz.ireturn (by decide +kernel) rfl (zok_sI h)
      · have h := zok_t c11 h
        refine Gz.sub (L' := []) [] rfl ?_
        exact g_M_worth_b33 w10 h
def f_M_weigh (a1 : Int32) (a2 : Int32) (a3 : Int32) (w : gW) : Option (Int32 × gW) :=
zl (zsI w 107 0 (0 : Int32)) (fun w1 =>
zb (f_M_isDeed a1 w1) (fun v3 w4 =>
if v3 = 0 then
(some ((0 : Int32), w4))
else
(zb (f_M_isFactDay a2 w4) (fun v6 w7 =>
if v6 = 0 then
(some ((0 : Int32), w7))
else
(zb (f_M_isIn (a3.toInt64) (0 : Int64) (9 : Int64) w7) (fun v9 w10 =>
if v9 = 0 then
(some ((0 : Int32), w10))
else
(if inb (((10 : Int32) * a1) + a2) 50 then
zl (zsI w10 129 (ix (((10 : Int32) * a1) + a2)) a3) (fun w13 =>
some ((1 : Int32), w13))
else none)))))))
theorem g_M_weigh {l : Launch} (a1 : Int32) (a2 : Int32) (a3 : Int32) (w : gW) : gCt l m_M_weigh 3 [.ref 107, .int a1, .int a2, .int a3] w eI (f_M_weigh a1 a2 a3 w) := by
  intro Q h
  unfold f_M_weigh at h
  show Gz l m_M_weigh 3 0 [(0, .ref 107), (1, .int a1), (2, .int a2), (3, .int a3)] [] w Q
  refine Gz.aload_n (q := 0) (pc' := 1) (by decide +kernel) rfl 0 rfl ?_
  refine Gz.iconst (n := 0) (v := (0 : Int32)) (pc' := 2) (by decide +kernel) rfl rfl ?_
  refine Gz.putI (pc' := 5) (j := 0) fd_M_96 sh_107 rfl (by decide +kernel) rfl ?_
  refine Gz.nmW (fun w1 e2 => ?_)
  have h := zok_l e2 h
  refine Gz.aload_n (q := 0) (pc' := 6) (by decide +kernel) rfl 0 rfl ?_
  refine Gz.iload_n (q := 1) (pc' := 7) (by decide +kernel) rfl 1 rfl ?_
  refine Gz.callVI (st := []) (b := 107) (pc' := 10) [.int a1] (g_M_isDeed a1 w1) h ok_m_M_isDeed lk_M_234 sh_107 rfl rfl rfl (Nat.le_of_ble_eq_true rfl) (Nat.le_of_ble_eq_true rfl) (Nat.le_of_ble_eq_true rfl) (by decide +kernel) rfl (fun v3 w4 h => ?_)
  refine Gz.if_eq (off := 23) (tgt := 33) (pc' := 13) (by decide +kernel) (by decide) rfl (fun c5 => ?_) (fun c5 => ?_)
  · have h := zok_t c5 h
    refine Gz.iconst (n := 0) (v := (0 : Int32)) (pc' := 34) (by decide +kernel) rfl rfl ?_
    exact Gz.zreturn (by decide +kernel) rfl (by decide) (zok_sI h)
  · have h := zok_f c5 h
    refine Gz.aload_n (q := 0) (pc' := 14) (by decide +kernel) rfl 0 rfl ?_
    refine Gz.iload_n (q := 2) (pc' := 15) (by decide +kernel) rfl 2 rfl ?_
    refine Gz.callVI (st := []) (b := 107) (pc' := 18) [.int a2] (g_M_isFactDay a2 w4) h ok_m_M_isFactDay lk_M_251 sh_107 rfl rfl rfl (Nat.le_of_ble_eq_true rfl) (Nat.le_of_ble_eq_true rfl) (Nat.le_of_ble_eq_true rfl) (by decide +kernel) rfl (fun v6 w7 h => ?_)
    refine Gz.if_eq (off := 15) (tgt := 33) (pc' := 21) (by decide +kernel) (by decide) rfl (fun c8 => ?_) (fun c8 => ?_)
    · have h := zok_t c8 h
      refine Gz.iconst (n := 0) (v := (0 : Int32)) (pc' := 34) (by decide +kernel) rfl rfl ?_
      exact Gz.zreturn (by decide +kernel) rfl (by decide) (zok_sI h)
    · have h := zok_f c8 h
      refine Gz.iload_n (q := 3) (pc' := 22) (by decide +kernel) rfl 3 rfl ?_
      refine Gz.i2l (pc' := 23) (by decide +kernel) rfl ?_
      refine Gz.lconst (n := 0) (v := (0 : Int64)) (pc' := 24) (by decide +kernel) rfl rfl ?_
      refine Gz.ldc2 (idx := 329) (v := (9 : Int64)) (pc' := 27) (by decide +kernel) rfl kc_M_329 ?_
      refine Gz.callSI (st := []) (pc' := 30) [.long (a3.toInt64), .long (0 : Int64), .long (9 : Int64)] (g_M_isIn (a3.toInt64) (0 : Int64) (9 : Int64) w7) h ok_m_M_isIn lk_M_137 rfl (Nat.le_of_ble_eq_true rfl) (Nat.le_of_ble_eq_true rfl) (Nat.le_of_ble_eq_true rfl) (by decide +kernel) rfl (fun v9 w10 h => ?_)
      refine Gz.if_ne (off := 5) (tgt := 35) (pc' := 33) (by decide +kernel) (by decide) rfl (fun c11 => ?_) (fun c11 => ?_)
      · have h := zok_f c11 h
        refine Gz.aload_n (q := 0) (pc' := 36) (by decide +kernel) rfl 0 rfl ?_
        refine Gz.getR (pc' := 39) (j := 49) 129 fd_M_78 sh_107 rfl (by decide +kernel) rfl ?_
        refine Gz.bipush (n := 10) (v := (10 : Int32)) (pc' := 41) (by decide +kernel) rfl rfl ?_
        refine Gz.iload_n (q := 1) (pc' := 42) (by decide +kernel) rfl 1 rfl ?_
        refine Gz.imul (pc' := 43) (by decide +kernel) rfl ?_
        refine Gz.iload_n (q := 2) (pc' := 44) (by decide +kernel) rfl 2 rfl ?_
        refine Gz.iadd (pc' := 45) (by decide +kernel) rfl ?_
        refine Gz.iload_n (q := 3) (pc' := 46) (by decide +kernel) rfl 3 rfl ?_
        obtain ⟨c12, h⟩ := zok_c h
        refine Gz.iast (pc' := 47) (n := 50) (by decide +kernel) rfl rfl c12 ?_
        refine Gz.nmW (fun w13 e14 => ?_)
        have h := zok_l e14 h
        refine Gz.iconst (n := 1) (v := (1 : Int32)) (pc' := 48) (by decide +kernel) rfl rfl ?_
        exact Gz.zreturn (by decide +kernel) rfl (by decide) (zok_sI h)
      · have h := zok_t c11 h
        refine Gz.iconst (n := 0) (v := (0 : Int32)) (pc' := 34) (by decide +kernel) rfl rfl ?_
        exact Gz.zreturn (by decide +kernel) rfl (by decide) (zok_sI h)
def f_M_weight_b4_s (k4 : Int64 → Int32 → gW → Option (Int64 × gW)) (x1 : Int64) (x3 : Int32) (w : gW) : Option (Int64 × gW) :=
if (w.1 107 21) ≤ x3 then
(some (x1, w))
else
(if inb x3 5 then
if inb (((10 : Int32) * x3) + (w.1 111 (ix x3))) 50 then
zl (x1 * ((w.1 129 (ix (((10 : Int32) * x3) + (w.1 111 (ix x3))))).toInt64)) (fun v4 =>
zl (x3 + (1 : Int32)) (fun v6 =>
k4 v4 v6 w))
else none
else none)
def f_M_weight_b4 : Int64 → Int32 → gW → Option (Int64 × gW) := zfx (fun _ _ _ => none) (f_M_weight_b4_s) zFU
def f_M_weight (w : gW) : Option (Int64 × gW) :=
f_M_weight_b4 (1 : Int64) (0 : Int32) w
theorem g_M_weight_b4_s {l : Launch} {Q : Option Value → gW → Prop} (k4 : Int64 → Int32 → gW → Option (Int64 × gW)) (hk4 : ∀ (x1 : Int64) (x3 : Int32) (w : gW), zok eJ (k4 x1 x3 w) Q → Gz l m_M_weight 1 4 [(0, .ref 107), (1, .long x1), (3, .int x3)] [] w Q) (x1 : Int64) (x3 : Int32) (w : gW) (h : zok eJ (f_M_weight_b4_s k4 x1 x3 w) Q) : Gz l m_M_weight 1 4 [(0, .ref 107), (1, .long x1), (3, .int x3)] [] w Q := by
  unfold f_M_weight_b4_s at h
  refine Gz.iload_n (q := 3) (pc' := 5) (by decide +kernel) rfl 2 rfl ?_
  refine Gz.aload_n (q := 0) (pc' := 6) (by decide +kernel) rfl 0 rfl ?_
  refine Gz.getI (pc' := 9) (j := 21) fd_M_141 sh_107 rfl (by decide +kernel) rfl ?_
  refine Gz.icmp_ge (off := 29) (tgt := 38) (pc' := 12) (by decide +kernel) (by decide) rfl (fun c1 => ?_) (fun c1 => ?_)
  · have h := zok_t c1 h
    refine Gz.lload_n (q := 1) (pc' := 39) (by decide +kernel) rfl 1 rfl ?_
    exact Gz.lreturn (by decide +kernel) rfl (zok_sJ h)
  · have h := zok_f c1 h
    refine Gz.lload_n (q := 1) (pc' := 13) (by decide +kernel) rfl 1 rfl ?_
    refine Gz.aload_n (q := 0) (pc' := 14) (by decide +kernel) rfl 0 rfl ?_
    refine Gz.getR (pc' := 17) (j := 49) 129 fd_M_78 sh_107 rfl (by decide +kernel) rfl ?_
    refine Gz.bipush (n := 10) (v := (10 : Int32)) (pc' := 19) (by decide +kernel) rfl rfl ?_
    refine Gz.iload_n (q := 3) (pc' := 20) (by decide +kernel) rfl 2 rfl ?_
    refine Gz.imul (pc' := 21) (by decide +kernel) rfl ?_
    refine Gz.aload_n (q := 0) (pc' := 22) (by decide +kernel) rfl 0 rfl ?_
    refine Gz.getR (pc' := 25) (j := 12) 111 fd_M_23 sh_107 rfl (by decide +kernel) rfl ?_
    refine Gz.iload_n (q := 3) (pc' := 26) (by decide +kernel) rfl 2 rfl ?_
    obtain ⟨c2, h⟩ := zok_c h
    refine Gz.iald (pc' := 27) (n := 5) (by decide +kernel) rfl rfl c2 ?_
    refine Gz.iadd (pc' := 28) (by decide +kernel) rfl ?_
    obtain ⟨c3, h⟩ := zok_c h
    refine Gz.iald (pc' := 29) (n := 50) (by decide +kernel) rfl rfl c3 ?_
    refine Gz.i2l (pc' := 30) (by decide +kernel) rfl ?_
    refine Gz.lmul (pc' := 31) (by decide +kernel) rfl ?_
    refine Gz.nmJ (fun v4 e5 => ?_)
    have h := zok_l e5 h
    refine Gz.lstore_n (q := 1) (pc' := 32) (L' := [(1, .long v4), (0, .ref 107), (3, .int x3)]) (by decide +kernel) rfl (Nat.le_of_ble_eq_true rfl) rfl ?_
    obtain ⟨v6, e7⟩ : ∃ y : Int32, y = x3 + (1 : Int32) := ⟨_, rfl⟩
    have h := zok_l e7 h
    refine Gz.iinc (i := 3) (n := 1) (pc' := 35) (L' := [(3, .int v6), (1, .long v4), (0, .ref 107)]) v6 (by decide +kernel) rfl 2 rfl (by rw [e7]; rfl) (Nat.le_of_ble_eq_true rfl) rfl ?_
    refine Gz.goto (off := -31) (tgt := 4) (by decide +kernel) (by decide) ?_
    refine Gz.sub (L' := [(0, .ref 107), (1, .long v4), (3, .int v6)]) [2, 1, 0] rfl ?_
    exact hk4 v4 v6 w h
theorem g_M_weight_b4 {l : Launch} {Q : Option Value → gW → Prop} (x1 : Int64) (x3 : Int32) (w : gW) (h : zok eJ (f_M_weight_b4 x1 x3 w) Q) : Gz l m_M_weight 1 4 [(0, .ref 107), (1, .long x1), (3, .int x3)] [] w Q := by
  have key : ∀ (n : Nat) (x1 : Int64) (x3 : Int32) (w : gW), zok eJ (zfx (fun _ _ _ => none) (f_M_weight_b4_s) n x1 x3 w) Q → Gz l m_M_weight 1 4 [(0, .ref 107), (1, .long x1), (3, .int x3)] [] w Q := by
    intro n
    induction n with
    | zero => intro x1 x3 w h; exact zok_n h
    | succ n ih => intro x1 x3 w h; exact g_M_weight_b4_s _ ih x1 x3 w h
  exact key zFU x1 x3 w h
theorem g_M_weight {l : Launch} (w : gW) : gCt l m_M_weight 1 [.ref 107] w eJ (f_M_weight w) := by
  intro Q h
  unfold f_M_weight at h
  show Gz l m_M_weight 1 0 [(0, .ref 107)] [] w Q
  refine Gz.lconst (n := 1) (v := (1 : Int64)) (pc' := 1) (by decide +kernel) rfl rfl ?_
  refine Gz.lstore_n (q := 1) (pc' := 2) (L' := [(1, .long (1 : Int64)), (0, .ref 107)]) (by decide +kernel) rfl (Nat.le_of_ble_eq_true rfl) rfl ?_
  refine Gz.iconst (n := 0) (v := (0 : Int32)) (pc' := 3) (by decide +kernel) rfl rfl ?_
  refine Gz.istore_n (q := 3) (pc' := 4) (L' := [(3, .int (0 : Int32)), (1, .long (1 : Int64)), (0, .ref 107)]) (by decide +kernel) rfl (Nat.le_of_ble_eq_true rfl) rfl ?_
  refine Gz.sub (L' := [(0, .ref 107), (1, .long (1 : Int64)), (3, .int (0 : Int32))]) [2, 1, 0] rfl ?_
  exact g_M_weight_b4 (1 : Int64) (0 : Int32) w h
