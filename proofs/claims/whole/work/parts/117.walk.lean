def f_M_layDay_b157 (k29 : Int32 → Int32 → gW → Option (Unit × gW)) (x1 : Int32) (x2 : Int32) (w : gW) : Option (Unit × gW) :=
zl (x2 + (1 : Int32)) (fun v1 =>
k29 x1 v1 w)
def f_M_layDay_b146 (k29 : Int32 → Int32 → gW → Option (Unit × gW)) (x1 : Int32) (x2 : Int32) (x3 : Int32) (x4 : Int32) (w : gW) : Option (Unit × gW) :=
zl (zsI w 107 42 x4) (fun w1 =>
zl (zsI w1 107 43 x3) (fun w3 =>
f_M_layDay_b157 k29 x1 x2 w3))
def f_M_layDay_b29_s (k29 : Int32 → Int32 → gW → Option (Unit × gW)) (x1 : Int32) (x2 : Int32) (w : gW) : Option (Unit × gW) :=
if (w.1 107 26) ≤ x2 then
(some ((), w))
else
(if inb x2 16807 then
zb (f_M_live (w.1 118 (ix x2)) w) (fun _ w3 =>
zb (f_M_fits w3) (fun v4 w5 =>
if v4 = 0 then
(f_M_layDay_b157 k29 x1 x2 w5)
else
(zb (f_M_holding x1 w5) (fun v7 w8 =>
if inb (w8.1 107 44) 16807 then
zl (zsI w8 128 (ix (w8.1 107 44)) v7) (fun w10 =>
zl (zsI w10 107 44 ((w10.1 107 44) + (1 : Int32))) (fun w12 =>
zl (zsI w12 107 40 ((w12.1 107 40) ||| v7)) (fun w14 =>
zl (zsI w14 107 41 ((w14.1 107 41) &&& v7)) (fun w16 =>
zb (f_Int_bitCount v7 w16) (fun v18 w19 =>
if (w19.1 107 43) = (-1 : Int32) then
(f_M_layDay_b146 k29 x1 x2 v7 v18 w19)
else
(if v18 < (w19.1 107 42) then
(f_M_layDay_b157 k29 x1 x2 w19)
else
(if v18 = (w19.1 107 42) then
(if v7 ≤ (w19.1 107 43) then
(f_M_layDay_b146 k29 x1 x2 v7 v18 w19)
else
(f_M_layDay_b157 k29 x1 x2 w19))
else
(f_M_layDay_b146 k29 x1 x2 v7 v18 w19))))))))
else none))))
else none)
def f_M_layDay_b29 : Int32 → Int32 → gW → Option (Unit × gW) := zfx (fun _ _ _ => none) (f_M_layDay_b29_s) zFU
def f_M_layDay (a1 : Int32) (w : gW) : Option (Unit × gW) :=
zl (zsI w 107 40 (0 : Int32)) (fun w1 =>
zl (zsI w1 107 41 (((1 : Int32) <<< ((w1.1 107 6) &&& 31)) - (1 : Int32))) (fun w3 =>
zl (zsI w3 107 44 (0 : Int32)) (fun w5 =>
zl (zsI w5 107 43 (-1 : Int32)) (fun w7 =>
f_M_layDay_b29 a1 (0 : Int32) w7))))
theorem g_M_layDay_b157 {l : Launch} {Q : Option Value → gW → Prop} (k29 : Int32 → Int32 → gW → Option (Unit × gW)) (hk29 : ∀ (x1 : Int32) (x2 : Int32) (w : gW), zok eV (k29 x1 x2 w) Q → Gz l m_M_layDay 57 29 [(0, .ref 107), (1, .int x1), (2, .int x2)] [] w Q) (x1 : Int32) (x2 : Int32) (w : gW) (h : zok eV (f_M_layDay_b157 k29 x1 x2 w) Q) : Gz l m_M_layDay 57 157 [(0, .ref 107), (1, .int x1), (2, .int x2)] [] w Q := by
  unfold f_M_layDay_b157 at h
  obtain ⟨v1, e2⟩ : ∃ y : Int32, y = x2 + (1 : Int32) := ⟨_, rfl⟩
  have h := zok_l e2 h
  refine Gz.iinc (i := 2) (n := 1) (pc' := 160) (L' := [(2, .int v1), (0, .ref 107), (1, .int x1)]) v1 (by decide +kernel) rfl 2 rfl (by rw [e2]; rfl) (Nat.le_of_ble_eq_true rfl) rfl ?_
  refine Gz.goto (off := -131) (tgt := 29) (by decide +kernel) (by decide) ?_
  refine Gz.sub (L' := [(0, .ref 107), (1, .int x1), (2, .int v1)]) [1, 2, 0] rfl ?_
  exact hk29 x1 v1 w h
theorem g_M_layDay_b146 {l : Launch} {Q : Option Value → gW → Prop} (k29 : Int32 → Int32 → gW → Option (Unit × gW)) (hk29 : ∀ (x1 : Int32) (x2 : Int32) (w : gW), zok eV (k29 x1 x2 w) Q → Gz l m_M_layDay 57 29 [(0, .ref 107), (1, .int x1), (2, .int x2)] [] w Q) (x1 : Int32) (x2 : Int32) (x3 : Int32) (x4 : Int32) (w : gW) (h : zok eV (f_M_layDay_b146 k29 x1 x2 x3 x4 w) Q) : Gz l m_M_layDay 57 146 [(0, .ref 107), (1, .int x1), (2, .int x2), (3, .int x3), (4, .int x4)] [] w Q := by
  unfold f_M_layDay_b146 at h
  refine Gz.aload_n (q := 0) (pc' := 147) (by decide +kernel) rfl 0 rfl ?_
  refine Gz.iload (i := 4) (pc' := 149) (by decide +kernel) rfl 4 rfl ?_
  refine Gz.putI (pc' := 152) (j := 42) fd_M_302 sh_107 rfl (by decide +kernel) rfl ?_
  refine Gz.nmW (fun w1 e2 => ?_)
  have h := zok_l e2 h
  refine Gz.aload_n (q := 0) (pc' := 153) (by decide +kernel) rfl 0 rfl ?_
  refine Gz.iload_n (q := 3) (pc' := 154) (by decide +kernel) rfl 3 rfl ?_
  refine Gz.putI (pc' := 157) (j := 43) fd_M_291 sh_107 rfl (by decide +kernel) rfl ?_
  refine Gz.nmW (fun w3 e4 => ?_)
  have h := zok_l e4 h
  refine Gz.sub (L' := [(0, .ref 107), (1, .int x1), (2, .int x2)]) [0, 1, 2] rfl ?_
  exact g_M_layDay_b157 k29 hk29 x1 x2 w3 h
theorem g_M_layDay_b29_s {l : Launch} {Q : Option Value → gW → Prop} (k29 : Int32 → Int32 → gW → Option (Unit × gW)) (hk29 : ∀ (x1 : Int32) (x2 : Int32) (w : gW), zok eV (k29 x1 x2 w) Q → Gz l m_M_layDay 57 29 [(0, .ref 107), (1, .int x1), (2, .int x2)] [] w Q) (x1 : Int32) (x2 : Int32) (w : gW) (h : zok eV (f_M_layDay_b29_s k29 x1 x2 w) Q) : Gz l m_M_layDay 57 29 [(0, .ref 107), (1, .int x1), (2, .int x2)] [] w Q := by
  unfold f_M_layDay_b29_s at h
  refine Gz.iload_n (q := 2) (pc' := 30) (by decide +kernel) rfl 2 rfl ?_
  refine Gz.aload_n (q := 0) (pc' := 31) (by decide +kernel) rfl 0 rfl ?_
  refine Gz.getI (pc' := 34) (j := 26) fd_M_224 sh_107 rfl (by decide +kernel) rfl ?_
  refine Gz.icmp_ge (off := 129) (tgt := 163) (pc' := 37) (by decide +kernel) (by decide) rfl (fun c1 => ?_) (fun c1 => ?_)
  · have h := zok_t c1 h
    exact Gz.return_ (by decide +kernel) rfl (zok_sV h)
  · have h := zok_f c1 h
    refine Gz.aload_n (q := 0) (pc' := 38) (by decide +kernel) rfl 0 rfl ?_
    refine Gz.aload_n (q := 0) (pc' := 39) (by decide +kernel) rfl 0 rfl ?_
    refine Gz.getR (pc' := 42) (j := 25) 118 fd_M_44 sh_107 rfl (by decide +kernel) rfl ?_
    refine Gz.iload_n (q := 2) (pc' := 43) (by decide +kernel) rfl 2 rfl ?_
    obtain ⟨c2, h⟩ := zok_c h
    refine Gz.iald (pc' := 44) (n := 16807) (by decide +kernel) rfl rfl c2 ?_
    refine Gz.callVV (st := []) (b := 107) (pc' := 47) [.int (w.1 118 (ix x2))] (g_M_live (w.1 118 (ix x2)) w) h ok_m_M_live lk_M_231 sh_107 rfl rfl rfl (Nat.le_of_ble_eq_true rfl) (Nat.le_of_ble_eq_true rfl) (Nat.le_of_ble_eq_true rfl) (by decide +kernel) rfl (fun _ w3 h => ?_)
    refine Gz.aload_n (q := 0) (pc' := 48) (by decide +kernel) rfl 0 rfl ?_
    refine Gz.callVI (st := []) (b := 107) (pc' := 51) [] (g_M_fits w3) h ok_m_M_fits lk_M_267 sh_107 rfl rfl rfl (Nat.le_of_ble_eq_true rfl) (Nat.le_of_ble_eq_true rfl) (Nat.le_of_ble_eq_true rfl) (by decide +kernel) rfl (fun v4 w5 h => ?_)
    refine Gz.if_ne (off := 6) (tgt := 57) (pc' := 54) (by decide +kernel) (by decide) rfl (fun c6 => ?_) (fun c6 => ?_)
    · have h := zok_f c6 h
      refine Gz.aload_n (q := 0) (pc' := 58) (by decide +kernel) rfl 0 rfl ?_
      refine Gz.iload_n (q := 1) (pc' := 59) (by decide +kernel) rfl 1 rfl ?_
      refine Gz.callVI (st := []) (b := 107) (pc' := 62) [.int x1] (g_M_holding x1 w5) h ok_m_M_holding lk_M_294 sh_107 rfl rfl rfl (Nat.le_of_ble_eq_true rfl) (Nat.le_of_ble_eq_true rfl) (Nat.le_of_ble_eq_true rfl) (by decide +kernel) rfl (fun v7 w8 h => ?_)
      refine Gz.istore_n (q := 3) (pc' := 63) (L' := [(3, .int v7), (0, .ref 107), (1, .int x1), (2, .int x2)]) (by decide +kernel) rfl (Nat.le_of_ble_eq_true rfl) rfl ?_
      refine Gz.aload_n (q := 0) (pc' := 64) (by decide +kernel) rfl 1 rfl ?_
      refine Gz.getR (pc' := 67) (j := 45) 128 fd_M_75 sh_107 rfl (by decide +kernel) rfl ?_
      refine Gz.aload_n (q := 0) (pc' := 68) (by decide +kernel) rfl 1 rfl ?_
      refine Gz.getI (pc' := 71) (j := 44) fd_M_288 sh_107 rfl (by decide +kernel) rfl ?_
      refine Gz.iload_n (q := 3) (pc' := 72) (by decide +kernel) rfl 0 rfl ?_
      obtain ⟨c9, h⟩ := zok_c h
      refine Gz.iast (pc' := 73) (n := 16807) (by decide +kernel) rfl rfl c9 ?_
      refine Gz.nmW (fun w10 e11 => ?_)
      have h := zok_l e11 h
      refine Gz.aload_n (q := 0) (pc' := 74) (by decide +kernel) rfl 1 rfl ?_
      refine Gz.dup (pc' := 75) (by decide +kernel) rfl rfl ?_
      refine Gz.getI (pc' := 78) (j := 44) fd_M_288 sh_107 rfl (by decide +kernel) rfl ?_
      refine Gz.iconst (n := 1) (v := (1 : Int32)) (pc' := 79) (by decide +kernel) rfl rfl ?_
      refine Gz.iadd (pc' := 80) (by decide +kernel) rfl ?_
      refine Gz.putI (pc' := 83) (j := 44) fd_M_288 sh_107 rfl (by decide +kernel) rfl ?_
      refine Gz.nmW (fun w12 e13 => ?_)
      have h := zok_l e13 h
      refine Gz.aload_n (q := 0) (pc' := 84) (by decide +kernel) rfl 1 rfl ?_
      refine Gz.dup (pc' := 85) (by decide +kernel) rfl rfl ?_
      refine Gz.getI (pc' := 88) (j := 40) fd_M_282 sh_107 rfl (by decide +kernel) rfl ?_
      refine Gz.iload_n (q := 3) (pc' := 89) (by decide +kernel) rfl 0 rfl ?_
      refine Gz.ior (pc' := 90) (by decide +kernel) rfl ?_
      refine Gz.putI (pc' := 93) (j := 40) fd_M_282 sh_107 rfl (by decide +kernel) rfl ?_
      refine Gz.nmW (fun w14 e15 => ?_)
      have h := zok_l e15 h
      refine Gz.aload_n (q := 0) (pc' := 94) (by decide +kernel) rfl 1 rfl ?_
      refine Gz.dup (pc' := 95) (by decide +kernel) rfl rfl ?_
      refine Gz.getI (pc' := 98) (j := 41) fd_M_285 sh_107 rfl (by decide +kernel) rfl ?_
      refine Gz.iload_n (q := 3) (pc' := 99) (by decide +kernel) rfl 0 rfl ?_
      refine Gz.iand (pc' := 100) (by decide +kernel) rfl ?_
      refine Gz.putI (pc' := 103) (j := 41) fd_M_285 sh_107 rfl (by decide +kernel) rfl ?_
      refine Gz.nmW (fun w16 e17 => ?_)
      have h := zok_l e17 h
      refine Gz.iload_n (q := 3) (pc' := 104) (by decide +kernel) rfl 0 rfl ?_
      refine Gz.callSI (st := []) (pc' := 107) [.int v7] (g_Int_bitCount v7 w16) h ok_m_Int_bitCount lk_M_297 rfl (Nat.le_of_ble_eq_true rfl) (Nat.le_of_ble_eq_true rfl) (Nat.le_of_ble_eq_true rfl) (by decide +kernel) rfl (fun v18 w19 h => ?_)
      refine Gz.istore (i := 4) (pc' := 109) (L' := [(4, .int v18), (3, .int v7), (0, .ref 107), (1, .int x1), (2, .int x2)]) (by decide +kernel) rfl (Nat.le_of_ble_eq_true rfl) rfl ?_
      refine Gz.aload_n (q := 0) (pc' := 110) (by decide +kernel) rfl 2 rfl ?_
      refine Gz.getI (pc' := 113) (j := 43) fd_M_291 sh_107 rfl (by decide +kernel) rfl ?_
      refine Gz.iconst (n := -1) (v := (-1 : Int32)) (pc' := 114) (by decide +kernel) rfl rfl ?_
      refine Gz.icmp_eq (off := 32) (tgt := 146) (pc' := 117) (by decide +kernel) (by decide) rfl (fun c20 => ?_) (fun c20 => ?_)
      · have h := zok_t c20 h
        refine Gz.sub (L' := [(0, .ref 107), (1, .int x1), (2, .int x2), (3, .int v7), (4, .int v18)]) [2, 3, 4, 1, 0] rfl ?_
        exact g_M_layDay_b146 k29 hk29 x1 x2 v7 v18 w19 h
      · have h := zok_f c20 h
        refine Gz.iload (i := 4) (pc' := 119) (by decide +kernel) rfl 0 rfl ?_
        refine Gz.aload_n (q := 0) (pc' := 120) (by decide +kernel) rfl 2 rfl ?_
        refine Gz.getI (pc' := 123) (j := 42) fd_M_302 sh_107 rfl (by decide +kernel) rfl ?_
        refine Gz.icmp_lt (off := 34) (tgt := 157) (pc' := 126) (by decide +kernel) (by decide) rfl (fun c21 => ?_) (fun c21 => ?_)
        · have h := zok_t c21 h
          refine Gz.sub (L' := [(0, .ref 107), (1, .int x1), (2, .int x2)]) [2, 3, 4] rfl ?_
          exact g_M_layDay_b157 k29 hk29 x1 x2 w19 h
        · have h := zok_f c21 h
          refine Gz.iload (i := 4) (pc' := 128) (by decide +kernel) rfl 0 rfl ?_
          refine Gz.aload_n (q := 0) (pc' := 129) (by decide +kernel) rfl 2 rfl ?_
          refine Gz.getI (pc' := 132) (j := 42) fd_M_302 sh_107 rfl (by decide +kernel) rfl ?_
          refine Gz.icmp_ne (off := 14) (tgt := 146) (pc' := 135) (by decide +kernel) (by decide) rfl (fun c22 => ?_) (fun c22 => ?_)
          · have h := zok_f c22 h
            refine Gz.sub (L' := [(0, .ref 107), (1, .int x1), (2, .int x2), (3, .int v7), (4, .int v18)]) [2, 3, 4, 1, 0] rfl ?_
            exact g_M_layDay_b146 k29 hk29 x1 x2 v7 v18 w19 h
          · have h := zok_t c22 h
            refine Gz.iload_n (q := 3) (pc' := 136) (by decide +kernel) rfl 1 rfl ?_
            refine Gz.aload_n (q := 0) (pc' := 137) (by decide +kernel) rfl 2 rfl ?_
            refine Gz.getI (pc' := 140) (j := 43) fd_M_291 sh_107 rfl (by decide +kernel) rfl ?_
            refine Gz.icmp_le (off := 6) (tgt := 146) (pc' := 143) (by decide +kernel) (by decide) rfl (fun c23 => ?_) (fun c23 => ?_)
            · have h := zok_t c23 h
              refine Gz.sub (L' := [(0, .ref 107), (1, .int x1), (2, .int x2), (3, .int v7), (4, .int v18)]) [2, 3, 4, 1, 0] rfl ?_
              exact g_M_layDay_b146 k29 hk29 x1 x2 v7 v18 w19 h
            · have h := zok_f c23 h
              refine Gz.goto (off := 14) (tgt := 157) (by decide +kernel) (by decide) ?_
              refine Gz.sub (L' := [(0, .ref 107), (1, .int x1), (2, .int x2)]) [2, 3, 4] rfl ?_
              exact g_M_layDay_b157 k29 hk29 x1 x2 w19 h
    · have h := zok_t c6 h
      refine Gz.goto (off := 103) (tgt := 157) (by decide +kernel) (by decide) ?_
      exact g_M_layDay_b157 k29 hk29 x1 x2 w5 h
theorem g_M_layDay_b29 {l : Launch} {Q : Option Value → gW → Prop} (x1 : Int32) (x2 : Int32) (w : gW) (h : zok eV (f_M_layDay_b29 x1 x2 w) Q) : Gz l m_M_layDay 57 29 [(0, .ref 107), (1, .int x1), (2, .int x2)] [] w Q := by
  have key : ∀ (n : Nat) (x1 : Int32) (x2 : Int32) (w : gW), zok eV (zfx (fun _ _ _ => none) (f_M_layDay_b29_s) n x1 x2 w) Q → Gz l m_M_layDay 57 29 [(0, .ref 107), (1, .int x1), (2, .int x2)] [] w Q := by
    intro n
    induction n with
    | zero => intro x1 x2 w h; exact zok_n h
    | succ n ih => intro x1 x2 w h; exact g_M_layDay_b29_s _ ih x1 x2 w h
  exact key zFU x1 x2 w h
theorem g_M_layDay {l : Launch} (a1 : Int32) (w : gW) : gCt l m_M_layDay 57 [.ref 107, .int a1] w eV (f_M_layDay a1 w) := by
  intro Q h
  unfold f_M_layDay at h
  show Gz l m_M_layDay 57 0 [(0, .ref 107), (1, .int a1)] [] w Q
  refine Gz.aload_n (q := 0) (pc' := 1) (by decide +kernel) rfl 0 rfl ?_
  refine Gz.iconst (n := 0) (v := (0 : Int32)) (pc' := 2) (by decide +kernel) rfl rfl ?_
  refine Gz.putI (pc' := 5) (j := 40) fd_M_282 sh_107 rfl (by decide +kernel) rfl ?_
  refine Gz.nmW (fun w1 e2 => ?_)
  have h := zok_l e2 h
  refine Gz.aload_n (q := 0) (pc' := 6) (by decide +kernel) rfl 0 rfl ?_
  refine Gz.iconst (n := 1) (v := (1 : Int32)) (pc' := 7) (by decide +kernel) rfl rfl ?_
  refine Gz.aload_n (q := 0) (pc' := 8) (by decide +kernel) rfl 0 rfl ?_
  refine Gz.getI (pc' := 11) (j := 6) fd_M_203 sh_107 rfl (by decide +kernel) rfl ?_
  refine Gz.ishl (pc' := 12) (by decide +kernel) rfl ?_
  refine Gz.iconst (n := 1) (v := (1 : Int32)) (pc' := 13) (by decide +kernel) rfl rfl ?_
  refine Gz.isub (pc' := 14) (by decide +kernel) rfl ?_
  refine Gz.putI (pc' := 17) (j := 41) fd_M_285 sh_107 rfl (by decide +kernel) rfl ?_
  refine Gz.nmW (fun w3 e4 => ?_)
  have h := zok_l e4 h
  refine Gz.aload_n (q := 0) (pc' := 18) (by decide +kernel) rfl 0 rfl ?_
  refine Gz.iconst (n := 0) (v := (0 : Int32)) (pc' := 19) (by decide +kernel) rfl rfl ?_
  refine Gz.putI (pc' := 22) (j := 44) fd_M_288 sh_107 rfl (by decide +kernel) rfl ?_
  refine Gz.nmW (fun w5 e6 => ?_)
  have h := zok_l e6 h
  refine Gz.aload_n (q := 0) (pc' := 23) (by decide +kernel) rfl 0 rfl ?_
  refine Gz.iconst (n := -1) (v := (-1 : Int32)) (pc' := 24) (by decide +kernel) rfl rfl ?_
  refine Gz.putI (pc' := 27) (j := 43) fd_M_291 sh_107 rfl (by decide +kernel) rfl ?_
  refine Gz.nmW (fun w7 e8 => ?_)
  have h := zok_l e8 h
  refine Gz.iconst (n := 0) (v := (0 : Int32)) (pc' := 28) (by decide +kernel) rfl rfl ?_
  refine Gz.istore_n (q := 2) (pc' := 29) (L' := [(2, .int (0 : Int32)), (0, .ref 107), (1, .int a1)]) (by decide +kernel) rfl (Nat.le_of_ble_eq_true rfl) rfl ?_
  refine Gz.sub (L' := [(0, .ref 107), (1, .int a1), (2, .int (0 : Int32))]) [1, 2, 0] rfl ?_
  exact g_M_layDay_b29 a1 (0 : Int32) w7 h
def f_M_may (a1 : Int32) (w : gW) : Option (Int32 × gW) :=
zl (zsI w 107 0 (0 : Int32)) (fun w1 =>
zb (f_M_isSeenDay a1 w1) (fun v3 w4 =>
if v3 = 0 then
(some ((-1 : Int32), w4))
else
(zb (f_M_layDay a1 w4) (fun _ w6 =>
some (w6.1 107 40, w6)))))
theorem g_M_may {l : Launch} (a1 : Int32) (w : gW) : gCt l m_M_may 58 [.ref 107, .int a1] w eI (f_M_may a1 w) := by
  intro Q h
  unfold f_M_may at h
  show Gz l m_M_may 58 0 [(0, .ref 107), (1, .int a1)] [] w Q
  refine Gz.aload_n (q := 0) (pc' := 1) (by decide +kernel) rfl 0 rfl ?_
  refine Gz.iconst (n := 0) (v := (0 : Int32)) (pc' := 2) (by decide +kernel) rfl rfl ?_
  refine Gz.putI (pc' := 5) (j := 0) fd_M_96 sh_107 rfl (by decide +kernel) rfl ?_
  refine Gz.nmW (fun w1 e2 => ?_)
  have h := zok_l e2 h
  refine Gz.aload_n (q := 0) (pc' := 6) (by decide +kernel) rfl 0 rfl ?_
  refine Gz.iload_n (q := 1) (pc' := 7) (by decide +kernel) rfl 1 rfl ?_
  refine Gz.callVI (st := []) (b := 107) (pc' := 10) [.int a1] (g_M_isSeenDay a1 w1) h ok_m_M_isSeenDay lk_M_244 sh_107 rfl rfl rfl (Nat.le_of_ble_eq_true rfl) (Nat.le_of_ble_eq_true rfl) (Nat.le_of_ble_eq_true rfl) (by decide +kernel) rfl (fun v3 w4 h => ?_)
  refine Gz.if_ne (off := 5) (tgt := 15) (pc' := 13) (by decide +kernel) (by decide) rfl (fun c5 => ?_) (fun c5 => ?_)
  · have h := zok_f c5 h
    refine Gz.aload_n (q := 0) (pc' := 16) (by decide +kernel) rfl 0 rfl ?_
    refine Gz.iload_n (q := 1) (pc' := 17) (by decide +kernel) rfl 1 rfl ?_
    refine Gz.callVV (st := []) (b := 107) (pc' := 20) [.int a1] (g_M_layDay a1 w4) h ok_m_M_layDay lk_M_305 sh_107 rfl rfl rfl (Nat.le_of_ble_eq_true rfl) (Nat.le_of_ble_eq_true rfl) (Nat.le_of_ble_eq_true rfl) (by decide +kernel) rfl (fun _ w6 h => ?_)
    refine Gz.aload_n (q := 0) (pc' := 21) (by decide +kernel) rfl 0 rfl ?_
    refine Gz.getI (pc' := 24) (j := 40) fd_M_282 sh_107 rfl (by decide +kernel) rfl ?_
    exact Gz.ireturn (by decide +kernel) rfl (zok_sI h)
  · have h := zok_t c5 h
    refine Gz.iconst (n := -1) (v := (-1 : Int32)) (pc' := 14) (by decide +kernel) rfl rfl ?_
    exact Gz.ireturn (by decide +kernel) rfl (zok_sI h)
def f_M_most (a1 : Int32) (a2 : Int32) (w : gW) : Option (Int32 × gW) :=
zl (zsI w 107 0 (0 : Int32)) (fun w1 =>
zb (f_M_isSeenDay a1 w1) (fun v3 w4 =>
if v3 = 0 then
(some ((-1 : Int32), w4))
else
(zb (f_M_isIn (a2.toInt64) (0 : Int64) (1 : Int64) w4) (fun v6 w7 =>
if v6 = 0 then
(some ((-1 : Int32), w7))
else
(zb (f_M_layDay a1 w7) (fun _ w9 =>
if (w9.1 107 43) = (-1 : Int32) then
(some ((-1 : Int32), w9))
else
(if a2 = 0 then
(some (w9.1 107 42, w9))
else
(some (w9.1 107 43, w9)))))))))
theorem g_M_most {l : Launch} (a1 : Int32) (a2 : Int32) (w : gW) : gCt l m_M_most 58 [.ref 107, .int a1, .int a2] w eI (f_M_most a1 a2 w) := by
  intro Q h
  unfold f_M_most at h
  show Gz l m_M_most 58 0 [(0, .ref 107), (1, .int a1), (2, .int a2)] [] w Q
  refine Gz.aload_n (q := 0) (pc' := 1) (by decide +kernel) rfl 0 rfl ?_
  refine Gz.iconst (n := 0) (v := (0 : Int32)) (pc' := 2) (by decide +kernel) rfl rfl ?_
  refine Gz.putI (pc' := 5) (j := 0) fd_M_96 sh_107 rfl (by decide +kernel) rfl ?_
  refine Gz.nmW (fun w1 e2 => ?_)
  have h := zok_l e2 h
  refine Gz.aload_n (q := 0) (pc' := 6) (by decide +kernel) rfl 0 rfl ?_
  refine Gz.iload_n (q := 1) (pc' := 7) (by decide +kernel) rfl 1 rfl ?_
  refine Gz.callVI (st := []) (b := 107) (pc' := 10) [.int a1] (g_M_isSeenDay a1 w1) h ok_m_M_isSeenDay lk_M_244 sh_107 rfl rfl rfl (Nat.le_of_ble_eq_true rfl) (Nat.le_of_ble_eq_true rfl) (Nat.le_of_ble_eq_true rfl) (by decide +kernel) rfl (fun v3 w4 h => ?_)
  refine Gz.if_eq (off := 13) (tgt := 23) (pc' := 13) (by decide +kernel) (by decide) rfl (fun c5 => ?_) (fun c5 => ?_)
  · have h := zok_t c5 h
    refine Gz.iconst (n := -1) (v := (-1 : Int32)) (pc' := 24) (by decide +kernel) rfl rfl ?_
    exact Gz.ireturn (by decide +kernel) rfl (zok_sI h)
  · have h := zok_f c5 h
    refine Gz.iload_n (q := 2) (pc' := 14) (by decide +kernel) rfl 2 rfl ?_
    refine Gz.i2l (pc' := 15) (by decide +kernel) rfl ?_
    refine Gz.lconst (n := 0) (v := (0 : Int64)) (pc' := 16) (by decide +kernel) rfl rfl ?_
    refine Gz.lconst (n := 1) (v := (1 : Int64)) (pc' := 17) (by decide +kernel) rfl rfl ?_
    refine Gz.callSI (st := []) (pc' := 20) [.long (a2.toInt64), .long (0 : Int64), .long (1 : Int64)] (g_M_isIn (a2.toInt64) (0 : Int64) (1 : Int64) w4) h ok_m_M_isIn lk_M_137 rfl (Nat.le_of_ble_eq_true rfl) (Nat.le_of_ble_eq_true rfl) (Nat.le_of_ble_eq_true rfl) (by decide +kernel) rfl (fun v6 w7 h => ?_)
    refine Gz.if_ne (off := 5) (tgt := 25) (pc' := 23) (by decide +kernel) (by decide) rfl (fun c8 => ?_) (fun c8 => ?_)
    · have h := zok_f c8 h
      refine Gz.aload_n (q := 0) (pc' := 26) (by decide +kernel) rfl 0 rfl ?_
      refine Gz.iload_n (q := 1) (pc' := 27) (by decide +kernel) rfl 1 rfl ?_
      refine Gz.callVV (st := []) (b := 107) (pc' := 30) [.int a1] (g_M_layDay a1 w7) h ok_m_M_layDay lk_M_305 sh_107 rfl rfl rfl (Nat.le_of_ble_eq_true rfl) (Nat.le_of_ble_eq_true rfl) (Nat.le_of_ble_eq_true rfl) (by decide +kernel) rfl (fun _ w9 h => ?_)
      refine Gz.aload_n (q := 0) (pc' := 31) (by decide +kernel) rfl 0 rfl ?_
      refine Gz.getI (pc' := 34) (j := 43) fd_M_291 sh_107 rfl (by decide +kernel) rfl ?_
      refine Gz.iconst (n := -1) (v := (-1 : Int32)) (pc' := 35) (by decide +kernel) rfl rfl ?_
      refine Gz.icmp_ne (off := 7) (tgt := 42) (pc' := 38) (by decide +kernel) (by decide) rfl (fun c10 => ?_) (fun c10 => ?_)
      · have h := zok_f c10 h
        refine Gz.iload_n (q := 2) (pc' := 43) (by decide +kernel) rfl 2 rfl ?_
        refine Gz.if_ne (off := 10) (tgt := 53) (pc' := 46) (by decide +kernel) (by decide) rfl (fun c11 => ?_) (fun c11 => ?_)
        · have h := zok_f c11 h
          refine Gz.aload_n (q := 0) (pc' := 54) (by decide +kernel) rfl 0 rfl ?_
          refine Gz.getI (pc' := 57) (j := 43) fd_M_291 sh_107 rfl (by decide +kernel) rfl ?_
          exact Gz.ireturn (by decide +kernel) rfl (zok_sI h)
        · have h := zok_t c11 h
          refine Gz.aload_n (q := 0) (pc' := 47) (by decide +kernel) rfl 0 rfl ?_
          refine Gz.getI (pc' := 50) (j := 42) fd_M_302 sh_107 rfl (by decide +kernel) rfl ?_
          refine Gz.goto (off := 7) (tgt := 57) (by decide +kernel) (by decide) ?_
          exact Gz.ireturn (by decide +kernel) rfl (zok_sI h)
      · have h := zok_t c10 h
        refine Gz.iconst (n := -1) (v := (-1 : Int32)) (pc' := 39) (by decide +kernel) rfl rfl ?_
        refine Gz.goto (off := 18) (tgt := 57) (by decide +kernel) (by decide) ?_
        exact Gz.ireturn (by decide +kernel) rfl (zok_sI h)
    · have h := zok_t c8 h
      refine Gz.iconst (n := -1) (v := (-1 : Int32)) (pc' := 24) (by decide +kernel) rfl rfl ?_
      exact Gz.ireturn (by decide +kernel) rfl (zok_sI h)
def f_M_hinders_b100 (k24 : Int32 → Int32 → gW → Option (Int32 × gW)) (k37 : Int32 → Int32 → Int32 → gW → Option (Int32 × gW)) (k52 : Int32 → Int32 → Int32 → Int32 → Int32 → gW → Option (Int32 × gW)) (x2 : Int32) (x3 : Int32) (x4 : Int32) (x6 : Int32) (s0 : Int32) (w : gW) : Option (Int32 × gW) :=
zl (x6 + (1 : Int32)) (fun v1 =>
k52 x2 x3 x4 s0 v1 w)
def f_M_hinders_b95 (k24 : Int32 → Int32 → gW → Option (Int32 × gW)) (k37 : Int32 → Int32 → Int32 → gW → Option (Int32 × gW)) (k52 : Int32 → Int32 → Int32 → Int32 → Int32 → gW → Option (Int32 × gW)) (x2 : Int32) (x3 : Int32) (x4 : Int32) (x6 : Int32) (w : gW) : Option (Int32 × gW) :=
f_M_hinders_b100 k24 k37 k52 x2 x3 x4 x6 (1 : Int32) w
def f_M_hinders_b99 (k24 : Int32 → Int32 → gW → Option (Int32 × gW)) (k37 : Int32 → Int32 → Int32 → gW → Option (Int32 × gW)) (k52 : Int32 → Int32 → Int32 → Int32 → Int32 → gW → Option (Int32 × gW)) (x2 : Int32) (x3 : Int32) (x4 : Int32) (x6 : Int32) (w : gW) : Option (Int32 × gW) :=
f_M_hinders_b100 k24 k37 k52 x2 x3 x4 x6 (0 : Int32) w
def f_M_hinders_b142 (k24 : Int32 → Int32 → gW → Option (Int32 × gW)) (k37 : Int32 → Int32 → Int32 → gW → Option (Int32 × gW)) (x3 : Int32) (x4 : Int32) (s0 : Int32) (s1 : Int32) (w : gW) : Option (Int32 × gW) :=
zl (s0 + s1) (fun v1 =>
zl (x4 + (1 : Int32)) (fun v3 =>
k37 v1 x3 v3 w))
def f_M_hinders_b141 (k24 : Int32 → Int32 → gW → Option (Int32 × gW)) (k37 : Int32 → Int32 → Int32 → gW → Option (Int32 × gW)) (x3 : Int32) (x4 : Int32) (s0 : Int32) (w : gW) : Option (Int32 × gW) :=
f_M_hinders_b142 k24 k37 x3 x4 s0 (0 : Int32) w
def f_M_hinders_b52_s (k24 : Int32 → Int32 → gW → Option (Int32 × gW)) (k37 : Int32 → Int32 → Int32 → gW → Option (Int32 × gW)) (k52 : Int32 → Int32 → Int32 → Int32 → Int32 → gW → Option (Int32 × gW)) (x2 : Int32) (x3 : Int32) (x4 : Int32) (x5 : Int32) (x6 : Int32) (w : gW) : Option (Int32 × gW) :=
if (w.1 107 44) ≤ x6 then
(zb (f_M_has (w.1 107 40) x3 w) (fun v2 w3 =>
if v2 = 0 then
(f_M_hinders_b141 k24 k37 x3 x4 x2 w3)
else
(zb (f_M_has (w3.1 107 40) x4 w3) (fun v5 w6 =>
if v5 = 0 then
(f_M_hinders_b141 k24 k37 x3 x4 x2 w6)
else
(if x5 = 0 then
(f_M_hinders_b142 k24 k37 x3 x4 x2 (1 : Int32) w6)
else
(f_M_hinders_b141 k24 k37 x3 x4 x2 w6))))))
else
(if x5 = 0 then
(if inb x6 16807 then
zb (f_M_has (w.1 128 (ix x6)) x3 w) (fun v11 w12 =>
if v11 = 0 then
(f_M_hinders_b99 k24 k37 k52 x2 x3 x4 x6 w12)
else
(if inb x6 16807 then
zb (f_M_has (w12.1 128 (ix x6)) x4 w12) (fun v15 w16 =>
if v15 = 0 then
(f_M_hinders_b99 k24 k37 k52 x2 x3 x4 x6 w16)
else
(f_M_hinders_b95 k24 k37 k52 x2 x3 x4 x6 w16))
else none))
else none)
else
(f_M_hinders_b95 k24 k37 k52 x2 x3 x4 x6 w))
def f_M_hinders_b52 (k24 : Int32 → Int32 → gW → Option (Int32 × gW)) (k37 : Int32 → Int32 → Int32 → gW → Option (Int32 × gW)) : Int32 → Int32 → Int32 → Int32 → Int32 → gW → Option (Int32 × gW) := zfx (fun _ _ _ _ _ _ => none) (f_M_hinders_b52_s k24 k37) zFU
def f_M_hinders_b37_s (k24 : Int32 → Int32 → gW → Option (Int32 × gW)) (k37 : Int32 → Int32 → Int32 → gW → Option (Int32 × gW)) (x2 : Int32) (x3 : Int32) (x4 : Int32) (w : gW) : Option (Int32 × gW) :=
if (w.1 107 6) ≤ x4 then
(zl (x3 + (1 : Int32)) (fun v2 =>
k24 x2 v2 w))
else
(f_M_hinders_b52 k24 k37 x2 x3 x4 (0 : Int32) (0 : Int32) w)
def f_M_hinders_b37 (k24 : Int32 → Int32 → gW → Option (Int32 × gW)) : Int32 → Int32 → Int32 → gW → Option (Int32 × gW) := zfx (fun _ _ _ _ => none) (f_M_hinders_b37_s k24) zFU
def f_M_hinders_b24_s (k24 : Int32 → Int32 → gW → Option (Int32 × gW)) (x2 : Int32) (x3 : Int32) (w : gW) : Option (Int32 × gW) :=
if (w.1 107 6) ≤ x3 then
(some (x2, w))
else
(zl (x3 + (1 : Int32)) (fun v2 =>
f_M_hinders_b37 k24 x2 x3 v2 w))
def f_M_hinders_b24 : Int32 → Int32 → gW → Option (Int32 × gW) := zfx (fun _ _ _ => none) (f_M_hinders_b24_s) zFU
def f_M_hinders (a1 : Int32) (w : gW) : Option (Int32 × gW) :=
zl (zsI w 107 0 (0 : Int32)) (fun w1 =>
zb (f_M_isSeenDay a1 w1) (fun v3 w4 =>
if v3 = 0 then
(some ((-1 : Int32), w4))
else
(zb (f_M_layDay a1 w4) (fun _ w6 =>
f_M_hinders_b24 (0 : Int32) (0 : Int32) w6))))
theorem g_M_hinders_b100 {l : Launch} {Q : Option Value → gW → Prop} (k24 : Int32 → Int32 → gW → Option (Int32 × gW)) (hk24 : ∀ (x2 : Int32) (x3 : Int32) (w : gW), zok eI (k24 x2 x3 w) Q → Gz l m_M_hinders 58 24 [(0, .ref 107), (2, .int x2), (3, .int x3)] [] w Q) (k37 : Int32 → Int32 → Int32 → gW → Option (Int32 × gW)) (hk37 : ∀ (x2 : Int32) (x3 : Int32) (x4 : Int32) (w : gW), zok eI (k37 x2 x3 x4 w) Q → Gz l m_M_hinders 58 37 [(0, .ref 107), (2, .int x2), (3, .int x3), (4, .int x4)] [] w Q) (k52 : Int32 → Int32 → Int32 → Int32 → Int32 → gW → Option (Int32 × gW)) (hk52 : ∀ (x2 : Int32) (x3 : Int32) (x4 : Int32) (x5 : Int32) (x6 : Int32) (w : gW), zok eI (k52 x2 x3 x4 x5 x6 w) Q → Gz l m_M_hinders 58 52 [(0, .ref 107), (2, .int x2), (3, .int x3), (4, .int x4), (5, .int x5), (6, .int x6)] [] w Q) (x2 : Int32) (x3 : Int32) (x4 : Int32) (x6 : Int32) (s0 : Int32) (w : gW) (h : zok eI (f_M_hinders_b100 k24 k37 k52 x2 x3 x4 x6 s0 w) Q) : Gz l m_M_hinders 58 100 [(0, .ref 107), (2, .int x2), (3, .int x3), (4, .int x4), (6, .int x6)] [.int s0] w Q := by
  unfold f_M_hinders_b100 at h
  refine Gz.istore (i := 5) (pc' := 102) (L' := [(5, .int s0), (0, .ref 107), (2, .int x2), (3, .int x3), (4, .int x4), (6, .int x6)]) (by decide +kernel) rfl (Nat.le_of_ble_eq_true rfl) rfl ?_
  obtain ⟨v1, e2⟩ : ∃ y : Int32, y = x6 + (1 : Int32) := ⟨_, rfl⟩
  have h := zok_l e2 h
  refine Gz.iinc (i := 6) (n := 1) (pc' := 105) (L' := [(6, .int v1), (5, .int s0), (0, .ref 107), (2, .int x2), (3, .int x3), (4, .int x4)]) v1 (by decide +kernel) rfl 5 rfl (by rw [e2]; rfl) (Nat.le_of_ble_eq_true rfl) rfl ?_
  refine Gz.goto (off := -53) (tgt := 52) (by decide +kernel) (by decide) ?_
  refine Gz.sub (L' := [(0, .ref 107), (2, .int x2), (3, .int x3), (4, .int x4), (5, .int s0), (6, .int v1)]) [2, 3, 4, 5, 1, 0] rfl ?_
  exact hk52 x2 x3 x4 s0 v1 w h
theorem g_M_hinders_b95 {l : Launch} {Q : Option Value → gW → Prop} (k24 : Int32 → Int32 → gW → Option (Int32 × gW)) (hk24 : ∀ (x2 : Int32) (x3 : Int32) (w : gW), zok eI (k24 x2 x3 w) Q → Gz l m_M_hinders 58 24 [(0, .ref 107), (2, .int x2), (3, .int x3)] [] w Q) (k37 : Int32 → Int32 → Int32 → gW → Option (Int32 × gW)) (hk37 : ∀ (x2 : Int32) (x3 : Int32) (x4 : Int32) (w : gW), zok eI (k37 x2 x3 x4 w) Q → Gz l m_M_hinders 58 37 [(0, .ref 107), (2, .int x2), (3, .int x3), (4, .int x4)] [] w Q) (k52 : Int32 → Int32 → Int32 → Int32 → Int32 → gW → Option (Int32 × gW)) (hk52 : ∀ (x2 : Int32) (x3 : Int32) (x4 : Int32) (x5 : Int32) (x6 : Int32) (w : gW), zok eI (k52 x2 x3 x4 x5 x6 w) Q → Gz l m_M_hinders 58 52 [(0, .ref 107), (2, .int x2), (3, .int x3), (4, .int x4), (5, .int x5), (6, .int x6)] [] w Q) (x2 : Int32) (x3 : Int32) (x4 : Int32) (x6 : Int32) (w : gW) (h : zok eI (f_M_hinders_b95 k24 k37 k52 x2 x3 x4 x6 w) Q) : Gz l m_M_hinders 58 95 [(0, .ref 107), (2, .int x2), (3, .int x3), (4, .int x4), (6, .int x6)] [] w Q := by
  unfold f_M_hinders_b95 at h
  refine Gz.iconst (n := 1) (v := (1 : Int32)) (pc' := 96) (by decide +kernel) rfl rfl ?_
  refine Gz.goto (off := 4) (tgt := 100) (by decide +kernel) (by decide) ?_
  exact g_M_hinders_b100 k24 hk24 k37 hk37 k52 hk52 x2 x3 x4 x6 (1 : Int32) w h
theorem g_M_hinders_b99 {l : Launch} {Q : Option Value → gW → Prop} (k24 : Int32 → Int32 → gW → Option (Int32 × gW)) (hk24 : ∀ (x2 : Int32) (x3 : Int32) (w : gW), zok eI (k24 x2 x3 w) Q → Gz l m_M_hinders 58 24 [(0, .ref 107), (2, .int x2), (3, .int x3)] [] w Q) (k37 : Int32 → Int32 → Int32 → gW → Option (Int32 × gW)) (hk37 : ∀ (x2 : Int32) (x3 : Int32) (x4 : Int32) (w : gW), zok eI (k37 x2 x3 x4 w) Q → Gz l m_M_hinders 58 37 [(0, .ref 107), (2, .int x2), (3, .int x3), (4, .int x4)] [] w Q) (k52 : Int32 → Int32 → Int32 → Int32 → Int32 → gW → Option (Int32 × gW)) (hk52 : ∀ (x2 : Int32) (x3 : Int32) (x4 : Int32) (x5 : Int32) (x6 : Int32) (w : gW), zok eI (k52 x2 x3 x4 x5 x6 w) Q → Gz l m_M_hinders 58 52 [(0, .ref 107), (2, .int x2), (3, .int x3), (4, .int x4), (5, .int x5), (6, .int x6)] [] w Q) (x2 : Int32) (x3 : Int32) (x4 : Int32) (x6 : Int32) (w : gW) (h : zok eI (f_M_hinders_b99 k24 k37 k52 x2 x3 x4 x6 w) Q) : Gz l m_M_hinders 58 99 [(0, .ref 107), (2, .int x2), (3, .int x3), (4, .int x4), (6, .int x6)] [] w Q := by
  unfold f_M_hinders_b99 at h
  refine Gz.iconst (n := 0) (v := (0 : Int32)) (pc' := 100) (by decide +kernel) rfl rfl ?_
  exact g_M_hinders_b100 k24 hk24 k37 hk37 k52 hk52 x2 x3 x4 x6 (0 : Int32) w h
theorem g_M_hinders_b142 {l : Launch} {Q : Option Value → gW → Prop} (k24 : Int32 → Int32 → gW → Option (Int32 × gW)) (hk24 : ∀ (x2 : Int32) (x3 : Int32) (w : gW), zok eI (k24 x2 x3 w) Q → Gz l m_M_hinders 58 24 [(0, .ref 107), (2, .int x2), (3, .int x3)] [] w Q) (k37 : Int32 → Int32 → Int32 → gW → Option (Int32 × gW)) (hk37 : ∀ (x2 : Int32) (x3 : Int32) (x4 : Int32) (w : gW), zok eI (k37 x2 x3 x4 w) Q → Gz l m_M_hinders 58 37 [(0, .ref 107), (2, .int x2), (3, .int x3), (4, .int x4)] [] w Q) (x3 : Int32) (x4 : Int32) (s0 : Int32) (s1 : Int32) (w : gW) (h : zok eI (f_M_hinders_b142 k24 k37 x3 x4 s0 s1 w) Q) : Gz l m_M_hinders 58 142 [(0, .ref 107), (3, .int x3), (4, .int x4)] [.int s1, .int s0] w Q := by
  unfold f_M_hinders_b142 at h
  refine Gz.iadd (pc' := 143) (by decide +kernel) rfl ?_
  refine Gz.nmI (fun v1 e2 => ?_)
  have h := zok_l e2 h
  refine Gz.istore_n (q := 2) (pc' := 144) (L' := [(2, .int v1), (0, .ref 107), (3, .int x3), (4, .int x4)]) (by decide +kernel) rfl (Nat.le_of_ble_eq_true rfl) rfl ?_
  obtain ⟨v3, e4⟩ : ∃ y : Int32, y = x4 + (1 : Int32) := ⟨_, rfl⟩
  have h := zok_l e4 h
  refine Gz.iinc (i := 4) (n := 1) (pc' := 147) (L' := [(4, .int v3), (2, .int v1), (0, .ref 107), (3, .int x3)]) v3 (by decide +kernel) rfl 3 rfl (by rw [e4]; rfl) (Nat.le_of_ble_eq_true rfl) rfl ?_
  refine Gz.goto (off := -110) (tgt := 37) (by decide +kernel) (by decide) ?_
  refine Gz.sub (L' := [(0, .ref 107), (2, .int v1), (3, .int x3), (4, .int v3)]) [2, 1, 3, 0] rfl ?_
  exact hk37 v1 x3 v3 w h
theorem g_M_hinders_b141 {l : Launch} {Q : Option Value → gW → Prop} (k24 : Int32 → Int32 → gW → Option (Int32 × gW)) (hk24 : ∀ (x2 : Int32) (x3 : Int32) (w : gW), zok eI (k24 x2 x3 w) Q → Gz l m_M_hinders 58 24 [(0, .ref 107), (2, .int x2), (3, .int x3)] [] w Q) (k37 : Int32 → Int32 → Int32 → gW → Option (Int32 × gW)) (hk37 : ∀ (x2 : Int32) (x3 : Int32) (x4 : Int32) (w : gW), zok eI (k37 x2 x3 x4 w) Q → Gz l m_M_hinders 58 37 [(0, .ref 107), (2, .int x2), (3, .int x3), (4, .int x4)] [] w Q) (x3 : Int32) (x4 : Int32) (s0 : Int32) (w : gW) (h : zok eI (f_M_hinders_b141 k24 k37 x3 x4 s0 w) Q) : Gz l m_M_hinders 58 141 [(0, .ref 107), (3, .int x3), (4, .int x4)] [.int s0] w Q := by
  unfold f_M_hinders_b141 at h
  refine Gz.iconst (n := 0) (v := (0 : Int32)) (pc' := 142) (by decide +kernel) rfl rfl ?_
  exact g_M_hinders_b142 k24 hk24 k37 hk37 x3 x4 s0 (0 : Int32) w h
theorem g_M_hinders_b52_s {l : Launch} {Q : Option Value → gW → Prop} (k24 : Int32 → Int32 → gW → Option (Int32 × gW)) (hk24 : ∀ (x2 : Int32) (x3 : Int32) (w : gW), zok eI (k24 x2 x3 w) Q → Gz l m_M_hinders 58 24 [(0, .ref 107), (2, .int x2), (3, .int x3)] [] w Q) (k37 : Int32 → Int32 → Int32 → gW → Option (Int32 × gW)) (hk37 : ∀ (x2 : Int32) (x3 : Int32) (x4 : Int32) (w : gW), zok eI (k37 x2 x3 x4 w) Q → Gz l m_M_hinders 58 37 [(0, .ref 107), (2, .int x2), (3, .int x3), (4, .int x4)] [] w Q) (k52 : Int32 → Int32 → Int32 → Int32 → Int32 → gW → Option (Int32 × gW)) (hk52 : ∀ (x2 : Int32) (x3 : Int32) (x4 : Int32) (x5 : Int32) (x6 : Int32) (w : gW), zok eI (k52 x2 x3 x4 x5 x6 w) Q → Gz l m_M_hinders 58 52 [(0, .ref 107), (2, .int x2), (3, .int x3), (4, .int x4), (5, .int x5), (6, .int x6)] [] w Q) (x2 : Int32) (x3 : Int32) (x4 : Int32) (x5 : Int32) (x6 : Int32) (w : gW) (h : zok eI (f_M_hinders_b52_s k24 k37 k52 x2 x3 x4 x5 x6 w) Q) : Gz l m_M_hinders 58 52 [(0, .ref 107), (2, .int x2), (3, .int x3), (4, .int x4), (5, .int x5), (6, .int x6)] [] w Q := by
  unfold f_M_hinders_b52_s at h
  refine Gz.iload (i := 6) (pc' := 54) (by decide +kernel) rfl 5 rfl ?_
  refine Gz.aload_n (q := 0) (pc' := 55) (by decide +kernel) rfl 0 rfl ?_
  refine Gz.getI (pc' := 58) (j := 44) fd_M_288 sh_107 rfl (by decide +kernel) rfl ?_
  refine Gz.icmp_ge (off := 50) (tgt := 108) (pc' := 61) (by decide +kernel) (by decide) rfl (fun c1 => ?_) (fun c1 => ?_)
  · have h := zok_t c1 h
    refine Gz.iload_n (q := 2) (pc' := 109) (by decide +kernel) rfl 1 rfl ?_
    refine Gz.aload_n (q := 0) (pc' := 110) (by decide +kernel) rfl 0 rfl ?_
    refine Gz.getI (pc' := 113) (j := 40) fd_M_282 sh_107 rfl (by decide +kernel) rfl ?_
    refine Gz.iload_n (q := 3) (pc' := 114) (by decide +kernel) rfl 2 rfl ?_
    refine Gz.callSI (st := [.int x2]) (pc' := 117) [.int (w.1 107 40), .int x3] (g_M_has (w.1 107 40) x3 w) h ok_m_M_has lk_M_170 rfl (Nat.le_of_ble_eq_true rfl) (Nat.le_of_ble_eq_true rfl) (Nat.le_of_ble_eq_true rfl) (by decide +kernel) rfl (fun v2 w3 h => ?_)
    refine Gz.if_eq (off := 24) (tgt := 141) (pc' := 120) (by decide +kernel) (by decide) rfl (fun c4 => ?_) (fun c4 => ?_)
    · have h := zok_t c4 h
      refine Gz.sub (L' := [(0, .ref 107), (3, .int x3), (4, .int x4)]) [0, 2, 3] rfl ?_
      exact g_M_hinders_b141 k24 hk24 k37 hk37 x3 x4 x2 w3 h
    · have h := zok_f c4 h
      refine Gz.aload_n (q := 0) (pc' := 121) (by decide +kernel) rfl 0 rfl ?_
      refine Gz.getI (pc' := 124) (j := 40) fd_M_282 sh_107 rfl (by decide +kernel) rfl ?_
      refine Gz.iload (i := 4) (pc' := 126) (by decide +kernel) rfl 3 rfl ?_
      refine Gz.callSI (st := [.int x2]) (pc' := 129) [.int (w3.1 107 40), .int x4] (g_M_has (w3.1 107 40) x4 w3) h ok_m_M_has lk_M_170 rfl (Nat.le_of_ble_eq_true rfl) (Nat.le_of_ble_eq_true rfl) (Nat.le_of_ble_eq_true rfl) (by decide +kernel) rfl (fun v5 w6 h => ?_)
      refine Gz.if_eq (off := 12) (tgt := 141) (pc' := 132) (by decide +kernel) (by decide) rfl (fun c7 => ?_) (fun c7 => ?_)
      · have h := zok_t c7 h
        refine Gz.sub (L' := [(0, .ref 107), (3, .int x3), (4, .int x4)]) [0, 2, 3] rfl ?_
        exact g_M_hinders_b141 k24 hk24 k37 hk37 x3 x4 x2 w6 h
      · have h := zok_f c7 h
        refine Gz.iload (i := 5) (pc' := 134) (by decide +kernel) rfl 4 rfl ?_
        refine Gz.if_ne (off := 7) (tgt := 141) (pc' := 137) (by decide +kernel) (by decide) rfl (fun c8 => ?_) (fun c8 => ?_)
        · have h := zok_f c8 h
          refine Gz.sub (L' := [(0, .ref 107), (3, .int x3), (4, .int x4)]) [0, 2, 3] rfl ?_
          exact g_M_hinders_b141 k24 hk24 k37 hk37 x3 x4 x2 w6 h
        · have h := zok_t c8 h
          refine Gz.iconst (n := 1) (v := (1 : Int32)) (pc' := 138) (by decide +kernel) rfl rfl ?_
          refine Gz.goto (off := 4) (tgt := 142) (by decide +kernel) (by decide) ?_
          refine Gz.sub (L' := [(0, .ref 107), (3, .int x3), (4, .int x4)]) [0, 2, 3] rfl ?_
          exact g_M_hinders_b142 k24 hk24 k37 hk37 x3 x4 x2 (1 : Int32) w6 h
  · have h := zok_f c1 h
    refine Gz.iload (i := 5) (pc' := 63) (by decide +kernel) rfl 4 rfl ?_
    refine Gz.if_ne (off := 32) (tgt := 95) (pc' := 66) (by decide +kernel) (by decide) rfl (fun c9 => ?_) (fun c9 => ?_)
    · have h := zok_f c9 h
      refine Gz.sub (L' := [(0, .ref 107), (2, .int x2), (3, .int x3), (4, .int x4), (6, .int x6)]) [0, 1, 2, 3, 5] rfl ?_
      exact g_M_hinders_b95 k24 hk24 k37 hk37 k52 hk52 x2 x3 x4 x6 w h
    · have h := zok_t c9 h
      refine Gz.aload_n (q := 0) (pc' := 67) (by decide +kernel) rfl 0 rfl ?_
      refine Gz.getR (pc' := 70) (j := 45) 128 fd_M_75 sh_107 rfl (by decide +kernel) rfl ?_
      refine Gz.iload (i := 6) (pc' := 72) (by decide +kernel) rfl 5 rfl ?_
      obtain ⟨c10, h⟩ := zok_c h
      refine Gz.iald (pc' := 73) (n := 16807) (by decide +kernel) rfl rfl c10 ?_
      refine Gz.iload_n (q := 3) (pc' := 74) (by decide +kernel) rfl 2 rfl ?_
      refine Gz.callSI (st := []) (pc' := 77) [.int (w.1 128 (ix x6)), .int x3] (g_M_has (w.1 128 (ix x6)) x3 w) h ok_m_M_has lk_M_170 rfl (Nat.le_of_ble_eq_true rfl) (Nat.le_of_ble_eq_true rfl) (Nat.le_of_ble_eq_true rfl) (by decide +kernel) rfl (fun v11 w12 h => ?_)
      refine Gz.if_eq (off := 22) (tgt := 99) (pc' := 80) (by decide +kernel) (by decide) rfl (fun c13 => ?_) (fun c13 => ?_)
      · have h := zok_t c13 h
        refine Gz.sub (L' := [(0, .ref 107), (2, .int x2), (3, .int x3), (4, .int x4), (6, .int x6)]) [0, 1, 2, 3, 5] rfl ?_
        exact g_M_hinders_b99 k24 hk24 k37 hk37 k52 hk52 x2 x3 x4 x6 w12 h
      · have h := zok_f c13 h
        refine Gz.aload_n (q := 0) (pc' := 81) (by decide +kernel) rfl 0 rfl ?_
        refine Gz.getR (pc' := 84) (j := 45) 128 fd_M_75 sh_107 rfl (by decide +kernel) rfl ?_
        refine Gz.iload (i := 6) (pc' := 86) (by decide +kernel) rfl 5 rfl ?_
        obtain ⟨c14, h⟩ := zok_c h
        refine Gz.iald (pc' := 87) (n := 16807) (by decide +kernel) rfl rfl c14 ?_
        refine Gz.iload (i := 4) (pc' := 89) (by decide +kernel) rfl 3 rfl ?_
        refine Gz.callSI (st := []) (pc' := 92) [.int (w12.1 128 (ix x6)), .int x4] (g_M_has (w12.1 128 (ix x6)) x4 w12) h ok_m_M_has lk_M_170 rfl (Nat.le_of_ble_eq_true rfl) (Nat.le_of_ble_eq_true rfl) (Nat.le_of_ble_eq_true rfl) (by decide +kernel) rfl (fun v15 w16 h => ?_)
        refine Gz.if_eq (off := 7) (tgt := 99) (pc' := 95) (by decide +kernel) (by decide) rfl (fun c17 => ?_) (fun c17 => ?_)
        · have h := zok_t c17 h
          refine Gz.sub (L' := [(0, .ref 107), (2, .int x2), (3, .int x3), (4, .int x4), (6, .int x6)]) [0, 1, 2, 3, 5] rfl ?_
          exact g_M_hinders_b99 k24 hk24 k37 hk37 k52 hk52 x2 x3 x4 x6 w16 h
        · have h := zok_f c17 h
          refine Gz.sub (L' := [(0, .ref 107), (2, .int x2), (3, .int x3), (4, .int x4), (6, .int x6)]) [0, 1, 2, 3, 5] rfl ?_
          exact g_M_hinders_b95 k24 hk24 k37 hk37 k52 hk52 x2 x3 x4 x6 w16 h
theorem g_M_hinders_b52 {l : Launch} {Q : Option Value → gW → Prop} (k24 : Int32 → Int32 → gW → Option (Int32 × gW)) (hk24 : ∀ (x2 : Int32) (x3 : Int32) (w : gW), zok eI (k24 x2 x3 w) Q → Gz l m_M_hinders 58 24 [(0, .ref 107), (2, .int x2), (3, .int x3)] [] w Q) (k37 : Int32 → Int32 → Int32 → gW → Option (Int32 × gW)) (hk37 : ∀ (x2 : Int32) (x3 : Int32) (x4 : Int32) (w : gW), zok eI (k37 x2 x3 x4 w) Q → Gz l m_M_hinders 58 37 [(0, .ref 107), (2, .int x2), (3, .int x3), (4, .int x4)] [] w Q) (x2 : Int32) (x3 : Int32) (x4 : Int32) (x5 : Int32) (x6 : Int32) (w : gW) (h : zok eI (f_M_hinders_b52 k24 k37 x2 x3 x4 x5 x6 w) Q) : Gz l m_M_hinders 58 52 [(0, .ref 107), (2, .int x2), (3, .int x3), (4, .int x4), (5, .int x5), (6, .int x6)] [] w Q := by
  have key : ∀ (n : Nat) (x2 : Int32) (x3 : Int32) (x4 : Int32) (x5 : Int32) (x6 : Int32) (w : gW), zok eI (zfx (fun _ _ _ _ _ _ => none) (f_M_hinders_b52_s k24 k37) n x2 x3 x4 x5 x6 w) Q → Gz l m_M_hinders 58 52 [(0, .ref 107), (2, .int x2), (3, .int x3), (4, .int x4), (5, .int x5), (6, .int x6)] [] w Q := by
    intro n
    induction n with
    | zero => intro x2 x3 x4 x5 x6 w h; exact zok_n h
    | succ n ih => intro x2 x3 x4 x5 x6 w h; exact g_M_hinders_b52_s k24 hk24 k37 hk37 _ ih x2 x3 x4 x5 x6 w h
  exact key zFU x2 x3 x4 x5 x6 w h
theorem g_M_hinders_b37_s {l : Launch} {Q : Option Value → gW → Prop} (k24 : Int32 → Int32 → gW → Option (Int32 × gW)) (hk24 : ∀ (x2 : Int32) (x3 : Int32) (w : gW), zok eI (k24 x2 x3 w) Q → Gz l m_M_hinders 58 24 [(0, .ref 107), (2, .int x2), (3, .int x3)] [] w Q) (k37 : Int32 → Int32 → Int32 → gW → Option (Int32 × gW)) (hk37 : ∀ (x2 : Int32) (x3 : Int32) (x4 : Int32) (w : gW), zok eI (k37 x2 x3 x4 w) Q → Gz l m_M_hinders 58 37 [(0, .ref 107), (2, .int x2), (3, .int x3), (4, .int x4)] [] w Q) (x2 : Int32) (x3 : Int32) (x4 : Int32) (w : gW) (h : zok eI (f_M_hinders_b37_s k24 k37 x2 x3 x4 w) Q) : Gz l m_M_hinders 58 37 [(0, .ref 107), (2, .int x2), (3, .int x3), (4, .int x4)] [] w Q := by
  unfold f_M_hinders_b37_s at h
  refine Gz.iload (i := 4) (pc' := 39) (by decide +kernel) rfl 3 rfl ?_
  refine Gz.aload_n (q := 0) (pc' := 40) (by decide +kernel) rfl 0 rfl ?_
  refine Gz.getI (pc' := 43) (j := 6) fd_M_203 sh_107 rfl (by decide +kernel) rfl ?_
  refine Gz.icmp_ge (off := 107) (tgt := 150) (pc' := 46) (by decide +kernel) (by decide) rfl (fun c1 => ?_) (fun c1 => ?_)
  · have h := zok_t c1 h
    obtain ⟨v2, e3⟩ : ∃ y : Int32, y = x3 + (1 : Int32) := ⟨_, rfl⟩
    have h := zok_l e3 h
    refine Gz.iinc (i := 3) (n := 1) (pc' := 153) (L' := [(3, .int v2), (0, .ref 107), (2, .int x2), (4, .int x4)]) v2 (by decide +kernel) rfl 2 rfl (by rw [e3]; rfl) (Nat.le_of_ble_eq_true rfl) rfl ?_
    refine Gz.goto (off := -129) (tgt := 24) (by decide +kernel) (by decide) ?_
    refine Gz.sub (L' := [(0, .ref 107), (2, .int x2), (3, .int v2)]) [1, 2, 0] rfl ?_
    exact hk24 x2 v2 w h
  · have h := zok_f c1 h
    refine Gz.iconst (n := 0) (v := (0 : Int32)) (pc' := 47) (by decide +kernel) rfl rfl ?_
    refine Gz.istore (i := 5) (pc' := 49) (L' := [(5, .int (0 : Int32)), (0, .ref 107), (2, .int x2), (3, .int x3), (4, .int x4)]) (by decide +kernel) rfl (Nat.le_of_ble_eq_true rfl) rfl ?_
    refine Gz.iconst (n := 0) (v := (0 : Int32)) (pc' := 50) (by decide +kernel) rfl rfl ?_
    refine Gz.istore (i := 6) (pc' := 52) (L' := [(6, .int (0 : Int32)), (5, .int (0 : Int32)), (0, .ref 107), (2, .int x2), (3, .int x3), (4, .int x4)]) (by decide +kernel) rfl (Nat.le_of_ble_eq_true rfl) rfl ?_
    refine Gz.sub (L' := [(0, .ref 107), (2, .int x2), (3, .int x3), (4, .int x4), (5, .int (0 : Int32)), (6, .int (0 : Int32))]) [2, 3, 4, 5, 1, 0] rfl ?_
    exact g_M_hinders_b52 k24 hk24 k37 hk37 x2 x3 x4 (0 : Int32) (0 : Int32) w h
theorem g_M_hinders_b37 {l : Launch} {Q : Option Value → gW → Prop} (k24 : Int32 → Int32 → gW → Option (Int32 × gW)) (hk24 : ∀ (x2 : Int32) (x3 : Int32) (w : gW), zok eI (k24 x2 x3 w) Q → Gz l m_M_hinders 58 24 [(0, .ref 107), (2, .int x2), (3, .int x3)] [] w Q) (x2 : Int32) (x3 : Int32) (x4 : Int32) (w : gW) (h : zok eI (f_M_hinders_b37 k24 x2 x3 x4 w) Q) : Gz l m_M_hinders 58 37 [(0, .ref 107), (2, .int x2), (3, .int x3), (4, .int x4)] [] w Q := by
  have key : ∀ (n : Nat) (x2 : Int32) (x3 : Int32) (x4 : Int32) (w : gW), zok eI (zfx (fun _ _ _ _ => none) (f_M_hinders_b37_s k24) n x2 x3 x4 w) Q → Gz l m_M_hinders 58 37 [(0, .ref 107), (2, .int x2), (3, .int x3), (4, .int x4)] [] w Q := by
    intro n
    induction n with
    | zero => intro x2 x3 x4 w h; exact zok_n h
    | succ n ih => intro x2 x3 x4 w h; exact g_M_hinders_b37_s k24 hk24 _ ih x2 x3 x4 w h
  exact key zFU x2 x3 x4 w h
theorem g_M_hinders_b24_s {l : Launch} {Q : Option Value → gW → Prop} (k24 : Int32 → Int32 → gW → Option (Int32 × gW)) (hk24 : ∀ (x2 : Int32) (x3 : Int32) (w : gW), zok eI (k24 x2 x3 w) Q → Gz l m_M_hinders 58 24 [(0, .ref 107), (2, .int x2), (3, .int x3)] [] w Q) (x2 : Int32) (x3 : Int32) (w : gW) (h : zok eI (f_M_hinders_b24_s k24 x2 x3 w) Q) : Gz l m_M_hinders 58 24 [(0, .ref 107), (2, .int x2), (3, .int x3)] [] w Q := by
  unfold f_M_hinders_b24_s at h
  refine Gz.iload_n (q := 3) (pc' := 25) (by decide +kernel) rfl 2 rfl ?_
  refine Gz.aload_n (q := 0) (pc' := 26) (by decide +kernel) rfl 0 rfl ?_
  refine Gz.getI (pc' := 29) (j := 6) fd_M_203 sh_107 rfl (by decide +kernel) rfl ?_
  refine Gz.icmp_ge (off := 127) (tgt := 156) (pc' := 32) (by decide +kernel) (by decide) rfl (fun c1 => ?_) (fun c1 => ?_)
  · have h := zok_t c1 h
    refine Gz.iload_n (q := 2) (pc' := 157) (by decide +kernel) rfl 1 rfl ?_
    exact Gz.ireturn (by decide +kernel) rfl (zok_sI h)
  · have h := zok_f c1 h
    refine Gz.iload_n (q := 3) (pc' := 33) (by decide +kernel) rfl 2 rfl ?_
    refine Gz.iconst (n := 1) (v := (1 : Int32)) (pc' := 34) (by decide +kernel) rfl rfl ?_
    refine Gz.iadd (pc' := 35) (by decide +kernel) rfl ?_
    refine Gz.nmI (fun v2 e3 => ?_)
    have h := zok_l e3 h
    refine Gz.istore (i := 4) (pc' := 37) (L' := [(4, .int v2), (0, .ref 107), (2, .int x2), (3, .int x3)]) (by decide +kernel) rfl (Nat.le_of_ble_eq_true rfl) rfl ?_
    refine Gz.sub (L' := [(0, .ref 107), (2, .int x2), (3, .int x3), (4, .int v2)]) [1, 2, 3, 0] rfl ?_
    exact g_M_hinders_b37 k24 hk24 x2 x3 v2 w h
theorem g_M_hinders_b24 {l : Launch} {Q : Option Value → gW → Prop} (x2 : Int32) (x3 : Int32) (w : gW) (h : zok eI (f_M_hinders_b24 x2 x3 w) Q) : Gz l m_M_hinders 58 24 [(0, .ref 107), (2, .int x2), (3, .int x3)] [] w Q := by
  have key : ∀ (n : Nat) (x2 : Int32) (x3 : Int32) (w : gW), zok eI (zfx (fun _ _ _ => none) (f_M_hinders_b24_s) n x2 x3 w) Q → Gz l m_M_hinders 58 24 [(0, .ref 107), (2, .int x2), (3, .int x3)] [] w Q := by
    intro n
    induction n with
    | zero => intro x2 x3 w h; exact zok_n h
    | succ n ih => intro x2 x3 w h; exact g_M_hinders_b24_s _ ih x2 x3 w h
  exact key zFU x2 x3 w h
theorem g_M_hinders {l : Launch} (a1 : Int32) (w : gW) : gCt l m_M_hinders 58 [.ref 107, .int a1] w eI (f_M_hinders a1 w) := by
  intro Q h
  unfold f_M_hinders at h
  show Gz l m_M_hinders 58 0 [(0, .ref 107), (1, .int a1)] [] w Q
  refine Gz.aload_n (q := 0) (pc' := 1) (by decide +kernel) rfl 0 rfl ?_
  refine Gz.iconst (n := 0) (v := (0 : Int32)) (pc' := 2) (by decide +kernel) rfl rfl ?_
  refine Gz.putI (pc' := 5) (j := 0) fd_M_96 sh_107 rfl (by decide +kernel) rfl ?_
  refine Gz.nmW (fun w1 e2 => ?_)
  have h := zok_l e2 h
  refine Gz.aload_n (q := 0) (pc' := 6) (by decide +kernel) rfl 0 rfl ?_
  refine Gz.iload_n (q := 1) (pc' := 7) (by decide +kernel) rfl 1 rfl ?_
  refine Gz.callVI (st := []) (b := 107) (pc' := 10) [.int a1] (g_M_isSeenDay a1 w1) h ok_m_M_isSeenDay lk_M_244 sh_107 rfl rfl rfl (Nat.le_of_ble_eq_true rfl) (Nat.le_of_ble_eq_true rfl) (Nat.le_of_ble_eq_true rfl) (by decide +kernel) rfl (fun v3 w4 h => ?_)
  refine Gz.if_ne (off := 5) (tgt := 15) (pc' := 13) (by decide +kernel) (by decide) rfl (fun c5 => ?_) (fun c5 => ?_)
  · have h := zok_f c5 h
    refine Gz.aload_n (q := 0) (pc' := 16) (by decide +kernel) rfl 0 rfl ?_
    refine Gz.iload_n (q := 1) (pc' := 17) (by decide +kernel) rfl 1 rfl ?_
    refine Gz.callVV (st := []) (b := 107) (pc' := 20) [.int a1] (g_M_layDay a1 w4) h ok_m_M_layDay lk_M_305 sh_107 rfl rfl rfl (Nat.le_of_ble_eq_true rfl) (Nat.le_of_ble_eq_true rfl) (Nat.le_of_ble_eq_true rfl) (by decide +kernel) rfl (fun _ w6 h => ?_)
    refine Gz.iconst (n := 0) (v := (0 : Int32)) (pc' := 21) (by decide +kernel) rfl rfl ?_
    refine Gz.istore_n (q := 2) (pc' := 22) (L' := [(2, .int (0 : Int32)), (0, .ref 107), (1, .int a1)]) (by decide +kernel) rfl (Nat.le_of_ble_eq_true rfl) rfl ?_
    refine Gz.iconst (n := 0) (v := (0 : Int32)) (pc' := 23) (by decide +kernel) rfl rfl ?_
    refine Gz.istore_n (q := 3) (pc' := 24) (L' := [(3, .int (0 : Int32)), (2, .int (0 : Int32)), (0, .ref 107), (1, .int a1)]) (by decide +kernel) rfl (Nat.le_of_ble_eq_true rfl) rfl ?_
    refine Gz.sub (L' := [(0, .ref 107), (2, .int (0 : Int32)), (3, .int (0 : Int32))]) [2, 1, 0] rfl ?_
    exact g_M_hinders_b24 (0 : Int32) (0 : Int32) w6 h
  · have h := zok_t c5 h
    refine Gz.iconst (n := -1) (v := (-1 : Int32)) (pc' := 14) (by decide +kernel) rfl rfl ?_
    exact Gz.ireturn (by decide +kernel) rfl (zok_sI h)
def f_M_must (a1 : Int32) (w : gW) : Option (Int32 × gW) :=
zl (zsI w 107 0 (0 : Int32)) (fun w1 =>
zb (f_M_isSeenDay a1 w1) (fun v3 w4 =>
if v3 = 0 then
(some ((-1 : Int32), w4))
else
(zb (f_M_layDay a1 w4) (fun _ w6 =>
some (w6.1 107 41, w6)))))
theorem g_M_must {l : Launch} (a1 : Int32) (w : gW) : gCt l m_M_must 58 [.ref 107, .int a1] w eI (f_M_must a1 w) := by
  intro Q h
  unfold f_M_must at h
  show Gz l m_M_must 58 0 [(0, .ref 107), (1, .int a1)] [] w Q
  refine Gz.aload_n (q := 0) (pc' := 1) (by decide +kernel) rfl 0 rfl ?_
  refine Gz.iconst (n := 0) (v := (0 : Int32)) (pc' := 2) (by decide +kernel) rfl rfl ?_
  refine Gz.putI (pc' := 5) (j := 0) fd_M_96 sh_107 rfl (by decide +kernel) rfl ?_
  refine Gz.nmW (fun w1 e2 => ?_)
  have h := zok_l e2 h
  refine Gz.aload_n (q := 0) (pc' := 6) (by decide +kernel) rfl 0 rfl ?_
  refine Gz.iload_n (q := 1) (pc' := 7) (by decide +kernel) rfl 1 rfl ?_
  refine Gz.callVI (st := []) (b := 107) (pc' := 10) [.int a1] (g_M_isSeenDay a1 w1) h ok_m_M_isSeenDay lk_M_244 sh_107 rfl rfl rfl (Nat.le_of_ble_eq_true rfl) (Nat.le_of_ble_eq_true rfl) (Nat.le_of_ble_eq_true rfl) (by decide +kernel) rfl (fun v3 w4 h => ?_)
  refine Gz.if_ne (off := 5) (tgt := 15) (pc' := 13) (by decide +kernel) (by decide) rfl (fun c5 => ?_) (fun c5 => ?_)
  · have h := zok_f c5 h
    refine Gz.aload_n (q := 0) (pc' := 16) (by decide +kernel) rfl 0 rfl ?_
    refine Gz.iload_n (q := 1) (pc' := 17) (by decide +kernel) rfl 1 rfl ?_
    refine Gz.callVV (st := []) (b := 107) (pc' := 20) [.int a1] (g_M_layDay a1 w4) h ok_m_M_layDay lk_M_305 sh_107 rfl rfl rfl (Nat.le_of_ble_eq_true rfl) (Nat.le_of_ble_eq_true rfl) (Nat.le_of_ble_eq_true rfl) (by decide +kernel) rfl (fun _ w6 h => ?_)
    refine Gz.aload_n (q := 0) (pc' := 21) (by decide +kernel) rfl 0 rfl ?_
    refine Gz.getI (pc' := 24) (j := 41) fd_M_285 sh_107 rfl (by decide +kernel) rfl ?_
    exact Gz.ireturn (by decide +kernel) rfl (zok_sI h)
  · have h := zok_t c5 h
    refine Gz.iconst (n := -1) (v := (-1 : Int32)) (pc' := 14) (by decide +kernel) rfl rfl ?_
    exact Gz.ireturn (by decide +kernel) rfl (zok_sI h)
def f_M_care_b186 (k47 : Int32 → Int32 → Int32 → Int32 → Int32 → Int32 → Int32 → gW → Option (Int32 × gW)) (x1 : Int32) (x2 : Int32) (x3 : Int32) (x4 : Int32) (x5 : Int32) (x6 : Int32) (x7 : Int32) (w : gW) : Option (Int32 × gW) :=
zl (x7 + (1 : Int32)) (fun v1 =>
k47 x1 x2 x3 x4 x5 x6 v1 w)
def f_M_care_b148 (k47 : Int32 → Int32 → Int32 → Int32 → Int32 → Int32 → Int32 → gW → Option (Int32 × gW)) (k96 : Int32 → Int32 → Int32 → Int32 → Int32 → Int32 → Int32 → Int32 → Int32 → gW → Option (Int32 × gW)) (x1 : Int32) (x2 : Int32) (x3 : Int32) (x4 : Int32) (x5 : Int32) (x7 : Int32) (x8 : Int32) (x9 : Int32) (s0 : Int32) (s1 : Int32) (w : gW) : Option (Int32 × gW) :=
zl (s0 ||| s1) (fun v1 =>
zl (x9 + (1 : Int32)) (fun v3 =>
k96 x1 x2 x3 x4 x5 v1 x7 x8 v3 w))
def f_M_care_b123 (k47 : Int32 → Int32 → Int32 → Int32 → Int32 → Int32 → Int32 → gW → Option (Int32 × gW)) (k96 : Int32 → Int32 → Int32 → Int32 → Int32 → Int32 → Int32 → Int32 → Int32 → gW → Option (Int32 × gW)) (x1 : Int32) (x2 : Int32) (x3 : Int32) (x4 : Int32) (x5 : Int32) (x6 : Int32) (x7 : Int32) (x9 : Int32) (s0 : Int32) (s1 : Int32) (w : gW) : Option (Int32 × gW) :=
zl (s0 + s1) (fun v1 =>
if inb x9 5 then
if (w.1 111 (ix x9)) = (9 : Int32) then
(f_M_care_b148 k47 k96 x1 x2 x3 x4 x5 x7 v1 x9 x6 ((1 : Int32) <<< (x9 &&& 31)) w)
else
(f_M_care_b148 k47 k96 x1 x2 x3 x4 x5 x7 v1 x9 x6 (0 : Int32) w)
else none)
def f_M_care_b173 (k47 : Int32 → Int32 → Int32 → Int32 → Int32 → Int32 → Int32 → gW → Option (Int32 × gW)) (x1 : Int32) (x2 : Int32) (x3 : Int32) (x6 : Int32) (x7 : Int32) (x8 : Int32) (w : gW) : Option (Int32 × gW) :=
if inb x7 16807 then
zl (w.1 118 (ix x7)) (fun v2 =>
f_M_care_b186 k47 x1 x2 x3 v2 x8 x6 x7 w)
else none
def f_M_care_b96_s (k47 : Int32 → Int32 → Int32 → Int32 → Int32 → Int32 → Int32 → gW → Option (Int32 × gW)) (k96 : Int32 → Int32 → Int32 → Int32 → Int32 → Int32 → Int32 → Int32 → Int32 → gW → Option (Int32 × gW)) (x1 : Int32) (x2 : Int32) (x3 : Int32) (x4 : Int32) (x5 : Int32) (x6 : Int32) (x7 : Int32) (x8 : Int32) (x9 : Int32) (w : gW) : Option (Int32 × gW) :=
if (w.1 107 21) ≤ x9 then
(if x4 = (-1 : Int32) then
(f_M_care_b173 k47 x1 x2 x3 x6 x7 x8 w)
else
(if x8 < x5 then
(f_M_care_b173 k47 x1 x2 x3 x6 x7 x8 w)
else
(f_M_care_b186 k47 x1 x2 x3 x4 x5 x6 x7 w)))
else
(if inb x9 5 then
if x2 ≤ (w.1 111 (ix x9)) then
(f_M_care_b123 k47 k96 x1 x2 x3 x4 x5 x6 x7 x9 x8 (0 : Int32) w)
else
(f_M_care_b123 k47 k96 x1 x2 x3 x4 x5 x6 x7 x9 x8 (1 : Int32) w)
else none)
def f_M_care_b96 (k47 : Int32 → Int32 → Int32 → Int32 → Int32 → Int32 → Int32 → gW → Option (Int32 × gW)) : Int32 → Int32 → Int32 → Int32 → Int32 → Int32 → Int32 → Int32 → Int32 → gW → Option (Int32 × gW) := zfx (fun _ _ _ _ _ _ _ _ _ _ => none) (f_M_care_b96_s k47) zFU
def f_M_care_b47_s (k47 : Int32 → Int32 → Int32 → Int32 → Int32 → Int32 → Int32 → gW → Option (Int32 × gW)) (x1 : Int32) (x2 : Int32) (x3 : Int32) (x4 : Int32) (x5 : Int32) (x6 : Int32) (x7 : Int32) (w : gW) : Option (Int32 × gW) :=
if (w.1 107 26) ≤ x7 then
(if x4 = (-1 : Int32) then
(some ((-1 : Int32), w))
else
(if x3 = 0 then
(some (x5, w))
else
(if x3 = (1 : Int32) then
(some (x4, w))
else
(some (x6, w)))))
else
(if inb x7 16807 then
zb (f_M_live (w.1 118 (ix x7)) w) (fun _ w6 =>
zb (f_M_fits w6) (fun v7 w8 =>
if v7 = 0 then
(f_M_care_b186 k47 x1 x2 x3 x4 x5 x6 x7 w8)
else
(zb (f_M_all w8) (fun v10 w11 =>
zb (f_M_keeps x1 x2 v10 w11) (fun v12 w13 =>
if v12 = 0 then
(f_M_care_b186 k47 x1 x2 x3 x4 x5 x6 x7 w13)
else
(f_M_care_b96 k47 x1 x2 x3 x4 x5 x6 x7 (0 : Int32) (0 : Int32) w13))))))
else none)
def f_M_care_b47 : Int32 → Int32 → Int32 → Int32 → Int32 → Int32 → Int32 → gW → Option (Int32 × gW) := zfx (fun _ _ _ _ _ _ _ _ => none) (f_M_care_b47_s) zFU
def f_M_care (a1 : Int32) (a2 : Int32) (a3 : Int32) (w : gW) : Option (Int32 × gW) :=
zl (zsI w 107 0 (0 : Int32)) (fun w1 =>
zb (f_M_isOath a1 w1) (fun v3 w4 =>
if v3 = 0 then
(some ((-1 : Int32), w4))
else
(zb (f_M_isSeenDay a2 w4) (fun v6 w7 =>
if v6 = 0 then
(some ((-1 : Int32), w7))
else
(zb (f_M_isIn (a3.toInt64) (0 : Int64) (2 : Int64) w7) (fun v9 w10 =>
if v9 = 0 then
(some ((-1 : Int32), w10))
else
(f_M_care_b47 a1 a2 a3 (-1 : Int32) (0 : Int32) (0 : Int32) (0 : Int32) w10)))))))
theorem g_M_care_b186 {l : Launch} {Q : Option Value → gW → Prop} (k47 : Int32 → Int32 → Int32 → Int32 → Int32 → Int32 → Int32 → gW → Option (Int32 × gW)) (hk47 : ∀ (x1 : Int32) (x2 : Int32) (x3 : Int32) (x4 : Int32) (x5 : Int32) (x6 : Int32) (x7 : Int32) (w : gW), zok eI (k47 x1 x2 x3 x4 x5 x6 x7 w) Q → Gz l m_M_care 57 47 [(0, .ref 107), (1, .int x1), (2, .int x2), (3, .int x3), (4, .int x4), (5, .int x5), (6, .int x6), (7, .int x7)] [] w Q) (x1 : Int32) (x2 : Int32) (x3 : Int32) (x4 : Int32) (x5 : Int32) (x6 : Int32) (x7 : Int32) (w : gW) (h : zok eI (f_M_care_b186 k47 x1 x2 x3 x4 x5 x6 x7 w) Q) : Gz l m_M_care 57 186 [(0, .ref 107), (1, .int x1), (2, .int x2), (3, .int x3), (4, .int x4), (5, .int x5), (6, .int x6), (7, .int x7)] [] w Q := by
  unfold f_M_care_b186 at h
  obtain ⟨v1, e2⟩ : ∃ y : Int32, y = x7 + (1 : Int32) := ⟨_, rfl⟩
  have h := zok_l e2 h
  refine Gz.iinc (i := 7) (n := 1) (pc' := 189) (L' := [(7, .int v1), (0, .ref 107), (1, .int x1), (2, .int x2), (3, .int x3), (4, .int x4), (5, .int x5), (6, .int x6)]) v1 (by decide +kernel) rfl 7 rfl (by rw [e2]; rfl) (Nat.le_of_ble_eq_true rfl) rfl ?_
  refine Gz.goto (off := -142) (tgt := 47) (by decide +kernel) (by decide) ?_
  refine Gz.sub (L' := [(0, .ref 107), (1, .int x1), (2, .int x2), (3, .int x3), (4, .int x4), (5, .int x5), (6, .int x6), (7, .int v1)]) [1, 2, 3, 4, 5, 6, 7, 0] rfl ?_
  exact hk47 x1 x2 x3 x4 x5 x6 v1 w h
theorem g_M_care_b148 {l : Launch} {Q : Option Value → gW → Prop} (k47 : Int32 → Int32 → Int32 → Int32 → Int32 → Int32 → Int32 → gW → Option (Int32 × gW)) (hk47 : ∀ (x1 : Int32) (x2 : Int32) (x3 : Int32) (x4 : Int32) (x5 : Int32) (x6 : Int32) (x7 : Int32) (w : gW), zok eI (k47 x1 x2 x3 x4 x5 x6 x7 w) Q → Gz l m_M_care 57 47 [(0, .ref 107), (1, .int x1), (2, .int x2), (3, .int x3), (4, .int x4), (5, .int x5), (6, .int x6), (7, .int x7)] [] w Q) (k96 : Int32 → Int32 → Int32 → Int32 → Int32 → Int32 → Int32 → Int32 → Int32 → gW → Option (Int32 × gW)) (hk96 : ∀ (x1 : Int32) (x2 : Int32) (x3 : Int32) (x4 : Int32) (x5 : Int32) (x6 : Int32) (x7 : Int32) (x8 : Int32) (x9 : Int32) (w : gW), zok eI (k96 x1 x2 x3 x4 x5 x6 x7 x8 x9 w) Q → Gz l m_M_care 57 96 [(0, .ref 107), (1, .int x1), (2, .int x2), (3, .int x3), (4, .int x4), (5, .int x5), (6, .int x6), (7, .int x7), (8, .int x8), (9, .int x9)] [] w Q) (x1 : Int32) (x2 : Int32) (x3 : Int32) (x4 : Int32) (x5 : Int32) (x7 : Int32) (x8 : Int32) (x9 : Int32) (s0 : Int32) (s1 : Int32) (w : gW) (h : zok eI (f_M_care_b148 k47 k96 x1 x2 x3 x4 x5 x7 x8 x9 s0 s1 w) Q) : Gz l m_M_care 57 148 [(0, .ref 107), (1, .int x1), (2, .int x2), (3, .int x3), (4, .int x4), (5, .int x5), (7, .int x7), (8, .int x8), (9, .int x9)] [.int s1, .int s0] w Q := by
  unfold f_M_care_b148 at h
  refine Gz.ior (pc' := 149) (by decide +kernel) rfl ?_
  refine Gz.nmI (fun v1 e2 => ?_)
  have h := zok_l e2 h
  refine Gz.istore (i := 6) (pc' := 151) (L' := [(6, .int v1), (0, .ref 107), (1, .int x1), (2, .int x2), (3, .int x3), (4, .int x4), (5, .int x5), (7, .int x7), (8, .int x8), (9, .int x9)]) (by decide +kernel) rfl (Nat.le_of_ble_eq_true rfl) rfl ?_
  obtain ⟨v3, e4⟩ : ∃ y : Int32, y = x9 + (1 : Int32) := ⟨_, rfl⟩
  have h := zok_l e4 h
  refine Gz.iinc (i := 9) (n := 1) (pc' := 154) (L' := [(9, .int v3), (6, .int v1), (0, .ref 107), (1, .int x1), (2, .int x2), (3, .int x3), (4, .int x4), (5, .int x5), (7, .int x7), (8, .int x8)]) v3 (by decide +kernel) rfl 9 rfl (by rw [e4]; rfl) (Nat.le_of_ble_eq_true rfl) rfl ?_
  refine Gz.goto (off := -58) (tgt := 96) (by decide +kernel) (by decide) ?_
  refine Gz.sub (L' := [(0, .ref 107), (1, .int x1), (2, .int x2), (3, .int x3), (4, .int x4), (5, .int x5), (6, .int v1), (7, .int x7), (8, .int x8), (9, .int v3)]) [2, 3, 4, 5, 6, 7, 1, 8, 9, 0] rfl ?_
  exact hk96 x1 x2 x3 x4 x5 v1 x7 x8 v3 w h
theorem g_M_care_b123 {l : Launch} {Q : Option Value → gW → Prop} (k47 : Int32 → Int32 → Int32 → Int32 → Int32 → Int32 → Int32 → gW → Option (Int32 × gW)) (hk47 : ∀ (x1 : Int32) (x2 : Int32) (x3 : Int32) (x4 : Int32) (x5 : Int32) (x6 : Int32) (x7 : Int32) (w : gW), zok eI (k47 x1 x2 x3 x4 x5 x6 x7 w) Q → Gz l m_M_care 57 47 [(0, .ref 107), (1, .int x1), (2, .int x2), (3, .int x3), (4, .int x4), (5, .int x5), (6, .int x6), (7, .int x7)] [] w Q) (k96 : Int32 → Int32 → Int32 → Int32 → Int32 → Int32 → Int32 → Int32 → Int32 → gW → Option (Int32 × gW)) (hk96 : ∀ (x1 : Int32) (x2 : Int32) (x3 : Int32) (x4 : Int32) (x5 : Int32) (x6 : Int32) (x7 : Int32) (x8 : Int32) (x9 : Int32) (w : gW), zok eI (k96 x1 x2 x3 x4 x5 x6 x7 x8 x9 w) Q → Gz l m_M_care 57 96 [(0, .ref 107), (1, .int x1), (2, .int x2), (3, .int x3), (4, .int x4), (5, .int x5), (6, .int x6), (7, .int x7), (8, .int x8), (9, .int x9)] [] w Q) (x1 : Int32) (x2 : Int32) (x3 : Int32) (x4 : Int32) (x5 : Int32) (x6 : Int32) (x7 : Int32) (x9 : Int32) (s0 : Int32) (s1 : Int32) (w : gW) (h : zok eI (f_M_care_b123 k47 k96 x1 x2 x3 x4 x5 x6 x7 x9 s0 s1 w) Q) : Gz l m_M_care 57 123 [(0, .ref 107), (1, .int x1), (2, .int x2), (3, .int x3), (4, .int x4), (5, .int x5), (6, .int x6), (7, .int x7), (9, .int x9)] [.int s1, .int s0] w Q := by
  unfold f_M_care_b123 at h
  refine Gz.iadd (pc' := 124) (by decide +kernel) rfl ?_
  refine Gz.nmI (fun v1 e2 => ?_)
  have h := zok_l e2 h
  refine Gz.istore (i := 8) (pc' := 126) (L' := [(8, .int v1), (0, .ref 107), (1, .int x1), (2, .int x2), (3, .int x3), (4, .int x4), (5, .int x5), (6, .int x6), (7, .int x7), (9, .int x9)]) (by decide +kernel) rfl (Nat.le_of_ble_eq_true rfl) rfl ?_
  refine Gz.iload (i := 6) (pc' := 128) (by decide +kernel) rfl 7 rfl ?_
  refine Gz.aload_n (q := 0) (pc' := 129) (by decide +kernel) rfl 1 rfl ?_
  refine Gz.getR (pc' := 132) (j := 12) 111 fd_M_23 sh_107 rfl (by decide +kernel) rfl ?_
  refine Gz.iload (i := 9) (pc' := 134) (by decide +kernel) rfl 9 rfl ?_
  obtain ⟨c3, h⟩ := zok_c h
  refine Gz.iald (pc' := 135) (n := 5) (by decide +kernel) rfl rfl c3 ?_
  refine Gz.bipush (n := 9) (v := (9 : Int32)) (pc' := 137) (by decide +kernel) rfl rfl ?_
  refine Gz.icmp_ne (off := 10) (tgt := 147) (pc' := 140) (by decide +kernel) (by decide) rfl (fun c4 => ?_) (fun c4 => ?_)
  · have h := zok_f c4 h
    refine Gz.iconst (n := 0) (v := (0 : Int32)) (pc' := 148) (by decide +kernel) rfl rfl ?_
    refine Gz.sub (L' := [(0, .ref 107), (1, .int x1), (2, .int x2), (3, .int x3), (4, .int x4), (5, .int x5), (7, .int x7), (8, .int v1), (9, .int x9)]) [1, 2, 3, 4, 5, 6, 8, 0, 9] rfl ?_
    exact g_M_care_b148 k47 hk47 k96 hk96 x1 x2 x3 x4 x5 x7 v1 x9 x6 (0 : Int32) w h
  · have h := zok_t c4 h
    refine Gz.iconst (n := 1) (v := (1 : Int32)) (pc' := 141) (by decide +kernel) rfl rfl ?_
    refine Gz.iload (i := 9) (pc' := 143) (by decide +kernel) rfl 9 rfl ?_
    refine Gz.ishl (pc' := 144) (by decide +kernel) rfl ?_
    refine Gz.goto (off := 4) (tgt := 148) (by decide +kernel) (by decide) ?_
    refine Gz.sub (L' := [(0, .ref 107), (1, .int x1), (2, .int x2), (3, .int x3), (4, .int x4), (5, .int x5), (7, .int x7), (8, .int v1), (9, .int x9)]) [1, 2, 3, 4, 5, 6, 8, 0, 9] rfl ?_
    exact g_M_care_b148 k47 hk47 k96 hk96 x1 x2 x3 x4 x5 x7 v1 x9 x6 ((1 : Int32) <<< (x9 &&& 31)) w h
theorem g_M_care_b173 {l : Launch} {Q : Option Value → gW → Prop} (k47 : Int32 → Int32 → Int32 → Int32 → Int32 → Int32 → Int32 → gW → Option (Int32 × gW)) (hk47 : ∀ (x1 : Int32) (x2 : Int32) (x3 : Int32) (x4 : Int32) (x5 : Int32) (x6 : Int32) (x7 : Int32) (w : gW), zok eI (k47 x1 x2 x3 x4 x5 x6 x7 w) Q → Gz l m_M_care 57 47 [(0, .ref 107), (1, .int x1), (2, .int x2), (3, .int x3), (4, .int x4), (5, .int x5), (6, .int x6), (7, .int x7)] [] w Q) (x1 : Int32) (x2 : Int32) (x3 : Int32) (x6 : Int32) (x7 : Int32) (x8 : Int32) (w : gW) (h : zok eI (f_M_care_b173 k47 x1 x2 x3 x6 x7 x8 w) Q) : Gz l m_M_care 57 173 [(0, .ref 107), (1, .int x1), (2, .int x2), (3, .int x3), (6, .int x6), (7, .int x7), (8, .int x8)] [] w Q := by
  unfold f_M_care_b173 at h
  refine Gz.aload_n (q := 0) (pc' := 174) (by decide +kernel) rfl 0 rfl ?_
  refine Gz.getR (pc' := 177) (j := 25) 118 fd_M_44 sh_107 rfl (by decide +kernel) rfl ?_
  refine Gz.iload (i := 7) (pc' := 179) (by decide +kernel) rfl 5 rfl ?_
  obtain ⟨c1, h⟩ := zok_c h
  refine Gz.iald (pc' := 180) (n := 16807) (by decide +kernel) rfl rfl c1 ?_
  refine Gz.nmI (fun v2 e3 => ?_)
  have h := zok_l e3 h
  refine Gz.istore (i := 4) (pc' := 182) (L' := [(4, .int v2), (0, .ref 107), (1, .int x1), (2, .int x2), (3, .int x3), (6, .int x6), (7, .int x7), (8, .int x8)]) (by decide +kernel) rfl (Nat.le_of_ble_eq_true rfl) rfl ?_
  refine Gz.iload (i := 8) (pc' := 184) (by decide +kernel) rfl 7 rfl ?_
  refine Gz.istore (i := 5) (pc' := 186) (L' := [(5, .int x8), (4, .int v2), (0, .ref 107), (1, .int x1), (2, .int x2), (3, .int x3), (6, .int x6), (7, .int x7), (8, .int x8)]) (by decide +kernel) rfl (Nat.le_of_ble_eq_true rfl) rfl ?_
  refine Gz.sub (L' := [(0, .ref 107), (1, .int x1), (2, .int x2), (3, .int x3), (4, .int v2), (5, .int x8), (6, .int x6), (7, .int x7)]) [2, 3, 4, 5, 1, 0, 6, 7] rfl ?_
  exact g_M_care_b186 k47 hk47 x1 x2 x3 v2 x8 x6 x7 w h
theorem g_M_care_b96_s {l : Launch} {Q : Option Value → gW → Prop} (k47 : Int32 → Int32 → Int32 → Int32 → Int32 → Int32 → Int32 → gW → Option (Int32 × gW)) (hk47 : ∀ (x1 : Int32) (x2 : Int32) (x3 : Int32) (x4 : Int32) (x5 : Int32) (x6 : Int32) (x7 : Int32) (w : gW), zok eI (k47 x1 x2 x3 x4 x5 x6 x7 w) Q → Gz l m_M_care 57 47 [(0, .ref 107), (1, .int x1), (2, .int x2), (3, .int x3), (4, .int x4), (5, .int x5), (6, .int x6), (7, .int x7)] [] w Q) (k96 : Int32 → Int32 → Int32 → Int32 → Int32 → Int32 → Int32 → Int32 → Int32 → gW → Option (Int32 × gW)) (hk96 : ∀ (x1 : Int32) (x2 : Int32) (x3 : Int32) (x4 : Int32) (x5 : Int32) (x6 : Int32) (x7 : Int32) (x8 : Int32) (x9 : Int32) (w : gW), zok eI (k96 x1 x2 x3 x4 x5 x6 x7 x8 x9 w) Q → Gz l m_M_care 57 96 [(0, .ref 107), (1, .int x1), (2, .int x2), (3, .int x3), (4, .int x4), (5, .int x5), (6, .int x6), (7, .int x7), (8, .int x8), (9, .int x9)] [] w Q) (x1 : Int32) (x2 : Int32) (x3 : Int32) (x4 : Int32) (x5 : Int32) (x6 : Int32) (x7 : Int32) (x8 : Int32) (x9 : Int32) (w : gW) (h : zok eI (f_M_care_b96_s k47 k96 x1 x2 x3 x4 x5 x6 x7 x8 x9 w) Q) : Gz l m_M_care 57 96 [(0, .ref 107), (1, .int x1), (2, .int x2), (3, .int x3), (4, .int x4), (5, .int x5), (6, .int x6), (7, .int x7), (8, .int x8), (9, .int x9)] [] w Q := by
  unfold f_M_care_b96_s at h
  refine Gz.iload (i := 9) (pc' := 98) (by decide +kernel) rfl 9 rfl ?_
  refine Gz.aload_n (q := 0) (pc' := 99) (by decide +kernel) rfl 0 rfl ?_
  refine Gz.getI (pc' := 102) (j := 21) fd_M_141 sh_107 rfl (by decide +kernel) rfl ?_
  refine Gz.icmp_ge (off := 55) (tgt := 157) (pc' := 105) (by decide +kernel) (by decide) rfl (fun c1 => ?_) (fun c1 => ?_)
  · have h := zok_t c1 h
    refine Gz.iload (i := 4) (pc' := 159) (by decide +kernel) rfl 4 rfl ?_
    refine Gz.iconst (n := -1) (v := (-1 : Int32)) (pc' := 160) (by decide +kernel) rfl rfl ?_
    refine Gz.icmp_eq (off := 13) (tgt := 173) (pc' := 163) (by decide +kernel) (by decide) rfl (fun c2 => ?_) (fun c2 => ?_)
    · have h := zok_t c2 h
      refine Gz.sub (L' := [(0, .ref 107), (1, .int x1), (2, .int x2), (3, .int x3), (6, .int x6), (7, .int x7), (8, .int x8)]) [0, 1, 2, 3, 6, 7, 8] rfl ?_
      exact g_M_care_b173 k47 hk47 x1 x2 x3 x6 x7 x8 w h
    · have h := zok_f c2 h
      refine Gz.iload (i := 8) (pc' := 165) (by decide +kernel) rfl 8 rfl ?_
      refine Gz.iload (i := 5) (pc' := 167) (by decide +kernel) rfl 5 rfl ?_
      refine Gz.icmp_lt (off := 6) (tgt := 173) (pc' := 170) (by decide +kernel) (by decide) rfl (fun c3 => ?_) (fun c3 => ?_)
      · have h := zok_t c3 h
        refine Gz.sub (L' := [(0, .ref 107), (1, .int x1), (2, .int x2), (3, .int x3), (6, .int x6), (7, .int x7), (8, .int x8)]) [0, 1, 2, 3, 6, 7, 8] rfl ?_
        exact g_M_care_b173 k47 hk47 x1 x2 x3 x6 x7 x8 w h
      · have h := zok_f c3 h
        refine Gz.goto (off := 16) (tgt := 186) (by decide +kernel) (by decide) ?_
        refine Gz.sub (L' := [(0, .ref 107), (1, .int x1), (2, .int x2), (3, .int x3), (4, .int x4), (5, .int x5), (6, .int x6), (7, .int x7)]) [0, 1, 2, 3, 4, 5, 6, 7] rfl ?_
        exact g_M_care_b186 k47 hk47 x1 x2 x3 x4 x5 x6 x7 w h
  · have h := zok_f c1 h
    refine Gz.iload (i := 8) (pc' := 107) (by decide +kernel) rfl 8 rfl ?_
    refine Gz.aload_n (q := 0) (pc' := 108) (by decide +kernel) rfl 0 rfl ?_
    refine Gz.getR (pc' := 111) (j := 12) 111 fd_M_23 sh_107 rfl (by decide +kernel) rfl ?_
    refine Gz.iload (i := 9) (pc' := 113) (by decide +kernel) rfl 9 rfl ?_
    obtain ⟨c4, h⟩ := zok_c h
    refine Gz.iald (pc' := 114) (n := 5) (by decide +kernel) rfl rfl c4 ?_
    refine Gz.iload_n (q := 2) (pc' := 115) (by decide +kernel) rfl 2 rfl ?_
    refine Gz.icmp_ge (off := 7) (tgt := 122) (pc' := 118) (by decide +kernel) (by decide) rfl (fun c5 => ?_) (fun c5 => ?_)
    · have h := zok_t c5 h
      refine Gz.iconst (n := 0) (v := (0 : Int32)) (pc' := 123) (by decide +kernel) rfl rfl ?_
      refine Gz.sub (L' := [(0, .ref 107), (1, .int x1), (2, .int x2), (3, .int x3), (4, .int x4), (5, .int x5), (6, .int x6), (7, .int x7), (9, .int x9)]) [0, 1, 2, 3, 4, 5, 6, 7, 9] rfl ?_
      exact g_M_care_b123 k47 hk47 k96 hk96 x1 x2 x3 x4 x5 x6 x7 x9 x8 (0 : Int32) w h
    · have h := zok_f c5 h
      refine Gz.iconst (n := 1) (v := (1 : Int32)) (pc' := 119) (by decide +kernel) rfl rfl ?_
      refine Gz.goto (off := 4) (tgt := 123) (by decide +kernel) (by decide) ?_
      refine Gz.sub (L' := [(0, .ref 107), (1, .int x1), (2, .int x2), (3, .int x3), (4, .int x4), (5, .int x5), (6, .int x6), (7, .int x7), (9, .int x9)]) [0, 1, 2, 3, 4, 5, 6, 7, 9] rfl ?_
      exact g_M_care_b123 k47 hk47 k96 hk96 x1 x2 x3 x4 x5 x6 x7 x9 x8 (1 : Int32) w h
theorem g_M_care_b96 {l : Launch} {Q : Option Value → gW → Prop} (k47 : Int32 → Int32 → Int32 → Int32 → Int32 → Int32 → Int32 → gW → Option (Int32 × gW)) (hk47 : ∀ (x1 : Int32) (x2 : Int32) (x3 : Int32) (x4 : Int32) (x5 : Int32) (x6 : Int32) (x7 : Int32) (w : gW), zok eI (k47 x1 x2 x3 x4 x5 x6 x7 w) Q → Gz l m_M_care 57 47 [(0, .ref 107), (1, .int x1), (2, .int x2), (3, .int x3), (4, .int x4), (5, .int x5), (6, .int x6), (7, .int x7)] [] w Q) (x1 : Int32) (x2 : Int32) (x3 : Int32) (x4 : Int32) (x5 : Int32) (x6 : Int32) (x7 : Int32) (x8 : Int32) (x9 : Int32) (w : gW) (h : zok eI (f_M_care_b96 k47 x1 x2 x3 x4 x5 x6 x7 x8 x9 w) Q) : Gz l m_M_care 57 96 [(0, .ref 107), (1, .int x1), (2, .int x2), (3, .int x3), (4, .int x4), (5, .int x5), (6, .int x6), (7, .int x7), (8, .int x8), (9, .int x9)] [] w Q := by
  have key : ∀ (n : Nat) (x1 : Int32) (x2 : Int32) (x3 : Int32) (x4 : Int32) (x5 : Int32) (x6 : Int32) (x7 : Int32) (x8 : Int32) (x9 : Int32) (w : gW), zok eI (zfx (fun _ _ _ _ _ _ _ _ _ _ => none) (f_M_care_b96_s k47) n x1 x2 x3 x4 x5 x6 x7 x8 x9 w) Q → Gz l m_M_care 57 96 [(0, .ref 107), (1, .int x1), (2, .int x2), (3, .int x3), (4, .int x4), (5, .int x5), (6, .int x6), (7, .int x7), (8, .int x8), (9, .int x9)] [] w Q := by
    intro n
    induction n with
    | zero => intro x1 x2 x3 x4 x5 x6 x7 x8 x9 w h; exact zok_n h
    | succ n ih => intro x1 x2 x3 x4 x5 x6 x7 x8 x9 w h; exact g_M_care_b96_s k47 hk47 _ ih x1 x2 x3 x4 x5 x6 x7 x8 x9 w h
  exact key zFU x1 x2 x3 x4 x5 x6 x7 x8 x9 w h
theorem g_M_care_b47_s {l : Launch} {Q : Option Value → gW → Prop} (k47 : Int32 → Int32 → Int32 → Int32 → Int32 → Int32 → Int32 → gW → Option (Int32 × gW)) (hk47 : ∀ (x1 : Int32) (x2 : Int32) (x3 : Int32) (x4 : Int32) (x5 : Int32) (x6 : Int32) (x7 : Int32) (w : gW), zok eI (k47 x1 x2 x3 x4 x5 x6 x7 w) Q → Gz l m_M_care 57 47 [(0, .ref 107), (1, .int x1), (2, .int x2), (3, .int x3), (4, .int x4), (5, .int x5), (6, .int x6), (7, .int x7)] [] w Q) (x1 : Int32) (x2 : Int32) (x3 : Int32) (x4 : Int32) (x5 : Int32) (x6 : Int32) (x7 : Int32) (w : gW) (h : zok eI (f_M_care_b47_s k47 x1 x2 x3 x4 x5 x6 x7 w) Q) : Gz l m_M_care 57 47 [(0, .ref 107), (1, .int x1), (2, .int x2), (3, .int x3), (4, .int x4), (5, .int x5), (6, .int x6), (7, .int x7)] [] w Q := by
  unfold f_M_care_b47_s at h
  refine Gz.iload (i := 7) (pc' := 49) (by decide +kernel) rfl 7 rfl ?_
  refine Gz.aload_n (q := 0) (pc' := 50) (by decide +kernel) rfl 0 rfl ?_
  refine Gz.getI (pc' := 53) (j := 26) fd_M_224 sh_107 rfl (by decide +kernel) rfl ?_
  refine Gz.icmp_ge (off := 139) (tgt := 192) (pc' := 56) (by decide +kernel) (by decide) rfl (fun c1 => ?_) (fun c1 => ?_)
  · have h := zok_t c1 h
    refine Gz.iload (i := 4) (pc' := 194) (by decide +kernel) rfl 4 rfl ?_
    refine Gz.iconst (n := -1) (v := (-1 : Int32)) (pc' := 195) (by decide +kernel) rfl rfl ?_
    refine Gz.icmp_ne (off := 7) (tgt := 202) (pc' := 198) (by decide +kernel) (by decide) rfl (fun c2 => ?_) (fun c2 => ?_)
    · have h := zok_f c2 h
      refine Gz.iload_n (q := 3) (pc' := 203) (by decide +kernel) rfl 3 rfl ?_
      refine Gz.if_ne (off := 8) (tgt := 211) (pc' := 206) (by decide +kernel) (by decide) rfl (fun c3 => ?_) (fun c3 => ?_)
      · have h := zok_f c3 h
        refine Gz.iload_n (q := 3) (pc' := 212) (by decide +kernel) rfl 3 rfl ?_
        refine Gz.iconst (n := 1) (v := (1 : Int32)) (pc' := 213) (by decide +kernel) rfl rfl ?_
        refine Gz.icmp_ne (off := 8) (tgt := 221) (pc' := 216) (by decide +kernel) (by decide) rfl (fun c4 => ?_) (fun c4 => ?_)
        · have h := zok_f c4 h
          refine Gz.iload (i := 6) (pc' := 223) (by decide +kernel) rfl 6 rfl ?_
          exact Gz.ireturn (by decide +kernel) rfl (zok_sI h)
        · have h := zok_t c4 h
          refine Gz.iload (i := 4) (pc' := 218) (by decide +kernel) rfl 4 rfl ?_
          refine Gz.goto (off := 5) (tgt := 223) (by decide +kernel) (by decide) ?_
          exact Gz.ireturn (by decide +kernel) rfl (zok_sI h)
      · have h := zok_t c3 h
        refine Gz.iload (i := 5) (pc' := 208) (by decide +kernel) rfl 5 rfl ?_
        refine Gz.goto (off := 15) (tgt := 223) (by decide +kernel) (by decide) ?_
        exact Gz.ireturn (by decide +kernel) rfl (zok_sI h)
    · have h := zok_t c2 h
      refine Gz.iconst (n := -1) (v := (-1 : Int32)) (pc' := 199) (by decide +kernel) rfl rfl ?_
      refine Gz.goto (off := 24) (tgt := 223) (by decide +kernel) (by decide) ?_
      exact Gz.ireturn (by decide +kernel) rfl (zok_sI h)
  · have h := zok_f c1 h
    refine Gz.aload_n (q := 0) (pc' := 57) (by decide +kernel) rfl 0 rfl ?_
    refine Gz.aload_n (q := 0) (pc' := 58) (by decide +kernel) rfl 0 rfl ?_
    refine Gz.getR (pc' := 61) (j := 25) 118 fd_M_44 sh_107 rfl (by decide +kernel) rfl ?_
    refine Gz.iload (i := 7) (pc' := 63) (by decide +kernel) rfl 7 rfl ?_
    obtain ⟨c5, h⟩ := zok_c h
    refine Gz.iald (pc' := 64) (n := 16807) (by decide +kernel) rfl rfl c5 ?_
    refine Gz.callVV (st := []) (b := 107) (pc' := 67) [.int (w.1 118 (ix x7))] (g_M_live (w.1 118 (ix x7)) w) h ok_m_M_live lk_M_231 sh_107 rfl rfl rfl (Nat.le_of_ble_eq_true rfl) (Nat.le_of_ble_eq_true rfl) (Nat.le_of_ble_eq_true rfl) (by decide +kernel) rfl (fun _ w6 h => ?_)
    refine Gz.aload_n (q := 0) (pc' := 68) (by decide +kernel) rfl 0 rfl ?_
    refine Gz.callVI (st := []) (b := 107) (pc' := 71) [] (g_M_fits w6) h ok_m_M_fits lk_M_267 sh_107 rfl rfl rfl (Nat.le_of_ble_eq_true rfl) (Nat.le_of_ble_eq_true rfl) (Nat.le_of_ble_eq_true rfl) (by decide +kernel) rfl (fun v7 w8 h => ?_)
    refine Gz.if_eq (off := 115) (tgt := 186) (pc' := 74) (by decide +kernel) (by decide) rfl (fun c9 => ?_) (fun c9 => ?_)
    · have h := zok_t c9 h
      exact g_M_care_b186 k47 hk47 x1 x2 x3 x4 x5 x6 x7 w8 h
    · have h := zok_f c9 h
      refine Gz.aload_n (q := 0) (pc' := 75) (by decide +kernel) rfl 0 rfl ?_
      refine Gz.iload_n (q := 1) (pc' := 76) (by decide +kernel) rfl 1 rfl ?_
      refine Gz.iload_n (q := 2) (pc' := 77) (by decide +kernel) rfl 2 rfl ?_
      refine Gz.aload_n (q := 0) (pc' := 78) (by decide +kernel) rfl 0 rfl ?_
      refine Gz.callVI (st := [.int x2, .int x1, .ref 107]) (b := 107) (pc' := 81) [] (g_M_all w8) h ok_m_M_all lk_M_261 sh_107 rfl rfl rfl (Nat.le_of_ble_eq_true rfl) (Nat.le_of_ble_eq_true rfl) (Nat.le_of_ble_eq_true rfl) (by decide +kernel) rfl (fun v10 w11 h => ?_)
      refine Gz.callVI (st := []) (b := 107) (pc' := 84) [.int x1, .int x2, .int v10] (g_M_keeps x1 x2 v10 w11) h ok_m_M_keeps lk_M_254 sh_107 rfl rfl rfl (Nat.le_of_ble_eq_true rfl) (Nat.le_of_ble_eq_true rfl) (Nat.le_of_ble_eq_true rfl) (by decide +kernel) rfl (fun v12 w13 h => ?_)
      refine Gz.if_ne (off := 6) (tgt := 90) (pc' := 87) (by decide +kernel) (by decide) rfl (fun c14 => ?_) (fun c14 => ?_)
      · have h := zok_f c14 h
        refine Gz.iconst (n := 0) (v := (0 : Int32)) (pc' := 91) (by decide +kernel) rfl rfl ?_
        refine Gz.istore (i := 8) (pc' := 93) (L' := [(8, .int (0 : Int32)), (0, .ref 107), (1, .int x1), (2, .int x2), (3, .int x3), (4, .int x4), (5, .int x5), (6, .int x6), (7, .int x7)]) (by decide +kernel) rfl (Nat.le_of_ble_eq_true rfl) rfl ?_
        refine Gz.iconst (n := 0) (v := (0 : Int32)) (pc' := 94) (by decide +kernel) rfl rfl ?_
        refine Gz.istore (i := 9) (pc' := 96) (L' := [(9, .int (0 : Int32)), (8, .int (0 : Int32)), (0, .ref 107), (1, .int x1), (2, .int x2), (3, .int x3), (4, .int x4), (5, .int x5), (6, .int x6), (7, .int x7)]) (by decide +kernel) rfl (Nat.le_of_ble_eq_true rfl) rfl ?_
        refine Gz.sub (L' := [(0, .ref 107), (1, .int x1), (2, .int x2), (3, .int x3), (4, .int x4), (5, .int x5), (6, .int x6), (7, .int x7), (8, .int (0 : Int32)), (9, .int (0 : Int32))]) [2, 3, 4, 5, 6, 7, 8, 9, 1, 0] rfl ?_
        exact g_M_care_b96 k47 hk47 x1 x2 x3 x4 x5 x6 x7 (0 : Int32) (0 : Int32) w13 h
      · have h := zok_t c14 h
        refine Gz.goto (off := 99) (tgt := 186) (by decide +kernel) (by decide) ?_
        exact g_M_care_b186 k47 hk47 x1 x2 x3 x4 x5 x6 x7 w13 h
theorem g_M_care_b47 {l : Launch} {Q : Option Value → gW → Prop} (x1 : Int32) (x2 : Int32) (x3 : Int32) (x4 : Int32) (x5 : Int32) (x6 : Int32) (x7 : Int32) (w : gW) (h : zok eI (f_M_care_b47 x1 x2 x3 x4 x5 x6 x7 w) Q) : Gz l m_M_care 57 47 [(0, .ref 107), (1, .int x1), (2, .int x2), (3, .int x3), (4, .int x4), (5, .int x5), (6, .int x6), (7, .int x7)] [] w Q := by
  have key : ∀ (n : Nat) (x1 : Int32) (x2 : Int32) (x3 : Int32) (x4 : Int32) (x5 : Int32) (x6 : Int32) (x7 : Int32) (w : gW), zok eI (zfx (fun _ _ _ _ _ _ _ _ => none) (f_M_care_b47_s) n x1 x2 x3 x4 x5 x6 x7 w) Q → Gz l m_M_care 57 47 [(0, .ref 107), (1, .int x1), (2, .int x2), (3, .int x3), (4, .int x4), (5, .int x5), (6, .int x6), (7, .int x7)] [] w Q := by
    intro n
    induction n with
    | zero => intro x1 x2 x3 x4 x5 x6 x7 w h; exact zok_n h
    | succ n ih => intro x1 x2 x3 x4 x5 x6 x7 w h; exact g_M_care_b47_s _ ih x1 x2 x3 x4 x5 x6 x7 w h
  exact key zFU x1 x2 x3 x4 x5 x6 x7 w h
theorem g_M_care {l : Launch} (a1 : Int32) (a2 : Int32) (a3 : Int32) (w : gW) : gCt l m_M_care 57 [.ref 107, .int a1, .int a2, .int a3] w eI (f_M_care a1 a2 a3 w) := by
  intro Q h
  unfold f_M_care at h
  show Gz l m_M_care 57 0 [(0, .ref 107), (1, .int a1), (2, .int a2), (3, .int a3)] [] w Q
  refine Gz.aload_n (q := 0) (pc' := 1) (by decide +kernel) rfl 0 rfl ?_
  refine Gz.iconst (n := 0) (v := (0 : Int32)) (pc' := 2) (by decide +kernel) rfl rfl ?_
  refine Gz.putI (pc' := 5) (j := 0) fd_M_96 sh_107 rfl (by decide +kernel) rfl ?_
  refine Gz.nmW (fun w1 e2 => ?_)
  have h := zok_l e2 h
  refine Gz.aload_n (q := 0) (pc' := 6) (by decide +kernel) rfl 0 rfl ?_
  refine Gz.iload_n (q := 1) (pc' := 7) (by decide +kernel) rfl 1 rfl ?_
  refine Gz.callVI (st := []) (b := 107) (pc' := 10) [.int a1] (g_M_isOath a1 w1) h ok_m_M_isOath lk_M_241 sh_107 rfl rfl rfl (Nat.le_of_ble_eq_true rfl) (Nat.le_of_ble_eq_true rfl) (Nat.le_of_ble_eq_true rfl) (by decide +kernel) rfl (fun v3 w4 h => ?_)
  refine Gz.if_eq (off := 23) (tgt := 33) (pc' := 13) (by decide +kernel) (by decide) rfl (fun c5 => ?_) (fun c5 => ?_)
  · have h := zok_t c5 h
    refine Gz.iconst (n := -1) (v := (-1 : Int32)) (pc' := 34) (by decide +kernel) rfl rfl ?_
    exact Gz.ireturn (by decide +kernel) rfl (zok_sI h)
  · have h := zok_f c5 h
    refine Gz.aload_n (q := 0) (pc' := 14) (by decide +kernel) rfl 0 rfl ?_
    refine Gz.iload_n (q := 2) (pc' := 15) (by decide +kernel) rfl 2 rfl ?_
    refine Gz.callVI (st := []) (b := 107) (pc' := 18) [.int a2] (g_M_isSeenDay a2 w4) h ok_m_M_isSeenDay lk_M_244 sh_107 rfl rfl rfl (Nat.le_of_ble_eq_true rfl) (Nat.le_of_ble_eq_true rfl) (Nat.le_of_ble_eq_true rfl) (by decide +kernel) rfl (fun v6 w7 h => ?_)
    refine Gz.if_eq (off := 15) (tgt := 33) (pc' := 21) (by decide +kernel) (by decide) rfl (fun c8 => ?_) (fun c8 => ?_)
    · have h := zok_t c8 h
      refine Gz.iconst (n := -1) (v := (-1 : Int32)) (pc' := 34) (by decide +kernel) rfl rfl ?_
      exact Gz.ireturn (by decide +kernel) rfl (zok_sI h)
    · have h := zok_f c8 h
      refine Gz.iload_n (q := 3) (pc' := 22) (by decide +kernel) rfl 3 rfl ?_
      refine Gz.i2l (pc' := 23) (by decide +kernel) rfl ?_
      refine Gz.lconst (n := 0) (v := (0 : Int64)) (pc' := 24) (by decide +kernel) rfl rfl ?_
      refine Gz.ldc2 (idx := 237) (v := (2 : Int64)) (pc' := 27) (by decide +kernel) rfl kc_M_237 ?_
      refine Gz.callSI (st := []) (pc' := 30) [.long (a3.toInt64), .long (0 : Int64), .long (2 : Int64)] (g_M_isIn (a3.toInt64) (0 : Int64) (2 : Int64) w7) h ok_m_M_isIn lk_M_137 rfl (Nat.le_of_ble_eq_true rfl) (Nat.le_of_ble_eq_true rfl) (Nat.le_of_ble_eq_true rfl) (by decide +kernel) rfl (fun v9 w10 h => ?_)
      refine Gz.if_ne (off := 5) (tgt := 35) (pc' := 33) (by decide +kernel) (by decide) rfl (fun c11 => ?_) (fun c11 => ?_)
      · have h := zok_f c11 h
        refine Gz.iconst (n := -1) (v := (-1 : Int32)) (pc' := 36) (by decide +kernel) rfl rfl ?_
        refine Gz.istore (i := 4) (pc' := 38) (L' := [(4, .int (-1 : Int32)), (0, .ref 107), (1, .int a1), (2, .int a2), (3, .int a3)]) (by decide +kernel) rfl (Nat.le_of_ble_eq_true rfl) rfl ?_
        refine Gz.iconst (n := 0) (v := (0 : Int32)) (pc' := 39) (by decide +kernel) rfl rfl ?_
        refine Gz.istore (i := 5) (pc' := 41) (L' := [(5, .int (0 : Int32)), (4, .int (-1 : Int32)), (0, .ref 107), (1, .int a1), (2, .int a2), (3, .int a3)]) (by decide +kernel) rfl (Nat.le_of_ble_eq_true rfl) rfl ?_
        refine Gz.iconst (n := 0) (v := (0 : Int32)) (pc' := 42) (by decide +kernel) rfl rfl ?_
        refine Gz.istore (i := 6) (pc' := 44) (L' := [(6, .int (0 : Int32)), (5, .int (0 : Int32)), (4, .int (-1 : Int32)), (0, .ref 107), (1, .int a1), (2, .int a2), (3, .int a3)]) (by decide +kernel) rfl (Nat.le_of_ble_eq_true rfl) rfl ?_
        refine Gz.iconst (n := 0) (v := (0 : Int32)) (pc' := 45) (by decide +kernel) rfl rfl ?_
        refine Gz.istore (i := 7) (pc' := 47) (L' := [(7, .int (0 : Int32)), (6, .int (0 : Int32)), (5, .int (0 : Int32)), (4, .int (-1 : Int32)), (0, .ref 107), (1, .int a1), (2, .int a2), (3, .int a3)]) (by decide +kernel) rfl (Nat.le_of_ble_eq_true rfl) rfl ?_
        refine Gz.sub (L' := [(0, .ref 107), (1, .int a1), (2, .int a2), (3, .int a3), (4, .int (-1 : Int32)), (5, .int (0 : Int32)), (6, .int (0 : Int32)), (7, .int (0 : Int32))]) [4, 5, 6, 7, 3, 2, 1, 0] rfl ?_
        exact g_M_care_b47 a1 a2 a3 (-1 : Int32) (0 : Int32) (0 : Int32) (0 : Int32) w10 h
      · have h := zok_t c11 h
        refine Gz.iconst (n := -1) (v := (-1 : Int32)) (pc' := 34) (by decide +kernel) rfl rfl ?_
        exact Gz.ireturn (by decide +kernel) rfl (zok_sI h)
