def f_M_text_b57_s (k57 : Int32 → Int32 → gW → Option (Int32 × gW)) (x2 : Int32) (x3 : Int32) (w : gW) : Option (Int32 × gW) :=
if x2 ≤ x3 then
(if inb (w.1 107 6) 8 then
zl (zsI w 110 (ix (w.1 107 6)) x2) (fun w3 =>
zl (zsI w3 107 6 ((w3.1 107 6) + (1 : Int32))) (fun w5 =>
some ((w5.1 107 6) - (1 : Int32), w5)))
else none)
else
(if inb x3 120 then
if inb (((120 : Int32) * (w.1 107 6)) + x3) 960 then
zl (zsI w 109 (ix (((120 : Int32) * (w.1 107 6)) + x3)) (w.1 108 (ix x3)).toInt8.toInt32) (fun w9 =>
zl (x3 + (1 : Int32)) (fun v11 =>
k57 x2 v11 w9))
else none
else none)
def f_M_text_b57 : Int32 → Int32 → gW → Option (Int32 × gW) := zfx (fun _ _ _ => none) (f_M_text_b57_s) zFU
def f_M_text_b177_s (k133 : Int32 → gW → Option (Int32 × gW)) (k177 : Int32 → Int32 → gW → Option (Int32 × gW)) (x3 : Int32) (x4 : Int32) (w : gW) : Option (Int32 × gW) :=
if (9 : Int32) < x4 then
(zl (x3 + (1 : Int32)) (fun v2 =>
k133 v2 w))
else
(if inb (((10 : Int32) * x3) + x4) 50 then
zl (zsI w 129 (ix (((10 : Int32) * x3) + x4)) (1 : Int32)) (fun w5 =>
zl (x4 + (1 : Int32)) (fun v7 =>
k177 x3 v7 w5))
else none)
def f_M_text_b177 (k133 : Int32 → gW → Option (Int32 × gW)) : Int32 → Int32 → gW → Option (Int32 × gW) := zfx (fun _ _ _ => none) (f_M_text_b177_s k133) zFU
def f_M_text_b133_s (k133 : Int32 → gW → Option (Int32 × gW)) (x3 : Int32) (w : gW) : Option (Int32 × gW) :=
if (5 : Int32) ≤ x3 then
(zl (zsI w 107 35 (0 : Int32)) (fun w2 =>
zl (zsI w2 107 36 (0 : Int32)) (fun w4 =>
zl (zsI w4 107 37 (0 : Int32)) (fun w6 =>
zl (zsI w6 107 58 (0 : Int32)) (fun w8 =>
zl (zsI w8 107 26 (0 : Int32)) (fun w10 =>
zb (f_M_layLives (0 : Int32) (0 : Int32) w10) (fun _ w12 =>
some (w12.1 107 21, w12))))))))
else
(if inb x3 5 then
if inb x3 5 then
zl (zsI w 112 (ix x3) (w.1 115 (ix x3))) (fun w15 =>
if inb x3 5 then
if inb x3 5 then
zl (zsI w15 113 (ix x3) (w15.1 116 (ix x3))) (fun w19 =>
if inb x3 5 then
if inb x3 5 then
zl (zsI w19 114 (ix x3) (w19.1 117 (ix x3))) (fun w23 =>
f_M_text_b177 k133 x3 (0 : Int32) w23)
else none
else none)
else none
else none)
else none
else none)
def f_M_text_b133 : Int32 → gW → Option (Int32 × gW) := zfx (fun _ _ => none) (f_M_text_b133_s) zFU
def f_M_text_b29 (x1 : Int32) (w : gW) : Option (Int32 × gW) :=
zb (f_M_fault x1 w) (fun v1 w2 =>
if v1 = (-1 : Int32) then
(zl (w2.1 107 5) (fun v4 =>
zl (zsI w2 107 5 (0 : Int32)) (fun w6 =>
if x1 = (1 : Int32) then
(f_M_text_b57 v4 (0 : Int32) w6)
else
(zl (zsI w6 107 21 (w6.1 107 23)) (fun w9 =>
zl (zsI w9 107 22 (w9.1 107 24)) (fun w11 =>
f_M_text_b133 (0 : Int32) w11))))))
else
(some ((-1 : Int32), w2)))
def f_M_text (a1 : Int32) (w : gW) : Option (Int32 × gW) :=
zl (zsI w 107 0 (0 : Int32)) (fun w1 =>
zb (f_M_isIn (a1.toInt64) (0 : Int64) (1 : Int64) w1) (fun v3 w4 =>
if v3 = 0 then
(some ((-1 : Int32), w4))
else
(if a1 = (1 : Int32) then
(if (w4.1 107 6) = (8 : Int32) then
(some ((-1 : Int32), w4))
else
(f_M_text_b29 a1 w4))
else
(f_M_text_b29 a1 w4))))
theorem g_M_text_b57_s {l : Launch} {Q : Option Value → gW → Prop} (k57 : Int32 → Int32 → gW → Option (Int32 × gW)) (hk57 : ∀ (x2 : Int32) (x3 : Int32) (w : gW), zok eI (k57 x2 x3 w) Q → Gz l m_M_text 56 57 [(0, .ref 107), (2, .int x2), (3, .int x3)] [] w Q) (x2 : Int32) (x3 : Int32) (w : gW) (h : zok eI (f_M_text_b57_s k57 x2 x3 w) Q) : Gz l m_M_text 56 57 [(0, .ref 107), (2, .int x2), (3, .int x3)] [] w Q := by
  unfold f_M_text_b57_s at h
  refine Gz.iload_n (q := 3) (pc' := 58) (by decide +kernel) rfl 2 rfl ?_
  refine Gz.iload_n (q := 2) (pc' := 59) (by decide +kernel) rfl 1 rfl ?_
  refine Gz.icmp_ge (off := 29) (tgt := 88) (pc' := 62) (by decide +kernel) (by decide) rfl (fun c1 => ?_) (fun c1 => ?_)
  · have h := zok_t c1 h
    refine Gz.aload_n (q := 0) (pc' := 89) (by decide +kernel) rfl 0 rfl ?_
    refine Gz.getR (pc' := 92) (j := 3) 110 fd_M_16 sh_107 rfl (by decide +kernel) rfl ?_
    refine Gz.aload_n (q := 0) (pc' := 93) (by decide +kernel) rfl 0 rfl ?_
    refine Gz.getI (pc' := 96) (j := 6) fd_M_203 sh_107 rfl (by decide +kernel) rfl ?_
    refine Gz.iload_n (q := 2) (pc' := 97) (by decide +kernel) rfl 1 rfl ?_
    obtain ⟨c2, h⟩ := zok_c h
    refine Gz.iast (pc' := 98) (n := 8) (by decide +kernel) rfl rfl c2 ?_
    refine Gz.nmW (fun w3 e4 => ?_)
    have h := zok_l e4 h
    refine Gz.aload_n (q := 0) (pc' := 99) (by decide +kernel) rfl 0 rfl ?_
    refine Gz.dup (pc' := 100) (by decide +kernel) rfl rfl ?_
    refine Gz.getI (pc' := 103) (j := 6) fd_M_203 sh_107 rfl (by decide +kernel) rfl ?_
    refine Gz.iconst (n := 1) (v := (1 : Int32)) (pc' := 104) (by decide +kernel) rfl rfl ?_
    refine Gz.iadd (pc' := 105) (by decide +kernel) rfl ?_
    refine Gz.putI (pc' := 108) (j := 6) fd_M_203 sh_107 rfl (by decide +kernel) rfl ?_
    refine Gz.nmW (fun w5 e6 => ?_)
    have h := zok_l e6 h
    refine Gz.aload_n (q := 0) (pc' := 109) (by decide +kernel) rfl 0 rfl ?_
    refine Gz.getI (pc' := 112) (j := 6) fd_M_203 sh_107 rfl (by decide +kernel) rfl ?_
    refine Gz.iconst (n := 1) (v := (1 : Int32)) (pc' := 113) (by decide +kernel) rfl rfl ?_
    refine Gz.isub (pc' := 114) (by decide +kernel) rfl ?_
    exact Gz.ireturn (by decide +kernel) rfl (zok_sI h)
  · have h := zok_f c1 h
    refine Gz.aload_n (q := 0) (pc' := 63) (by decide +kernel) rfl 0 rfl ?_
    refine Gz.getR (pc' := 66) (j := 2) 109 fd_M_13 sh_107 rfl (by decide +kernel) rfl ?_
    refine Gz.bipush (n := 120) (v := (120 : Int32)) (pc' := 68) (by decide +kernel) rfl rfl ?_
    refine Gz.aload_n (q := 0) (pc' := 69) (by decide +kernel) rfl 0 rfl ?_
    refine Gz.getI (pc' := 72) (j := 6) fd_M_203 sh_107 rfl (by decide +kernel) rfl ?_
    refine Gz.imul (pc' := 73) (by decide +kernel) rfl ?_
    refine Gz.iload_n (q := 3) (pc' := 74) (by decide +kernel) rfl 2 rfl ?_
    refine Gz.iadd (pc' := 75) (by decide +kernel) rfl ?_
    refine Gz.aload_n (q := 0) (pc' := 76) (by decide +kernel) rfl 0 rfl ?_
    refine Gz.getR (pc' := 79) (j := 1) 108 fd_M_9 sh_107 rfl (by decide +kernel) rfl ?_
    refine Gz.iload_n (q := 3) (pc' := 80) (by decide +kernel) rfl 2 rfl ?_
    obtain ⟨c7, h⟩ := zok_c h
    refine Gz.bald (pc' := 81) (n := 120) (by decide +kernel) rfl rfl c7 ?_
    obtain ⟨c8, h⟩ := zok_c h
    refine Gz.bast (pc' := 82) (n := 960) (by decide +kernel) rfl rfl c8 ?_
    refine Gz.nmW (fun w9 e10 => ?_)
    have h := zok_l e10 h
    obtain ⟨v11, e12⟩ : ∃ y : Int32, y = x3 + (1 : Int32) := ⟨_, rfl⟩
    have h := zok_l e12 h
    refine Gz.iinc (i := 3) (n := 1) (pc' := 85) (L' := [(3, .int v11), (0, .ref 107), (2, .int x2)]) v11 (by decide +kernel) rfl 2 rfl (by rw [e12]; rfl) (Nat.le_of_ble_eq_true rfl) rfl ?_
    refine Gz.goto (off := -28) (tgt := 57) (by decide +kernel) (by decide) ?_
    refine Gz.sub (L' := [(0, .ref 107), (2, .int x2), (3, .int v11)]) [1, 2, 0] rfl ?_
    exact hk57 x2 v11 w9 h
theorem g_M_text_b57 {l : Launch} {Q : Option Value → gW → Prop} (x2 : Int32) (x3 : Int32) (w : gW) (h : zok eI (f_M_text_b57 x2 x3 w) Q) : Gz l m_M_text 56 57 [(0, .ref 107), (2, .int x2), (3, .int x3)] [] w Q := by
  have key : ∀ (n : Nat) (x2 : Int32) (x3 : Int32) (w : gW), zok eI (zfx (fun _ _ _ => none) (f_M_text_b57_s) n x2 x3 w) Q → Gz l m_M_text 56 57 [(0, .ref 107), (2, .int x2), (3, .int x3)] [] w Q := by
    intro n
    induction n with
    | zero => intro x2 x3 w h; exact zok_n h
    | succ n ih => intro x2 x3 w h; exact g_M_text_b57_s _ ih x2 x3 w h
  exact key zFU x2 x3 w h
theorem g_M_text_b177_s {l : Launch} {Q : Option Value → gW → Prop} (k133 : Int32 → gW → Option (Int32 × gW)) (hk133 : ∀ (x3 : Int32) (w : gW), zok eI (k133 x3 w) Q → Gz l m_M_text 56 133 [(0, .ref 107), (3, .int x3)] [] w Q) (k177 : Int32 → Int32 → gW → Option (Int32 × gW)) (hk177 : ∀ (x3 : Int32) (x4 : Int32) (w : gW), zok eI (k177 x3 x4 w) Q → Gz l m_M_text 56 177 [(0, .ref 107), (3, .int x3), (4, .int x4)] [] w Q) (x3 : Int32) (x4 : Int32) (w : gW) (h : zok eI (f_M_text_b177_s k133 k177 x3 x4 w) Q) : Gz l m_M_text 56 177 [(0, .ref 107), (3, .int x3), (4, .int x4)] [] w Q := by
  unfold f_M_text_b177_s at h
  refine Gz.iload (i := 4) (pc' := 179) (by decide +kernel) rfl 2 rfl ?_
  refine Gz.bipush (n := 9) (v := (9 : Int32)) (pc' := 181) (by decide +kernel) rfl rfl ?_
  refine Gz.icmp_gt (off := 22) (tgt := 203) (pc' := 184) (by decide +kernel) (by decide) rfl (fun c1 => ?_) (fun c1 => ?_)
  · have h := zok_t c1 h
    obtain ⟨v2, e3⟩ : ∃ y : Int32, y = x3 + (1 : Int32) := ⟨_, rfl⟩
    have h := zok_l e3 h
    refine Gz.iinc (i := 3) (n := 1) (pc' := 206) (L' := [(3, .int v2), (0, .ref 107), (4, .int x4)]) v2 (by decide +kernel) rfl 1 rfl (by rw [e3]; rfl) (Nat.le_of_ble_eq_true rfl) rfl ?_
    refine Gz.goto (off := -73) (tgt := 133) (by decide +kernel) (by decide) ?_
    refine Gz.sub (L' := [(0, .ref 107), (3, .int v2)]) [1, 0] rfl ?_
    exact hk133 v2 w h
  · have h := zok_f c1 h
    refine Gz.aload_n (q := 0) (pc' := 185) (by decide +kernel) rfl 0 rfl ?_
    refine Gz.getR (pc' := 188) (j := 49) 129 fd_M_78 sh_107 rfl (by decide +kernel) rfl ?_
    refine Gz.bipush (n := 10) (v := (10 : Int32)) (pc' := 190) (by decide +kernel) rfl rfl ?_
    refine Gz.iload_n (q := 3) (pc' := 191) (by decide +kernel) rfl 1 rfl ?_
    refine Gz.imul (pc' := 192) (by decide +kernel) rfl ?_
    refine Gz.iload (i := 4) (pc' := 194) (by decide +kernel) rfl 2 rfl ?_
    refine Gz.iadd (pc' := 195) (by decide +kernel) rfl ?_
    refine Gz.iconst (n := 1) (v := (1 : Int32)) (pc' := 196) (by decide +kernel) rfl rfl ?_
    obtain ⟨c4, h⟩ := zok_c h
    refine Gz.iast (pc' := 197) (n := 50) (by decide +kernel) rfl rfl c4 ?_
    refine Gz.nmW (fun w5 e6 => ?_)
    have h := zok_l e6 h
    obtain ⟨v7, e8⟩ : ∃ y : Int32, y = x4 + (1 : Int32) := ⟨_, rfl⟩
    have h := zok_l e8 h
    refine Gz.iinc (i := 4) (n := 1) (pc' := 200) (L' := [(4, .int v7), (0, .ref 107), (3, .int x3)]) v7 (by decide +kernel) rfl 2 rfl (by rw [e8]; rfl) (Nat.le_of_ble_eq_true rfl) rfl ?_
    refine Gz.goto (off := -23) (tgt := 177) (by decide +kernel) (by decide) ?_
    refine Gz.sub (L' := [(0, .ref 107), (3, .int x3), (4, .int v7)]) [1, 2, 0] rfl ?_
    exact hk177 x3 v7 w5 h
theorem g_M_text_b177 {l : Launch} {Q : Option Value → gW → Prop} (k133 : Int32 → gW → Option (Int32 × gW)) (hk133 : ∀ (x3 : Int32) (w : gW), zok eI (k133 x3 w) Q → Gz l m_M_text 56 133 [(0, .ref 107), (3, .int x3)] [] w Q) (x3 : Int32) (x4 : Int32) (w : gW) (h : zok eI (f_M_text_b177 k133 x3 x4 w) Q) : Gz l m_M_text 56 177 [(0, .ref 107), (3, .int x3), (4, .int x4)] [] w Q := by
  have key : ∀ (n : Nat) (x3 : Int32) (x4 : Int32) (w : gW), zok eI (zfx (fun _ _ _ => none) (f_M_text_b177_s k133) n x3 x4 w) Q → Gz l m_M_text 56 177 [(0, .ref 107), (3, .int x3), (4, .int x4)] [] w Q := by
    intro n
    induction n with
    | zero => intro x3 x4 w h; exact zok_n h
    | succ n ih => intro x3 x4 w h; exact g_M_text_b177_s k133 hk133 _ ih x3 x4 w h
  exact key zFU x3 x4 w h
theorem g_M_text_b133_s {l : Launch} {Q : Option Value → gW → Prop} (k133 : Int32 → gW → Option (Int32 × gW)) (hk133 : ∀ (x3 : Int32) (w : gW), zok eI (k133 x3 w) Q → Gz l m_M_text 56 133 [(0, .ref 107), (3, .int x3)] [] w Q) (x3 : Int32) (w : gW) (h : zok eI (f_M_text_b133_s k133 x3 w) Q) : Gz l m_M_text 56 133 [(0, .ref 107), (3, .int x3)] [] w Q := by
  unfold f_M_text_b133_s at h
  refine Gz.iload_n (q := 3) (pc' := 134) (by decide +kernel) rfl 1 rfl ?_
  refine Gz.iconst (n := 5) (v := (5 : Int32)) (pc' := 135) (by decide +kernel) rfl rfl ?_
  refine Gz.icmp_ge (off := 74) (tgt := 209) (pc' := 138) (by decide +kernel) (by decide) rfl (fun c1 => ?_) (fun c1 => ?_)
  · have h := zok_t c1 h
    refine Gz.aload_n (q := 0) (pc' := 210) (by decide +kernel) rfl 0 rfl ?_
    refine Gz.iconst (n := 0) (v := (0 : Int32)) (pc' := 211) (by decide +kernel) rfl rfl ?_
    refine Gz.putI (pc' := 214) (j := 35) fd_M_211 sh_107 rfl (by decide +kernel) rfl ?_
    refine Gz.nmW (fun w2 e3 => ?_)
    have h := zok_l e3 h
    refine Gz.aload_n (q := 0) (pc' := 215) (by decide +kernel) rfl 0 rfl ?_
    refine Gz.iconst (n := 0) (v := (0 : Int32)) (pc' := 216) (by decide +kernel) rfl rfl ?_
    refine Gz.putI (pc' := 219) (j := 36) fd_M_214 sh_107 rfl (by decide +kernel) rfl ?_
    refine Gz.nmW (fun w4 e5 => ?_)
    have h := zok_l e5 h
    refine Gz.aload_n (q := 0) (pc' := 220) (by decide +kernel) rfl 0 rfl ?_
    refine Gz.iconst (n := 0) (v := (0 : Int32)) (pc' := 221) (by decide +kernel) rfl rfl ?_
    refine Gz.putI (pc' := 224) (j := 37) fd_M_217 sh_107 rfl (by decide +kernel) rfl ?_
    refine Gz.nmW (fun w6 e7 => ?_)
    have h := zok_l e7 h
    refine Gz.aload_n (q := 0) (pc' := 225) (by decide +kernel) rfl 0 rfl ?_
    refine Gz.iconst (n := 0) (v := (0 : Int32)) (pc' := 226) (by decide +kernel) rfl rfl ?_
    refine Gz.putZ (pc' := 229) (j := 58) fd_M_220 sh_107 rfl (by decide +kernel) rfl (by decide) ?_
    refine Gz.nmW (fun w8 e9 => ?_)
    have h := zok_l e9 h
    refine Gz.aload_n (q := 0) (pc' := 230) (by decide +kernel) rfl 0 rfl ?_
    refine Gz.iconst (n := 0) (v := (0 : Int32)) (pc' := 231) (by decide +kernel) rfl rfl ?_
    refine Gz.putI (pc' := 234) (j := 26) fd_M_224 sh_107 rfl (by decide +kernel) rfl ?_
    refine Gz.nmW (fun w10 e11 => ?_)
    have h := zok_l e11 h
    refine Gz.aload_n (q := 0) (pc' := 235) (by decide +kernel) rfl 0 rfl ?_
    refine Gz.iconst (n := 0) (v := (0 : Int32)) (pc' := 236) (by decide +kernel) rfl rfl ?_
    refine Gz.iconst (n := 0) (v := (0 : Int32)) (pc' := 237) (by decide +kernel) rfl rfl ?_
    refine Gz.callVV (st := []) (b := 107) (pc' := 240) [.int (0 : Int32), .int (0 : Int32)] (g_M_layLives (0 : Int32) (0 : Int32) w10) h ok_m_M_layLives lk_M_227 sh_107 rfl rfl rfl (Nat.le_of_ble_eq_true rfl) (Nat.le_of_ble_eq_true rfl) (Nat.le_of_ble_eq_true rfl) (by decide +kernel) rfl (fun _ w12 h => ?_)
    refine Gz.aload_n (q := 0) (pc' := 241) (by decide +kernel) rfl 0 rfl ?_
    refine Gz.getI (pc' := 244) (j := 21) fd_M_141 sh_107 rfl (by decide +kernel) rfl ?_
    exact Gz.ireturn (by decide +kernel) rfl (zok_sI h)
  · have h := zok_f c1 h
    refine Gz.aload_n (q := 0) (pc' := 139) (by decide +kernel) rfl 0 rfl ?_
    refine Gz.getR (pc' := 142) (j := 15) 112 fd_M_26 sh_107 rfl (by decide +kernel) rfl ?_
    refine Gz.iload_n (q := 3) (pc' := 143) (by decide +kernel) rfl 1 rfl ?_
    refine Gz.aload_n (q := 0) (pc' := 144) (by decide +kernel) rfl 0 rfl ?_
    refine Gz.getR (pc' := 147) (j := 18) 115 fd_M_35 sh_107 rfl (by decide +kernel) rfl ?_
    refine Gz.iload_n (q := 3) (pc' := 148) (by decide +kernel) rfl 1 rfl ?_
    obtain ⟨c13, h⟩ := zok_c h
    refine Gz.iald (pc' := 149) (n := 5) (by decide +kernel) rfl rfl c13 ?_
    obtain ⟨c14, h⟩ := zok_c h
    refine Gz.iast (pc' := 150) (n := 5) (by decide +kernel) rfl rfl c14 ?_
    refine Gz.nmW (fun w15 e16 => ?_)
    have h := zok_l e16 h
    refine Gz.aload_n (q := 0) (pc' := 151) (by decide +kernel) rfl 0 rfl ?_
    refine Gz.getR (pc' := 154) (j := 16) 113 fd_M_29 sh_107 rfl (by decide +kernel) rfl ?_
    refine Gz.iload_n (q := 3) (pc' := 155) (by decide +kernel) rfl 1 rfl ?_
    refine Gz.aload_n (q := 0) (pc' := 156) (by decide +kernel) rfl 0 rfl ?_
    refine Gz.getR (pc' := 159) (j := 19) 116 fd_M_38 sh_107 rfl (by decide +kernel) rfl ?_
    refine Gz.iload_n (q := 3) (pc' := 160) (by decide +kernel) rfl 1 rfl ?_
    obtain ⟨c17, h⟩ := zok_c h
    refine Gz.iald (pc' := 161) (n := 5) (by decide +kernel) rfl rfl c17 ?_
    obtain ⟨c18, h⟩ := zok_c h
    refine Gz.iast (pc' := 162) (n := 5) (by decide +kernel) rfl rfl c18 ?_
    refine Gz.nmW (fun w19 e20 => ?_)
    have h := zok_l e20 h
    refine Gz.aload_n (q := 0) (pc' := 163) (by decide +kernel) rfl 0 rfl ?_
    refine Gz.getR (pc' := 166) (j := 17) 114 fd_M_32 sh_107 rfl (by decide +kernel) rfl ?_
    refine Gz.iload_n (q := 3) (pc' := 167) (by decide +kernel) rfl 1 rfl ?_
    refine Gz.aload_n (q := 0) (pc' := 168) (by decide +kernel) rfl 0 rfl ?_
    refine Gz.getR (pc' := 171) (j := 20) 117 fd_M_41 sh_107 rfl (by decide +kernel) rfl ?_
    refine Gz.iload_n (q := 3) (pc' := 172) (by decide +kernel) rfl 1 rfl ?_
    obtain ⟨c21, h⟩ := zok_c h
    refine Gz.iald (pc' := 173) (n := 5) (by decide +kernel) rfl rfl c21 ?_
    obtain ⟨c22, h⟩ := zok_c h
    refine Gz.iast (pc' := 174) (n := 5) (by decide +kernel) rfl rfl c22 ?_
    refine Gz.nmW (fun w23 e24 => ?_)
    have h := zok_l e24 h
    refine Gz.iconst (n := 0) (v := (0 : Int32)) (pc' := 175) (by decide +kernel) rfl rfl ?_
    refine Gz.istore (i := 4) (pc' := 177) (L' := [(4, .int (0 : Int32)), (0, .ref 107), (3, .int x3)]) (by decide +kernel) rfl (Nat.le_of_ble_eq_true rfl) rfl ?_
    refine Gz.sub (L' := [(0, .ref 107), (3, .int x3), (4, .int (0 : Int32))]) [1, 2, 0] rfl ?_
    exact g_M_text_b177 k133 hk133 x3 (0 : Int32) w23 h
theorem g_M_text_b133 {l : Launch} {Q : Option Value → gW → Prop} (x3 : Int32) (w : gW) (h : zok eI (f_M_text_b133 x3 w) Q) : Gz l m_M_text 56 133 [(0, .ref 107), (3, .int x3)] [] w Q := by
  have key : ∀ (n : Nat) (x3 : Int32) (w : gW), zok eI (zfx (fun _ _ => none) (f_M_text_b133_s) n x3 w) Q → Gz l m_M_text 56 133 [(0, .ref 107), (3, .int x3)] [] w Q := by
    intro n
    induction n with
    | zero => intro x3 w h; exact zok_n h
    | succ n ih => intro x3 w h; exact g_M_text_b133_s _ ih x3 w h
  exact key zFU x3 w h
theorem g_M_text_b29 {l : Launch} {Q : Option Value → gW → Prop} (x1 : Int32) (w : gW) (h : zok eI (f_M_text_b29 x1 w) Q) : Gz l m_M_text 56 29 [(0, .ref 107), (1, .int x1)] [] w Q := by
  unfold f_M_text_b29 at h
  refine Gz.aload_n (q := 0) (pc' := 30) (by decide +kernel) rfl 0 rfl ?_
  refine Gz.iload_n (q := 1) (pc' := 31) (by decide +kernel) rfl 1 rfl ?_
  refine Gz.callVI (st := []) (b := 107) (pc' := 34) [.int x1] (g_M_fault x1 w) h ok_m_M_fault lk_M_206 sh_107 rfl rfl rfl (Nat.le_of_ble_eq_true rfl) (Nat.le_of_ble_eq_true rfl) (Nat.le_of_ble_eq_true rfl) (by decide +kernel) rfl (fun v1 w2 h => ?_)
  refine Gz.iconst (n := -1) (v := (-1 : Int32)) (pc' := 35) (by decide +kernel) rfl rfl ?_
  refine Gz.icmp_eq (off := 5) (tgt := 40) (pc' := 38) (by decide +kernel) (by decide) rfl (fun c3 => ?_) (fun c3 => ?_)
  · have h := zok_t c3 h
    refine Gz.aload_n (q := 0) (pc' := 41) (by decide +kernel) rfl 0 rfl ?_
    refine Gz.getI (pc' := 44) (j := 5) fd_M_100 sh_107 rfl (by decide +kernel) rfl ?_
    refine Gz.nmI (fun v4 e5 => ?_)
    have h := zok_l e5 h
    refine Gz.istore_n (q := 2) (pc' := 45) (L' := [(2, .int v4), (0, .ref 107), (1, .int x1)]) (by decide +kernel) rfl (Nat.le_of_ble_eq_true rfl) rfl ?_
    refine Gz.aload_n (q := 0) (pc' := 46) (by decide +kernel) rfl 1 rfl ?_
    refine Gz.iconst (n := 0) (v := (0 : Int32)) (pc' := 47) (by decide +kernel) rfl rfl ?_
    refine Gz.putI (pc' := 50) (j := 5) fd_M_100 sh_107 rfl (by decide +kernel) rfl ?_
    refine Gz.nmW (fun w6 e7 => ?_)
    have h := zok_l e7 h
    refine Gz.iload_n (q := 1) (pc' := 51) (by decide +kernel) rfl 2 rfl ?_
    refine Gz.iconst (n := 1) (v := (1 : Int32)) (pc' := 52) (by decide +kernel) rfl rfl ?_
    refine Gz.icmp_ne (off := 63) (tgt := 115) (pc' := 55) (by decide +kernel) (by decide) rfl (fun c8 => ?_) (fun c8 => ?_)
    · have h := zok_f c8 h
      refine Gz.aload_n (q := 0) (pc' := 116) (by decide +kernel) rfl 1 rfl ?_
      refine Gz.aload_n (q := 0) (pc' := 117) (by decide +kernel) rfl 1 rfl ?_
      refine Gz.getI (pc' := 120) (j := 23) fd_M_187 sh_107 rfl (by decide +kernel) rfl ?_
      refine Gz.putI (pc' := 123) (j := 21) fd_M_141 sh_107 rfl (by decide +kernel) rfl ?_
      refine Gz.nmW (fun w9 e10 => ?_)
      have h := zok_l e10 h
      refine Gz.aload_n (q := 0) (pc' := 124) (by decide +kernel) rfl 1 rfl ?_
      refine Gz.aload_n (q := 0) (pc' := 125) (by decide +kernel) rfl 1 rfl ?_
      refine Gz.getI (pc' := 128) (j := 24) fd_M_184 sh_107 rfl (by decide +kernel) rfl ?_
      refine Gz.putI (pc' := 131) (j := 22) fd_M_208 sh_107 rfl (by decide +kernel) rfl ?_
      refine Gz.nmW (fun w11 e12 => ?_)
      have h := zok_l e12 h
      refine Gz.iconst (n := 0) (v := (0 : Int32)) (pc' := 132) (by decide +kernel) rfl rfl ?_
      refine Gz.istore_n (q := 3) (pc' := 133) (L' := [(3, .int (0 : Int32)), (2, .int v4), (0, .ref 107), (1, .int x1)]) (by decide +kernel) rfl (Nat.le_of_ble_eq_true rfl) rfl ?_
      refine Gz.sub (L' := [(0, .ref 107), (3, .int (0 : Int32))]) [2, 0] rfl ?_
      exact g_M_text_b133 (0 : Int32) w11 h
    · have h := zok_t c8 h
      refine Gz.iconst (n := 0) (v := (0 : Int32)) (pc' := 56) (by decide +kernel) rfl rfl ?_
      refine Gz.istore_n (q := 3) (pc' := 57) (L' := [(3, .int (0 : Int32)), (2, .int v4), (0, .ref 107), (1, .int x1)]) (by decide +kernel) rfl (Nat.le_of_ble_eq_true rfl) rfl ?_
      refine Gz.sub (L' := [(0, .ref 107), (2, .int v4), (3, .int (0 : Int32))]) [2, 1, 0] rfl ?_
      exact g_M_text_b57 v4 (0 : Int32) w6 h
  · have h := zok_f c3 h
    refine Gz.iconst (n := -1) (v := (-1 : Int32)) (pc' := 39) (by decide +kernel) rfl rfl ?_
    exact Gz.ireturn (by decide +kernel) rfl (zok_sI h)
theorem g_M_text {l : Launch} (a1 : Int32) (w : gW) : gCt l m_M_text 56 [.ref 107, .int a1] w eI (f_M_text a1 w) := by
  intro Q h
  unfold f_M_text at h
  show Gz l m_M_text 56 0 [(0, .ref 107), (1, .int a1)] [] w Q
  refine Gz.aload_n (q := 0) (pc' := 1) (by decide +kernel) rfl 0 rfl ?_
  refine Gz.iconst (n := 0) (v := (0 : Int32)) (pc' := 2) (by decide +kernel) rfl rfl ?_
  refine Gz.putI (pc' := 5) (j := 0) fd_M_96 sh_107 rfl (by decide +kernel) rfl ?_
  refine Gz.nmW (fun w1 e2 => ?_)
  have h := zok_l e2 h
  refine Gz.iload_n (q := 1) (pc' := 6) (by decide +kernel) rfl 1 rfl ?_
  refine Gz.i2l (pc' := 7) (by decide +kernel) rfl ?_
  refine Gz.lconst (n := 0) (v := (0 : Int64)) (pc' := 8) (by decide +kernel) rfl rfl ?_
  refine Gz.lconst (n := 1) (v := (1 : Int64)) (pc' := 9) (by decide +kernel) rfl rfl ?_
  refine Gz.callSI (st := []) (pc' := 12) [.long (a1.toInt64), .long (0 : Int64), .long (1 : Int64)] (g_M_isIn (a1.toInt64) (0 : Int64) (1 : Int64) w1) h ok_m_M_isIn lk_M_137 rfl (Nat.le_of_ble_eq_true rfl) (Nat.le_of_ble_eq_true rfl) (Nat.le_of_ble_eq_true rfl) (by decide +kernel) rfl (fun v3 w4 h => ?_)
  refine Gz.if_eq (off := 26) (tgt := 38) (pc' := 15) (by decide +kernel) (by decide) rfl (fun c5 => ?_) (fun c5 => ?_)
  · have h := zok_t c5 h
    refine Gz.iconst (n := -1) (v := (-1 : Int32)) (pc' := 39) (by decide +kernel) rfl rfl ?_
    exact Gz.ireturn (by decide +kernel) rfl (zok_sI h)
  · have h := zok_f c5 h
    refine Gz.iload_n (q := 1) (pc' := 16) (by decide +kernel) rfl 1 rfl ?_
    refine Gz.iconst (n := 1) (v := (1 : Int32)) (pc' := 17) (by decide +kernel) rfl rfl ?_
    refine Gz.icmp_ne (off := 12) (tgt := 29) (pc' := 20) (by decide +kernel) (by decide) rfl (fun c6 => ?_) (fun c6 => ?_)
    · have h := zok_f c6 h
      exact g_M_text_b29 a1 w4 h
    · have h := zok_t c6 h
      refine Gz.aload_n (q := 0) (pc' := 21) (by decide +kernel) rfl 0 rfl ?_
      refine Gz.getI (pc' := 24) (j := 6) fd_M_203 sh_107 rfl (by decide +kernel) rfl ?_
      refine Gz.bipush (n := 8) (v := (8 : Int32)) (pc' := 26) (by decide +kernel) rfl rfl ?_
      refine Gz.icmp_eq (off := 12) (tgt := 38) (pc' := 29) (by decide +kernel) (by decide) rfl (fun c7 => ?_) (fun c7 => ?_)
      · have h := zok_t c7 h
        refine Gz.iconst (n := -1) (v := (-1 : Int32)) (pc' := 39) (by decide +kernel) rfl rfl ?_
        exact Gz.ireturn (by decide +kernel) rfl (zok_sI h)
      · have h := zok_f c7 h
        exact g_M_text_b29 a1 w4 h
def f_M_isDeed (a1 : Int32) (w : gW) : Option (Int32 × gW) :=
if a1 < 0 then
(some ((0 : Int32), w))
else
(if (w.1 107 21) ≤ a1 then
(some ((0 : Int32), w))
else
(some ((1 : Int32), w)))
theorem g_M_isDeed {l : Launch} (a1 : Int32) (w : gW) : gCt l m_M_isDeed 1 [.ref 107, .int a1] w eI (f_M_isDeed a1 w) := by
  intro Q h
  unfold f_M_isDeed at h
  show Gz l m_M_isDeed 1 0 [(0, .ref 107), (1, .int a1)] [] w Q
  refine Gz.iload_n (q := 1) (pc' := 1) (by decide +kernel) rfl 1 rfl ?_
  refine Gz.if_lt (off := 15) (tgt := 16) (pc' := 4) (by decide +kernel) (by decide) rfl (fun c1 => ?_) (fun c1 => ?_)
  · have h := zok_t c1 h
    refine Gz.iconst (n := 0) (v := (0 : Int32)) (pc' := 17) (by decide +kernel) rfl rfl ?_
    exact Gz.zreturn (by decide +kernel) rfl (by decide) (zok_sI h)
  · have h := zok_f c1 h
    refine Gz.iload_n (q := 1) (pc' := 5) (by decide +kernel) rfl 1 rfl ?_
    refine Gz.aload_n (q := 0) (pc' := 6) (by decide +kernel) rfl 0 rfl ?_
    refine Gz.getI (pc' := 9) (j := 21) fd_M_141 sh_107 rfl (by decide +kernel) rfl ?_
    refine Gz.icmp_ge (off := 7) (tgt := 16) (pc' := 12) (by decide +kernel) (by decide) rfl (fun c2 => ?_) (fun c2 => ?_)
    · have h := zok_t c2 h
      refine Gz.iconst (n := 0) (v := (0 : Int32)) (pc' := 17) (by decide +kernel) rfl rfl ?_
      exact Gz.zreturn (by decide +kernel) rfl (by decide) (zok_sI h)
    · have h := zok_f c2 h
      refine Gz.iconst (n := 1) (v := (1 : Int32)) (pc' := 13) (by decide +kernel) rfl rfl ?_
      refine Gz.goto (off := 4) (tgt := 17) (by decide +kernel) (by decide) ?_
      exact Gz.zreturn (by decide +kernel) rfl (by decide) (zok_sI h)
def f_M_deed_b26 (x1 : Int32) (x2 : Int32) (s1 : Int32) (w : gW) : Option (Int32 × gW) :=
zl (zsI w 107 0 s1) (fun w1 =>
if (w1.1 107 0) ≤ 0 then
(if x2 = 0 then
(if inb x1 5 then
some (w1.1 112 (ix x1), w1)
else none)
else
(if x2 = (1 : Int32) then
(if inb x1 5 then
some (w1.1 113 (ix x1), w1)
else none)
else
(if inb x1 5 then
some (w1.1 114 (ix x1), w1)
else none)))
else
(some ((0 : Int32), w1)))
def f_M_deed_b25 (x1 : Int32) (x2 : Int32) (w : gW) : Option (Int32 × gW) :=
f_M_deed_b26 x1 x2 (1 : Int32) w
def f_M_deed (a1 : Int32) (a2 : Int32) (w : gW) : Option (Int32 × gW) :=
zb (f_M_isDeed a1 w) (fun v1 w2 =>
if v1 = 0 then
(f_M_deed_b25 a1 a2 w2)
else
(zb (f_M_isIn (a2.toInt64) (0 : Int64) (2 : Int64) w2) (fun v4 w5 =>
if v4 = 0 then
(f_M_deed_b25 a1 a2 w5)
else
(f_M_deed_b26 a1 a2 (0 : Int32) w5))))
theorem g_M_deed_b26 {l : Launch} {Q : Option Value → gW → Prop} (x1 : Int32) (x2 : Int32) (s1 : Int32) (w : gW) (h : zok eI (f_M_deed_b26 x1 x2 s1 w) Q) : Gz l m_M_deed 2 26 [(0, .ref 107), (1, .int x1), (2, .int x2)] [.int s1, .ref 107] w Q := by
  unfold f_M_deed_b26 at h
  refine Gz.putI (pc' := 29) (j := 0) fd_M_96 sh_107 rfl (by decide +kernel) rfl ?_
  refine Gz.nmW (fun w1 e2 => ?_)
  have h := zok_l e2 h
  refine Gz.aload_n (q := 0) (pc' := 30) (by decide +kernel) rfl 0 rfl ?_
  refine Gz.getI (pc' := 33) (j := 0) fd_M_96 sh_107 rfl (by decide +kernel) rfl ?_
  refine Gz.if_le (off := 7) (tgt := 40) (pc' := 36) (by decide +kernel) (by decide) rfl (fun c3 => ?_) (fun c3 => ?_)
  · have h := zok_t c3 h
    refine Gz.iload_n (q := 2) (pc' := 41) (by decide +kernel) rfl 2 rfl ?_
    refine Gz.if_ne (off := 12) (tgt := 53) (pc' := 44) (by decide +kernel) (by decide) rfl (fun c4 => ?_) (fun c4 => ?_)
    · have h := zok_f c4 h
      refine Gz.iload_n (q := 2) (pc' := 54) (by decide +kernel) rfl 2 rfl ?_
      refine Gz.iconst (n := 1) (v := (1 : Int32)) (pc' := 55) (by decide +kernel) rfl rfl ?_
      refine Gz.icmp_ne (off := 12) (tgt := 67) (pc' := 58) (by decide +kernel) (by decide) rfl (fun c5 => ?_) (fun c5 => ?_)
      · have h := zok_f c5 h
        refine Gz.aload_n (q := 0) (pc' := 68) (by decide +kernel) rfl 0 rfl ?_
        refine Gz.getR (pc' := 71) (j := 17) 114 fd_M_32 sh_107 rfl (by decide +kernel) rfl ?_
        refine Gz.iload_n (q := 1) (pc' := 72) (by decide +kernel) rfl 1 rfl ?_
        obtain ⟨c6, h⟩ := zok_c h
        refine Gz.iald (pc' := 73) (n := 5) (by decide +kernel) rfl rfl c6 ?_
        exact Gz.ireturn (by decide +kernel) rfl (zok_sI h)
      · have h := zok_t c5 h
        refine Gz.aload_n (q := 0) (pc' := 59) (by decide +kernel) rfl 0 rfl ?_
        refine Gz.getR (pc' := 62) (j := 16) 113 fd_M_29 sh_107 rfl (by decide +kernel) rfl ?_
        refine Gz.iload_n (q := 1) (pc' := 63) (by decide +kernel) rfl 1 rfl ?_
        obtain ⟨c7, h⟩ := zok_c h
        refine Gz.iald (pc' := 64) (n := 5) (by decide +kernel) rfl rfl c7 ?_
        refine Gz.goto (off := 9) (tgt := 73) (by decide +kernel) (by decide) ?_
        exact Gz.ireturn (by decide +kernel) rfl (zok_sI h)
    · have h := zok_t c4 h
      refine Gz.aload_n (q := 0) (pc' := 45) (by decide +kernel) rfl 0 rfl ?_
      refine Gz.getR (pc' := 48) (j := 15) 112 fd_M_26 sh_107 rfl (by decide +kernel) rfl ?_
      refine Gz.iload_n (q := 1) (pc' := 49) (by decide +kernel) rfl 1 rfl ?_
      obtain ⟨c8, h⟩ := zok_c h
      refine Gz.iald (pc' := 50) (n := 5) (by decide +kernel) rfl rfl c8 ?_
      refine Gz.goto (off := 23) (tgt := 73) (by decide +kernel) (by decide) ?_
      exact Gz.ireturn (by decide +kernel) rfl (zok_sI h)
  · have h := zok_f c3 h
    refine Gz.iconst (n := 0) (v := (0 : Int32)) (pc' := 37) (by decide +kernel) rfl rfl ?_
    refine Gz.goto (off := 36) (tgt := 73) (by decide +kernel) (by decide) ?_
    exact Gz.ireturn (by decide +kernel) rfl (zok_sI h)
theorem g_M_deed_b25 {l : Launch} {Q : Option Value → gW → Prop} (x1 : Int32) (x2 : Int32) (w : gW) (h : zok eI (f_M_deed_b25 x1 x2 w) Q) : Gz l m_M_deed 2 25 [(0, .ref 107), (1, .int x1), (2, .int x2)] [.ref 107] w Q := by
  unfold f_M_deed_b25 at h
  refine Gz.iconst (n := 1) (v := (1 : Int32)) (pc' := 26) (by decide +kernel) rfl rfl ?_
  exact g_M_deed_b26 x1 x2 (1 : Int32) w h
theorem g_M_deed {l : Launch} (a1 : Int32) (a2 : Int32) (w : gW) : gCt l m_M_deed 2 [.ref 107, .int a1, .int a2] w eI (f_M_deed a1 a2 w) := by
  intro Q h
  unfold f_M_deed at h
  show Gz l m_M_deed 2 0 [(0, .ref 107), (1, .int a1), (2, .int a2)] [] w Q
  refine Gz.aload_n (q := 0) (pc' := 1) (by decide +kernel) rfl 0 rfl ?_
  refine Gz.aload_n (q := 0) (pc' := 2) (by decide +kernel) rfl 0 rfl ?_
  refine Gz.iload_n (q := 1) (pc' := 3) (by decide +kernel) rfl 1 rfl ?_
  refine Gz.callVI (st := [.ref 107]) (b := 107) (pc' := 6) [.int a1] (g_M_isDeed a1 w) h ok_m_M_isDeed lk_M_234 sh_107 rfl rfl rfl (Nat.le_of_ble_eq_true rfl) (Nat.le_of_ble_eq_true rfl) (Nat.le_of_ble_eq_true rfl) (by decide +kernel) rfl (fun v1 w2 h => ?_)
  refine Gz.if_eq (off := 19) (tgt := 25) (pc' := 9) (by decide +kernel) (by decide) rfl (fun c3 => ?_) (fun c3 => ?_)
  · have h := zok_t c3 h
    exact g_M_deed_b25 a1 a2 w2 h
  · have h := zok_f c3 h
    refine Gz.iload_n (q := 2) (pc' := 10) (by decide +kernel) rfl 2 rfl ?_
    refine Gz.i2l (pc' := 11) (by decide +kernel) rfl ?_
    refine Gz.lconst (n := 0) (v := (0 : Int64)) (pc' := 12) (by decide +kernel) rfl rfl ?_
    refine Gz.ldc2 (idx := 237) (v := (2 : Int64)) (pc' := 15) (by decide +kernel) rfl kc_M_237 ?_
    refine Gz.callSI (st := [.ref 107]) (pc' := 18) [.long (a2.toInt64), .long (0 : Int64), .long (2 : Int64)] (g_M_isIn (a2.toInt64) (0 : Int64) (2 : Int64) w2) h ok_m_M_isIn lk_M_137 rfl (Nat.le_of_ble_eq_true rfl) (Nat.le_of_ble_eq_true rfl) (Nat.le_of_ble_eq_true rfl) (by decide +kernel) rfl (fun v4 w5 h => ?_)
    refine Gz.if_eq (off := 7) (tgt := 25) (pc' := 21) (by decide +kernel) (by decide) rfl (fun c6 => ?_) (fun c6 => ?_)
    · have h := zok_t c6 h
      exact g_M_deed_b25 a1 a2 w5 h
    · have h := zok_f c6 h
      refine Gz.iconst (n := 0) (v := (0 : Int32)) (pc' := 22) (by decide +kernel) rfl rfl ?_
      refine Gz.goto (off := 4) (tgt := 26) (by decide +kernel) (by decide) ?_
      exact g_M_deed_b26 a1 a2 (0 : Int32) w5 h
def f_M_isOath (a1 : Int32) (w : gW) : Option (Int32 × gW) :=
if a1 < 0 then
(some ((0 : Int32), w))
else
(if (w.1 107 6) ≤ a1 then
(some ((0 : Int32), w))
else
(some ((1 : Int32), w)))
theorem g_M_isOath {l : Launch} (a1 : Int32) (w : gW) : gCt l m_M_isOath 1 [.ref 107, .int a1] w eI (f_M_isOath a1 w) := by
  intro Q h
  unfold f_M_isOath at h
  show Gz l m_M_isOath 1 0 [(0, .ref 107), (1, .int a1)] [] w Q
  refine Gz.iload_n (q := 1) (pc' := 1) (by decide +kernel) rfl 1 rfl ?_
  refine Gz.if_lt (off := 15) (tgt := 16) (pc' := 4) (by decide +kernel) (by decide) rfl (fun c1 => ?_) (fun c1 => ?_)
  · have h := zok_t c1 h
    refine Gz.iconst (n := 0) (v := (0 : Int32)) (pc' := 17) (by decide +kernel) rfl rfl ?_
    exact Gz.zreturn (by decide +kernel) rfl (by decide) (zok_sI h)
  · have h := zok_f c1 h
    refine Gz.iload_n (q := 1) (pc' := 5) (by decide +kernel) rfl 1 rfl ?_
    refine Gz.aload_n (q := 0) (pc' := 6) (by decide +kernel) rfl 0 rfl ?_
    refine Gz.getI (pc' := 9) (j := 6) fd_M_203 sh_107 rfl (by decide +kernel) rfl ?_
    refine Gz.icmp_ge (off := 7) (tgt := 16) (pc' := 12) (by decide +kernel) (by decide) rfl (fun c2 => ?_) (fun c2 => ?_)
    · have h := zok_t c2 h
      refine Gz.iconst (n := 0) (v := (0 : Int32)) (pc' := 17) (by decide +kernel) rfl rfl ?_
      exact Gz.zreturn (by decide +kernel) rfl (by decide) (zok_sI h)
    · have h := zok_f c2 h
      refine Gz.iconst (n := 1) (v := (1 : Int32)) (pc' := 13) (by decide +kernel) rfl rfl ?_
      refine Gz.goto (off := 4) (tgt := 17) (by decide +kernel) (by decide) ?_
      exact Gz.zreturn (by decide +kernel) rfl (by decide) (zok_sI h)
def f_M_isSeenDay (a1 : Int32) (w : gW) : Option (Int32 × gW) :=
if (w.1 107 21) ≤ 0 then
(some ((0 : Int32), w))
else
(zb (f_M_isIn (a1.toInt64) (0 : Int64) ((w.1 107 22).toInt64) w) (fun v2 w3 =>
if v2 = 0 then
(some ((0 : Int32), w3))
else
(some ((1 : Int32), w3))))
theorem g_M_isSeenDay {l : Launch} (a1 : Int32) (w : gW) : gCt l m_M_isSeenDay 2 [.ref 107, .int a1] w eI (f_M_isSeenDay a1 w) := by
  intro Q h
  unfold f_M_isSeenDay at h
  show Gz l m_M_isSeenDay 2 0 [(0, .ref 107), (1, .int a1)] [] w Q
  refine Gz.aload_n (q := 0) (pc' := 1) (by decide +kernel) rfl 0 rfl ?_
  refine Gz.getI (pc' := 4) (j := 21) fd_M_141 sh_107 rfl (by decide +kernel) rfl ?_
  refine Gz.if_le (off := 21) (tgt := 25) (pc' := 7) (by decide +kernel) (by decide) rfl (fun c1 => ?_) (fun c1 => ?_)
  · have h := zok_t c1 h
    refine Gz.iconst (n := 0) (v := (0 : Int32)) (pc' := 26) (by decide +kernel) rfl rfl ?_
    exact Gz.zreturn (by decide +kernel) rfl (by decide) (zok_sI h)
  · have h := zok_f c1 h
    refine Gz.iload_n (q := 1) (pc' := 8) (by decide +kernel) rfl 1 rfl ?_
    refine Gz.i2l (pc' := 9) (by decide +kernel) rfl ?_
    refine Gz.lconst (n := 0) (v := (0 : Int64)) (pc' := 10) (by decide +kernel) rfl rfl ?_
    refine Gz.aload_n (q := 0) (pc' := 11) (by decide +kernel) rfl 0 rfl ?_
    refine Gz.getI (pc' := 14) (j := 22) fd_M_208 sh_107 rfl (by decide +kernel) rfl ?_
    refine Gz.i2l (pc' := 15) (by decide +kernel) rfl ?_
    refine Gz.callSI (st := []) (pc' := 18) [.long (a1.toInt64), .long (0 : Int64), .long ((w.1 107 22).toInt64)] (g_M_isIn (a1.toInt64) (0 : Int64) ((w.1 107 22).toInt64) w) h ok_m_M_isIn lk_M_137 rfl (Nat.le_of_ble_eq_true rfl) (Nat.le_of_ble_eq_true rfl) (Nat.le_of_ble_eq_true rfl) (by decide +kernel) rfl (fun v2 w3 h => ?_)
    refine Gz.if_eq (off := 7) (tgt := 25) (pc' := 21) (by decide +kernel) (by decide) rfl (fun c4 => ?_) (fun c4 => ?_)
    · have h := zok_t c4 h
      refine Gz.iconst (n := 0) (v := (0 : Int32)) (pc' := 26) (by decide +kernel) rfl rfl ?_
      exact Gz.zreturn (by decide +kernel) rfl (by decide) (zok_sI h)
    · have h := zok_f c4 h
      refine Gz.iconst (n := 1) (v := (1 : Int32)) (pc' := 22) (by decide +kernel) rfl rfl ?_
      refine Gz.goto (off := 4) (tgt := 26) (by decide +kernel) (by decide) ?_
      exact Gz.zreturn (by decide +kernel) rfl (by decide) (zok_sI h)
def f_M_swear (a1 : Int32) (a2 : Int32) (a3 : Int32) (a4 : Int32) (w : gW) : Option (Int32 × gW) :=
zl (zsI w 107 0 (0 : Int32)) (fun w1 =>
if (w1.1 107 35) = (10 : Int32) then
(some ((-1 : Int32), w1))
else
(zb (f_M_isIn (a1.toInt64) (0 : Int64) (5 : Int64) w1) (fun v4 w5 =>
if v4 = 0 then
(some ((-1 : Int32), w5))
else
(zb (f_M_isOath a2 w5) (fun v7 w8 =>
if v7 = 0 then
(some ((-1 : Int32), w8))
else
(zb (f_M_isSeenDay a3 w8) (fun v10 w11 =>
if v10 = 0 then
(some ((-1 : Int32), w11))
else
(zb (f_M_isIn (a4.toInt64) (0 : Int64) (99 : Int64) w11) (fun v13 w14 =>
if v13 = 0 then
(some ((-1 : Int32), w14))
else
(if inb (w14.1 107 35) 10 then
zl (zsI w14 119 (ix (w14.1 107 35)) a1) (fun w17 =>
if inb (w17.1 107 35) 10 then
zl (zsI w17 120 (ix (w17.1 107 35)) a2) (fun w20 =>
if inb (w20.1 107 35) 10 then
zl (zsI w20 121 (ix (w20.1 107 35)) a3) (fun w23 =>
if inb (w23.1 107 35) 10 then
zl (zsI w23 122 (ix (w23.1 107 35)) a4) (fun w26 =>
zl (zsI w26 107 35 ((w26.1 107 35) + (1 : Int32))) (fun w28 =>
if inb (w28.1 107 37) 30 then
zl (zsI w28 126 (ix (w28.1 107 37)) ((1 : Int32) &&& 1)) (fun w31 =>
zl (zsI w31 107 37 ((w31.1 107 37) + (1 : Int32))) (fun w33 =>
some (w33.1 107 35, w33)))
else none))
else none)
else none)
else none)
else none))))))))))
theorem g_M_swear {l : Launch} (a1 : Int32) (a2 : Int32) (a3 : Int32) (a4 : Int32) (w : gW) : gCt l m_M_swear 3 [.ref 107, .int a1, .int a2, .int a3, .int a4] w eI (f_M_swear a1 a2 a3 a4 w) := by
  intro Q h
  unfold f_M_swear at h
  show Gz l m_M_swear 3 0 [(0, .ref 107), (1, .int a1), (2, .int a2), (3, .int a3), (4, .int a4)] [] w Q
  refine Gz.aload_n (q := 0) (pc' := 1) (by decide +kernel) rfl 0 rfl ?_
  refine Gz.iconst (n := 0) (v := (0 : Int32)) (pc' := 2) (by decide +kernel) rfl rfl ?_
  refine Gz.putI (pc' := 5) (j := 0) fd_M_96 sh_107 rfl (by decide +kernel) rfl ?_
  refine Gz.nmW (fun w1 e2 => ?_)
  have h := zok_l e2 h
  refine Gz.aload_n (q := 0) (pc' := 6) (by decide +kernel) rfl 0 rfl ?_
  refine Gz.getI (pc' := 9) (j := 35) fd_M_211 sh_107 rfl (by decide +kernel) rfl ?_
  refine Gz.bipush (n := 10) (v := (10 : Int32)) (pc' := 11) (by decide +kernel) rfl rfl ?_
  refine Gz.icmp_eq (off := 44) (tgt := 55) (pc' := 14) (by decide +kernel) (by decide) rfl (fun c3 => ?_) (fun c3 => ?_)
  · have h := zok_t c3 h
    refine Gz.iconst (n := -1) (v := (-1 : Int32)) (pc' := 56) (by decide +kernel) rfl rfl ?_
    exact Gz.ireturn (by decide +kernel) rfl (zok_sI h)
  · have h := zok_f c3 h
    refine Gz.iload_n (q := 1) (pc' := 15) (by decide +kernel) rfl 1 rfl ?_
    refine Gz.i2l (pc' := 16) (by decide +kernel) rfl ?_
    refine Gz.lconst (n := 0) (v := (0 : Int64)) (pc' := 17) (by decide +kernel) rfl rfl ?_
    refine Gz.ldc2 (idx := 239) (v := (5 : Int64)) (pc' := 20) (by decide +kernel) rfl kc_M_239 ?_
    refine Gz.callSI (st := []) (pc' := 23) [.long (a1.toInt64), .long (0 : Int64), .long (5 : Int64)] (g_M_isIn (a1.toInt64) (0 : Int64) (5 : Int64) w1) h ok_m_M_isIn lk_M_137 rfl (Nat.le_of_ble_eq_true rfl) (Nat.le_of_ble_eq_true rfl) (Nat.le_of_ble_eq_true rfl) (by decide +kernel) rfl (fun v4 w5 h => ?_)
    refine Gz.if_eq (off := 32) (tgt := 55) (pc' := 26) (by decide +kernel) (by decide) rfl (fun c6 => ?_) (fun c6 => ?_)
    · have h := zok_t c6 h
      refine Gz.iconst (n := -1) (v := (-1 : Int32)) (pc' := 56) (by decide +kernel) rfl rfl ?_
      exact Gz.ireturn (by decide +kernel) rfl (zok_sI h)
    · have h := zok_f c6 h
      refine Gz.aload_n (q := 0) (pc' := 27) (by decide +kernel) rfl 0 rfl ?_
      refine Gz.iload_n (q := 2) (pc' := 28) (by decide +kernel) rfl 2 rfl ?_
      refine Gz.callVI (st := []) (b := 107) (pc' := 31) [.int a2] (g_M_isOath a2 w5) h ok_m_M_isOath lk_M_241 sh_107 rfl rfl rfl (Nat.le_of_ble_eq_true rfl) (Nat.le_of_ble_eq_true rfl) (Nat.le_of_ble_eq_true rfl) (by decide +kernel) rfl (fun v7 w8 h => ?_)
      refine Gz.if_eq (off := 24) (tgt := 55) (pc' := 34) (by decide +kernel) (by decide) rfl (fun c9 => ?_) (fun c9 => ?_)
      · have h := zok_t c9 h
        refine Gz.iconst (n := -1) (v := (-1 : Int32)) (pc' := 56) (by decide +kernel) rfl rfl ?_
        exact Gz.ireturn (by decide +kernel) rfl (zok_sI h)
      · have h := zok_f c9 h
        refine Gz.aload_n (q := 0) (pc' := 35) (by decide +kernel) rfl 0 rfl ?_
        refine Gz.iload_n (q := 3) (pc' := 36) (by decide +kernel) rfl 3 rfl ?_
        refine Gz.callVI (st := []) (b := 107) (pc' := 39) [.int a3] (g_M_isSeenDay a3 w8) h ok_m_M_isSeenDay lk_M_244 sh_107 rfl rfl rfl (Nat.le_of_ble_eq_true rfl) (Nat.le_of_ble_eq_true rfl) (Nat.le_of_ble_eq_true rfl) (by decide +kernel) rfl (fun v10 w11 h => ?_)
        refine Gz.if_eq (off := 16) (tgt := 55) (pc' := 42) (by decide +kernel) (by decide) rfl (fun c12 => ?_) (fun c12 => ?_)
        · have h := zok_t c12 h
          refine Gz.iconst (n := -1) (v := (-1 : Int32)) (pc' := 56) (by decide +kernel) rfl rfl ?_
          exact Gz.ireturn (by decide +kernel) rfl (zok_sI h)
        · have h := zok_f c12 h
          refine Gz.iload (i := 4) (pc' := 44) (by decide +kernel) rfl 4 rfl ?_
          refine Gz.i2l (pc' := 45) (by decide +kernel) rfl ?_
          refine Gz.lconst (n := 0) (v := (0 : Int64)) (pc' := 46) (by decide +kernel) rfl rfl ?_
          refine Gz.ldc2 (idx := 247) (v := (99 : Int64)) (pc' := 49) (by decide +kernel) rfl kc_M_247 ?_
          refine Gz.callSI (st := []) (pc' := 52) [.long (a4.toInt64), .long (0 : Int64), .long (99 : Int64)] (g_M_isIn (a4.toInt64) (0 : Int64) (99 : Int64) w11) h ok_m_M_isIn lk_M_137 rfl (Nat.le_of_ble_eq_true rfl) (Nat.le_of_ble_eq_true rfl) (Nat.le_of_ble_eq_true rfl) (by decide +kernel) rfl (fun v13 w14 h => ?_)
          refine Gz.if_ne (off := 5) (tgt := 57) (pc' := 55) (by decide +kernel) (by decide) rfl (fun c15 => ?_) (fun c15 => ?_)
          · have h := zok_f c15 h
            refine Gz.aload_n (q := 0) (pc' := 58) (by decide +kernel) rfl 0 rfl ?_
            refine Gz.getR (pc' := 61) (j := 27) 119 fd_M_47 sh_107 rfl (by decide +kernel) rfl ?_
            refine Gz.aload_n (q := 0) (pc' := 62) (by decide +kernel) rfl 0 rfl ?_
            refine Gz.getI (pc' := 65) (j := 35) fd_M_211 sh_107 rfl (by decide +kernel) rfl ?_
            refine Gz.iload_n (q := 1) (pc' := 66) (by decide +kernel) rfl 1 rfl ?_
            obtain ⟨c16, h⟩ := zok_c h
            refine Gz.iast (pc' := 67) (n := 10) (by decide +kernel) rfl rfl c16 ?_
            refine Gz.nmW (fun w17 e18 => ?_)
            have h := zok_l e18 h
            refine Gz.aload_n (q := 0) (pc' := 68) (by decide +kernel) rfl 0 rfl ?_
            refine Gz.getR (pc' := 71) (j := 28) 120 fd_M_50 sh_107 rfl (by decide +kernel) rfl ?_
            refine Gz.aload_n (q := 0) (pc' := 72) (by decide +kernel) rfl 0 rfl ?_
            refine Gz.getI (pc' := 75) (j := 35) fd_M_211 sh_107 rfl (by decide +kernel) rfl ?_
            refine Gz.iload_n (q := 2) (pc' := 76) (by decide +kernel) rfl 2 rfl ?_
            obtain ⟨c19, h⟩ := zok_c h
            refine Gz.iast (pc' := 77) (n := 10) (by decide +kernel) rfl rfl c19 ?_
            refine Gz.nmW (fun w20 e21 => ?_)
            have h := zok_l e21 h
            refine Gz.aload_n (q := 0) (pc' := 78) (by decide +kernel) rfl 0 rfl ?_
            refine Gz.getR (pc' := 81) (j := 29) 121 fd_M_53 sh_107 rfl (by decide +kernel) rfl ?_
            refine Gz.aload_n (q := 0) (pc' := 82) (by decide +kernel) rfl 0 rfl ?_
            refine Gz.getI (pc' := 85) (j := 35) fd_M_211 sh_107 rfl (by decide +kernel) rfl ?_
            refine Gz.iload_n (q := 3) (pc' := 86) (by decide +kernel) rfl 3 rfl ?_
            obtain ⟨c22, h⟩ := zok_c h
            refine Gz.iast (pc' := 87) (n := 10) (by decide +kernel) rfl rfl c22 ?_
            refine Gz.nmW (fun w23 e24 => ?_)
            have h := zok_l e24 h
            refine Gz.aload_n (q := 0) (pc' := 88) (by decide +kernel) rfl 0 rfl ?_
            refine Gz.getR (pc' := 91) (j := 30) 122 fd_M_56 sh_107 rfl (by decide +kernel) rfl ?_
            refine Gz.aload_n (q := 0) (pc' := 92) (by decide +kernel) rfl 0 rfl ?_
            refine Gz.getI (pc' := 95) (j := 35) fd_M_211 sh_107 rfl (by decide +kernel) rfl ?_
            refine Gz.iload (i := 4) (pc' := 97) (by decide +kernel) rfl 4 rfl ?_
            obtain ⟨c25, h⟩ := zok_c h
            refine Gz.iast (pc' := 98) (n := 10) (by decide +kernel) rfl rfl c25 ?_
            refine Gz.nmW (fun w26 e27 => ?_)
            have h := zok_l e27 h
            refine Gz.aload_n (q := 0) (pc' := 99) (by decide +kernel) rfl 0 rfl ?_
            refine Gz.dup (pc' := 100) (by decide +kernel) rfl rfl ?_
            refine Gz.getI (pc' := 103) (j := 35) fd_M_211 sh_107 rfl (by decide +kernel) rfl ?_
            refine Gz.iconst (n := 1) (v := (1 : Int32)) (pc' := 104) (by decide +kernel) rfl rfl ?_
            refine Gz.iadd (pc' := 105) (by decide +kernel) rfl ?_
            refine Gz.putI (pc' := 108) (j := 35) fd_M_211 sh_107 rfl (by decide +kernel) rfl ?_
            refine Gz.nmW (fun w28 e29 => ?_)
            have h := zok_l e29 h
            refine Gz.aload_n (q := 0) (pc' := 109) (by decide +kernel) rfl 0 rfl ?_
            refine Gz.getR (pc' := 112) (j := 34) 126 fd_M_69 sh_107 rfl (by decide +kernel) rfl ?_
            refine Gz.aload_n (q := 0) (pc' := 113) (by decide +kernel) rfl 0 rfl ?_
            refine Gz.getI (pc' := 116) (j := 37) fd_M_217 sh_107 rfl (by decide +kernel) rfl ?_
            refine Gz.iconst (n := 1) (v := (1 : Int32)) (pc' := 117) (by decide +kernel) rfl rfl ?_
            obtain ⟨c30, h⟩ := zok_c h
            refine Gz.zast (pc' := 118) (n := 30) (by decide +kernel) rfl rfl c30 ?_
            refine Gz.nmW (fun w31 e32 => ?_)
            have h := zok_l e32 h
            refine Gz.aload_n (q := 0) (pc' := 119) (by decide +kernel) rfl 0 rfl ?_
            refine Gz.dup (pc' := 120) (by decide +kernel) rfl rfl ?_
            refine Gz.getI (pc' := 123) (j := 37) fd_M_217 sh_107 rfl (by decide +kernel) rfl ?_
            refine Gz.iconst (n := 1) (v := (1 : Int32)) (pc' := 124) (by decide +kernel) rfl rfl ?_
            refine Gz.iadd (pc' := 125) (by decide +kernel) rfl ?_
            refine Gz.putI (pc' := 128) (j := 37) fd_M_217 sh_107 rfl (by decide +kernel) rfl ?_
            refine Gz.nmW (fun w33 e34 => ?_)
            have h := zok_l e34 h
            refine Gz.aload_n (q := 0) (pc' := 129) (by decide +kernel) rfl 0 rfl ?_
            refine Gz.getI (pc' := 132) (j := 35) fd_M_211 sh_107 rfl (by decide +kernel) rfl ?_
            exact Gz.ireturn (by decide +kernel) rfl (zok_sI h)
          · have h := zok_t c15 h
            refine Gz.iconst (n := -1) (v := (-1 : Int32)) (pc' := 56) (by decide +kernel) rfl rfl ?_
            exact Gz.ireturn (by decide +kernel) rfl (zok_sI h)
def f_M_sworn (a1 : Int32) (a2 : Int32) (w : gW) : Option (Int32 × gW) :=
zl (zsI w 107 0 (0 : Int32)) (fun w1 =>
zb (f_M_isIn (a1.toInt64) (0 : Int64) (((w1.1 107 35) - (1 : Int32)).toInt64) w1) (fun v3 w4 =>
if v3 = 0 then
(some ((-1 : Int32), w4))
else
(zb (f_M_isIn (a2.toInt64) (0 : Int64) (3 : Int64) w4) (fun v6 w7 =>
if v6 = 0 then
(some ((-1 : Int32), w7))
else
(if a2 = 0 then
(if inb a1 10 then
some (w7.1 119 (ix a1), w7)
else none)
else
(if a2 = (1 : Int32) then
(if inb a1 10 then
some (w7.1 120 (ix a1), w7)
else none)
else
(if a2 = (2 : Int32) then
(if inb a1 10 then
some (w7.1 121 (ix a1), w7)
else none)
else
(if inb a1 10 then
some (w7.1 122 (ix a1), w7)
else none))))))))
theorem g_M_sworn {l : Launch} (a1 : Int32) (a2 : Int32) (w : gW) : gCt l m_M_sworn 2 [.ref 107, .int a1, .int a2] w eI (f_M_sworn a1 a2 w) := by
  intro Q h
  unfold f_M_sworn at h
  show Gz l m_M_sworn 2 0 [(0, .ref 107), (1, .int a1), (2, .int a2)] [] w Q
  refine Gz.aload_n (q := 0) (pc' := 1) (by decide +kernel) rfl 0 rfl ?_
  refine Gz.iconst (n := 0) (v := (0 : Int32)) (pc' := 2) (by decide +kernel) rfl rfl ?_
  refine Gz.putI (pc' := 5) (j := 0) fd_M_96 sh_107 rfl (by decide +kernel) rfl ?_
  refine Gz.nmW (fun w1 e2 => ?_)
  have h := zok_l e2 h
  refine Gz.iload_n (q := 1) (pc' := 6) (by decide +kernel) rfl 1 rfl ?_
  refine Gz.i2l (pc' := 7) (by decide +kernel) rfl ?_
  refine Gz.lconst (n := 0) (v := (0 : Int64)) (pc' := 8) (by decide +kernel) rfl rfl ?_
  refine Gz.aload_n (q := 0) (pc' := 9) (by decide +kernel) rfl 0 rfl ?_
  refine Gz.getI (pc' := 12) (j := 35) fd_M_211 sh_107 rfl (by decide +kernel) rfl ?_
  refine Gz.iconst (n := 1) (v := (1 : Int32)) (pc' := 13) (by decide +kernel) rfl rfl ?_
  refine Gz.isub (pc' := 14) (by decide +kernel) rfl ?_
  refine Gz.i2l (pc' := 15) (by decide +kernel) rfl ?_
  refine Gz.callSI (st := []) (pc' := 18) [.long (a1.toInt64), .long (0 : Int64), .long (((w1.1 107 35) - (1 : Int32)).toInt64)] (g_M_isIn (a1.toInt64) (0 : Int64) (((w1.1 107 35) - (1 : Int32)).toInt64) w1) h ok_m_M_isIn lk_M_137 rfl (Nat.le_of_ble_eq_true rfl) (Nat.le_of_ble_eq_true rfl) (Nat.le_of_ble_eq_true rfl) (by decide +kernel) rfl (fun v3 w4 h => ?_)
  refine Gz.if_eq (off := 15) (tgt := 33) (pc' := 21) (by decide +kernel) (by decide) rfl (fun c5 => ?_) (fun c5 => ?_)
  · have h := zok_t c5 h
    refine Gz.iconst (n := -1) (v := (-1 : Int32)) (pc' := 34) (by decide +kernel) rfl rfl ?_
    exact Gz.ireturn (by decide +kernel) rfl (zok_sI h)
  · have h := zok_f c5 h
    refine Gz.iload_n (q := 2) (pc' := 22) (by decide +kernel) rfl 2 rfl ?_
    refine Gz.i2l (pc' := 23) (by decide +kernel) rfl ?_
    refine Gz.lconst (n := 0) (v := (0 : Int64)) (pc' := 24) (by decide +kernel) rfl rfl ?_
    refine Gz.ldc2 (idx := 249) (v := (3 : Int64)) (pc' := 27) (by decide +kernel) rfl kc_M_249 ?_
    refine Gz.callSI (st := []) (pc' := 30) [.long (a2.toInt64), .long (0 : Int64), .long (3 : Int64)] (g_M_isIn (a2.toInt64) (0 : Int64) (3 : Int64) w4) h ok_m_M_isIn lk_M_137 rfl (Nat.le_of_ble_eq_true rfl) (Nat.le_of_ble_eq_true rfl) (Nat.le_of_ble_eq_true rfl) (by decide +kernel) rfl (fun v6 w7 h => ?_)
    refine Gz.if_ne (off := 5) (tgt := 35) (pc' := 33) (by decide +kernel) (by decide) rfl (fun c8 => ?_) (fun c8 => ?_)
    · have h := zok_f c8 h
      refine Gz.iload_n (q := 2) (pc' := 36) (by decide +kernel) rfl 2 rfl ?_
      refine Gz.if_ne (off := 12) (tgt := 48) (pc' := 39) (by decide +kernel) (by decide) rfl (fun c9 => ?_) (fun c9 => ?_)
      · have h := zok_f c9 h
        refine Gz.iload_n (q := 2) (pc' := 49) (by decide +kernel) rfl 2 rfl ?_
        refine Gz.iconst (n := 1) (v := (1 : Int32)) (pc' := 50) (by decide +kernel) rfl rfl ?_
        refine Gz.icmp_ne (off := 12) (tgt := 62) (pc' := 53) (by decide +kernel) (by decide) rfl (fun c10 => ?_) (fun c10 => ?_)
        · have h := zok_f c10 h
          refine Gz.iload_n (q := 2) (pc' := 63) (by decide +kernel) rfl 2 rfl ?_
          refine Gz.iconst (n := 2) (v := (2 : Int32)) (pc' := 64) (by decide +kernel) rfl rfl ?_
          refine Gz.icmp_ne (off := 12) (tgt := 76) (pc' := 67) (by decide +kernel) (by decide) rfl (fun c11 => ?_) (fun c11 => ?_)
          · have h := zok_f c11 h
            refine Gz.aload_n (q := 0) (pc' := 77) (by decide +kernel) rfl 0 rfl ?_
            refine Gz.getR (pc' := 80) (j := 30) 122 fd_M_56 sh_107 rfl (by decide +kernel) rfl ?_
            refine Gz.iload_n (q := 1) (pc' := 81) (by decide +kernel) rfl 1 rfl ?_
            obtain ⟨c12, h⟩ := zok_c h
            refine Gz.iald (pc' := 82) (n := 10) (by decide +kernel) rfl rfl c12 ?_
            exact Gz.ireturn (by decide +kernel) rfl (zok_sI h)
          · have h := zok_t c11 h
            refine Gz.aload_n (q := 0) (pc' := 68) (by decide +kernel) rfl 0 rfl ?_
            refine Gz.getR (pc' := 71) (j := 29) 121 fd_M_53 sh_107 rfl (by decide +kernel) rfl ?_
            refine Gz.iload_n (q := 1) (pc' := 72) (by decide +kernel) rfl 1 rfl ?_
            obtain ⟨c13, h⟩ := zok_c h
            refine Gz.iald (pc' := 73) (n := 10) (by decide +kernel) rfl rfl c13 ?_
            refine Gz.goto (off := 9) (tgt := 82) (by decide +kernel) (by decide) ?_
            exact Gz.ireturn (by decide +kernel) rfl (zok_sI h)
        · have h := zok_t c10 h
          refine Gz.aload_n (q := 0) (pc' := 54) (by decide +kernel) rfl 0 rfl ?_
          refine Gz.getR (pc' := 57) (j := 28) 120 fd_M_50 sh_107 rfl (by decide +kernel) rfl ?_
          refine Gz.iload_n (q := 1) (pc' := 58) (by decide +kernel) rfl 1 rfl ?_
          obtain ⟨c14, h⟩ := zok_c h
          refine Gz.iald (pc' := 59) (n := 10) (by decide +kernel) rfl rfl c14 ?_
          refine Gz.goto (off := 23) (tgt := 82) (by decide +kernel) (by decide) ?_
          exact Gz.ireturn (by decide +kernel) rfl (zok_sI h)
      · have h := zok_t c9 h
        refine Gz.aload_n (q := 0) (pc' := 40) (by decide +kernel) rfl 0 rfl ?_
        refine Gz.getR (pc' := 43) (j := 27) 119 fd_M_47 sh_107 rfl (by decide +kernel) rfl ?_
        refine Gz.iload_n (q := 1) (pc' := 44) (by decide +kernel) rfl 1 rfl ?_
        obtain ⟨c15, h⟩ := zok_c h
        refine Gz.iald (pc' := 45) (n := 10) (by decide +kernel) rfl rfl c15 ?_
        refine Gz.goto (off := 37) (tgt := 82) (by decide +kernel) (by decide) ?_
        exact Gz.ireturn (by decide +kernel) rfl (zok_sI h)
    · have h := zok_t c8 h
      refine Gz.iconst (n := -1) (v := (-1 : Int32)) (pc' := 34) (by decide +kernel) rfl rfl ?_
      exact Gz.ireturn (by decide +kernel) rfl (zok_sI h)
def f_M_isFactDay_b22 (w : gW) : Option (Int32 × gW) :=
some ((1 : Int32), w)
def f_M_isFactDay (a1 : Int32) (w : gW) : Option (Int32 × gW) :=
zb (f_M_isIn (a1.toInt64) (0 : Int64) (((w.1 107 22) - (1 : Int32)).toInt64) w) (fun v1 w2 =>
if v1 = 0 then
(if a1 = (9 : Int32) then
(f_M_isFactDay_b22 w2)
else
(some ((0 : Int32), w2)))
else
(f_M_isFactDay_b22 w2))
theorem g_M_isFactDay_b22 {l : Launch} {Q : Option Value → gW → Prop} (w : gW) (h : zok eI (f_M_isFactDay_b22 w) Q) : Gz l m_M_isFactDay 2 22 [] [] w Q := by
  unfold f_M_isFactDay_b22 at h
  refine Gz.iconst (n := 1) (v := (1 : Int32)) (pc' := 23) (by decide +kernel) rfl rfl ?_
  refine Gz.goto (off := 4) (tgt := 27) (by decide +kernel) (by decide) ?_
  exact Gz.zreturn (by decide +kernel) rfl (by decide) (zok_sI h)
theorem g_M_isFactDay {l : Launch} (a1 : Int32) (w : gW) : gCt l m_M_isFactDay 2 [.ref 107, .int a1] w eI (f_M_isFactDay a1 w) := by
  intro Q h
  unfold f_M_isFactDay at h
  show Gz l m_M_isFactDay 2 0 [(0, .ref 107), (1, .int a1)] [] w Q
  refine Gz.iload_n (q := 1) (pc' := 1) (by decide +kernel) rfl 1 rfl ?_
  refine Gz.i2l (pc' := 2) (by decide +kernel) rfl ?_
  refine Gz.lconst (n := 0) (v := (0 : Int64)) (pc' := 3) (by decide +kernel) rfl rfl ?_
  refine Gz.aload_n (q := 0) (pc' := 4) (by decide +kernel) rfl 0 rfl ?_
  refine Gz.getI (pc' := 7) (j := 22) fd_M_208 sh_107 rfl (by decide +kernel) rfl ?_
  refine Gz.iconst (n := 1) (v := (1 : Int32)) (pc' := 8) (by decide +kernel) rfl rfl ?_
  refine Gz.isub (pc' := 9) (by decide +kernel) rfl ?_
  refine Gz.i2l (pc' := 10) (by decide +kernel) rfl ?_
  refine Gz.callSI (st := []) (pc' := 13) [.long (a1.toInt64), .long (0 : Int64), .long (((w.1 107 22) - (1 : Int32)).toInt64)] (g_M_isIn (a1.toInt64) (0 : Int64) (((w.1 107 22) - (1 : Int32)).toInt64) w) h ok_m_M_isIn lk_M_137 rfl (Nat.le_of_ble_eq_true rfl) (Nat.le_of_ble_eq_true rfl) (Nat.le_of_ble_eq_true rfl) (by decide +kernel) rfl (fun v1 w2 h => ?_)
  refine Gz.if_ne (off := 9) (tgt := 22) (pc' := 16) (by decide +kernel) (by decide) rfl (fun c3 => ?_) (fun c3 => ?_)
  · have h := zok_f c3 h
    refine Gz.sub (L' := []) [] rfl ?_
    exact g_M_isFactDay_b22 w2 h
  · have h := zok_t c3 h
    refine Gz.iload_n (q := 1) (pc' := 17) (by decide +kernel) rfl 1 rfl ?_
    refine Gz.bipush (n := 9) (v := (9 : Int32)) (pc' := 19) (by decide +kernel) rfl rfl ?_
    refine Gz.icmp_ne (off := 7) (tgt := 26) (pc' := 22) (by decide +kernel) (by decide) rfl (fun c4 => ?_) (fun c4 => ?_)
    · have h := zok_f c4 h
      refine Gz.iconst (n := 0) (v := (0 : Int32)) (pc' := 27) (by decide +kernel) rfl rfl ?_
      exact Gz.zreturn (by decide +kernel) rfl (by decide) (zok_sI h)
    · have h := zok_t c4 h
      refine Gz.sub (L' := []) [] rfl ?_
      exact g_M_isFactDay_b22 w2 h
def f_M_fact (a1 : Int32) (a2 : Int32) (a3 : Int32) (w : gW) : Option (Int32 × gW) :=
zl (zsI w 107 0 (0 : Int32)) (fun w1 =>
if (w1.1 107 36) = (20 : Int32) then
(some ((-1 : Int32), w1))
else
(zb (f_M_isDeed a1 w1) (fun v4 w5 =>
if v4 = 0 then
(some ((-1 : Int32), w5))
else
(zb (f_M_isFactDay a2 w5) (fun v7 w8 =>
if v7 = 0 then
(some ((-1 : Int32), w8))
else
(if inb (w8.1 107 36) 20 then
zl (zsI w8 123 (ix (w8.1 107 36)) a1) (fun w11 =>
if inb (w11.1 107 36) 20 then
zl (zsI w11 124 (ix (w11.1 107 36)) a2) (fun w14 =>
if inb (w14.1 107 36) 20 then
zl (zsI w14 125 (ix (w14.1 107 36)) (a3 &&& 1)) (fun w17 =>
zl (zsI w17 107 36 ((w17.1 107 36) + (1 : Int32))) (fun w19 =>
if inb (w19.1 107 37) 30 then
zl (zsI w19 126 (ix (w19.1 107 37)) ((0 : Int32) &&& 1)) (fun w22 =>
zl (zsI w22 107 37 ((w22.1 107 37) + (1 : Int32))) (fun w24 =>
some (w24.1 107 36, w24)))
else none))
else none)
else none)
else none))))))
theorem g_M_fact {l : Launch} (a1 : Int32) (a2 : Int32) (a3 : Int32) (w : gW) : gCt l m_M_fact 3 [.ref 107, .int a1, .int a2, .int a3] w eI (f_M_fact a1 a2 a3 w) := by
  intro Q h
  unfold f_M_fact at h
  show Gz l m_M_fact 3 0 [(0, .ref 107), (1, .int a1), (2, .int a2), (3, .int a3)] [] w Q
  refine Gz.aload_n (q := 0) (pc' := 1) (by decide +kernel) rfl 0 rfl ?_
  refine Gz.iconst (n := 0) (v := (0 : Int32)) (pc' := 2) (by decide +kernel) rfl rfl ?_
  refine Gz.putI (pc' := 5) (j := 0) fd_M_96 sh_107 rfl (by decide +kernel) rfl ?_
  refine Gz.nmW (fun w1 e2 => ?_)
  have h := zok_l e2 h
  refine Gz.aload_n (q := 0) (pc' := 6) (by decide +kernel) rfl 0 rfl ?_
  refine Gz.getI (pc' := 9) (j := 36) fd_M_214 sh_107 rfl (by decide +kernel) rfl ?_
  refine Gz.bipush (n := 20) (v := (20 : Int32)) (pc' := 11) (by decide +kernel) rfl rfl ?_
  refine Gz.icmp_eq (off := 19) (tgt := 30) (pc' := 14) (by decide +kernel) (by decide) rfl (fun c3 => ?_) (fun c3 => ?_)
  · have h := zok_t c3 h
    refine Gz.iconst (n := -1) (v := (-1 : Int32)) (pc' := 31) (by decide +kernel) rfl rfl ?_
    exact Gz.ireturn (by decide +kernel) rfl (zok_sI h)
  · have h := zok_f c3 h
    refine Gz.aload_n (q := 0) (pc' := 15) (by decide +kernel) rfl 0 rfl ?_
    refine Gz.iload_n (q := 1) (pc' := 16) (by decide +kernel) rfl 1 rfl ?_
    refine Gz.callVI (st := []) (b := 107) (pc' := 19) [.int a1] (g_M_isDeed a1 w1) h ok_m_M_isDeed lk_M_234 sh_107 rfl rfl rfl (Nat.le_of_ble_eq_true rfl) (Nat.le_of_ble_eq_true rfl) (Nat.le_of_ble_eq_true rfl) (by decide +kernel) rfl (fun v4 w5 h => ?_)
    refine Gz.if_eq (off := 11) (tgt := 30) (pc' := 22) (by decide +kernel) (by decide) rfl (fun c6 => ?_) (fun c6 => ?_)
    · have h := zok_t c6 h
      refine Gz.iconst (n := -1) (v := (-1 : Int32)) (pc' := 31) (by decide +kernel) rfl rfl ?_
      exact Gz.ireturn (by decide +kernel) rfl (zok_sI h)
    · have h := zok_f c6 h
      refine Gz.aload_n (q := 0) (pc' := 23) (by decide +kernel) rfl 0 rfl ?_
      refine Gz.iload_n (q := 2) (pc' := 24) (by decide +kernel) rfl 2 rfl ?_
      refine Gz.callVI (st := []) (b := 107) (pc' := 27) [.int a2] (g_M_isFactDay a2 w5) h ok_m_M_isFactDay lk_M_251 sh_107 rfl rfl rfl (Nat.le_of_ble_eq_true rfl) (Nat.le_of_ble_eq_true rfl) (Nat.le_of_ble_eq_true rfl) (by decide +kernel) rfl (fun v7 w8 h => ?_)
      refine Gz.if_ne (off := 5) (tgt := 32) (pc' := 30) (by decide +kernel) (by decide) rfl (fun c9 => ?_) (fun c9 => ?_)
      · have h := zok_f c9 h
        refine Gz.aload_n (q := 0) (pc' := 33) (by decide +kernel) rfl 0 rfl ?_
        refine Gz.getR (pc' := 36) (j := 31) 123 fd_M_59 sh_107 rfl (by decide +kernel) rfl ?_
        refine Gz.aload_n (q := 0) (pc' := 37) (by decide +kernel) rfl 0 rfl ?_
        refine Gz.getI (pc' := 40) (j := 36) fd_M_214 sh_107 rfl (by decide +kernel) rfl ?_
        refine Gz.iload_n (q := 1) (pc' := 41) (by decide +kernel) rfl 1 rfl ?_
        obtain ⟨c10, h⟩ := zok_c h
        refine Gz.iast (pc' := 42) (n := 20) (by decide +kernel) rfl rfl c10 ?_
        refine Gz.nmW (fun w11 e12 => ?_)
        have h := zok_l e12 h
        refine Gz.aload_n (q := 0) (pc' := 43) (by decide +kernel) rfl 0 rfl ?_
        refine Gz.getR (pc' := 46) (j := 32) 124 fd_M_62 sh_107 rfl (by decide +kernel) rfl ?_
        refine Gz.aload_n (q := 0) (pc' := 47) (by decide +kernel) rfl 0 rfl ?_
        refine Gz.getI (pc' := 50) (j := 36) fd_M_214 sh_107 rfl (by decide +kernel) rfl ?_
        refine Gz.iload_n (q := 2) (pc' := 51) (by decide +kernel) rfl 2 rfl ?_
        obtain ⟨c13, h⟩ := zok_c h
        refine Gz.iast (pc' := 52) (n := 20) (by decide +kernel) rfl rfl c13 ?_
        refine Gz.nmW (fun w14 e15 => ?_)
        have h := zok_l e15 h
        refine Gz.aload_n (q := 0) (pc' := 53) (by decide +kernel) rfl 0 rfl ?_
        refine Gz.getR (pc' := 56) (j := 33) 125 fd_M_65 sh_107 rfl (by decide +kernel) rfl ?_
        refine Gz.aload_n (q := 0) (pc' := 57) (by decide +kernel) rfl 0 rfl ?_
        refine Gz.getI (pc' := 60) (j := 36) fd_M_214 sh_107 rfl (by decide +kernel) rfl ?_
        refine Gz.iload_n (q := 3) (pc' := 61) (by decide +kernel) rfl 3 rfl ?_
        obtain ⟨c16, h⟩ := zok_c h
        refine Gz.zast (pc' := 62) (n := 20) (by decide +kernel) rfl rfl c16 ?_
        refine Gz.nmW (fun w17 e18 => ?_)
        have h := zok_l e18 h
        refine Gz.aload_n (q := 0) (pc' := 63) (by decide +kernel) rfl 0 rfl ?_
        refine Gz.dup (pc' := 64) (by decide +kernel) rfl rfl ?_
        refine Gz.getI (pc' := 67) (j := 36) fd_M_214 sh_107 rfl (by decide +kernel) rfl ?_
        refine Gz.iconst (n := 1) (v := (1 : Int32)) (pc' := 68) (by decide +kernel) rfl rfl ?_
        refine Gz.iadd (pc' := 69) (by decide +kernel) rfl ?_
        refine Gz.putI (pc' := 72) (j := 36) fd_M_214 sh_107 rfl (by decide +kernel) rfl ?_
        refine Gz.nmW (fun w19 e20 => ?_)
        have h := zok_l e20 h
        refine Gz.aload_n (q := 0) (pc' := 73) (by decide +kernel) rfl 0 rfl ?_
        refine Gz.getR (pc' := 76) (j := 34) 126 fd_M_69 sh_107 rfl (by decide +kernel) rfl ?_
        refine Gz.aload_n (q := 0) (pc' := 77) (by decide +kernel) rfl 0 rfl ?_
        refine Gz.getI (pc' := 80) (j := 37) fd_M_217 sh_107 rfl (by decide +kernel) rfl ?_
        refine Gz.iconst (n := 0) (v := (0 : Int32)) (pc' := 81) (by decide +kernel) rfl rfl ?_
        obtain ⟨c21, h⟩ := zok_c h
        refine Gz.zast (pc' := 82) (n := 30) (by decide +kernel) rfl rfl c21 ?_
        refine Gz.nmW (fun w22 e23 => ?_)
        have h := zok_l e23 h
        refine Gz.aload_n (q := 0) (pc' := 83) (by decide +kernel) rfl 0 rfl ?_
        refine Gz.dup (pc' := 84) (by decide +kernel) rfl rfl ?_
        refine Gz.getI (pc' := 87) (j := 37) fd_M_217 sh_107 rfl (by decide +kernel) rfl ?_
        refine Gz.iconst (n := 1) (v := (1 : Int32)) (pc' := 88) (by decide +kernel) rfl rfl ?_
        refine Gz.iadd (pc' := 89) (by decide +kernel) rfl ?_
        refine Gz.putI (pc' := 92) (j := 37) fd_M_217 sh_107 rfl (by decide +kernel) rfl ?_
        refine Gz.nmW (fun w24 e25 => ?_)
        have h := zok_l e25 h
        refine Gz.aload_n (q := 0) (pc' := 93) (by decide +kernel) rfl 0 rfl ?_
        refine Gz.getI (pc' := 96) (j := 36) fd_M_214 sh_107 rfl (by decide +kernel) rfl ?_
        exact Gz.ireturn (by decide +kernel) rfl (zok_sI h)
      · have h := zok_t c9 h
        refine Gz.iconst (n := -1) (v := (-1 : Int32)) (pc' := 31) (by decide +kernel) rfl rfl ?_
        exact Gz.ireturn (by decide +kernel) rfl (zok_sI h)
def f_M_undo_b59 (w : gW) : Option (Int32 × gW) :=
some (w.1 107 37, w)
def f_M_undo (w : gW) : Option (Int32 × gW) :=
zl (zsI w 107 0 (0 : Int32)) (fun w1 =>
if (w1.1 107 37) = 0 then
(some ((-1 : Int32), w1))
else
(zl (zsI w1 107 37 ((w1.1 107 37) - (1 : Int32))) (fun w4 =>
if inb (w4.1 107 37) 30 then
if (w4.1 126 (ix (w4.1 107 37))) = 0 then
(zl (zsI w4 107 36 ((w4.1 107 36) - (1 : Int32))) (fun w8 =>
f_M_undo_b59 w8))
else
(zl (zsI w4 107 35 ((w4.1 107 35) - (1 : Int32))) (fun w10 =>
f_M_undo_b59 w10))
else none)))
theorem g_M_undo_b59 {l : Launch} {Q : Option Value → gW → Prop} (w : gW) (h : zok eI (f_M_undo_b59 w) Q) : Gz l m_M_undo 1 59 [(0, .ref 107)] [] w Q := by
  unfold f_M_undo_b59 at h
  refine Gz.aload_n (q := 0) (pc' := 60) (by decide +kernel) rfl 0 rfl ?_
  refine Gz.getI (pc' := 63) (j := 37) fd_M_217 sh_107 rfl (by decide +kernel) rfl ?_
  exact Gz.ireturn (by decide +kernel) rfl (zok_sI h)
theorem g_M_undo {l : Launch} (w : gW) : gCt l m_M_undo 1 [.ref 107] w eI (f_M_undo w) := by
  intro Q h
  unfold f_M_undo at h
  show Gz l m_M_undo 1 0 [(0, .ref 107)] [] w Q
  refine Gz.aload_n (q := 0) (pc' := 1) (by decide +kernel) rfl 0 rfl ?_
  refine Gz.iconst (n := 0) (v := (0 : Int32)) (pc' := 2) (by decide +kernel) rfl rfl ?_
  refine Gz.putI (pc' := 5) (j := 0) fd_M_96 sh_107 rfl (by decide +kernel) rfl ?_
  refine Gz.nmW (fun w1 e2 => ?_)
  have h := zok_l e2 h
  refine Gz.aload_n (q := 0) (pc' := 6) (by decide +kernel) rfl 0 rfl ?_
  refine Gz.getI (pc' := 9) (j := 37) fd_M_217 sh_107 rfl (by decide +kernel) rfl ?_
  refine Gz.if_ne (off := 5) (tgt := 14) (pc' := 12) (by decide +kernel) (by decide) rfl (fun c3 => ?_) (fun c3 => ?_)
  · have h := zok_f c3 h
    refine Gz.aload_n (q := 0) (pc' := 15) (by decide +kernel) rfl 0 rfl ?_
    refine Gz.dup (pc' := 16) (by decide +kernel) rfl rfl ?_
    refine Gz.getI (pc' := 19) (j := 37) fd_M_217 sh_107 rfl (by decide +kernel) rfl ?_
    refine Gz.iconst (n := 1) (v := (1 : Int32)) (pc' := 20) (by decide +kernel) rfl rfl ?_
    refine Gz.isub (pc' := 21) (by decide +kernel) rfl ?_
    refine Gz.putI (pc' := 24) (j := 37) fd_M_217 sh_107 rfl (by decide +kernel) rfl ?_
    refine Gz.nmW (fun w4 e5 => ?_)
    have h := zok_l e5 h
    refine Gz.aload_n (q := 0) (pc' := 25) (by decide +kernel) rfl 0 rfl ?_
    refine Gz.getR (pc' := 28) (j := 34) 126 fd_M_69 sh_107 rfl (by decide +kernel) rfl ?_
    refine Gz.aload_n (q := 0) (pc' := 29) (by decide +kernel) rfl 0 rfl ?_
    refine Gz.getI (pc' := 32) (j := 37) fd_M_217 sh_107 rfl (by decide +kernel) rfl ?_
    obtain ⟨c6, h⟩ := zok_c h
    refine Gz.zald (pc' := 33) (n := 30) (by decide +kernel) rfl rfl c6 ?_
    refine Gz.if_eq (off := 16) (tgt := 49) (pc' := 36) (by decide +kernel) (by decide) rfl (fun c7 => ?_) (fun c7 => ?_)
    · have h := zok_t c7 h
      refine Gz.aload_n (q := 0) (pc' := 50) (by decide +kernel) rfl 0 rfl ?_
      refine Gz.dup (pc' := 51) (by decide +kernel) rfl rfl ?_
      refine Gz.getI (pc' := 54) (j := 36) fd_M_214 sh_107 rfl (by decide +kernel) rfl ?_
      refine Gz.iconst (n := 1) (v := (1 : Int32)) (pc' := 55) (by decide +kernel) rfl rfl ?_
      refine Gz.isub (pc' := 56) (by decide +kernel) rfl ?_
      refine Gz.putI (pc' := 59) (j := 36) fd_M_214 sh_107 rfl (by decide +kernel) rfl ?_
      refine Gz.nmW (fun w8 e9 => ?_)
      have h := zok_l e9 h
      exact g_M_undo_b59 w8 h
    · have h := zok_f c7 h
      refine Gz.aload_n (q := 0) (pc' := 37) (by decide +kernel) rfl 0 rfl ?_
      refine Gz.dup (pc' := 38) (by decide +kernel) rfl rfl ?_
      refine Gz.getI (pc' := 41) (j := 35) fd_M_211 sh_107 rfl (by decide +kernel) rfl ?_
      refine Gz.iconst (n := 1) (v := (1 : Int32)) (pc' := 42) (by decide +kernel) rfl rfl ?_
      refine Gz.isub (pc' := 43) (by decide +kernel) rfl ?_
      refine Gz.putI (pc' := 46) (j := 35) fd_M_211 sh_107 rfl (by decide +kernel) rfl ?_
      refine Gz.nmW (fun w10 e11 => ?_)
      have h := zok_l e11 h
      refine Gz.goto (off := 13) (tgt := 59) (by decide +kernel) (by decide) ?_
      exact g_M_undo_b59 w10 h
  · have h := zok_t c3 h
    refine Gz.iconst (n := -1) (v := (-1 : Int32)) (pc' := 13) (by decide +kernel) rfl rfl ?_
    exact Gz.ireturn (by decide +kernel) rfl (zok_sI h)
def f_M_live_b9_s (k9 : Int32 → Int32 → gW → Option (Unit × gW)) (x2 : Int32) (x3 : Int32) (w : gW) : Option (Unit × gW) :=
if x3 < 0 then
(some ((), w))
else
(if inb x3 5 then
zl (zsI w 111 (ix x3) (x2 - x2 / (10 : Int32) * (10 : Int32))) (fun w3 =>
zl (x2 / (10 : Int32)) (fun v5 =>
zl (x3 + (-1 : Int32)) (fun v7 =>
k9 v5 v7 w3)))
else none)
def f_M_live_b9 : Int32 → Int32 → gW → Option (Unit × gW) := zfx (fun _ _ _ => none) (f_M_live_b9_s) zFU
def f_M_live (a1 : Int32) (w : gW) : Option (Unit × gW) :=
zl ((w.1 107 21) - (1 : Int32)) (fun v1 =>
f_M_live_b9 a1 v1 w)
theorem g_M_live_b9_s {l : Launch} {Q : Option Value → gW → Prop} (k9 : Int32 → Int32 → gW → Option (Unit × gW)) (hk9 : ∀ (x2 : Int32) (x3 : Int32) (w : gW), zok eV (k9 x2 x3 w) Q → Gz l m_M_live 1 9 [(0, .ref 107), (2, .int x2), (3, .int x3)] [] w Q) (x2 : Int32) (x3 : Int32) (w : gW) (h : zok eV (f_M_live_b9_s k9 x2 x3 w) Q) : Gz l m_M_live 1 9 [(0, .ref 107), (2, .int x2), (3, .int x3)] [] w Q := by
  unfold f_M_live_b9_s at h
  refine Gz.iload_n (q := 3) (pc' := 10) (by decide +kernel) rfl 2 rfl ?_
  refine Gz.if_lt (off := 24) (tgt := 34) (pc' := 13) (by decide +kernel) (by decide) rfl (fun c1 => ?_) (fun c1 => ?_)
  · have h := zok_t c1 h
    exact Gz.return_ (by decide +kernel) rfl (zok_sV h)
  · have h := zok_f c1 h
    refine Gz.aload_n (q := 0) (pc' := 14) (by decide +kernel) rfl 0 rfl ?_
    refine Gz.getR (pc' := 17) (j := 12) 111 fd_M_23 sh_107 rfl (by decide +kernel) rfl ?_
    refine Gz.iload_n (q := 3) (pc' := 18) (by decide +kernel) rfl 2 rfl ?_
    refine Gz.iload_n (q := 2) (pc' := 19) (by decide +kernel) rfl 1 rfl ?_
    refine Gz.bipush (n := 10) (v := (10 : Int32)) (pc' := 21) (by decide +kernel) rfl rfl ?_
    refine Gz.irem (pc' := 22) (by decide +kernel) rfl (by decide) ?_
    obtain ⟨c2, h⟩ := zok_c h
    refine Gz.iast (pc' := 23) (n := 5) (by decide +kernel) rfl rfl c2 ?_
    refine Gz.nmW (fun w3 e4 => ?_)
    have h := zok_l e4 h
    refine Gz.iload_n (q := 2) (pc' := 24) (by decide +kernel) rfl 1 rfl ?_
    refine Gz.bipush (n := 10) (v := (10 : Int32)) (pc' := 26) (by decide +kernel) rfl rfl ?_
    refine Gz.idiv (pc' := 27) (by decide +kernel) rfl (by decide) ?_
    refine Gz.nmI (fun v5 e6 => ?_)
    have h := zok_l e6 h
    refine Gz.istore_n (q := 2) (pc' := 28) (L' := [(2, .int v5), (0, .ref 107), (3, .int x3)]) (by decide +kernel) rfl (Nat.le_of_ble_eq_true rfl) rfl ?_
    obtain ⟨v7, e8⟩ : ∃ y : Int32, y = x3 + (-1 : Int32) := ⟨_, rfl⟩
    have h := zok_l e8 h
    refine Gz.iinc (i := 3) (n := -1) (pc' := 31) (L' := [(3, .int v7), (2, .int v5), (0, .ref 107)]) v7 (by decide +kernel) rfl 2 rfl (by rw [e8]; rfl) (Nat.le_of_ble_eq_true rfl) rfl ?_
    refine Gz.goto (off := -22) (tgt := 9) (by decide +kernel) (by decide) ?_
    refine Gz.sub (L' := [(0, .ref 107), (2, .int v5), (3, .int v7)]) [2, 1, 0] rfl ?_
    exact hk9 v5 v7 w3 h
theorem g_M_live_b9 {l : Launch} {Q : Option Value → gW → Prop} (x2 : Int32) (x3 : Int32) (w : gW) (h : zok eV (f_M_live_b9 x2 x3 w) Q) : Gz l m_M_live 1 9 [(0, .ref 107), (2, .int x2), (3, .int x3)] [] w Q := by
  have key : ∀ (n : Nat) (x2 : Int32) (x3 : Int32) (w : gW), zok eV (zfx (fun _ _ _ => none) (f_M_live_b9_s) n x2 x3 w) Q → Gz l m_M_live 1 9 [(0, .ref 107), (2, .int x2), (3, .int x3)] [] w Q := by
    intro n
    induction n with
    | zero => intro x2 x3 w h; exact zok_n h
    | succ n ih => intro x2 x3 w h; exact g_M_live_b9_s _ ih x2 x3 w h
  exact key zFU x2 x3 w h
theorem g_M_live {l : Launch} (a1 : Int32) (w : gW) : gCt l m_M_live 1 [.ref 107, .int a1] w eV (f_M_live a1 w) := by
  intro Q h
  unfold f_M_live at h
  show Gz l m_M_live 1 0 [(0, .ref 107), (1, .int a1)] [] w Q
  refine Gz.iload_n (q := 1) (pc' := 1) (by decide +kernel) rfl 1 rfl ?_
  refine Gz.istore_n (q := 2) (pc' := 2) (L' := [(2, .int a1), (0, .ref 107), (1, .int a1)]) (by decide +kernel) rfl (Nat.le_of_ble_eq_true rfl) rfl ?_
  refine Gz.aload_n (q := 0) (pc' := 3) (by decide +kernel) rfl 1 rfl ?_
  refine Gz.getI (pc' := 6) (j := 21) fd_M_141 sh_107 rfl (by decide +kernel) rfl ?_
  refine Gz.iconst (n := 1) (v := (1 : Int32)) (pc' := 7) (by decide +kernel) rfl rfl ?_
  refine Gz.isub (pc' := 8) (by decide +kernel) rfl ?_
  refine Gz.nmI (fun v1 e2 => ?_)
  have h := zok_l e2 h
  refine Gz.istore_n (q := 3) (pc' := 9) (L' := [(3, .int v1), (2, .int a1), (0, .ref 107), (1, .int a1)]) (by decide +kernel) rfl (Nat.le_of_ble_eq_true rfl) rfl ?_
  refine Gz.sub (L' := [(0, .ref 107), (2, .int a1), (3, .int v1)]) [2, 1, 0] rfl ?_
  exact g_M_live_b9 a1 v1 w h
def f_M_isPossible_b35 (k2 : Int32 → gW → Option (Int32 × gW)) (x1 : Int32) (s0 : Int32) (w : gW) : Option (Int32 × gW) :=
if inb x1 20 then
if s0 = (w.1 125 (ix x1)) then
(zl (x1 + (1 : Int32)) (fun v3 =>
k2 v3 w))
else
(some ((0 : Int32), w))
else none
def f_M_isPossible_b2_s (k2 : Int32 → gW → Option (Int32 × gW)) (x1 : Int32) (w : gW) : Option (Int32 × gW) :=
if (w.1 107 36) ≤ x1 then
(some ((1 : Int32), w))
else
(if inb x1 20 then
if inb (w.1 123 (ix x1)) 5 then
if inb x1 20 then
if (w.1 111 (ix (w.1 123 (ix x1)))) = (w.1 124 (ix x1)) then
(f_M_isPossible_b35 k2 x1 (1 : Int32) w)
else
(f_M_isPossible_b35 k2 x1 (0 : Int32) w)
else none
else none
else none)
def f_M_isPossible_b2 : Int32 → gW → Option (Int32 × gW) := zfx (fun _ _ => none) (f_M_isPossible_b2_s) zFU
def f_M_isPossible (w : gW) : Option (Int32 × gW) :=
f_M_isPossible_b2 (0 : Int32) w
theorem g_M_isPossible_b35 {l : Launch} {Q : Option Value → gW → Prop} (k2 : Int32 → gW → Option (Int32 × gW)) (hk2 : ∀ (x1 : Int32) (w : gW), zok eI (k2 x1 w) Q → Gz l m_M_isPossible 1 2 [(0, .ref 107), (1, .int x1)] [] w Q) (x1 : Int32) (s0 : Int32) (w : gW) (h : zok eI (f_M_isPossible_b35 k2 x1 s0 w) Q) : Gz l m_M_isPossible 1 35 [(0, .ref 107), (1, .int x1)] [.int s0] w Q := by
  unfold f_M_isPossible_b35 at h
  refine Gz.aload_n (q := 0) (pc' := 36) (by decide +kernel) rfl 0 rfl ?_
  refine Gz.getR (pc' := 39) (j := 33) 125 fd_M_65 sh_107 rfl (by decide +kernel) rfl ?_
  refine Gz.iload_n (q := 1) (pc' := 40) (by decide +kernel) rfl 1 rfl ?_
  obtain ⟨c1, h⟩ := zok_c h
  refine Gz.zald (pc' := 41) (n := 20) (by decide +kernel) rfl rfl c1 ?_
  refine Gz.icmp_eq (off := 5) (tgt := 46) (pc' := 44) (by decide +kernel) (by decide) rfl (fun c2 => ?_) (fun c2 => ?_)
  · have h := zok_t c2 h
    obtain ⟨v3, e4⟩ : ∃ y : Int32, y = x1 + (1 : Int32) := ⟨_, rfl⟩
    have h := zok_l e4 h
    refine Gz.iinc (i := 1) (n := 1) (pc' := 49) (L' := [(1, .int v3), (0, .ref 107)]) v3 (by decide +kernel) rfl 1 rfl (by rw [e4]; rfl) (Nat.le_of_ble_eq_true rfl) rfl ?_
    refine Gz.goto (off := -47) (tgt := 2) (by decide +kernel) (by decide) ?_
    refine Gz.sub (L' := [(0, .ref 107), (1, .int v3)]) [1, 0] rfl ?_
    exact hk2 v3 w h
  · have h := zok_f c2 h
    refine Gz.iconst (n := 0) (v := (0 : Int32)) (pc' := 45) (by decide +kernel) rfl rfl ?_
    exact Gz.zreturn (by decide +kernel) rfl (by decide) (zok_sI h)
theorem g_M_isPossible_b2_s {l : Launch} {Q : Option Value → gW → Prop} (k2 : Int32 → gW → Option (Int32 × gW)) (hk2 : ∀ (x1 : Int32) (w : gW), zok eI (k2 x1 w) Q → Gz l m_M_isPossible 1 2 [(0, .ref 107), (1, .int x1)] [] w Q) (x1 : Int32) (w : gW) (h : zok eI (f_M_isPossible_b2_s k2 x1 w) Q) : Gz l m_M_isPossible 1 2 [(0, .ref 107), (1, .int x1)] [] w Q := by
  unfold f_M_isPossible_b2_s at h
  refine Gz.iload_n (q := 1) (pc' := 3) (by decide +kernel) rfl 1 rfl ?_
  refine Gz.aload_n (q := 0) (pc' := 4) (by decide +kernel) rfl 0 rfl ?_
  refine Gz.getI (pc' := 7) (j := 36) fd_M_214 sh_107 rfl (by decide +kernel) rfl ?_
  refine Gz.icmp_ge (off := 45) (tgt := 52) (pc' := 10) (by decide +kernel) (by decide) rfl (fun c1 => ?_) (fun c1 => ?_)
  · have h := zok_t c1 h
    refine Gz.iconst (n := 1) (v := (1 : Int32)) (pc' := 53) (by decide +kernel) rfl rfl ?_
    exact Gz.zreturn (by decide +kernel) rfl (by decide) (zok_sI h)
  · have h := zok_f c1 h
    refine Gz.aload_n (q := 0) (pc' := 11) (by decide +kernel) rfl 0 rfl ?_
    refine Gz.getR (pc' := 14) (j := 12) 111 fd_M_23 sh_107 rfl (by decide +kernel) rfl ?_
    refine Gz.aload_n (q := 0) (pc' := 15) (by decide +kernel) rfl 0 rfl ?_
    refine Gz.getR (pc' := 18) (j := 31) 123 fd_M_59 sh_107 rfl (by decide +kernel) rfl ?_
    refine Gz.iload_n (q := 1) (pc' := 19) (by decide +kernel) rfl 1 rfl ?_
    obtain ⟨c2, h⟩ := zok_c h
    refine Gz.iald (pc' := 20) (n := 20) (by decide +kernel) rfl rfl c2 ?_
    obtain ⟨c3, h⟩ := zok_c h
    refine Gz.iald (pc' := 21) (n := 5) (by decide +kernel) rfl rfl c3 ?_
    refine Gz.aload_n (q := 0) (pc' := 22) (by decide +kernel) rfl 0 rfl ?_
    refine Gz.getR (pc' := 25) (j := 32) 124 fd_M_62 sh_107 rfl (by decide +kernel) rfl ?_
    refine Gz.iload_n (q := 1) (pc' := 26) (by decide +kernel) rfl 1 rfl ?_
    obtain ⟨c4, h⟩ := zok_c h
    refine Gz.iald (pc' := 27) (n := 20) (by decide +kernel) rfl rfl c4 ?_
    refine Gz.icmp_ne (off := 7) (tgt := 34) (pc' := 30) (by decide +kernel) (by decide) rfl (fun c5 => ?_) (fun c5 => ?_)
    · have h := zok_f c5 h
      refine Gz.iconst (n := 0) (v := (0 : Int32)) (pc' := 35) (by decide +kernel) rfl rfl ?_
      exact g_M_isPossible_b35 k2 hk2 x1 (0 : Int32) w h
    · have h := zok_t c5 h
      refine Gz.iconst (n := 1) (v := (1 : Int32)) (pc' := 31) (by decide +kernel) rfl rfl ?_
      refine Gz.goto (off := 4) (tgt := 35) (by decide +kernel) (by decide) ?_
      exact g_M_isPossible_b35 k2 hk2 x1 (1 : Int32) w h
theorem g_M_isPossible_b2 {l : Launch} {Q : Option Value → gW → Prop} (x1 : Int32) (w : gW) (h : zok eI (f_M_isPossible_b2 x1 w) Q) : Gz l m_M_isPossible 1 2 [(0, .ref 107), (1, .int x1)] [] w Q := by
  have key : ∀ (n : Nat) (x1 : Int32) (w : gW), zok eI (zfx (fun _ _ => none) (f_M_isPossible_b2_s) n x1 w) Q → Gz l m_M_isPossible 1 2 [(0, .ref 107), (1, .int x1)] [] w Q := by
    intro n
    induction n with
    | zero => intro x1 w h; exact zok_n h
    | succ n ih => intro x1 w h; exact g_M_isPossible_b2_s _ ih x1 w h
  exact key zFU x1 w h
theorem g_M_isPossible {l : Launch} (w : gW) : gCt l m_M_isPossible 1 [.ref 107] w eI (f_M_isPossible w) := by
  intro Q h
  unfold f_M_isPossible at h
  show Gz l m_M_isPossible 1 0 [(0, .ref 107)] [] w Q
  refine Gz.iconst (n := 0) (v := (0 : Int32)) (pc' := 1) (by decide +kernel) rfl rfl ?_
  refine Gz.istore_n (q := 1) (pc' := 2) (L' := [(1, .int (0 : Int32)), (0, .ref 107)]) (by decide +kernel) rfl (Nat.le_of_ble_eq_true rfl) rfl ?_
  refine Gz.sub (L' := [(0, .ref 107), (1, .int (0 : Int32))]) [1, 0] rfl ?_
  exact g_M_isPossible_b2 (0 : Int32) w h
def f_M_all (w : gW) : Option (Int32 × gW) :=
some (((1 : Int32) <<< ((w.1 107 35) &&& 31)) - (1 : Int32), w)
theorem g_M_all {l : Launch} (w : gW) : gCt l m_M_all 1 [.ref 107] w eI (f_M_all w) := by
  intro Q h
  unfold f_M_all at h
  show Gz l m_M_all 1 0 [(0, .ref 107)] [] w Q
  refine Gz.iconst (n := 1) (v := (1 : Int32)) (pc' := 1) (by decide +kernel) rfl rfl ?_
  refine Gz.aload_n (q := 0) (pc' := 2) (by decide +kernel) rfl 0 rfl ?_
  refine Gz.getI (pc' := 5) (j := 35) fd_M_211 sh_107 rfl (by decide +kernel) rfl ?_
  refine Gz.ishl (pc' := 6) (by decide +kernel) rfl ?_
  refine Gz.iconst (n := 1) (v := (1 : Int32)) (pc' := 7) (by decide +kernel) rfl rfl ?_
  refine Gz.isub (pc' := 8) (by decide +kernel) rfl ?_
  exact Gz.ireturn (by decide +kernel) rfl (zok_sI h)
def f_M_keeps (a1 : Int32) (a2 : Int32) (a3 : Int32) (w : gW) : Option (Int32 × gW) :=
zl (zsI w 107 13 a2) (fun w1 =>
zl (zsI w1 107 14 a3) (fun w3 =>
if inb a1 8 then
zb (f_M_goThrough 109 ((120 : Int32) * a1) (w3.1 110 (ix a1)) w3) (fun v6 w7 =>
if v6 &&& 1 = v6 then some (v6, w7) else none)
else none))
theorem g_M_keeps {l : Launch} (a1 : Int32) (a2 : Int32) (a3 : Int32) (w : gW) : gCt l m_M_keeps 54 [.ref 107, .int a1, .int a2, .int a3] w eI (f_M_keeps a1 a2 a3 w) := by
  intro Q h
  unfold f_M_keeps at h
  show Gz l m_M_keeps 54 0 [(0, .ref 107), (1, .int a1), (2, .int a2), (3, .int a3)] [] w Q
  refine Gz.aload_n (q := 0) (pc' := 1) (by decide +kernel) rfl 0 rfl ?_
  refine Gz.iload_n (q := 2) (pc' := 2) (by decide +kernel) rfl 2 rfl ?_
  refine Gz.putI (pc' := 5) (j := 13) fd_M_144 sh_107 rfl (by decide +kernel) rfl ?_
  refine Gz.nmW (fun w1 e2 => ?_)
  have h := zok_l e2 h
  refine Gz.aload_n (q := 0) (pc' := 6) (by decide +kernel) rfl 0 rfl ?_
  refine Gz.iload_n (q := 3) (pc' := 7) (by decide +kernel) rfl 3 rfl ?_
  refine Gz.putI (pc' := 10) (j := 14) fd_M_167 sh_107 rfl (by decide +kernel) rfl ?_
  refine Gz.nmW (fun w3 e4 => ?_)
  have h := zok_l e4 h
  refine Gz.aload_n (q := 0) (pc' := 11) (by decide +kernel) rfl 0 rfl ?_
  refine Gz.aload_n (q := 0) (pc' := 12) (by decide +kernel) rfl 0 rfl ?_
  refine Gz.getR (pc' := 15) (j := 2) 109 fd_M_13 sh_107 rfl (by decide +kernel) rfl ?_
  refine Gz.bipush (n := 120) (v := (120 : Int32)) (pc' := 17) (by decide +kernel) rfl rfl ?_
  refine Gz.iload_n (q := 1) (pc' := 18) (by decide +kernel) rfl 1 rfl ?_
  refine Gz.imul (pc' := 19) (by decide +kernel) rfl ?_
  refine Gz.aload_n (q := 0) (pc' := 20) (by decide +kernel) rfl 0 rfl ?_
  refine Gz.getR (pc' := 23) (j := 3) 110 fd_M_16 sh_107 rfl (by decide +kernel) rfl ?_
  refine Gz.iload_n (q := 1) (pc' := 24) (by decide +kernel) rfl 1 rfl ?_
  obtain ⟨c5, h⟩ := zok_c h
  refine Gz.iald (pc' := 25) (n := 8) (by decide +kernel) rfl rfl c5 ?_
  refine Gz.callVI (st := []) (b := 107) (pc' := 28) [.ref 109, .int ((120 : Int32) * a1), .int (w3.1 110 (ix a1))] (g_M_goThrough 109 ((120 : Int32) * a1) (w3.1 110 (ix a1)) w3) h ok_m_M_goThrough lk_M_199 sh_107 rfl rfl rfl (Nat.le_of_ble_eq_true rfl) (Nat.le_of_ble_eq_true rfl) (Nat.le_of_ble_eq_true rfl) (by decide +kernel) rfl (fun v6 w7 h => ?_)
  obtain ⟨c8, h⟩ := zok_c h
  exact Gz.zreturn (by decide +kernel) rfl c8 (zok_sI h)
def f_M_holdsSworn (a1 : Int32) (a2 : Int32) (w : gW) : Option (Int32 × gW) :=
if inb a1 10 then
if inb a1 10 then
zb (f_M_keeps (w.1 120 (ix a1)) (w.1 121 (ix a1)) a2 w) (fun v3 w4 =>
if v3 &&& 1 = v3 then some (v3, w4) else none)
else none
else none
theorem g_M_holdsSworn {l : Launch} (a1 : Int32) (a2 : Int32) (w : gW) : gCt l m_M_holdsSworn 55 [.ref 107, .int a1, .int a2] w eI (f_M_holdsSworn a1 a2 w) := by
  intro Q h
  unfold f_M_holdsSworn at h
  show Gz l m_M_holdsSworn 55 0 [(0, .ref 107), (1, .int a1), (2, .int a2)] [] w Q
  refine Gz.aload_n (q := 0) (pc' := 1) (by decide +kernel) rfl 0 rfl ?_
  refine Gz.aload_n (q := 0) (pc' := 2) (by decide +kernel) rfl 0 rfl ?_
  refine Gz.getR (pc' := 5) (j := 28) 120 fd_M_50 sh_107 rfl (by decide +kernel) rfl ?_
  refine Gz.iload_n (q := 1) (pc' := 6) (by decide +kernel) rfl 1 rfl ?_
  obtain ⟨c1, h⟩ := zok_c h
  refine Gz.iald (pc' := 7) (n := 10) (by decide +kernel) rfl rfl c1 ?_
  refine Gz.aload_n (q := 0) (pc' := 8) (by decide +kernel) rfl 0 rfl ?_
  refine Gz.getR (pc' := 11) (j := 29) 121 fd_M_53 sh_107 rfl (by decide +kernel) rfl ?_
  refine Gz.iload_n (q := 1) (pc' := 12) (by decide +kernel) rfl 1 rfl ?_
  obtain ⟨c2, h⟩ := zok_c h
  refine Gz.iald (pc' := 13) (n := 10) (by decide +kernel) rfl rfl c2 ?_
  refine Gz.iload_n (q := 2) (pc' := 14) (by decide +kernel) rfl 2 rfl ?_
  refine Gz.callVI (st := []) (b := 107) (pc' := 17) [.int (w.1 120 (ix a1)), .int (w.1 121 (ix a1)), .int a2] (g_M_keeps (w.1 120 (ix a1)) (w.1 121 (ix a1)) a2 w) h ok_m_M_keeps lk_M_254 sh_107 rfl rfl rfl (Nat.le_of_ble_eq_true rfl) (Nat.le_of_ble_eq_true rfl) (Nat.le_of_ble_eq_true rfl) (by decide +kernel) rfl (fun v3 w4 h => ?_)
  obtain ⟨c5, h⟩ := zok_c h
  exact Gz.zreturn (by decide +kernel) rfl c5 (zok_sI h)
def f_M_fits_b11_s (k11 : Int32 → gW → Option (Int32 × gW)) (x1 : Int32) (w : gW) : Option (Int32 × gW) :=
if (w.1 107 35) ≤ x1 then
(some ((1 : Int32), w))
else
(zb (f_M_all w) (fun v2 w3 =>
zb (f_M_holdsSworn x1 v2 w3) (fun v4 w5 =>
if v4 = 0 then
(some ((0 : Int32), w5))
else
(zl (x1 + (1 : Int32)) (fun v7 =>
k11 v7 w5)))))
def f_M_fits_b11 : Int32 → gW → Option (Int32 × gW) := zfx (fun _ _ => none) (f_M_fits_b11_s) zFU
def f_M_fits (w : gW) : Option (Int32 × gW) :=
zb (f_M_isPossible w) (fun v1 w2 =>
if v1 = 0 then
(some ((0 : Int32), w2))
else
(f_M_fits_b11 (0 : Int32) w2))
theorem g_M_fits_b11_s {l : Launch} {Q : Option Value → gW → Prop} (k11 : Int32 → gW → Option (Int32 × gW)) (hk11 : ∀ (x1 : Int32) (w : gW), zok eI (k11 x1 w) Q → Gz l m_M_fits 56 11 [(0, .ref 107), (1, .int x1)] [] w Q) (x1 : Int32) (w : gW) (h : zok eI (f_M_fits_b11_s k11 x1 w) Q) : Gz l m_M_fits 56 11 [(0, .ref 107), (1, .int x1)] [] w Q := by
  unfold f_M_fits_b11_s at h
  refine Gz.iload_n (q := 1) (pc' := 12) (by decide +kernel) rfl 1 rfl ?_
  refine Gz.aload_n (q := 0) (pc' := 13) (by decide +kernel) rfl 0 rfl ?_
  refine Gz.getI (pc' := 16) (j := 35) fd_M_211 sh_107 rfl (by decide +kernel) rfl ?_
  refine Gz.icmp_ge (off := 23) (tgt := 39) (pc' := 19) (by decide +kernel) (by decide) rfl (fun c1 => ?_) (fun c1 => ?_)
  · have h := zok_t c1 h
    refine Gz.iconst (n := 1) (v := (1 : Int32)) (pc' := 40) (by decide +kernel) rfl rfl ?_
    exact Gz.zreturn (by decide +kernel) rfl (by decide) (zok_sI h)
  · have h := zok_f c1 h
    refine Gz.aload_n (q := 0) (pc' := 20) (by decide +kernel) rfl 0 rfl ?_
    refine Gz.iload_n (q := 1) (pc' := 21) (by decide +kernel) rfl 1 rfl ?_
    refine Gz.aload_n (q := 0) (pc' := 22) (by decide +kernel) rfl 0 rfl ?_
    refine Gz.callVI (st := [.int x1, .ref 107]) (b := 107) (pc' := 25) [] (g_M_all w) h ok_m_M_all lk_M_261 sh_107 rfl rfl rfl (Nat.le_of_ble_eq_true rfl) (Nat.le_of_ble_eq_true rfl) (Nat.le_of_ble_eq_true rfl) (by decide +kernel) rfl (fun v2 w3 h => ?_)
    refine Gz.callVI (st := []) (b := 107) (pc' := 28) [.int x1, .int v2] (g_M_holdsSworn x1 v2 w3) h ok_m_M_holdsSworn lk_M_264 sh_107 rfl rfl rfl (Nat.le_of_ble_eq_true rfl) (Nat.le_of_ble_eq_true rfl) (Nat.le_of_ble_eq_true rfl) (by decide +kernel) rfl (fun v4 w5 h => ?_)
    refine Gz.if_ne (off := 5) (tgt := 33) (pc' := 31) (by decide +kernel) (by decide) rfl (fun c6 => ?_) (fun c6 => ?_)
    · have h := zok_f c6 h
      obtain ⟨v7, e8⟩ : ∃ y : Int32, y = x1 + (1 : Int32) := ⟨_, rfl⟩
      have h := zok_l e8 h
      refine Gz.iinc (i := 1) (n := 1) (pc' := 36) (L' := [(1, .int v7), (0, .ref 107)]) v7 (by decide +kernel) rfl 1 rfl (by rw [e8]; rfl) (Nat.le_of_ble_eq_true rfl) rfl ?_
      refine Gz.goto (off := -25) (tgt := 11) (by decide +kernel) (by decide) ?_
      refine Gz.sub (L' := [(0, .ref 107), (1, .int v7)]) [1, 0] rfl ?_
      exact hk11 v7 w5 h
    · have h := zok_t c6 h
      refine Gz.iconst (n := 0) (v := (0 : Int32)) (pc' := 32) (by decide +kernel) rfl rfl ?_
      exact Gz.zreturn (by decide +kernel) rfl (by decide) (zok_sI h)
theorem g_M_fits_b11 {l : Launch} {Q : Option Value → gW → Prop} (x1 : Int32) (w : gW) (h : zok eI (f_M_fits_b11 x1 w) Q) : Gz l m_M_fits 56 11 [(0, .ref 107), (1, .int x1)] [] w Q := by
  have key : ∀ (n : Nat) (x1 : Int32) (w : gW), zok eI (zfx (fun _ _ => none) (f_M_fits_b11_s) n x1 w) Q → Gz l m_M_fits 56 11 [(0, .ref 107), (1, .int x1)] [] w Q := by
    intro n
    induction n with
    | zero => intro x1 w h; exact zok_n h
    | succ n ih => intro x1 w h; exact g_M_fits_b11_s _ ih x1 w h
  exact key zFU x1 w h
theorem g_M_fits {l : Launch} (w : gW) : gCt l m_M_fits 56 [.ref 107] w eI (f_M_fits w) := by
  intro Q h
  unfold f_M_fits at h
  show Gz l m_M_fits 56 0 [(0, .ref 107)] [] w Q
  refine Gz.aload_n (q := 0) (pc' := 1) (by decide +kernel) rfl 0 rfl ?_
  refine Gz.callVI (st := []) (b := 107) (pc' := 4) [] (g_M_isPossible w) h ok_m_M_isPossible lk_M_258 sh_107 rfl rfl rfl (Nat.le_of_ble_eq_true rfl) (Nat.le_of_ble_eq_true rfl) (Nat.le_of_ble_eq_true rfl) (by decide +kernel) rfl (fun v1 w2 h => ?_)
  refine Gz.if_ne (off := 5) (tgt := 9) (pc' := 7) (by decide +kernel) (by decide) rfl (fun c3 => ?_) (fun c3 => ?_)
  · have h := zok_f c3 h
    refine Gz.iconst (n := 0) (v := (0 : Int32)) (pc' := 10) (by decide +kernel) rfl rfl ?_
    refine Gz.istore_n (q := 1) (pc' := 11) (L' := [(1, .int (0 : Int32)), (0, .ref 107)]) (by decide +kernel) rfl (Nat.le_of_ble_eq_true rfl) rfl ?_
    refine Gz.sub (L' := [(0, .ref 107), (1, .int (0 : Int32))]) [1, 0] rfl ?_
    exact g_M_fits_b11 (0 : Int32) w2 h
  · have h := zok_t c3 h
    refine Gz.iconst (n := 0) (v := (0 : Int32)) (pc' := 8) (by decide +kernel) rfl rfl ?_
    exact Gz.zreturn (by decide +kernel) rfl (by decide) (zok_sI h)
def f_M_lives_b84 (k24 : Int32 → Int32 → Int32 → Int32 → gW → Option (Int32 × gW)) (x1 : Int32) (x2 : Int32) (x3 : Int32) (x4 : Int32) (w : gW) : Option (Int32 × gW) :=
zl (x4 + (1 : Int32)) (fun v1 =>
k24 x1 x2 x3 v1 w)
def f_M_lives_b68 (k24 : Int32 → Int32 → Int32 → Int32 → gW → Option (Int32 × gW)) (x1 : Int32) (x2 : Int32) (x3 : Int32) (x4 : Int32) (w : gW) : Option (Int32 × gW) :=
if x3 = x2 then
(if inb x4 16807 then
some (w.1 118 (ix x4), w)
else none)
else
(zl (x3 + (1 : Int32)) (fun v2 =>
f_M_lives_b84 k24 x1 x2 v2 x4 w))
def f_M_lives_b24_s (k24 : Int32 → Int32 → Int32 → Int32 → gW → Option (Int32 × gW)) (x1 : Int32) (x2 : Int32) (x3 : Int32) (x4 : Int32) (w : gW) : Option (Int32 × gW) :=
if (w.1 107 26) ≤ x4 then
(if x2 = (-1 : Int32) then
(some (x3, w))
else
(some ((-1 : Int32), w)))
else
(if inb x4 16807 then
zb (f_M_live (w.1 118 (ix x4)) w) (fun _ w4 =>
if x1 = 0 then
(zb (f_M_isPossible w4) (fun v6 w7 =>
if v6 = 0 then
(f_M_lives_b84 k24 x1 x2 x3 x4 w7)
else
(f_M_lives_b68 k24 x1 x2 x3 x4 w7)))
else
(zb (f_M_fits w4) (fun v9 w10 =>
if v9 = 0 then
(f_M_lives_b84 k24 x1 x2 x3 x4 w10)
else
(f_M_lives_b68 k24 x1 x2 x3 x4 w10))))
else none)
def f_M_lives_b24 : Int32 → Int32 → Int32 → Int32 → gW → Option (Int32 × gW) := zfx (fun _ _ _ _ _ => none) (f_M_lives_b24_s) zFU
def f_M_lives (a1 : Int32) (a2 : Int32) (w : gW) : Option (Int32 × gW) :=
zl (zsI w 107 0 (0 : Int32)) (fun w1 =>
if (w1.1 107 21) = 0 then
(some ((-1 : Int32), w1))
else
(if (-1 : Int32) ≤ a2 then
(f_M_lives_b24 a1 a2 (0 : Int32) (0 : Int32) w1)
else
(some ((-1 : Int32), w1))))
theorem g_M_lives_b84 {l : Launch} {Q : Option Value → gW → Prop} (k24 : Int32 → Int32 → Int32 → Int32 → gW → Option (Int32 × gW)) (hk24 : ∀ (x1 : Int32) (x2 : Int32) (x3 : Int32) (x4 : Int32) (w : gW), zok eI (k24 x1 x2 x3 x4 w) Q → Gz l m_M_lives 57 24 [(0, .ref 107), (1, .int x1), (2, .int x2), (3, .int x3), (4, .int x4)] [] w Q) (x1 : Int32) (x2 : Int32) (x3 : Int32) (x4 : Int32) (w : gW) (h : zok eI (f_M_lives_b84 k24 x1 x2 x3 x4 w) Q) : Gz l m_M_lives 57 84 [(0, .ref 107), (1, .int x1), (2, .int x2), (3, .int x3), (4, .int x4)] [] w Q := by
  unfold f_M_lives_b84 at h
  obtain ⟨v1, e2⟩ : ∃ y : Int32, y = x4 + (1 : Int32) := ⟨_, rfl⟩
  have h := zok_l e2 h
  refine Gz.iinc (i := 4) (n := 1) (pc' := 87) (L' := [(4, .int v1), (0, .ref 107), (1, .int x1), (2, .int x2), (3, .int x3)]) v1 (by decide +kernel) rfl 4 rfl (by rw [e2]; rfl) (Nat.le_of_ble_eq_true rfl) rfl ?_
  refine Gz.goto (off := -63) (tgt := 24) (by decide +kernel) (by decide) ?_
  refine Gz.sub (L' := [(0, .ref 107), (1, .int x1), (2, .int x2), (3, .int x3), (4, .int v1)]) [1, 2, 3, 4, 0] rfl ?_
  exact hk24 x1 x2 x3 v1 w h
theorem g_M_lives_b68 {l : Launch} {Q : Option Value → gW → Prop} (k24 : Int32 → Int32 → Int32 → Int32 → gW → Option (Int32 × gW)) (hk24 : ∀ (x1 : Int32) (x2 : Int32) (x3 : Int32) (x4 : Int32) (w : gW), zok eI (k24 x1 x2 x3 x4 w) Q → Gz l m_M_lives 57 24 [(0, .ref 107), (1, .int x1), (2, .int x2), (3, .int x3), (4, .int x4)] [] w Q) (x1 : Int32) (x2 : Int32) (x3 : Int32) (x4 : Int32) (w : gW) (h : zok eI (f_M_lives_b68 k24 x1 x2 x3 x4 w) Q) : Gz l m_M_lives 57 68 [(0, .ref 107), (1, .int x1), (2, .int x2), (3, .int x3), (4, .int x4)] [] w Q := by
  unfold f_M_lives_b68 at h
  refine Gz.iload_n (q := 3) (pc' := 69) (by decide +kernel) rfl 3 rfl ?_
  refine Gz.iload_n (q := 2) (pc' := 70) (by decide +kernel) rfl 2 rfl ?_
  refine Gz.icmp_ne (off := 11) (tgt := 81) (pc' := 73) (by decide +kernel) (by decide) rfl (fun c1 => ?_) (fun c1 => ?_)
  · have h := zok_f c1 h
    obtain ⟨v2, e3⟩ : ∃ y : Int32, y = x3 + (1 : Int32) := ⟨_, rfl⟩
    have h := zok_l e3 h
    refine Gz.iinc (i := 3) (n := 1) (pc' := 84) (L' := [(3, .int v2), (0, .ref 107), (1, .int x1), (2, .int x2), (4, .int x4)]) v2 (by decide +kernel) rfl 3 rfl (by rw [e3]; rfl) (Nat.le_of_ble_eq_true rfl) rfl ?_
    refine Gz.sub (L' := [(0, .ref 107), (1, .int x1), (2, .int x2), (3, .int v2), (4, .int x4)]) [1, 2, 3, 0, 4] rfl ?_
    exact g_M_lives_b84 k24 hk24 x1 x2 v2 x4 w h
  · have h := zok_t c1 h
    refine Gz.aload_n (q := 0) (pc' := 74) (by decide +kernel) rfl 0 rfl ?_
    refine Gz.getR (pc' := 77) (j := 25) 118 fd_M_44 sh_107 rfl (by decide +kernel) rfl ?_
    refine Gz.iload (i := 4) (pc' := 79) (by decide +kernel) rfl 4 rfl ?_
    obtain ⟨c4, h⟩ := zok_c h
    refine Gz.iald (pc' := 80) (n := 16807) (by decide +kernel) rfl rfl c4 ?_
    exact Gz.ireturn (by decide +kernel) rfl (zok_sI h)
theorem g_M_lives_b24_s {l : Launch} {Q : Option Value → gW → Prop} (k24 : Int32 → Int32 → Int32 → Int32 → gW → Option (Int32 × gW)) (hk24 : ∀ (x1 : Int32) (x2 : Int32) (x3 : Int32) (x4 : Int32) (w : gW), zok eI (k24 x1 x2 x3 x4 w) Q → Gz l m_M_lives 57 24 [(0, .ref 107), (1, .int x1), (2, .int x2), (3, .int x3), (4, .int x4)] [] w Q) (x1 : Int32) (x2 : Int32) (x3 : Int32) (x4 : Int32) (w : gW) (h : zok eI (f_M_lives_b24_s k24 x1 x2 x3 x4 w) Q) : Gz l m_M_lives 57 24 [(0, .ref 107), (1, .int x1), (2, .int x2), (3, .int x3), (4, .int x4)] [] w Q := by
  unfold f_M_lives_b24_s at h
  refine Gz.iload (i := 4) (pc' := 26) (by decide +kernel) rfl 4 rfl ?_
  refine Gz.aload_n (q := 0) (pc' := 27) (by decide +kernel) rfl 0 rfl ?_
  refine Gz.getI (pc' := 30) (j := 26) fd_M_224 sh_107 rfl (by decide +kernel) rfl ?_
  refine Gz.icmp_ge (off := 60) (tgt := 90) (pc' := 33) (by decide +kernel) (by decide) rfl (fun c1 => ?_) (fun c1 => ?_)
  · have h := zok_t c1 h
    refine Gz.iload_n (q := 2) (pc' := 91) (by decide +kernel) rfl 2 rfl ?_
    refine Gz.iconst (n := -1) (v := (-1 : Int32)) (pc' := 92) (by decide +kernel) rfl rfl ?_
    refine Gz.icmp_ne (off := 7) (tgt := 99) (pc' := 95) (by decide +kernel) (by decide) rfl (fun c2 => ?_) (fun c2 => ?_)
    · have h := zok_f c2 h
      refine Gz.iconst (n := -1) (v := (-1 : Int32)) (pc' := 100) (by decide +kernel) rfl rfl ?_
      exact Gz.ireturn (by decide +kernel) rfl (zok_sI h)
    · have h := zok_t c2 h
      refine Gz.iload_n (q := 3) (pc' := 96) (by decide +kernel) rfl 3 rfl ?_
      refine Gz.goto (off := 4) (tgt := 100) (by decide +kernel) (by decide) ?_
      exact Gz.ireturn (by decide +kernel) rfl (zok_sI h)
  · have h := zok_f c1 h
    refine Gz.aload_n (q := 0) (pc' := 34) (by decide +kernel) rfl 0 rfl ?_
    refine Gz.aload_n (q := 0) (pc' := 35) (by decide +kernel) rfl 0 rfl ?_
    refine Gz.getR (pc' := 38) (j := 25) 118 fd_M_44 sh_107 rfl (by decide +kernel) rfl ?_
    refine Gz.iload (i := 4) (pc' := 40) (by decide +kernel) rfl 4 rfl ?_
    obtain ⟨c3, h⟩ := zok_c h
    refine Gz.iald (pc' := 41) (n := 16807) (by decide +kernel) rfl rfl c3 ?_
    refine Gz.callVV (st := []) (b := 107) (pc' := 44) [.int (w.1 118 (ix x4))] (g_M_live (w.1 118 (ix x4)) w) h ok_m_M_live lk_M_231 sh_107 rfl rfl rfl (Nat.le_of_ble_eq_true rfl) (Nat.le_of_ble_eq_true rfl) (Nat.le_of_ble_eq_true rfl) (by decide +kernel) rfl (fun _ w4 h => ?_)
    refine Gz.iload_n (q := 1) (pc' := 45) (by decide +kernel) rfl 1 rfl ?_
    refine Gz.if_eq (off := 13) (tgt := 58) (pc' := 48) (by decide +kernel) (by decide) rfl (fun c5 => ?_) (fun c5 => ?_)
    · have h := zok_t c5 h
      refine Gz.aload_n (q := 0) (pc' := 59) (by decide +kernel) rfl 0 rfl ?_
      refine Gz.callVI (st := []) (b := 107) (pc' := 62) [] (g_M_isPossible w4) h ok_m_M_isPossible lk_M_258 sh_107 rfl rfl rfl (Nat.le_of_ble_eq_true rfl) (Nat.le_of_ble_eq_true rfl) (Nat.le_of_ble_eq_true rfl) (by decide +kernel) rfl (fun v6 w7 h => ?_)
      refine Gz.if_ne (off := 6) (tgt := 68) (pc' := 65) (by decide +kernel) (by decide) rfl (fun c8 => ?_) (fun c8 => ?_)
      · have h := zok_f c8 h
        exact g_M_lives_b68 k24 hk24 x1 x2 x3 x4 w7 h
      · have h := zok_t c8 h
        refine Gz.goto (off := 19) (tgt := 84) (by decide +kernel) (by decide) ?_
        exact g_M_lives_b84 k24 hk24 x1 x2 x3 x4 w7 h
    · have h := zok_f c5 h
      refine Gz.aload_n (q := 0) (pc' := 49) (by decide +kernel) rfl 0 rfl ?_
      refine Gz.callVI (st := []) (b := 107) (pc' := 52) [] (g_M_fits w4) h ok_m_M_fits lk_M_267 sh_107 rfl rfl rfl (Nat.le_of_ble_eq_true rfl) (Nat.le_of_ble_eq_true rfl) (Nat.le_of_ble_eq_true rfl) (by decide +kernel) rfl (fun v9 w10 h => ?_)
      refine Gz.if_eq (off := 32) (tgt := 84) (pc' := 55) (by decide +kernel) (by decide) rfl (fun c11 => ?_) (fun c11 => ?_)
      · have h := zok_t c11 h
        exact g_M_lives_b84 k24 hk24 x1 x2 x3 x4 w10 h
      · have h := zok_f c11 h
        refine Gz.goto (off := 13) (tgt := 68) (by decide +kernel) (by decide) ?_
        exact g_M_lives_b68 k24 hk24 x1 x2 x3 x4 w10 h
theorem g_M_lives_b24 {l : Launch} {Q : Option Value → gW → Prop} (x1 : Int32) (x2 : Int32) (x3 : Int32) (x4 : Int32) (w : gW) (h : zok eI (f_M_lives_b24 x1 x2 x3 x4 w) Q) : Gz l m_M_lives 57 24 [(0, .ref 107), (1, .int x1), (2, .int x2), (3, .int x3), (4, .int x4)] [] w Q := by
  have key : ∀ (n : Nat) (x1 : Int32) (x2 : Int32) (x3 : Int32) (x4 : Int32) (w : gW), zok eI (zfx (fun _ _ _ _ _ => none) (f_M_lives_b24_s) n x1 x2 x3 x4 w) Q → Gz l m_M_lives 57 24 [(0, .ref 107), (1, .int x1), (2, .int x2), (3, .int x3), (4, .int x4)] [] w Q := by
    intro n
    induction n with
    | zero => intro x1 x2 x3 x4 w h; exact zok_n h
    | succ n ih => intro x1 x2 x3 x4 w h; exact g_M_lives_b24_s _ ih x1 x2 x3 x4 w h
  exact key zFU x1 x2 x3 x4 w h
theorem g_M_lives {l : Launch} (a1 : Int32) (a2 : Int32) (w : gW) : gCt l m_M_lives 57 [.ref 107, .int a1, .int a2] w eI (f_M_lives a1 a2 w) := by
  intro Q h
  unfold f_M_lives at h
  show Gz l m_M_lives 57 0 [(0, .ref 107), (1, .int a1), (2, .int a2)] [] w Q
  refine Gz.aload_n (q := 0) (pc' := 1) (by decide +kernel) rfl 0 rfl ?_
  refine Gz.iconst (n := 0) (v := (0 : Int32)) (pc' := 2) (by decide +kernel) rfl rfl ?_
  refine Gz.putI (pc' := 5) (j := 0) fd_M_96 sh_107 rfl (by decide +kernel) rfl ?_
  refine Gz.nmW (fun w1 e2 => ?_)
  have h := zok_l e2 h
  refine Gz.aload_n (q := 0) (pc' := 6) (by decide +kernel) rfl 0 rfl ?_
  refine Gz.getI (pc' := 9) (j := 21) fd_M_141 sh_107 rfl (by decide +kernel) rfl ?_
  refine Gz.if_eq (off := 8) (tgt := 17) (pc' := 12) (by decide +kernel) (by decide) rfl (fun c3 => ?_) (fun c3 => ?_)
  · have h := zok_t c3 h
    refine Gz.iconst (n := -1) (v := (-1 : Int32)) (pc' := 18) (by decide +kernel) rfl rfl ?_
    exact Gz.ireturn (by decide +kernel) rfl (zok_sI h)
  · have h := zok_f c3 h
    refine Gz.iload_n (q := 2) (pc' := 13) (by decide +kernel) rfl 2 rfl ?_
    refine Gz.iconst (n := -1) (v := (-1 : Int32)) (pc' := 14) (by decide +kernel) rfl rfl ?_
    refine Gz.icmp_ge (off := 5) (tgt := 19) (pc' := 17) (by decide +kernel) (by decide) rfl (fun c4 => ?_) (fun c4 => ?_)
    · have h := zok_t c4 h
      refine Gz.iconst (n := 0) (v := (0 : Int32)) (pc' := 20) (by decide +kernel) rfl rfl ?_
      refine Gz.istore_n (q := 3) (pc' := 21) (L' := [(3, .int (0 : Int32)), (0, .ref 107), (1, .int a1), (2, .int a2)]) (by decide +kernel) rfl (Nat.le_of_ble_eq_true rfl) rfl ?_
      refine Gz.iconst (n := 0) (v := (0 : Int32)) (pc' := 22) (by decide +kernel) rfl rfl ?_
      refine Gz.istore (i := 4) (pc' := 24) (L' := [(4, .int (0 : Int32)), (3, .int (0 : Int32)), (0, .ref 107), (1, .int a1), (2, .int a2)]) (by decide +kernel) rfl (Nat.le_of_ble_eq_true rfl) rfl ?_
      refine Gz.sub (L' := [(0, .ref 107), (1, .int a1), (2, .int a2), (3, .int (0 : Int32)), (4, .int (0 : Int32))]) [2, 3, 4, 1, 0] rfl ?_
      exact g_M_lives_b24 a1 a2 (0 : Int32) (0 : Int32) w1 h
    · have h := zok_f c4 h
      refine Gz.iconst (n := -1) (v := (-1 : Int32)) (pc' := 18) (by decide +kernel) rfl rfl ?_
      exact Gz.ireturn (by decide +kernel) rfl (zok_sI h)
