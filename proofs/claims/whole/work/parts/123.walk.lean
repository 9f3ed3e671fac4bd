def f_M_image_b183_s (k183 : Int32 → gW → Option (Int32 × gW)) (x1 : Int32) (w : gW) : Option (Int32 × gW) :=
if (30 : Int32) ≤ x1 then
(zl (zsI w 107 55 (w.1 107 35)) (fun w2 =>
zl (zsI w2 107 56 (w2.1 107 36)) (fun w4 =>
zl (zsI w4 107 57 (w4.1 107 37)) (fun w6 =>
zl (zsI w6 107 58 (1 : Int32)) (fun w8 =>
some (w8.1 107 37, w8))))))
else
(if inb x1 30 then
if inb x1 30 then
zl (zsI w 134 (ix x1) ((w.1 126 (ix x1)) &&& 1)) (fun w12 =>
zl (x1 + (1 : Int32)) (fun v14 =>
k183 v14 w12))
else none
else none)
def f_M_image_b183 : Int32 → gW → Option (Int32 × gW) := zfx (fun _ _ => none) (f_M_image_b183_s) zFU
def f_M_image_b154_s (k154 : Int32 → gW → Option (Int32 × gW)) (x1 : Int32) (w : gW) : Option (Int32 × gW) :=
if (50 : Int32) ≤ x1 then
(f_M_image_b183 (0 : Int32) w)
else
(if inb x1 50 then
if inb ((80 : Int32) + x1) 130 then
zl (zsI w 132 (ix ((80 : Int32) + x1)) (w.1 129 (ix x1))) (fun w4 =>
zl (x1 + (1 : Int32)) (fun v6 =>
k154 v6 w4))
else none
else none)
def f_M_image_b154 : Int32 → gW → Option (Int32 × gW) := zfx (fun _ _ => none) (f_M_image_b154_s) zFU
def f_M_image_b92_s (k92 : Int32 → gW → Option (Int32 × gW)) (x1 : Int32) (w : gW) : Option (Int32 × gW) :=
if (20 : Int32) ≤ x1 then
(f_M_image_b154 (0 : Int32) w)
else
(if inb x1 20 then
if inb ((40 : Int32) + ((2 : Int32) * x1)) 130 then
zl (zsI w 132 (ix ((40 : Int32) + ((2 : Int32) * x1))) (w.1 123 (ix x1))) (fun w4 =>
if inb x1 20 then
if inb (((40 : Int32) + ((2 : Int32) * x1)) + (1 : Int32)) 130 then
zl (zsI w4 132 (ix (((40 : Int32) + ((2 : Int32) * x1)) + (1 : Int32))) (w4.1 124 (ix x1))) (fun w8 =>
if inb x1 20 then
if inb x1 20 then
zl (zsI w8 133 (ix x1) ((w8.1 125 (ix x1)) &&& 1)) (fun w12 =>
zl (x1 + (1 : Int32)) (fun v14 =>
k92 v14 w12))
else none
else none)
else none
else none)
else none
else none)
def f_M_image_b92 : Int32 → gW → Option (Int32 × gW) := zfx (fun _ _ => none) (f_M_image_b92_s) zFU
def f_M_image_b16_s (k16 : Int32 → gW → Option (Int32 × gW)) (x1 : Int32) (w : gW) : Option (Int32 × gW) :=
if (10 : Int32) ≤ x1 then
(f_M_image_b92 (0 : Int32) w)
else
(if inb x1 10 then
if inb ((4 : Int32) * x1) 130 then
zl (zsI w 132 (ix ((4 : Int32) * x1)) (w.1 119 (ix x1))) (fun w4 =>
if inb x1 10 then
if inb (((4 : Int32) * x1) + (1 : Int32)) 130 then
zl (zsI w4 132 (ix (((4 : Int32) * x1) + (1 : Int32))) (w4.1 120 (ix x1))) (fun w8 =>
if inb x1 10 then
if inb (((4 : Int32) * x1) + (2 : Int32)) 130 then
zl (zsI w8 132 (ix (((4 : Int32) * x1) + (2 : Int32))) (w8.1 121 (ix x1))) (fun w12 =>
if inb x1 10 then
if inb (((4 : Int32) * x1) + (3 : Int32)) 130 then
zl (zsI w12 132 (ix (((4 : Int32) * x1) + (3 : Int32))) (w12.1 122 (ix x1))) (fun w16 =>
zl (x1 + (1 : Int32)) (fun v18 =>
k16 v18 w16))
else none
else none)
else none
else none)
else none
else none)
else none
else none)
def f_M_image_b16 : Int32 → gW → Option (Int32 × gW) := zfx (fun _ _ => none) (f_M_image_b16_s) zFU
def f_M_image (w : gW) : Option (Int32 × gW) :=
zl (zsI w 107 0 (0 : Int32)) (fun w1 =>
if (w1.1 107 21) = 0 then
(some ((-1 : Int32), w1))
else
(f_M_image_b16 (0 : Int32) w1))
theorem g_M_image_b183_s {l : Launch} {Q : Option Value → gW → Prop} (k183 : Int32 → gW → Option (Int32 × gW)) (hk183 : ∀ (x1 : Int32) (w : gW), zok eI (k183 x1 w) Q → Gz l m_M_image 1 183 [(0, .ref 107), (1, .int x1)] [] w Q) (x1 : Int32) (w : gW) (h : zok eI (f_M_image_b183_s k183 x1 w) Q) : Gz l m_M_image 1 183 [(0, .ref 107), (1, .int x1)] [] w Q := by
  unfold f_M_image_b183_s at h
  refine Gz.iload_n (q := 1) (pc' := 184) (by decide +kernel) rfl 1 rfl ?_
  refine Gz.bipush (n := 30) (v := (30 : Int32)) (pc' := 186) (by decide +kernel) rfl rfl ?_
  refine Gz.icmp_ge (off := 21) (tgt := 207) (pc' := 189) (by decide +kernel) (by decide) rfl (fun c1 => ?_) (fun c1 => ?_)
  · have h := zok_t c1 h
    refine Gz.aload_n (q := 0) (pc' := 208) (by decide +kernel) rfl 0 rfl ?_
    refine Gz.aload_n (q := 0) (pc' := 209) (by decide +kernel) rfl 0 rfl ?_
    refine Gz.getI (pc' := 212) (j := 35) fd_M_211 sh_107 rfl (by decide +kernel) rfl ?_
    refine Gz.putI (pc' := 215) (j := 55) fd_M_379 sh_107 rfl (by decide +kernel) rfl ?_
    refine Gz.nmW (fun w2 e3 => ?_)
    have h := zok_l e3 h
    refine Gz.aload_n (q := 0) (pc' := 216) (by decide +kernel) rfl 0 rfl ?_
    refine Gz.aload_n (q := 0) (pc' := 217) (by decide +kernel) rfl 0 rfl ?_
    refine Gz.getI (pc' := 220) (j := 36) fd_M_214 sh_107 rfl (by decide +kernel) rfl ?_
    refine Gz.putI (pc' := 223) (j := 56) fd_M_382 sh_107 rfl (by decide +kernel) rfl ?_
    refine Gz.nmW (fun w4 e5 => ?_)
    have h := zok_l e5 h
    refine Gz.aload_n (q := 0) (pc' := 224) (by decide +kernel) rfl 0 rfl ?_
    refine Gz.aload_n (q := 0) (pc' := 225) (by decide +kernel) rfl 0 rfl ?_
    refine Gz.getI (pc' := 228) (j := 37) fd_M_217 sh_107 rfl (by decide +kernel) rfl ?_
    refine Gz.putI (pc' := 231) (j := 57) fd_M_385 sh_107 rfl (by decide +kernel) rfl ?_
    refine Gz.nmW (fun w6 e7 => ?_)
    have h := zok_l e7 h
    refine Gz.aload_n (q := 0) (pc' := 232) (by decide +kernel) rfl 0 rfl ?_
    refine Gz.iconst (n := 1) (v := (1 : Int32)) (pc' := 233) (by decide +kernel) rfl rfl ?_
    refine Gz.putZ (pc' := 236) (j := 58) fd_M_220 sh_107 rfl (by decide +kernel) rfl (by decide) ?_
    refine Gz.nmW (fun w8 e9 => ?_)
    have h := zok_l e9 h
    refine Gz.aload_n (q := 0) (pc' := 237) (by decide +kernel) rfl 0 rfl ?_
    refine Gz.getI (pc' := 240) (j := 37) fd_M_217 sh_107 rfl (by decide +kernel) rfl ?_
    exact Gz.ireturn (by decide +kernel) rfl (zok_sI h)
  · have h := zok_f c1 h
    refine Gz.aload_n (q := 0) (pc' := 190) (by decide +kernel) rfl 0 rfl ?_
    refine Gz.getR (pc' := 193) (j := 54) 134 fd_M_93 sh_107 rfl (by decide +kernel) rfl ?_
    refine Gz.iload_n (q := 1) (pc' := 194) (by decide +kernel) rfl 1 rfl ?_
    refine Gz.aload_n (q := 0) (pc' := 195) (by decide +kernel) rfl 0 rfl ?_
    refine Gz.getR (pc' := 198) (j := 34) 126 fd_M_69 sh_107 rfl (by decide +kernel) rfl ?_
    refine Gz.iload_n (q := 1) (pc' := 199) (by decide +kernel) rfl 1 rfl ?_
    obtain ⟨c10, h⟩ := zok_c h
    refine Gz.zald (pc' := 200) (n := 30) (by decide +kernel) rfl rfl c10 ?_
    obtain ⟨c11, h⟩ := zok_c h
    refine Gz.zast (pc' := 201) (n := 30) (by decide +kernel) rfl rfl c11 ?_
    refine Gz.nmW (fun w12 e13 => ?_)
    have h := zok_l e13 h
    obtain ⟨v14, e15⟩ : ∃ y : Int32, y = x1 + (1 : Int32) := ⟨_, rfl⟩
    have h := zok_l e15 h
    refine Gz.iinc (i := 1) (n := 1) (pc' := 204) (L' := [(1, .int v14), (0, .ref 107)]) v14 (by decide +kernel) rfl 1 rfl (by rw [e15]; rfl) (Nat.le_of_ble_eq_true rfl) rfl ?_
    refine Gz.goto (off := -21) (tgt := 183) (by decide +kernel) (by decide) ?_
    refine Gz.sub (L' := [(0, .ref 107), (1, .int v14)]) [1, 0] rfl ?_
    exact hk183 v14 w12 h
theorem g_M_image_b183 {l : Launch} {Q : Option Value → gW → Prop} (x1 : Int32) (w : gW) (h : zok eI (f_M_image_b183 x1 w) Q) : Gz l m_M_image 1 183 [(0, .ref 107), (1, .int x1)] [] w Q := by
  have key : ∀ (n : Nat) (x1 : Int32) (w : gW), zok eI (zfx (fun _ _ => none) (f_M_image_b183_s) n x1 w) Q → Gz l m_M_image 1 183 [(0, .ref 107), (1, .int x1)] [] w Q := by
    intro n
    induction n with
    | zero => intro x1 w h; exact zok_n h
    | succ n ih => intro x1 w h; exact g_M_image_b183_s _ ih x1 w h
  exact key zFU x1 w h
theorem g_M_image_b154_s {l : Launch} {Q : Option Value → gW → Prop} (k154 : Int32 → gW → Option (Int32 × gW)) (hk154 : ∀ (x1 : Int32) (w : gW), zok eI (k154 x1 w) Q → Gz l m_M_image 1 154 [(0, .ref 107), (1, .int x1)] [] w Q) (x1 : Int32) (w : gW) (h : zok eI (f_M_image_b154_s k154 x1 w) Q) : Gz l m_M_image 1 154 [(0, .ref 107), (1, .int x1)] [] w Q := by
  unfold f_M_image_b154_s at h
  refine Gz.iload_n (q := 1) (pc' := 155) (by decide +kernel) rfl 1 rfl ?_
  refine Gz.bipush (n := 50) (v := (50 : Int32)) (pc' := 157) (by decide +kernel) rfl rfl ?_
  refine Gz.icmp_ge (off := 24) (tgt := 181) (pc' := 160) (by decide +kernel) (by decide) rfl (fun c1 => ?_) (fun c1 => ?_)
  · have h := zok_t c1 h
    refine Gz.iconst (n := 0) (v := (0 : Int32)) (pc' := 182) (by decide +kernel) rfl rfl ?_
    refine Gz.istore_n (q := 1) (pc' := 183) (L' := [(1, .int (0 : Int32)), (0, .ref 107)]) (by decide +kernel) rfl (Nat.le_of_ble_eq_true rfl) rfl ?_
    refine Gz.sub (L' := [(0, .ref 107), (1, .int (0 : Int32))]) [1, 0] rfl ?_
    exact g_M_image_b183 (0 : Int32) w h
  · have h := zok_f c1 h
    refine Gz.aload_n (q := 0) (pc' := 161) (by decide +kernel) rfl 0 rfl ?_
    refine Gz.getR (pc' := 164) (j := 52) 132 fd_M_87 sh_107 rfl (by decide +kernel) rfl ?_
    refine Gz.bipush (n := 80) (v := (80 : Int32)) (pc' := 166) (by decide +kernel) rfl rfl ?_
    refine Gz.iload_n (q := 1) (pc' := 167) (by decide +kernel) rfl 1 rfl ?_
    refine Gz.iadd (pc' := 168) (by decide +kernel) rfl ?_
    refine Gz.aload_n (q := 0) (pc' := 169) (by decide +kernel) rfl 0 rfl ?_
    refine Gz.getR (pc' := 172) (j := 49) 129 fd_M_78 sh_107 rfl (by decide +kernel) rfl ?_
    refine Gz.iload_n (q := 1) (pc' := 173) (by decide +kernel) rfl 1 rfl ?_
    obtain ⟨c2, h⟩ := zok_c h
    refine Gz.iald (pc' := 174) (n := 50) (by decide +kernel) rfl rfl c2 ?_
    obtain ⟨c3, h⟩ := zok_c h
    refine Gz.iast (pc' := 175) (n := 130) (by decide +kernel) rfl rfl c3 ?_
    refine Gz.nmW (fun w4 e5 => ?_)
    have h := zok_l e5 h
    obtain ⟨v6, e7⟩ : ∃ y : Int32, y = x1 + (1 : Int32) := ⟨_, rfl⟩
    have h := zok_l e7 h
    refine Gz.iinc (i := 1) (n := 1) (pc' := 178) (L' := [(1, .int v6), (0, .ref 107)]) v6 (by decide +kernel) rfl 1 rfl (by rw [e7]; rfl) (Nat.le_of_ble_eq_true rfl) rfl ?_
    refine Gz.goto (off := -24) (tgt := 154) (by decide +kernel) (by decide) ?_
    refine Gz.sub (L' := [(0, .ref 107), (1, .int v6)]) [1, 0] rfl ?_
    exact hk154 v6 w4 h
theorem g_M_image_b154 {l : Launch} {Q : Option Value → gW → Prop} (x1 : Int32) (w : gW) (h : zok eI (f_M_image_b154 x1 w) Q) : Gz l m_M_image 1 154 [(0, .ref 107), (1, .int x1)] [] w Q := by
  have key : ∀ (n : Nat) (x1 : Int32) (w : gW), zok eI (zfx (fun _ _ => none) (f_M_image_b154_s) n x1 w) Q → Gz l m_M_image 1 154 [(0, .ref 107), (1, .int x1)] [] w Q := by
    intro n
    induction n with
    | zero => intro x1 w h; exact zok_n h
    | succ n ih => intro x1 w h; exact g_M_image_b154_s _ ih x1 w h
  exact key zFU x1 w h
theorem g_M_image_b92_s {l : Launch} {Q : Option Value → gW → Prop} (k92 : Int32 → gW → Option (Int32 × gW)) (hk92 : ∀ (x1 : Int32) (w : gW), zok eI (k92 x1 w) Q → Gz l m_M_image 1 92 [(0, .ref 107), (1, .int x1)] [] w Q) (x1 : Int32) (w : gW) (h : zok eI (f_M_image_b92_s k92 x1 w) Q) : Gz l m_M_image 1 92 [(0, .ref 107), (1, .int x1)] [] w Q := by
  unfold f_M_image_b92_s at h
  refine Gz.iload_n (q := 1) (pc' := 93) (by decide +kernel) rfl 1 rfl ?_
  refine Gz.bipush (n := 20) (v := (20 : Int32)) (pc' := 95) (by decide +kernel) rfl rfl ?_
  refine Gz.icmp_ge (off := 57) (tgt := 152) (pc' := 98) (by decide +kernel) (by decide) rfl (fun c1 => ?_) (fun c1 => ?_)
  · have h := zok_t c1 h
    refine Gz.iconst (n := 0) (v := (0 : Int32)) (pc' := 153) (by decide +kernel) rfl rfl ?_
    refine Gz.istore_n (q := 1) (pc' := 154) (L' := [(1, .int (0 : Int32)), (0, .ref 107)]) (by decide +kernel) rfl (Nat.le_of_ble_eq_true rfl) rfl ?_
    refine Gz.sub (L' := [(0, .ref 107), (1, .int (0 : Int32))]) [1, 0] rfl ?_
    exact g_M_image_b154 (0 : Int32) w h
  · have h := zok_f c1 h
    refine Gz.aload_n (q := 0) (pc' := 99) (by decide +kernel) rfl 0 rfl ?_
    refine Gz.getR (pc' := 102) (j := 52) 132 fd_M_87 sh_107 rfl (by decide +kernel) rfl ?_
    refine Gz.bipush (n := 40) (v := (40 : Int32)) (pc' := 104) (by decide +kernel) rfl rfl ?_
    refine Gz.iconst (n := 2) (v := (2 : Int32)) (pc' := 105) (by decide +kernel) rfl rfl ?_
    refine Gz.iload_n (q := 1) (pc' := 106) (by decide +kernel) rfl 1 rfl ?_
    refine Gz.imul (pc' := 107) (by decide +kernel) rfl ?_
    refine Gz.iadd (pc' := 108) (by decide +kernel) rfl ?_
    refine Gz.aload_n (q := 0) (pc' := 109) (by decide +kernel) rfl 0 rfl ?_
    refine Gz.getR (pc' := 112) (j := 31) 123 fd_M_59 sh_107 rfl (by decide +kernel) rfl ?_
    refine Gz.iload_n (q := 1) (pc' := 113) (by decide +kernel) rfl 1 rfl ?_
    obtain ⟨c2, h⟩ := zok_c h
    refine Gz.iald (pc' := 114) (n := 20) (by decide +kernel) rfl rfl c2 ?_
    obtain ⟨c3, h⟩ := zok_c h
    refine Gz.iast (pc' := 115) (n := 130) (by decide +kernel) rfl rfl c3 ?_
    refine Gz.nmW (fun w4 e5 => ?_)
    have h := zok_l e5 h
    refine Gz.aload_n (q := 0) (pc' := 116) (by decide +kernel) rfl 0 rfl ?_
    refine Gz.getR (pc' := 119) (j := 52) 132 fd_M_87 sh_107 rfl (by decide +kernel) rfl ?_
    refine Gz.bipush (n := 40) (v := (40 : Int32)) (pc' := 121) (by decide +kernel) rfl rfl ?_
    refine Gz.iconst (n := 2) (v := (2 : Int32)) (pc' := 122) (by decide +kernel) rfl rfl ?_
    refine Gz.iload_n (q := 1) (pc' := 123) (by decide +kernel) rfl 1 rfl ?_
    refine Gz.imul (pc' := 124) (by decide +kernel) rfl ?_
    refine Gz.iadd (pc' := 125) (by decide +kernel) rfl ?_
    refine Gz.iconst (n := 1) (v := (1 : Int32)) (pc' := 126) (by decide +kernel) rfl rfl ?_
    refine Gz.iadd (pc' := 127) (by decide +kernel) rfl ?_
    refine Gz.aload_n (q := 0) (pc' := 128) (by decide +kernel) rfl 0 rfl ?_
    refine Gz.getR (pc' := 131) (j := 32) 124 fd_M_62 sh_107 rfl (by decide +kernel) rfl ?_
    refine Gz.iload_n (q := 1) (pc' := 132) (by decide +kernel) rfl 1 rfl ?_
    obtain ⟨c6, h⟩ := zok_c h
    refine Gz.iald (pc' := 133) (n := 20) (by decide +kernel) rfl rfl c6 ?_
    obtain ⟨c7, h⟩ := zok_c h
    refine Gz.iast (pc' := 134) (n := 130) (by decide +kernel) rfl rfl c7 ?_
    refine Gz.nmW (fun w8 e9 => ?_)
    have h := zok_l e9 h
    refine Gz.aload_n (q := 0) (pc' := 135) (by decide +kernel) rfl 0 rfl ?_
    refine Gz.getR (pc' := 138) (j := 53) 133 fd_M_90 sh_107 rfl (by decide +kernel) rfl ?_
    refine Gz.iload_n (q := 1) (pc' := 139) (by decide +kernel) rfl 1 rfl ?_
    refine Gz.aload_n (q := 0) (pc' := 140) (by decide +kernel) rfl 0 rfl ?_
    refine Gz.getR (pc' := 143) (j := 33) 125 fd_M_65 sh_107 rfl (by decide +kernel) rfl ?_
    refine Gz.iload_n (q := 1) (pc' := 144) (by decide +kernel) rfl 1 rfl ?_
    obtain ⟨c10, h⟩ := zok_c h
    refine Gz.zald (pc' := 145) (n := 20) (by decide +kernel) rfl rfl c10 ?_
    obtain ⟨c11, h⟩ := zok_c h
    refine Gz.zast (pc' := 146) (n := 20) (by decide +kernel) rfl rfl c11 ?_
    refine Gz.nmW (fun w12 e13 => ?_)
    have h := zok_l e13 h
    obtain ⟨v14, e15⟩ : ∃ y : Int32, y = x1 + (1 : Int32) := ⟨_, rfl⟩
    have h := zok_l e15 h
    refine Gz.iinc (i := 1) (n := 1) (pc' := 149) (L' := [(1, .int v14), (0, .ref 107)]) v14 (by decide +kernel) rfl 1 rfl (by rw [e15]; rfl) (Nat.le_of_ble_eq_true rfl) rfl ?_
    refine Gz.goto (off := -57) (tgt := 92) (by decide +kernel) (by decide) ?_
    refine Gz.sub (L' := [(0, .ref 107), (1, .int v14)]) [1, 0] rfl ?_
    exact hk92 v14 w12 h
theorem g_M_image_b92 {l : Launch} {Q : Option Value → gW → Prop} (x1 : Int32) (w : gW) (h : zok eI (f_M_image_b92 x1 w) Q) : Gz l m_M_image 1 92 [(0, .ref 107), (1, .int x1)] [] w Q := by
  have key : ∀ (n : Nat) (x1 : Int32) (w : gW), zok eI (zfx (fun _ _ => none) (f_M_image_b92_s) n x1 w) Q → Gz l m_M_image 1 92 [(0, .ref 107), (1, .int x1)] [] w Q := by
    intro n
    induction n with
    | zero => intro x1 w h; exact zok_n h
    | succ n ih => intro x1 w h; exact g_M_image_b92_s _ ih x1 w h
  exact key zFU x1 w h
theorem g_M_image_b16_s {l : Launch} {Q : Option Value → gW → Prop} (k16 : Int32 → gW → Option (Int32 × gW)) (hk16 : ∀ (x1 : Int32) (w : gW), zok eI (k16 x1 w) Q → Gz l m_M_image 1 16 [(0, .ref 107), (1, .int x1)] [] w Q) (x1 : Int32) (w : gW) (h : zok eI (f_M_image_b16_s k16 x1 w) Q) : Gz l m_M_image 1 16 [(0, .ref 107), (1, .int x1)] [] w Q := by
  unfold f_M_image_b16_s at h
  refine Gz.iload_n (q := 1) (pc' := 17) (by decide +kernel) rfl 1 rfl ?_
  refine Gz.bipush (n := 10) (v := (10 : Int32)) (pc' := 19) (by decide +kernel) rfl rfl ?_
  refine Gz.icmp_ge (off := 71) (tgt := 90) (pc' := 22) (by decide +kernel) (by decide) rfl (fun c1 => ?_) (fun c1 => ?_)
  · have h := zok_t c1 h
    refine Gz.iconst (n := 0) (v := (0 : Int32)) (pc' := 91) (by decide +kernel) rfl rfl ?_
    refine Gz.istore_n (q := 1) (pc' := 92) (L' := [(1, .int (0 : Int32)), (0, .ref 107)]) (by decide +kernel) rfl (Nat.le_of_ble_eq_true rfl) rfl ?_
    refine Gz.sub (L' := [(0, .ref 107), (1, .int (0 : Int32))]) [1, 0] rfl ?_
    exact g_M_image_b92 (0 : Int32) w h
  · have h := zok_f c1 h
    refine Gz.aload_n (q := 0) (pc' := 23) (by decide +kernel) rfl 0 rfl ?_
    refine Gz.getR (pc' := 26) (j := 52) 132 fd_M_87 sh_107 rfl (by decide +kernel) rfl ?_
    refine Gz.iconst (n := 4) (v := (4 : Int32)) (pc' := 27) (by decide +kernel) rfl rfl ?_
    refine Gz.iload_n (q := 1) (pc' := 28) (by decide +kernel) rfl 1 rfl ?_
    refine Gz.imul (pc' := 29) (by decide +kernel) rfl ?_
    refine Gz.aload_n (q := 0) (pc' := 30) (by decide +kernel) rfl 0 rfl ?_
    refine Gz.getR (pc' := 33) (j := 27) 119 fd_M_47 sh_107 rfl (by decide +kernel) rfl ?_
    refine Gz.iload_n (q := 1) (pc' := 34) (by decide +kernel) rfl 1 rfl ?_
    obtain ⟨c2, h⟩ := zok_c h
    refine Gz.iald (pc' := 35) (n := 10) (by decide +kernel) rfl rfl c2 ?_
    obtain ⟨c3, h⟩ := zok_c h
    refine Gz.iast (pc' := 36) (n := 130) (by decide +kernel) rfl rfl c3 ?_
    refine Gz.nmW (fun w4 e5 => ?_)
    have h := zok_l e5 h
    refine Gz.aload_n (q := 0) (pc' := 37) (by decide +kernel) rfl 0 rfl ?_
    refine Gz.getR (pc' := 40) (j := 52) 132 fd_M_87 sh_107 rfl (by decide +kernel) rfl ?_
    refine Gz.iconst (n := 4) (v := (4 : Int32)) (pc' := 41) (by decide +kernel) rfl rfl ?_
    refine Gz.iload_n (q := 1) (pc' := 42) (by decide +kernel) rfl 1 rfl ?_
    refine Gz.imul (pc' := 43) (by decide +kernel) rfl ?_
    refine Gz.iconst (n := 1) (v := (1 : Int32)) (pc' := 44) (by decide +kernel) rfl rfl ?_
    refine Gz.iadd (pc' := 45) (by decide +kernel) rfl ?_
    refine Gz.aload_n (q := 0) (pc' := 46) (by decide +kernel) rfl 0 rfl ?_
    refine Gz.getR (pc' := 49) (j := 28) 120 fd_M_50 sh_107 rfl (by decide +kernel) rfl ?_
    refine Gz.iload_n (q := 1) (pc' := 50) (by decide +kernel) rfl 1 rfl ?_
    obtain ⟨c6, h⟩ := zok_c h
    refine Gz.iald (pc' := 51) (n := 10) (by decide +kernel) rfl rfl c6 ?_
    obtain ⟨c7, h⟩ := zok_c h
    refine Gz.iast (pc' := 52) (n := 130) (by decide +kernel) rfl rfl c7 ?_
    refine Gz.nmW (fun w8 e9 => ?_)
    have h := zok_l e9 h
    refine Gz.aload_n (q := 0) (pc' := 53) (by decide +kernel) rfl 0 rfl ?_
    refine Gz.getR (pc' := 56) (j := 52) 132 fd_M_87 sh_107 rfl (by decide +kernel) rfl ?_
    refine Gz.iconst (n := 4) (v := (4 : Int32)) (pc' := 57) (by decide +kernel) rfl rfl ?_
    refine Gz.iload_n (q := 1) (pc' := 58) (by decide +kernel) rfl 1 rfl ?_
    refine Gz.imul (pc' := 59) (by decide +kernel) rfl ?_
    refine Gz.iconst (n := 2) (v := (2 : Int32)) (pc' := 60) (by decide +kernel) rfl rfl ?_
    refine Gz.iadd (pc' := 61) (by decide +kernel) rfl ?_
    refine Gz.aload_n (q := 0) (pc' := 62) (by decide +kernel) rfl 0 rfl ?_
    refine Gz.getR (pc' := 65) (j := 29) 121 fd_M_53 sh_107 rfl (by decide +kernel) rfl ?_
    refine Gz.iload_n (q := 1) (pc' := 66) (by decide +kernel) rfl 1 rfl ?_
    obtain ⟨c10, h⟩ := zok_c h
    refine Gz.iald (pc' := 67) (n := 10) (by decide +kernel) rfl rfl c10 ?_
    obtain ⟨c11, h⟩ := zok_c h
    refine Gz.iast (pc' := 68) (n := 130) (by decide +kernel) rfl rfl c11 ?_
    refine Gz.nmW (fun w12 e13 => ?_)
    have h := zok_l e13 h
    refine Gz.aload_n (q := 0) (pc' := 69) (by decide +kernel) rfl 0 rfl ?_
    refine Gz.getR (pc' := 72) (j := 52) 132 fd_M_87 sh_107 rfl (by decide +kernel) rfl ?_
    refine Gz.iconst (n := 4) (v := (4 : Int32)) (pc' := 73) (by decide +kernel) rfl rfl ?_
    refine Gz.iload_n (q := 1) (pc' := 74) (by decide +kernel) rfl 1 rfl ?_
    refine Gz.imul (pc' := 75) (by decide +kernel) rfl ?_
    refine Gz.iconst (n := 3) (v := (3 : Int32)) (pc' := 76) (by decide +kernel) rfl rfl ?_
    refine Gz.iadd (pc' := 77) (by decide +kernel) rfl ?_
    refine Gz.aload_n (q := 0) (pc' := 78) (by decide +kernel) rfl 0 rfl ?_
    refine Gz.getR (pc' := 81) (j := 30) 122 fd_M_56 sh_107 rfl (by decide +kernel) rfl ?_
    refine Gz.iload_n (q := 1) (pc' := 82) (by decide +kernel) rfl 1 rfl ?_
    obtain ⟨c14, h⟩ := zok_c h
    refine Gz.iald (pc' := 83) (n := 10) (by decide +kernel) rfl rfl c14 ?_
    obtain ⟨c15, h⟩ := zok_c h
    refine Gz.iast (pc' := 84) (n := 130) (by decide +kernel) rfl rfl c15 ?_
    refine Gz.nmW (fun w16 e17 => ?_)
    have h := zok_l e17 h
    obtain ⟨v18, e19⟩ : ∃ y : Int32, y = x1 + (1 : Int32) := ⟨_, rfl⟩
    have h := zok_l e19 h
    refine Gz.iinc (i := 1) (n := 1) (pc' := 87) (L' := [(1, .int v18), (0, .ref 107)]) v18 (by decide +kernel) rfl 1 rfl (by rw [e19]; rfl) (Nat.le_of_ble_eq_true rfl) rfl ?_
    refine Gz.goto (off := -71) (tgt := 16) (by decide +kernel) (by decide) ?_
    refine Gz.sub (L' := [(0, .ref 107), (1, .int v18)]) [1, 0] rfl ?_
    exact hk16 v18 w16 h
theorem g_M_image_b16 {l : Launch} {Q : Option Value → gW → Prop} (x1 : Int32) (w : gW) (h : zok eI (f_M_image_b16 x1 w) Q) : Gz l m_M_image 1 16 [(0, .ref 107), (1, .int x1)] [] w Q := by
  have key : ∀ (n : Nat) (x1 : Int32) (w : gW), zok eI (zfx (fun _ _ => none) (f_M_image_b16_s) n x1 w) Q → Gz l m_M_image 1 16 [(0, .ref 107), (1, .int x1)] [] w Q := by
    intro n
    induction n with
    | zero => intro x1 w h; exact zok_n h
    | succ n ih => intro x1 w h; exact g_M_image_b16_s _ ih x1 w h
  exact key zFU x1 w h
theorem g_M_image {l : Launch} (w : gW) : gCt l m_M_image 1 [.ref 107] w eI (f_M_image w) := by
  intro Q h
  unfold f_M_image at h
  show Gz l m_M_image 1 0 [(0, .ref 107)] [] w Q
  refine Gz.aload_n (q := 0) (pc' := 1) (by decide +kernel) rfl 0 rfl ?_
  refine Gz.iconst (n := 0) (v := (0 : Int32)) (pc' := 2) (by decide +kernel) rfl rfl ?_
  refine Gz.putI (pc' := 5) (j := 0) fd_M_96 sh_107 rfl (by decide +kernel) rfl ?_
  refine Gz.nmW (fun w1 e2 => ?_)
  have h := zok_l e2 h
  refine Gz.aload_n (q := 0) (pc' := 6) (by decide +kernel) rfl 0 rfl ?_
  refine Gz.getI (pc' := 9) (j := 21) fd_M_141 sh_107 rfl (by decide +kernel) rfl ?_
  refine Gz.if_ne (off := 5) (tgt := 14) (pc' := 12) (by decide +kernel) (by decide) rfl (fun c3 => ?_) (fun c3 => ?_)
  · have h := zok_f c3 h
    refine Gz.iconst (n := 0) (v := (0 : Int32)) (pc' := 15) (by decide +kernel) rfl rfl ?_
    refine Gz.istore_n (q := 1) (pc' := 16) (L' := [(1, .int (0 : Int32)), (0, .ref 107)]) (by decide +kernel) rfl (Nat.le_of_ble_eq_true rfl) rfl ?_
    refine Gz.sub (L' := [(0, .ref 107), (1, .int (0 : Int32))]) [1, 0] rfl ?_
    exact g_M_image_b16 (0 : Int32) w1 h
  · have h := zok_t c3 h
    refine Gz.iconst (n := -1) (v := (-1 : Int32)) (pc' := 13) (by decide +kernel) rfl rfl ?_
    exact Gz.ireturn (by decide +kernel) rfl (zok_sI h)
def f_M_back_b183_s (k183 : Int32 → gW → Option (Int32 × gW)) (x1 : Int32) (w : gW) : Option (Int32 × gW) :=
if (30 : Int32) ≤ x1 then
(zl (zsI w 107 35 (w.1 107 55)) (fun w2 =>
zl (zsI w2 107 36 (w2.1 107 56)) (fun w4 =>
zl (zsI w4 107 37 (w4.1 107 57)) (fun w6 =>
some (w6.1 107 37, w6)))))
else
(if inb x1 30 then
if inb x1 30 then
zl (zsI w 126 (ix x1) ((w.1 134 (ix x1)) &&& 1)) (fun w10 =>
zl (x1 + (1 : Int32)) (fun v12 =>
k183 v12 w10))
else none
else none)
def f_M_back_b183 : Int32 → gW → Option (Int32 × gW) := zfx (fun _ _ => none) (f_M_back_b183_s) zFU
def f_M_back_b154_s (k154 : Int32 → gW → Option (Int32 × gW)) (x1 : Int32) (w : gW) : Option (Int32 × gW) :=
if (50 : Int32) ≤ x1 then
(f_M_back_b183 (0 : Int32) w)
else
(if inb ((80 : Int32) + x1) 130 then
if inb x1 50 then
zl (zsI w 129 (ix x1) (w.1 132 (ix ((80 : Int32) + x1)))) (fun w4 =>
zl (x1 + (1 : Int32)) (fun v6 =>
k154 v6 w4))
else none
else none)
def f_M_back_b154 : Int32 → gW → Option (Int32 × gW) := zfx (fun _ _ => none) (f_M_back_b154_s) zFU
def f_M_back_b92_s (k92 : Int32 → gW → Option (Int32 × gW)) (x1 : Int32) (w : gW) : Option (Int32 × gW) :=
if (20 : Int32) ≤ x1 then
(f_M_back_b154 (0 : Int32) w)
else
(if inb ((40 : Int32) + ((2 : Int32) * x1)) 130 then
if inb x1 20 then
zl (zsI w 123 (ix x1) (w.1 132 (ix ((40 : Int32) + ((2 : Int32) * x1))))) (fun w4 =>
if inb (((40 : Int32) + ((2 : Int32) * x1)) + (1 : Int32)) 130 then
if inb x1 20 then
zl (zsI w4 124 (ix x1) (w4.1 132 (ix (((40 : Int32) + ((2 : Int32) * x1)) + (1 : Int32))))) (fun w8 =>
if inb x1 20 then
if inb x1 20 then
zl (zsI w8 125 (ix x1) ((w8.1 133 (ix x1)) &&& 1)) (fun w12 =>
zl (x1 + (1 : Int32)) (fun v14 =>
k92 v14 w12))
else none
else none)
else none
else none)
else none
else none)
def f_M_back_b92 : Int32 → gW → Option (Int32 × gW) := zfx (fun _ _ => none) (f_M_back_b92_s) zFU
def f_M_back_b16_s (k16 : Int32 → gW → Option (Int32 × gW)) (x1 : Int32) (w : gW) : Option (Int32 × gW) :=
if (10 : Int32) ≤ x1 then
(f_M_back_b92 (0 : Int32) w)
else
(if inb ((4 : Int32) * x1) 130 then
if inb x1 10 then
zl (zsI w 119 (ix x1) (w.1 132 (ix ((4 : Int32) * x1)))) (fun w4 =>
if inb (((4 : Int32) * x1) + (1 : Int32)) 130 then
if inb x1 10 then
zl (zsI w4 120 (ix x1) (w4.1 132 (ix (((4 : Int32) * x1) + (1 : Int32))))) (fun w8 =>
if inb (((4 : Int32) * x1) + (2 : Int32)) 130 then
if inb x1 10 then
zl (zsI w8 121 (ix x1) (w8.1 132 (ix (((4 : Int32) * x1) + (2 : Int32))))) (fun w12 =>
if inb (((4 : Int32) * x1) + (3 : Int32)) 130 then
if inb x1 10 then
zl (zsI w12 122 (ix x1) (w12.1 132 (ix (((4 : Int32) * x1) + (3 : Int32))))) (fun w16 =>
zl (x1 + (1 : Int32)) (fun v18 =>
k16 v18 w16))
else none
else none)
else none
else none)
else none
else none)
else none
else none)
def f_M_back_b16 : Int32 → gW → Option (Int32 × gW) := zfx (fun _ _ => none) (f_M_back_b16_s) zFU
def f_M_back (w : gW) : Option (Int32 × gW) :=
zl (zsI w 107 0 (0 : Int32)) (fun w1 =>
if (w1.1 107 58) = 0 then
(some ((-1 : Int32), w1))
else
(f_M_back_b16 (0 : Int32) w1))
theorem g_M_back_b183_s {l : Launch} {Q : Option Value → gW → Prop} (k183 : Int32 → gW → Option (Int32 × gW)) (hk183 : ∀ (x1 : Int32) (w : gW), zok eI (k183 x1 w) Q → Gz l m_M_back 1 183 [(0, .ref 107), (1, .int x1)] [] w Q) (x1 : Int32) (w : gW) (h : zok eI (f_M_back_b183_s k183 x1 w) Q) : Gz l m_M_back 1 183 [(0, .ref 107), (1, .int x1)] [] w Q := by
  unfold f_M_back_b183_s at h
  refine Gz.iload_n (q := 1) (pc' := 184) (by decide +kernel) rfl 1 rfl ?_
  refine Gz.bipush (n := 30) (v := (30 : Int32)) (pc' := 186) (by decide +kernel) rfl rfl ?_
  refine Gz.icmp_ge (off := 21) (tgt := 207) (pc' := 189) (by decide +kernel) (by decide) rfl (fun c1 => ?_) (fun c1 => ?_)
  · have h := zok_t c1 h
    refine Gz.aload_n (q := 0) (pc' := 208) (by decide +kernel) rfl 0 rfl ?_
    refine Gz.aload_n (q := 0) (pc' := 209) (by decide +kernel) rfl 0 rfl ?_
    refine Gz.getI (pc' := 212) (j := 55) fd_M_379 sh_107 rfl (by decide +kernel) rfl ?_
    refine Gz.putI (pc' := 215) (j := 35) fd_M_211 sh_107 rfl (by decide +kernel) rfl ?_
    refine Gz.nmW (fun w2 e3 => ?_)
    have h := zok_l e3 h
    refine Gz.aload_n (q := 0) (pc' := 216) (by decide +kernel) rfl 0 rfl ?_
    refine Gz.aload_n (q := 0) (pc' := 217) (by decide +kernel) rfl 0 rfl ?_
    refine Gz.getI (pc' := 220) (j := 56) fd_M_382 sh_107 rfl (by decide +kernel) rfl ?_
    refine Gz.putI (pc' := 223) (j := 36) fd_M_214 sh_107 rfl (by decide +kernel) rfl ?_
    refine Gz.nmW (fun w4 e5 => ?_)
    have h := zok_l e5 h
    refine Gz.aload_n (q := 0) (pc' := 224) (by decide +kernel) rfl 0 rfl ?_
    refine Gz.aload_n (q := 0) (pc' := 225) (by decide +kernel) rfl 0 rfl ?_
    refine Gz.getI (pc' := 228) (j := 57) fd_M_385 sh_107 rfl (by decide +kernel) rfl ?_
    refine Gz.putI (pc' := 231) (j := 37) fd_M_217 sh_107 rfl (by decide +kernel) rfl ?_
    refine Gz.nmW (fun w6 e7 => ?_)
    have h := zok_l e7 h
    refine Gz.aload_n (q := 0) (pc' := 232) (by decide +kernel) rfl 0 rfl ?_
    refine Gz.getI (pc' := 235) (j := 37) fd_M_217 sh_107 rfl (by decide +kernel) rfl ?_
    exact Gz.ireturn (by decide +kernel) rfl (zok_sI h)
  · have h := zok_f c1 h
    refine Gz.aload_n (q := 0) (pc' := 190) (by decide +kernel) rfl 0 rfl ?_
    refine Gz.getR (pc' := 193) (j := 34) 126 fd_M_69 sh_107 rfl (by decide +kernel) rfl ?_
    refine Gz.iload_n (q := 1) (pc' := 194) (by decide +kernel) rfl 1 rfl ?_
    refine Gz.aload_n (q := 0) (pc' := 195) (by decide +kernel) rfl 0 rfl ?_
    refine Gz.getR (pc' := 198) (j := 54) 134 fd_M_93 sh_107 rfl (by decide +kernel) rfl ?_
    refine Gz.iload_n (q := 1) (pc' := 199) (by decide +kernel) rfl 1 rfl ?_
    obtain ⟨c8, h⟩ := zok_c h
    refine Gz.zald (pc' := 200) (n := 30) (by decide +kernel) rfl rfl c8 ?_
    obtain ⟨c9, h⟩ := zok_c h
    refine Gz.zast (pc' := 201) (n := 30) (by decide +kernel) rfl rfl c9 ?_
    refine Gz.nmW (fun w10 e11 => ?_)
    have h := zok_l e11 h
    obtain ⟨v12, e13⟩ : ∃ y : Int32, y = x1 + (1 : Int32) := ⟨_, rfl⟩
    have h := zok_l e13 h
    refine Gz.iinc (i := 1) (n := 1) (pc' := 204) (L' := [(1, .int v12), (0, .ref 107)]) v12 (by decide +kernel) rfl 1 rfl (by rw [e13]; rfl) (Nat.le_of_ble_eq_true rfl) rfl ?_
    refine Gz.goto (off := -21) (tgt := 183) (by decide +kernel) (by decide) ?_
    refine Gz.sub (L' := [(0, .ref 107), (1, .int v12)]) [1, 0] rfl ?_
    exact hk183 v12 w10 h
theorem g_M_back_b183 {l : Launch} {Q : Option Value → gW → Prop} (x1 : Int32) (w : gW) (h : zok eI (f_M_back_b183 x1 w) Q) : Gz l m_M_back 1 183 [(0, .ref 107), (1, .int x1)] [] w Q := by
  have key : ∀ (n : Nat) (x1 : Int32) (w : gW), zok eI (zfx (fun _ _ => none) (f_M_back_b183_s) n x1 w) Q → Gz l m_M_back 1 183 [(0, .ref 107), (1, .int x1)] [] w Q := by
    intro n
    induction n with
    | zero => intro x1 w h; exact zok_n h
    | succ n ih => intro x1 w h; exact g_M_back_b183_s _ ih x1 w h
  exact key zFU x1 w h
theorem g_M_back_b154_s {l : Launch} {Q : Option Value → gW → Prop} (k154 : Int32 → gW → Option (Int32 × gW)) (hk154 : ∀ (x1 : Int32) (w : gW), zok eI (k154 x1 w) Q → Gz l m_M_back 1 154 [(0, .ref 107), (1, .int x1)] [] w Q) (x1 : Int32) (w : gW) (h : zok eI (f_M_back_b154_s k154 x1 w) Q) : Gz l m_M_back 1 154 [(0, .ref 107), (1, .int x1)] [] w Q := by
  unfold f_M_back_b154_s at h
  refine Gz.iload_n (q := 1) (pc' := 155) (by decide +kernel) rfl 1 rfl ?_
  refine Gz.bipush (n := 50) (v := (50 : Int32)) (pc' := 157) (by decide +kernel) rfl rfl ?_
  refine Gz.icmp_ge (off := 24) (tgt := 181) (pc' := 160) (by decide +kernel) (by decide) rfl (fun c1 => ?_) (fun c1 => ?_)
  · have h := zok_t c1 h
    refine Gz.iconst (n := 0) (v := (0 : Int32)) (pc' := 182) (by decide +kernel) rfl rfl ?_
    refine Gz.istore_n (q := 1) (pc' := 183) (L' := [(1, .int (0 : Int32)), (0, .ref 107)]) (by decide +kernel) rfl (Nat.le_of_ble_eq_true rfl) rfl ?_
    refine Gz.sub (L' := [(0, .ref 107), (1, .int (0 : Int32))]) [1, 0] rfl ?_
    exact g_M_back_b183 (0 : Int32) w h
  · have h := zok_f c1 h
    refine Gz.aload_n (q := 0) (pc' := 161) (by decide +kernel) rfl 0 rfl ?_
    refine Gz.getR (pc' := 164) (j := 49) 129 fd_M_78 sh_107 rfl (by decide +kernel) rfl ?_
    refine Gz.iload_n (q := 1) (pc' := 165) (by decide +kernel) rfl 1 rfl ?_
    refine Gz.aload_n (q := 0) (pc' := 166) (by decide +kernel) rfl 0 rfl ?_
    refine Gz.getR (pc' := 169) (j := 52) 132 fd_M_87 sh_107 rfl (by decide +kernel) rfl ?_
    refine Gz.bipush (n := 80) (v := (80 : Int32)) (pc' := 171) (by decide +kernel) rfl rfl ?_
    refine Gz.iload_n (q := 1) (pc' := 172) (by decide +kernel) rfl 1 rfl ?_
    refine Gz.iadd (pc' := 173) (by decide +kernel) rfl ?_
    obtain ⟨c2, h⟩ := zok_c h
    refine Gz.iald (pc' := 174) (n := 130) (by decide +kernel) rfl rfl c2 ?_
    obtain ⟨c3, h⟩ := zok_c h
    refine Gz.iast (pc' := 175) (n := 50) (by decide +kernel) rfl rfl c3 ?_
    refine Gz.nmW (fun w4 e5 => ?_)
    have h := zok_l e5 h
    obtain ⟨v6, e7⟩ : ∃ y : Int32, y = x1 + (1 : Int32) := ⟨_, rfl⟩
    have h := zok_l e7 h
    refine Gz.iinc (i := 1) (n := 1) (pc' := 178) (L' := [(1, .int v6), (0, .ref 107)]) v6 (by decide +kernel) rfl 1 rfl (by rw [e7]; rfl) (Nat.le_of_ble_eq_true rfl) rfl ?_
    refine Gz.goto (off := -24) (tgt := 154) (by decide +kernel) (by decide) ?_
    refine Gz.sub (L' := [(0, .ref 107), (1, .int v6)]) [1, 0] rfl ?_
    exact hk154 v6 w4 h
theorem g_M_back_b154 {l : Launch} {Q : Option Value → gW → Prop} (x1 : Int32) (w : gW) (h : zok eI (f_M_back_b154 x1 w) Q) : Gz l m_M_back 1 154 [(0, .ref 107), (1, .int x1)] [] w Q := by
  have key : ∀ (n : Nat) (x1 : Int32) (w : gW), zok eI (zfx (fun _ _ => none) (f_M_back_b154_s) n x1 w) Q → Gz l m_M_back 1 154 [(0, .ref 107), (1, .int x1)] [] w Q := by
    intro n
    induction n with
    | zero => intro x1 w h; exact zok_n h
    | succ n ih => intro x1 w h; exact g_M_back_b154_s _ ih x1 w h
  exact key zFU x1 w h
theorem g_M_back_b92_s {l : Launch} {Q : Option Value → gW → Prop} (k92 : Int32 → gW → Option (Int32 × gW)) (hk92 : ∀ (x1 : Int32) (w : gW), zok eI (k92 x1 w) Q → Gz l m_M_back 1 92 [(0, .ref 107), (1, .int x1)] [] w Q) (x1 : Int32) (w : gW) (h : zok eI (f_M_back_b92_s k92 x1 w) Q) : Gz l m_M_back 1 92 [(0, .ref 107), (1, .int x1)] [] w Q := by
  unfold f_M_back_b92_s at h
  refine Gz.iload_n (q := 1) (pc' := 93) (by decide +kernel) rfl 1 rfl ?_
  refine Gz.bipush (n := 20) (v := (20 : Int32)) (pc' := 95) (by decide +kernel) rfl rfl ?_
  refine Gz.icmp_ge (off := 57) (tgt := 152) (pc' := 98) (by decide +kernel) (by decide) rfl (fun c1 => ?_) (fun c1 => ?_)
  · have h := zok_t c1 h
    refine Gz.iconst (n := 0) (v := (0 : Int32)) (pc' := 153) (by decide +kernel) rfl rfl ?_
    refine Gz.istore_n (q := 1) (pc' := 154) (L' := [(1, .int (0 : Int32)), (0, .ref 107)]) (by decide +kernel) rfl (Nat.le_of_ble_eq_true rfl) rfl ?_
    refine Gz.sub (L' := [(0, .ref 107), (1, .int (0 : Int32))]) [1, 0] rfl ?_
    exact g_M_back_b154 (0 : Int32) w h
  · have h := zok_f c1 h
    refine Gz.aload_n (q := 0) (pc' := 99) (by decide +kernel) rfl 0 rfl ?_
    refine Gz.getR (pc' := 102) (j := 31) 123 fd_M_59 sh_107 rfl (by decide +kernel) rfl ?_
    refine Gz.iload_n (q := 1) (pc' := 103) (by decide +kernel) rfl 1 rfl ?_
    refine Gz.aload_n (q := 0) (pc' := 104) (by decide +kernel) rfl 0 rfl ?_
    refine Gz.getR (pc' := 107) (j := 52) 132 fd_M_87 sh_107 rfl (by decide +kernel) rfl ?_
    refine Gz.bipush (n := 40) (v := (40 : Int32)) (pc' := 109) (by decide +kernel) rfl rfl ?_
    refine Gz.iconst (n := 2) (v := (2 : Int32)) (pc' := 110) (by decide +kernel) rfl rfl ?_
    refine Gz.iload_n (q := 1) (pc' := 111) (by decide +kernel) rfl 1 rfl ?_
    refine Gz.imul (pc' := 112) (by decide +kernel) rfl ?_
    refine Gz.iadd (pc' := 113) (by decide +kernel) rfl ?_
    obtain ⟨c2, h⟩ := zok_c h
    refine Gz.iald (pc' := 114) (n := 130) (by decide +kernel) rfl rfl c2 ?_
    obtain ⟨c3, h⟩ := zok_c h
    refine Gz.iast (pc' := 115) (n := 20) (by decide +kernel) rfl rfl c3 ?_
    refine Gz.nmW (fun w4 e5 => ?_)
    have h := zok_l e5 h
    refine Gz.aload_n (q := 0) (pc' := 116) (by decide +kernel) rfl 0 rfl ?_
    refine Gz.getR (pc' := 119) (j := 32) 124 fd_M_62 sh_107 rfl (by decide +kernel) rfl ?_
    refine Gz.iload_n (q := 1) (pc' := 120) (by decide +kernel) rfl 1 rfl ?_
    refine Gz.aload_n (q := 0) (pc' := 121) (by decide +kernel) rfl 0 rfl ?_
    refine Gz.getR (pc' := 124) (j := 52) 132 fd_M_87 sh_107 rfl (by decide +kernel) rfl ?_
    refine Gz.bipush (n := 40) (v := (40 : Int32)) (pc' := 126) (by decide +kernel) rfl rfl ?_
    refine Gz.iconst (n := 2) (v := (2 : Int32)) (pc' := 127) (by decide +kernel) rfl rfl ?_
    refine Gz.iload_n (q := 1) (pc' := 128) (by decide +kernel) rfl 1 rfl ?_
    refine Gz.imul (pc' := 129) (by decide +kernel) rfl ?_
    refine Gz.iadd (pc' := 130) (by decide +kernel) rfl ?_
    refine Gz.iconst (n := 1) (v := (1 : Int32)) (pc' := 131) (by decide +kernel) rfl rfl ?_
    refine Gz.iadd (pc' := 132) (by decide +kernel) rfl ?_
    obtain ⟨c6, h⟩ := zok_c h
    refine Gz.iald (pc' := 133) (n := 130) (by decide +kernel) rfl rfl c6 ?_
    obtain ⟨c7, h⟩ := zok_c h
    refine Gz.iast (pc' := 134) (n := 20) (by decide +kernel) rfl rfl c7 ?_
    refine Gz.nmW (fun w8 e9 => ?_)
    have h := zok_l e9 h
    refine Gz.aload_n (q := 0) (pc' := 135) (by decide +kernel) rfl 0 rfl ?_
    refine Gz.getR (pc' := 138) (j := 33) 125 fd_M_65 sh_107 rfl (by decide +kernel) rfl ?_
    refine Gz.iload_n (q := 1) (pc' := 139) (by decide +kernel) rfl 1 rfl ?_
    refine Gz.aload_n (q := 0) (pc' := 140) (by decide +kernel) rfl 0 rfl ?_
    refine Gz.getR (pc' := 143) (j := 53) 133 fd_M_90 sh_107 rfl (by decide +kernel) rfl ?_
    refine Gz.iload_n (q := 1) (pc' := 144) (by decide +kernel) rfl 1 rfl ?_
    obtain ⟨c10, h⟩ := zok_c h
    refine Gz.zald (pc' := 145) (n := 20) (by decide +kernel) rfl rfl c10 ?_
    obtain ⟨c11, h⟩ := zok_c h
    refine Gz.zast (pc' := 146) (n := 20) (by decide +kernel) rfl rfl c11 ?_
    refine Gz.nmW (fun w12 e13 => ?_)
    have h := zok_l e13 h
    obtain ⟨v14, e15⟩ : ∃ y : Int32, y = x1 + (1 : Int32) := ⟨_, rfl⟩
    have h := zok_l e15 h
    refine Gz.iinc (i := 1) (n := 1) (pc' := 149) (L' := [(1, .int v14), (0, .ref 107)]) v14 (by decide +kernel) rfl 1 rfl (by rw [e15]; rfl) (Nat.le_of_ble_eq_true rfl) rfl ?_
    refine Gz.goto (off := -57) (tgt := 92) (by decide +kernel) (by decide) ?_
    refine Gz.sub (L' := [(0, .ref 107), (1, .int v14)]) [1, 0] rfl ?_
    exact hk92 v14 w12 h
theorem g_M_back_b92 {l : Launch} {Q : Option Value → gW → Prop} (x1 : Int32) (w : gW) (h : zok eI (f_M_back_b92 x1 w) Q) : Gz l m_M_back 1 92 [(0, .ref 107), (1, .int x1)] [] w Q := by
  have key : ∀ (n : Nat) (x1 : Int32) (w : gW), zok eI (zfx (fun _ _ => none) (f_M_back_b92_s) n x1 w) Q → Gz l m_M_back 1 92 [(0, .ref 107), (1, .int x1)] [] w Q := by
    intro n
    induction n with
    | zero => intro x1 w h; exact zok_n h
    | succ n ih => intro x1 w h; exact g_M_back_b92_s _ ih x1 w h
  exact key zFU x1 w h
theorem g_M_back_b16_s {l : Launch} {Q : Option Value → gW → Prop} (k16 : Int32 → gW → Option (Int32 × gW)) (hk16 : ∀ (x1 : Int32) (w : gW), zok eI (k16 x1 w) Q → Gz l m_M_back 1 16 [(0, .ref 107), (1, .int x1)] [] w Q) (x1 : Int32) (w : gW) (h : zok eI (f_M_back_b16_s k16 x1 w) Q) : Gz l m_M_back 1 16 [(0, .ref 107), (1, .int x1)] [] w Q := by
  unfold f_M_back_b16_s at h
  refine Gz.iload_n (q := 1) (pc' := 17) (by decide +kernel) rfl 1 rfl ?_
  refine Gz.bipush (n := 10) (v := (10 : Int32)) (pc' := 19) (by decide +kernel) rfl rfl ?_
  refine Gz.icmp_ge (off := 71) (tgt := 90) (pc' := 22) (by decide +kernel) (by decide) rfl (fun c1 => ?_) (fun c1 => ?_)
  · have h := zok_t c1 h
    refine Gz.iconst (n := 0) (v := (0 : Int32)) (pc' := 91) (by decide +kernel) rfl rfl ?_
    refine Gz.istore_n (q := 1) (pc' := 92) (L' := [(1, .int (0 : Int32)), (0, .ref 107)]) (by decide +kernel) rfl (Nat.le_of_ble_eq_true rfl) rfl ?_
    refine Gz.sub (L' := [(0, .ref 107), (1, .int (0 : Int32))]) [1, 0] rfl ?_
    exact g_M_back_b92 (0 : Int32) w h
  · have h := zok_f c1 h
    refine Gz.aload_n (q := 0) (pc' := 23) (by decide +kernel) rfl 0 rfl ?_
    refine Gz.getR (pc' := 26) (j := 27) 119 fd_M_47 sh_107 rfl (by decide +kernel) rfl ?_
    refine Gz.iload_n (q := 1) (pc' := 27) (by decide +kernel) rfl 1 rfl ?_
    refine Gz.aload_n (q := 0) (pc' := 28) (by decide +kernel) rfl 0 rfl ?_
    refine Gz.getR (pc' := 31) (j := 52) 132 fd_M_87 sh_107 rfl (by decide +kernel) rfl ?_
    refine Gz.iconst (n := 4) (v := (4 : Int32)) (pc' := 32) (by decide +kernel) rfl rfl ?_
    refine Gz.iload_n (q := 1) (pc' := 33) (by decide +kernel) rfl 1 rfl ?_
    refine Gz.imul (pc' := 34) (by decide +kernel) rfl ?_
    obtain ⟨c2, h⟩ := zok_c h
    refine Gz.iald (pc' := 35) (n := 130) (by decide +kernel) rfl rfl c2 ?_
    obtain ⟨c3, h⟩ := zok_c h
    refine Gz.iast (pc' := 36) (n := 10) (by decide +kernel) rfl rfl c3 ?_
    refine Gz.nmW (fun w4 e5 => ?_)
    have h := zok_l e5 h
    refine Gz.aload_n (q := 0) (pc' := 37) (by decide +kernel) rfl 0 rfl ?_
    refine Gz.getR (pc' := 40) (j := 28) 120 fd_M_50 sh_107 rfl (by decide +kernel) rfl ?_
    refine Gz.iload_n (q := 1) (pc' := 41) (by decide +kernel) rfl 1 rfl ?_
    refine Gz.aload_n (q := 0) (pc' := 42) (by decide +kernel) rfl 0 rfl ?_
    refine Gz.getR (pc' := 45) (j := 52) 132 fd_M_87 sh_107 rfl (by decide +kernel) rfl ?_
    refine Gz.iconst (n := 4) (v := (4 : Int32)) (pc' := 46) (by decide +kernel) rfl rfl ?_
    refine Gz.iload_n (q := 1) (pc' := 47) (by decide +kernel) rfl 1 rfl ?_
    refine Gz.imul (pc' := 48) (by decide +kernel) rfl ?_
    refine Gz.iconst (n := 1) (v := (1 : Int32)) (pc' := 49) (by decide +kernel) rfl rfl ?_
    refine Gz.iadd (pc' := 50) (by decide +kernel) rfl ?_
    obtain ⟨c6, h⟩ := zok_c h
    refine Gz.iald (pc' := 51) (n := 130) (by decide +kernel) rfl rfl c6 ?_
    obtain ⟨c7, h⟩ := zok_c h
    refine Gz.iast (pc' := 52) (n := 10) (by decide +kernel) rfl rfl c7 ?_
    refine Gz.nmW (fun w8 e9 => ?_)
    have h := zok_l e9 h
    refine Gz.aload_n (q := 0) (pc' := 53) (by decide +kernel) rfl 0 rfl ?_
    refine Gz.getR (pc' := 56) (j := 29) 121 fd_M_53 sh_107 rfl (by decide +kernel) rfl ?_
    refine Gz.iload_n (q := 1) (pc' := 57) (by decide +kernel) rfl 1 rfl ?_
    refine Gz.aload_n (q := 0) (pc' := 58) (by decide +kernel) rfl 0 rfl ?_
    refine Gz.getR (pc' := 61) (j := 52) 132 fd_M_87 sh_107 rfl (by decide +kernel) rfl ?_
    refine Gz.iconst (n := 4) (v := (4 : Int32)) (pc' := 62) (by decide +kernel) rfl rfl ?_
    refine Gz.iload_n (q := 1) (pc' := 63) (by decide +kernel) rfl 1 rfl ?_
    refine Gz.imul (pc' := 64) (by decide +kernel) rfl ?_
    refine Gz.iconst (n := 2) (v := (2 : Int32)) (pc' := 65) (by decide +kernel) rfl rfl ?_
    refine Gz.iadd (pc' := 66) (by decide +kernel) rfl ?_
    obtain ⟨c10, h⟩ := zok_c h
    refine Gz.iald (pc' := 67) (n := 130) (by decide +kernel) rfl rfl c10 ?_
    obtain ⟨c11, h⟩ := zok_c h
    refine Gz.iast (pc' := 68) (n := 10) (by decide +kernel) rfl rfl c11 ?_
    refine Gz.nmW (fun w12 e13 => ?_)
    have h := zok_l e13 h
    refine Gz.aload_n (q := 0) (pc' := 69) (by decide +kernel) rfl 0 rfl ?_
    refine Gz.getR (pc' := 72) (j := 30) 122 fd_M_56 sh_107 rfl (by decide +kernel) rfl ?_
    refine Gz.iload_n (q := 1) (pc' := 73) (by decide +kernel) rfl 1 rfl ?_
    refine Gz.aload_n (q := 0) (pc' := 74) (by decide +kernel) rfl 0 rfl ?_
    refine Gz.getR (pc' := 77) (j := 52) 132 fd_M_87 sh_107 rfl (by decide +kernel) rfl ?_
    refine Gz.iconst (n := 4) (v := (4 : Int32)) (pc' := 78) (by decide +kernel) rfl rfl ?_
    refine Gz.iload_n (q := 1) (pc' := 79) (by decide +kernel) rfl 1 rfl ?_
    refine Gz.imul (pc' := 80) (by decide +kernel) rfl ?_
    refine Gz.iconst (n := 3) (v := (3 : Int32)) (pc' := 81) (by decide +kernel) rfl rfl ?_
    refine Gz.iadd (pc' := 82) (by decide +kernel) rfl ?_
    obtain ⟨c14, h⟩ := zok_c h
    refine Gz.iald (pc' := 83) (n := 130) (by decide +kernel) rfl rfl c14 ?_
    obtain ⟨c15, h⟩ := zok_c h
    refine Gz.iast (pc' := 84) (n := 10) (by decide +kernel) rfl rfl c15 ?_
    refine Gz.nmW (fun w16 e17 => ?_)
    have h := zok_l e17 h
    obtain ⟨v18, e19⟩ : ∃ y : Int32, y = x1 + (1 : Int32) := ⟨_, rfl⟩
    have h := zok_l e19 h
    refine Gz.iinc (i := 1) (n := 1) (pc' := 87) (L' := [(1, .int v18), (0, .ref 107)]) v18 (by decide +kernel) rfl 1 rfl (by rw [e19]; rfl) (Nat.le_of_ble_eq_true rfl) rfl ?_
    refine Gz.goto (off := -71) (tgt := 16) (by decide +kernel) (by decide) ?_
    refine Gz.sub (L' := [(0, .ref 107), (1, .int v18)]) [1, 0] rfl ?_
    exact hk16 v18 w16 h
theorem g_M_back_b16 {l : Launch} {Q : Option Value → gW → Prop} (x1 : Int32) (w : gW) (h : zok eI (f_M_back_b16 x1 w) Q) : Gz l m_M_back 1 16 [(0, .ref 107), (1, .int x1)] [] w Q := by
  have key : ∀ (n : Nat) (x1 : Int32) (w : gW), zok eI (zfx (fun _ _ => none) (f_M_back_b16_s) n x1 w) Q → Gz l m_M_back 1 16 [(0, .ref 107), (1, .int x1)] [] w Q := by
    intro n
    induction n with
    | zero => intro x1 w h; exact zok_n h
    | succ n ih => intro x1 w h; exact g_M_back_b16_s _ ih x1 w h
  exact key zFU x1 w h
theorem g_M_back {l : Launch} (w : gW) : gCt l m_M_back 1 [.ref 107] w eI (f_M_back w) := by
  intro Q h
  unfold f_M_back at h
  show Gz l m_M_back 1 0 [(0, .ref 107)] [] w Q
  refine Gz.aload_n (q := 0) (pc' := 1) (by decide +kernel) rfl 0 rfl ?_
  refine Gz.iconst (n := 0) (v := (0 : Int32)) (pc' := 2) (by decide +kernel) rfl rfl ?_
  refine Gz.putI (pc' := 5) (j := 0) fd_M_96 sh_107 rfl (by decide +kernel) rfl ?_
  refine Gz.nmW (fun w1 e2 => ?_)
  have h := zok_l e2 h
  refine Gz.aload_n (q := 0) (pc' := 6) (by decide +kernel) rfl 0 rfl ?_
  refine Gz.getI (pc' := 9) (j := 58) fd_M_220 sh_107 rfl (by decide +kernel) rfl ?_
  refine Gz.if_ne (off := 5) (tgt := 14) (pc' := 12) (by decide +kernel) (by decide) rfl (fun c3 => ?_) (fun c3 => ?_)
  · have h := zok_f c3 h
    refine Gz.iconst (n := 0) (v := (0 : Int32)) (pc' := 15) (by decide +kernel) rfl rfl ?_
    refine Gz.istore_n (q := 1) (pc' := 16) (L' := [(1, .int (0 : Int32)), (0, .ref 107)]) (by decide +kernel) rfl (Nat.le_of_ble_eq_true rfl) rfl ?_
    refine Gz.sub (L' := [(0, .ref 107), (1, .int (0 : Int32))]) [1, 0] rfl ?_
    exact g_M_back_b16 (0 : Int32) w1 h
  · have h := zok_t c3 h
    refine Gz.iconst (n := -1) (v := (-1 : Int32)) (pc' := 13) (by decide +kernel) rfl rfl ?_
    exact Gz.ireturn (by decide +kernel) rfl (zok_sI h)
def f_M_count (a1 : Int32) (w : gW) : Option (Int32 × gW) :=
zl (zsI w 107 0 (0 : Int32)) (fun w1 =>
if a1 = nI 0 then
(some (w1.1 107 21, w1))
else
(if a1 = nI 1 then
(some (w1.1 107 22, w1))
else
(if a1 = nI 2 then
(some (w1.1 107 6, w1))
else
(if a1 = nI 3 then
(some (w1.1 107 5, w1))
else
(if a1 = nI 4 then
(some (w1.1 107 35, w1))
else
(if a1 = nI 5 then
(some (w1.1 107 36, w1))
else
(if a1 = nI 6 then
(some (w1.1 107 37, w1))
else
(some ((-1000000 : Int32), w1)))))))))
theorem g_M_count {l : Launch} (a1 : Int32) (w : gW) : gCt l m_M_count 1 [.ref 107, .int a1] w eI (f_M_count a1 w) := by
  intro Q h
  unfold f_M_count at h
  show Gz l m_M_count 1 0 [(0, .ref 107), (1, .int a1)] [] w Q
  refine Gz.aload_n (q := 0) (pc' := 1) (by decide +kernel) rfl 0 rfl ?_
  refine Gz.iconst (n := 0) (v := (0 : Int32)) (pc' := 2) (by decide +kernel) rfl rfl ?_
  refine Gz.putI (pc' := 5) (j := 0) fd_M_96 sh_107 rfl (by decide +kernel) rfl ?_
  refine Gz.nmW (fun w1 e2 => ?_)
  have h := zok_l e2 h
  refine Gz.iload_n (q := 1) (pc' := 6) (by decide +kernel) rfl 1 rfl ?_
  by_cases c3 : a1 = nI 0
  · have h := zok_t c3 h
    refine Gz.tin (dflt := 77) (lo := 0) (hi := 6) (offs := #[42, 47, 52, 57, 62, 67, 72]) (len := 42) (off := 42) (tgt := 48) (by decide +kernel) (by rw [c3]; decide +kernel) (by rw [c3]; decide +kernel) (by rw [c3]; decide +kernel) (by decide) ?_
    refine Gz.aload_n (q := 0) (pc' := 49) (by decide +kernel) rfl 0 rfl ?_
    refine Gz.getI (pc' := 52) (j := 21) fd_M_141 sh_107 rfl (by decide +kernel) rfl ?_
    exact Gz.ireturn (by decide +kernel) rfl (zok_sI h)
  have h := zok_f c3 h
  by_cases c4 : a1 = nI 1
  · have h := zok_t c4 h
    refine Gz.tin (dflt := 77) (lo := 0) (hi := 6) (offs := #[42, 47, 52, 57, 62, 67, 72]) (len := 42) (off := 47) (tgt := 53) (by decide +kernel) (by rw [c4]; decide +kernel) (by rw [c4]; decide +kernel) (by rw [c4]; decide +kernel) (by decide) ?_
    refine Gz.aload_n (q := 0) (pc' := 54) (by decide +kernel) rfl 0 rfl ?_
    refine Gz.getI (pc' := 57) (j := 22) fd_M_208 sh_107 rfl (by decide +kernel) rfl ?_
    exact Gz.ireturn (by decide +kernel) rfl (zok_sI h)
  have h := zok_f c4 h
  by_cases c5 : a1 = nI 2
  · have h := zok_t c5 h
    refine Gz.tin (dflt := 77) (lo := 0) (hi := 6) (offs := #[42, 47, 52, 57, 62, 67, 72]) (len := 42) (off := 52) (tgt := 58) (by decide +kernel) (by rw [c5]; decide +kernel) (by rw [c5]; decide +kernel) (by rw [c5]; decide +kernel) (by decide) ?_
    refine Gz.aload_n (q := 0) (pc' := 59) (by decide +kernel) rfl 0 rfl ?_
    refine Gz.getI (pc' := 62) (j := 6) fd_M_203 sh_107 rfl (by decide +kernel) rfl ?_
    exact Gz.ireturn (by decide +kernel) rfl (zok_sI h)
  have h := zok_f c5 h
  by_cases c6 : a1 = nI 3
  · have h := zok_t c6 h
    refine Gz.tin (dflt := 77) (lo := 0) (hi := 6) (offs := #[42, 47, 52, 57, 62, 67, 72]) (len := 42) (off := 57) (tgt := 63) (by decide +kernel) (by rw [c6]; decide +kernel) (by rw [c6]; decide +kernel) (by rw [c6]; decide +kernel) (by decide) ?_
    refine Gz.aload_n (q := 0) (pc' := 64) (by decide +kernel) rfl 0 rfl ?_
    refine Gz.getI (pc' := 67) (j := 5) fd_M_100 sh_107 rfl (by decide +kernel) rfl ?_
    exact Gz.ireturn (by decide +kernel) rfl (zok_sI h)
  have h := zok_f c6 h
  by_cases c7 : a1 = nI 4
  · have h := zok_t c7 h
    refine Gz.tin (dflt := 77) (lo := 0) (hi := 6) (offs := #[42, 47, 52, 57, 62, 67, 72]) (len := 42) (off := 62) (tgt := 68) (by decide +kernel) (by rw [c7]; decide +kernel) (by rw [c7]; decide +kernel) (by rw [c7]; decide +kernel) (by decide) ?_
    refine Gz.aload_n (q := 0) (pc' := 69) (by decide +kernel) rfl 0 rfl ?_
    refine Gz.getI (pc' := 72) (j := 35) fd_M_211 sh_107 rfl (by decide +kernel) rfl ?_
    exact Gz.ireturn (by decide +kernel) rfl (zok_sI h)
  have h := zok_f c7 h
  by_cases c8 : a1 = nI 5
  · have h := zok_t c8 h
    refine Gz.tin (dflt := 77) (lo := 0) (hi := 6) (offs := #[42, 47, 52, 57, 62, 67, 72]) (len := 42) (off := 67) (tgt := 73) (by decide +kernel) (by rw [c8]; decide +kernel) (by rw [c8]; decide +kernel) (by rw [c8]; decide +kernel) (by decide) ?_
    refine Gz.aload_n (q := 0) (pc' := 74) (by decide +kernel) rfl 0 rfl ?_
    refine Gz.getI (pc' := 77) (j := 36) fd_M_214 sh_107 rfl (by decide +kernel) rfl ?_
    exact Gz.ireturn (by decide +kernel) rfl (zok_sI h)
  have h := zok_f c8 h
  by_cases c9 : a1 = nI 6
  · have h := zok_t c9 h
    refine Gz.tin (dflt := 77) (lo := 0) (hi := 6) (offs := #[42, 47, 52, 57, 62, 67, 72]) (len := 42) (off := 72) (tgt := 78) (by decide +kernel) (by rw [c9]; decide +kernel) (by rw [c9]; decide +kernel) (by rw [c9]; decide +kernel) (by decide) ?_
    refine Gz.aload_n (q := 0) (pc' := 79) (by decide +kernel) rfl 0 rfl ?_
    refine Gz.getI (pc' := 82) (j := 37) fd_M_217 sh_107 rfl (by decide +kernel) rfl ?_
    exact Gz.ireturn (by decide +kernel) rfl (zok_sI h)
  have h := zok_f c9 h
  have hsw : ∀ k : Nat, k ≤ 6 → ¬ a1 = nI k := by
    intro k hk
    rcases (show k = 0 ∨ k = 1 ∨ k = 2 ∨ k = 3 ∨ k = 4 ∨ k = 5 ∨ k = 6 by omega) with q | q | q | q | q | q | q
    · rw [q]; exact c3
    · rw [q]; exact c4
    · rw [q]; exact c5
    · rw [q]; exact c6
    · rw [q]; exact c7
    · rw [q]; exact c8
    · rw [q]; exact c9
  refine Gz.tout (dflt := 77) (lo := 0) (hi := 6) (offs := #[42, 47, 52, 57, 62, 67, 72]) (len := 42) (tgt := 83) (by decide +kernel) (z_sw 6 (by decide) hsw) (by decide) ?_
  refine Gz.ldcw (idx := 323) (v := (-1000000 : Int32)) (pc' := 86) (by decide +kernel) rfl kc_M_323 ?_
  exact Gz.ireturn (by decide +kernel) rfl (zok_sI h)
