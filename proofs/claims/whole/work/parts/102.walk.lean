def f_La_settle_b25_s (k18 : Int32 → gW → Option (Unit × gW)) (k25 : Int32 → Int32 → gW → Option (Unit × gW)) (x2 : Int32) (x3 : Int32) (w : gW) : Option (Unit × gW) :=
if (3 : Int32) ≤ x3 then
(zl (x2 + (1 : Int32)) (fun v2 =>
k18 v2 w))
else
(zb (f_Rd_trait x2 x3 w) (fun v4 w5 =>
if inb ((x2 * (3 : Int32)) + x3) 15 then
zl (zsI w5 20 (ix ((x2 * (3 : Int32)) + x3)) v4) (fun w7 =>
zl (x3 + (1 : Int32)) (fun v9 =>
k25 x2 v9 w7))
else none))
def f_La_settle_b25 (k18 : Int32 → gW → Option (Unit × gW)) : Int32 → Int32 → gW → Option (Unit × gW) := zfx (fun _ _ _ => none) (f_La_settle_b25_s k18) zFU
def f_La_settle_b125 (k70 : Int32 → gW → Option (Unit × gW)) (x2 : Int32) (w : gW) : Option (Unit × gW) :=
zl (x2 + (-1 : Int32)) (fun v1 =>
k70 v1 w)
def f_La_settle_b133_s (k133 : Int32 → gW → Option (Unit × gW)) (x2 : Int32) (w : gW) : Option (Unit × gW) :=
if (w.1 19 5) ≤ x2 then
(some ((), w))
else
(zb (f_La_watch x2 w) (fun _ w2 =>
zl (x2 + (1 : Int32)) (fun v3 =>
k133 v3 w2)))
def f_La_settle_b133 : Int32 → gW → Option (Unit × gW) := zfx (fun _ _ => none) (f_La_settle_b133_s) zFU
def f_La_settle_b70_s (k70 : Int32 → gW → Option (Unit × gW)) (x2 : Int32) (w : gW) : Option (Unit × gW) :=
if x2 < 0 then
(f_La_settle_b133 (0 : Int32) w)
else
(if (5 : Int32) ≤ x2 then
(f_La_settle_b125 k70 x2 w)
else
(if inb x2 5 then
zl (zsI w 22 (ix x2) (w.1 19 6)) (fun w4 =>
zb (f_La_trait x2 (2 : Int32) w4) (fun v6 w7 =>
zb (f_La_trait x2 (1 : Int32) w7) (fun v8 w9 =>
if inb x2 5 then
zl (zsI w9 21 (ix x2) ((v6 - v8) + (2 : Int32))) (fun w11 =>
if inb x2 5 then
zl (zsI w11 19 6 ((w11.1 19 6) * (w11.1 21 (ix x2)))) (fun w14 =>
f_La_settle_b125 k70 x2 w14)
else none)
else none)))
else none))
def f_La_settle_b70 : Int32 → gW → Option (Unit × gW) := zfx (fun _ _ => none) (f_La_settle_b70_s) zFU
def f_La_settle_b18_s (k18 : Int32 → gW → Option (Unit × gW)) (x2 : Int32) (w : gW) : Option (Unit × gW) :=
if (5 : Int32) ≤ x2 then
(zl (zsI w 19 6 (1 : Int32)) (fun w2 =>
zl ((w2.1 19 5) - (1 : Int32)) (fun v4 =>
f_La_settle_b70 v4 w2)))
else
(f_La_settle_b25 k18 x2 (0 : Int32) w)
def f_La_settle_b18 : Int32 → gW → Option (Unit × gW) := zfx (fun _ _ => none) (f_La_settle_b18_s) zFU
def f_La_settle (w : gW) : Option (Unit × gW) :=
zb (f_Rd_dayCount w) (fun v1 w2 =>
zl (zsI w2 19 4 v1) (fun w3 =>
zb (f_Rd_deedCount w3) (fun v5 w6 =>
zl (zsI w6 19 5 v5) (fun w7 =>
f_La_settle_b18 (0 : Int32) w7))))
theorem g_La_settle_b25_s {l : Launch} {Q : Option Value → gW → Prop} (k18 : Int32 → gW → Option (Unit × gW)) (hk18 : ∀ (x2 : Int32) (w : gW), zok eV (k18 x2 w) Q → Gz l m_La_settle 4 18 [(0, .ref 19), (1, .ref 3), (2, .int x2)] [] w Q) (k25 : Int32 → Int32 → gW → Option (Unit × gW)) (hk25 : ∀ (x2 : Int32) (x3 : Int32) (w : gW), zok eV (k25 x2 x3 w) Q → Gz l m_La_settle 4 25 [(0, .ref 19), (1, .ref 3), (2, .int x2), (3, .int x3)] [] w Q) (x2 : Int32) (x3 : Int32) (w : gW) (h : zok eV (f_La_settle_b25_s k18 k25 x2 x3 w) Q) : Gz l m_La_settle 4 25 [(0, .ref 19), (1, .ref 3), (2, .int x2), (3, .int x3)] [] w Q := by
  unfold f_La_settle_b25_s at h
  refine Gz.iload_n (q := 3) (pc' := 26) (by decide +kernel) rfl 3 rfl ?_
  refine Gz.iconst (n := 3) (v := (3 : Int32)) (pc' := 27) (by decide +kernel) rfl rfl ?_
  refine Gz.icmp_ge (off := 25) (tgt := 52) (pc' := 30) (by decide +kernel) (by decide) rfl (fun c1 => ?_) (fun c1 => ?_)
  · have h := zok_t c1 h
    obtain ⟨v2, e3⟩ : ∃ y : Int32, y = x2 + (1 : Int32) := ⟨_, rfl⟩
    have h := zok_l e3 h
    refine Gz.iinc (i := 2) (n := 1) (pc' := 55) (L' := [(2, .int v2), (0, .ref 19), (1, .ref 3), (3, .int x3)]) v2 (by decide +kernel) rfl 2 rfl (by rw [e3]; rfl) (Nat.le_of_ble_eq_true rfl) rfl ?_
    refine Gz.goto (off := -37) (tgt := 18) (by decide +kernel) (by decide) ?_
    refine Gz.sub (L' := [(0, .ref 19), (1, .ref 3), (2, .int v2)]) [1, 2, 0] rfl ?_
    exact hk18 v2 w h
  · have h := zok_f c1 h
    refine Gz.aload_n (q := 0) (pc' := 31) (by decide +kernel) rfl 0 rfl ?_
    refine Gz.getR (pc' := 34) (j := 0) 20 fd_La_11 sh_19 rfl (by decide +kernel) rfl ?_
    refine Gz.iload_n (q := 2) (pc' := 35) (by decide +kernel) rfl 2 rfl ?_
    refine Gz.iconst (n := 3) (v := (3 : Int32)) (pc' := 36) (by decide +kernel) rfl rfl ?_
    refine Gz.imul (pc' := 37) (by decide +kernel) rfl ?_
    refine Gz.iload_n (q := 3) (pc' := 38) (by decide +kernel) rfl 3 rfl ?_
    refine Gz.iadd (pc' := 39) (by decide +kernel) rfl ?_
    refine Gz.aload_n (q := 1) (pc' := 40) (by decide +kernel) rfl 1 rfl ?_
    refine Gz.iload_n (q := 2) (pc' := 41) (by decide +kernel) rfl 2 rfl ?_
    refine Gz.iload_n (q := 3) (pc' := 42) (by decide +kernel) rfl 3 rfl ?_
    refine Gz.callVI (st := [.int ((x2 * (3 : Int32)) + x3), .ref 20]) (b := 3) (pc' := 45) [.int x2, .int x3] (g_Rd_trait x2 x3 w) h ok_m_Rd_trait lk_La_72 sh_3 rfl rfl rfl (Nat.le_of_ble_eq_true rfl) (Nat.le_of_ble_eq_true rfl) (Nat.le_of_ble_eq_true rfl) (by decide +kernel) rfl (fun v4 w5 h => ?_)
    obtain ⟨c6, h⟩ := zok_c h
    refine Gz.iast (pc' := 46) (n := 15) (by decide +kernel) rfl rfl c6 ?_
    refine Gz.nmW (fun w7 e8 => ?_)
    have h := zok_l e8 h
    obtain ⟨v9, e10⟩ : ∃ y : Int32, y = x3 + (1 : Int32) := ⟨_, rfl⟩
    have h := zok_l e10 h
    refine Gz.iinc (i := 3) (n := 1) (pc' := 49) (L' := [(3, .int v9), (0, .ref 19), (1, .ref 3), (2, .int x2)]) v9 (by decide +kernel) rfl 3 rfl (by rw [e10]; rfl) (Nat.le_of_ble_eq_true rfl) rfl ?_
    refine Gz.goto (off := -24) (tgt := 25) (by decide +kernel) (by decide) ?_
    refine Gz.sub (L' := [(0, .ref 19), (1, .ref 3), (2, .int x2), (3, .int v9)]) [1, 2, 3, 0] rfl ?_
    exact hk25 x2 v9 w7 h
theorem g_La_settle_b25 {l : Launch} {Q : Option Value → gW → Prop} (k18 : Int32 → gW → Option (Unit × gW)) (hk18 : ∀ (x2 : Int32) (w : gW), zok eV (k18 x2 w) Q → Gz l m_La_settle 4 18 [(0, .ref 19), (1, .ref 3), (2, .int x2)] [] w Q) (x2 : Int32) (x3 : Int32) (w : gW) (h : zok eV (f_La_settle_b25 k18 x2 x3 w) Q) : Gz l m_La_settle 4 25 [(0, .ref 19), (1, .ref 3), (2, .int x2), (3, .int x3)] [] w Q := by
  have key : ∀ (n : Nat) (x2 : Int32) (x3 : Int32) (w : gW), zok eV (zfx (fun _ _ _ => none) (f_La_settle_b25_s k18) n x2 x3 w) Q → Gz l m_La_settle 4 25 [(0, .ref 19), (1, .ref 3), (2, .int x2), (3, .int x3)] [] w Q := by
    intro n
    induction n with
    | zero => intro x2 x3 w h; exact zok_n h
    | succ n ih => intro x2 x3 w h; exact g_La_settle_b25_s k18 hk18 _ ih x2 x3 w h
  exact key zFU x2 x3 w h
theorem g_La_settle_b125 {l : Launch} {Q : Option Value → gW → Prop} (k70 : Int32 → gW → Option (Unit × gW)) (hk70 : ∀ (x2 : Int32) (w : gW), zok eV (k70 x2 w) Q → Gz l m_La_settle 4 70 [(0, .ref 19), (2, .int x2)] [] w Q) (x2 : Int32) (w : gW) (h : zok eV (f_La_settle_b125 k70 x2 w) Q) : Gz l m_La_settle 4 125 [(0, .ref 19), (2, .int x2)] [] w Q := by
  unfold f_La_settle_b125 at h
  obtain ⟨v1, e2⟩ : ∃ y : Int32, y = x2 + (-1 : Int32) := ⟨_, rfl⟩
  have h := zok_l e2 h
  refine Gz.iinc (i := 2) (n := -1) (pc' := 128) (L' := [(2, .int v1), (0, .ref 19)]) v1 (by decide +kernel) rfl 1 rfl (by rw [e2]; rfl) (Nat.le_of_ble_eq_true rfl) rfl ?_
  refine Gz.goto (off := -58) (tgt := 70) (by decide +kernel) (by decide) ?_
  refine Gz.sub (L' := [(0, .ref 19), (2, .int v1)]) [1, 0] rfl ?_
  exact hk70 v1 w h
theorem g_La_settle_b133_s {l : Launch} {Q : Option Value → gW → Prop} (k133 : Int32 → gW → Option (Unit × gW)) (hk133 : ∀ (x2 : Int32) (w : gW), zok eV (k133 x2 w) Q → Gz l m_La_settle 4 133 [(0, .ref 19), (2, .int x2)] [] w Q) (x2 : Int32) (w : gW) (h : zok eV (f_La_settle_b133_s k133 x2 w) Q) : Gz l m_La_settle 4 133 [(0, .ref 19), (2, .int x2)] [] w Q := by
  unfold f_La_settle_b133_s at h
  refine Gz.iload_n (q := 2) (pc' := 134) (by decide +kernel) rfl 1 rfl ?_
  refine Gz.aload_n (q := 0) (pc' := 135) (by decide +kernel) rfl 0 rfl ?_
  refine Gz.getI (pc' := 138) (j := 5) fd_La_28 sh_19 rfl (by decide +kernel) rfl ?_
  refine Gz.icmp_ge (off := 14) (tgt := 152) (pc' := 141) (by decide +kernel) (by decide) rfl (fun c1 => ?_) (fun c1 => ?_)
  · have h := zok_t c1 h
    exact Gz.return_ (by decide +kernel) rfl (zok_sV h)
  · have h := zok_f c1 h
    refine Gz.aload_n (q := 0) (pc' := 142) (by decide +kernel) rfl 0 rfl ?_
    refine Gz.iload_n (q := 2) (pc' := 143) (by decide +kernel) rfl 1 rfl ?_
    refine Gz.callVV (st := []) (b := 19) (pc' := 146) [.int x2] (g_La_watch x2 w) h ok_m_La_watch lk_La_73 sh_19 rfl rfl rfl (Nat.le_of_ble_eq_true rfl) (Nat.le_of_ble_eq_true rfl) (Nat.le_of_ble_eq_true rfl) (by decide +kernel) rfl (fun _ w2 h => ?_)
    obtain ⟨v3, e4⟩ : ∃ y : Int32, y = x2 + (1 : Int32) := ⟨_, rfl⟩
    have h := zok_l e4 h
    refine Gz.iinc (i := 2) (n := 1) (pc' := 149) (L' := [(2, .int v3), (0, .ref 19)]) v3 (by decide +kernel) rfl 1 rfl (by rw [e4]; rfl) (Nat.le_of_ble_eq_true rfl) rfl ?_
    refine Gz.goto (off := -16) (tgt := 133) (by decide +kernel) (by decide) ?_
    refine Gz.sub (L' := [(0, .ref 19), (2, .int v3)]) [1, 0] rfl ?_
    exact hk133 v3 w2 h
theorem g_La_settle_b133 {l : Launch} {Q : Option Value → gW → Prop} (x2 : Int32) (w : gW) (h : zok eV (f_La_settle_b133 x2 w) Q) : Gz l m_La_settle 4 133 [(0, .ref 19), (2, .int x2)] [] w Q := by
  have key : ∀ (n : Nat) (x2 : Int32) (w : gW), zok eV (zfx (fun _ _ => none) (f_La_settle_b133_s) n x2 w) Q → Gz l m_La_settle 4 133 [(0, .ref 19), (2, .int x2)] [] w Q := by
    intro n
    induction n with
    | zero => intro x2 w h; exact zok_n h
    | succ n ih => intro x2 w h; exact g_La_settle_b133_s _ ih x2 w h
  exact key zFU x2 w h
theorem g_La_settle_b70_s {l : Launch} {Q : Option Value → gW → Prop} (k70 : Int32 → gW → Option (Unit × gW)) (hk70 : ∀ (x2 : Int32) (w : gW), zok eV (k70 x2 w) Q → Gz l m_La_settle 4 70 [(0, .ref 19), (2, .int x2)] [] w Q) (x2 : Int32) (w : gW) (h : zok eV (f_La_settle_b70_s k70 x2 w) Q) : Gz l m_La_settle 4 70 [(0, .ref 19), (2, .int x2)] [] w Q := by
  unfold f_La_settle_b70_s at h
  refine Gz.iload_n (q := 2) (pc' := 71) (by decide +kernel) rfl 1 rfl ?_
  refine Gz.if_lt (off := 60) (tgt := 131) (pc' := 74) (by decide +kernel) (by decide) rfl (fun c1 => ?_) (fun c1 => ?_)
  · have h := zok_t c1 h
    refine Gz.iconst (n := 0) (v := (0 : Int32)) (pc' := 132) (by decide +kernel) rfl rfl ?_
    refine Gz.istore_n (q := 2) (pc' := 133) (L' := [(2, .int (0 : Int32)), (0, .ref 19)]) (by decide +kernel) rfl (Nat.le_of_ble_eq_true rfl) rfl ?_
    refine Gz.sub (L' := [(0, .ref 19), (2, .int (0 : Int32))]) [1, 0] rfl ?_
    exact g_La_settle_b133 (0 : Int32) w h
  · have h := zok_f c1 h
    refine Gz.iload_n (q := 2) (pc' := 75) (by decide +kernel) rfl 1 rfl ?_
    refine Gz.iconst (n := 5) (v := (5 : Int32)) (pc' := 76) (by decide +kernel) rfl rfl ?_
    refine Gz.icmp_ge (off := 49) (tgt := 125) (pc' := 79) (by decide +kernel) (by decide) rfl (fun c2 => ?_) (fun c2 => ?_)
    · have h := zok_t c2 h
      exact g_La_settle_b125 k70 hk70 x2 w h
    · have h := zok_f c2 h
      refine Gz.aload_n (q := 0) (pc' := 80) (by decide +kernel) rfl 0 rfl ?_
      refine Gz.getR (pc' := 83) (j := 2) 22 fd_La_20 sh_19 rfl (by decide +kernel) rfl ?_
      refine Gz.iload_n (q := 2) (pc' := 84) (by decide +kernel) rfl 1 rfl ?_
      refine Gz.aload_n (q := 0) (pc' := 85) (by decide +kernel) rfl 0 rfl ?_
      refine Gz.getI (pc' := 88) (j := 6) fd_La_35 sh_19 rfl (by decide +kernel) rfl ?_
      obtain ⟨c3, h⟩ := zok_c h
      refine Gz.iast (pc' := 89) (n := 5) (by decide +kernel) rfl rfl c3 ?_
      refine Gz.nmW (fun w4 e5 => ?_)
      have h := zok_l e5 h
      refine Gz.aload_n (q := 0) (pc' := 90) (by decide +kernel) rfl 0 rfl ?_
      refine Gz.getR (pc' := 93) (j := 1) 21 fd_La_17 sh_19 rfl (by decide +kernel) rfl ?_
      refine Gz.iload_n (q := 2) (pc' := 94) (by decide +kernel) rfl 1 rfl ?_
      refine Gz.aload_n (q := 0) (pc' := 95) (by decide +kernel) rfl 0 rfl ?_
      refine Gz.iload_n (q := 2) (pc' := 96) (by decide +kernel) rfl 1 rfl ?_
      refine Gz.iconst (n := 2) (v := (2 : Int32)) (pc' := 97) (by decide +kernel) rfl rfl ?_
      refine Gz.callVI (st := [.int x2, .ref 21]) (b := 19) (pc' := 100) [.int x2, .int (2 : Int32)] (g_La_trait x2 (2 : Int32) w4) h ok_m_La_trait lk_La_42 sh_19 rfl rfl rfl (Nat.le_of_ble_eq_true rfl) (Nat.le_of_ble_eq_true rfl) (Nat.le_of_ble_eq_true rfl) (by decide +kernel) rfl (fun v6 w7 h => ?_)
      refine Gz.aload_n (q := 0) (pc' := 101) (by decide +kernel) rfl 0 rfl ?_
      refine Gz.iload_n (q := 2) (pc' := 102) (by decide +kernel) rfl 1 rfl ?_
      refine Gz.iconst (n := 1) (v := (1 : Int32)) (pc' := 103) (by decide +kernel) rfl rfl ?_
      refine Gz.callVI (st := [.int v6, .int x2, .ref 21]) (b := 19) (pc' := 106) [.int x2, .int (1 : Int32)] (g_La_trait x2 (1 : Int32) w7) h ok_m_La_trait lk_La_42 sh_19 rfl rfl rfl (Nat.le_of_ble_eq_true rfl) (Nat.le_of_ble_eq_true rfl) (Nat.le_of_ble_eq_true rfl) (by decide +kernel) rfl (fun v8 w9 h => ?_)
      refine Gz.isub (pc' := 107) (by decide +kernel) rfl ?_
      refine Gz.iconst (n := 2) (v := (2 : Int32)) (pc' := 108) (by decide +kernel) rfl rfl ?_
      refine Gz.iadd (pc' := 109) (by decide +kernel) rfl ?_
      obtain ⟨c10, h⟩ := zok_c h
      refine Gz.iast (pc' := 110) (n := 5) (by decide +kernel) rfl rfl c10 ?_
      refine Gz.nmW (fun w11 e12 => ?_)
      have h := zok_l e12 h
      refine Gz.aload_n (q := 0) (pc' := 111) (by decide +kernel) rfl 0 rfl ?_
      refine Gz.dup (pc' := 112) (by decide +kernel) rfl rfl ?_
      refine Gz.getI (pc' := 115) (j := 6) fd_La_35 sh_19 rfl (by decide +kernel) rfl ?_
      refine Gz.aload_n (q := 0) (pc' := 116) (by decide +kernel) rfl 0 rfl ?_
      refine Gz.getR (pc' := 119) (j := 1) 21 fd_La_17 sh_19 rfl (by decide +kernel) rfl ?_
      refine Gz.iload_n (q := 2) (pc' := 120) (by decide +kernel) rfl 1 rfl ?_
      obtain ⟨c13, h⟩ := zok_c h
      refine Gz.iald (pc' := 121) (n := 5) (by decide +kernel) rfl rfl c13 ?_
      refine Gz.imul (pc' := 122) (by decide +kernel) rfl ?_
      refine Gz.putI (pc' := 125) (j := 6) fd_La_35 sh_19 rfl (by decide +kernel) rfl ?_
      refine Gz.nmW (fun w14 e15 => ?_)
      have h := zok_l e15 h
      exact g_La_settle_b125 k70 hk70 x2 w14 h
theorem g_La_settle_b70 {l : Launch} {Q : Option Value → gW → Prop} (x2 : Int32) (w : gW) (h : zok eV (f_La_settle_b70 x2 w) Q) : Gz l m_La_settle 4 70 [(0, .ref 19), (2, .int x2)] [] w Q := by
  have key : ∀ (n : Nat) (x2 : Int32) (w : gW), zok eV (zfx (fun _ _ => none) (f_La_settle_b70_s) n x2 w) Q → Gz l m_La_settle 4 70 [(0, .ref 19), (2, .int x2)] [] w Q := by
    intro n
    induction n with
    | zero => intro x2 w h; exact zok_n h
    | succ n ih => intro x2 w h; exact g_La_settle_b70_s _ ih x2 w h
  exact key zFU x2 w h
theorem g_La_settle_b18_s {l : Launch} {Q : Option Value → gW → Prop} (k18 : Int32 → gW → Option (Unit × gW)) (hk18 : ∀ (x2 : Int32) (w : gW), zok eV (k18 x2 w) Q → Gz l m_La_settle 4 18 [(0, .ref 19), (1, .ref 3), (2, .int x2)] [] w Q) (x2 : Int32) (w : gW) (h : zok eV (f_La_settle_b18_s k18 x2 w) Q) : Gz l m_La_settle 4 18 [(0, .ref 19), (1, .ref 3), (2, .int x2)] [] w Q := by
  unfold f_La_settle_b18_s at h
  refine Gz.iload_n (q := 2) (pc' := 19) (by decide +kernel) rfl 2 rfl ?_
  refine Gz.iconst (n := 5) (v := (5 : Int32)) (pc' := 20) (by decide +kernel) rfl rfl ?_
  refine Gz.icmp_ge (off := 38) (tgt := 58) (pc' := 23) (by decide +kernel) (by decide) rfl (fun c1 => ?_) (fun c1 => ?_)
  · have h := zok_t c1 h
    refine Gz.aload_n (q := 0) (pc' := 59) (by decide +kernel) rfl 0 rfl ?_
    refine Gz.iconst (n := 1) (v := (1 : Int32)) (pc' := 60) (by decide +kernel) rfl rfl ?_
    refine Gz.putI (pc' := 63) (j := 6) fd_La_35 sh_19 rfl (by decide +kernel) rfl ?_
    refine Gz.nmW (fun w2 e3 => ?_)
    have h := zok_l e3 h
    refine Gz.aload_n (q := 0) (pc' := 64) (by decide +kernel) rfl 0 rfl ?_
    refine Gz.getI (pc' := 67) (j := 5) fd_La_28 sh_19 rfl (by decide +kernel) rfl ?_
    refine Gz.iconst (n := 1) (v := (1 : Int32)) (pc' := 68) (by decide +kernel) rfl rfl ?_
    refine Gz.isub (pc' := 69) (by decide +kernel) rfl ?_
    refine Gz.nmI (fun v4 e5 => ?_)
    have h := zok_l e5 h
    refine Gz.istore_n (q := 2) (pc' := 70) (L' := [(2, .int v4), (0, .ref 19), (1, .ref 3)]) (by decide +kernel) rfl (Nat.le_of_ble_eq_true rfl) rfl ?_
    refine Gz.sub (L' := [(0, .ref 19), (2, .int v4)]) [1, 0] rfl ?_
    exact g_La_settle_b70 v4 w2 h
  · have h := zok_f c1 h
    refine Gz.iconst (n := 0) (v := (0 : Int32)) (pc' := 24) (by decide +kernel) rfl rfl ?_
    refine Gz.istore_n (q := 3) (pc' := 25) (L' := [(3, .int (0 : Int32)), (0, .ref 19), (1, .ref 3), (2, .int x2)]) (by decide +kernel) rfl (Nat.le_of_ble_eq_true rfl) rfl ?_
    refine Gz.sub (L' := [(0, .ref 19), (1, .ref 3), (2, .int x2), (3, .int (0 : Int32))]) [1, 2, 3, 0] rfl ?_
    exact g_La_settle_b25 k18 hk18 x2 (0 : Int32) w h
theorem g_La_settle_b18 {l : Launch} {Q : Option Value → gW → Prop} (x2 : Int32) (w : gW) (h : zok eV (f_La_settle_b18 x2 w) Q) : Gz l m_La_settle 4 18 [(0, .ref 19), (1, .ref 3), (2, .int x2)] [] w Q := by
  have key : ∀ (n : Nat) (x2 : Int32) (w : gW), zok eV (zfx (fun _ _ => none) (f_La_settle_b18_s) n x2 w) Q → Gz l m_La_settle 4 18 [(0, .ref 19), (1, .ref 3), (2, .int x2)] [] w Q := by
    intro n
    induction n with
    | zero => intro x2 w h; exact zok_n h
    | succ n ih => intro x2 w h; exact g_La_settle_b18_s _ ih x2 w h
  exact key zFU x2 w h
theorem g_La_settle {l : Launch} (w : gW) : gCt l m_La_settle 4 [.ref 19, .ref 3] w eV (f_La_settle w) := by
  intro Q h
  unfold f_La_settle at h
  show Gz l m_La_settle 4 0 [(0, .ref 19), (1, .ref 3)] [] w Q
  refine Gz.aload_n (q := 0) (pc' := 1) (by decide +kernel) rfl 0 rfl ?_
  refine Gz.aload_n (q := 1) (pc' := 2) (by decide +kernel) rfl 1 rfl ?_
  refine Gz.callVI (st := [.ref 19]) (b := 3) (pc' := 5) [] (g_Rd_dayCount w) h ok_m_Rd_dayCount lk_La_65 sh_3 rfl rfl rfl (Nat.le_of_ble_eq_true rfl) (Nat.le_of_ble_eq_true rfl) (Nat.le_of_ble_eq_true rfl) (by decide +kernel) rfl (fun v1 w2 h => ?_)
  refine Gz.putI (pc' := 8) (j := 4) fd_La_32 sh_19 rfl (by decide +kernel) rfl ?_
  refine Gz.nmW (fun w3 e4 => ?_)
  have h := zok_l e4 h
  refine Gz.aload_n (q := 0) (pc' := 9) (by decide +kernel) rfl 0 rfl ?_
  refine Gz.aload_n (q := 1) (pc' := 10) (by decide +kernel) rfl 1 rfl ?_
  refine Gz.callVI (st := [.ref 19]) (b := 3) (pc' := 13) [] (g_Rd_deedCount w3) h ok_m_Rd_deedCount lk_La_69 sh_3 rfl rfl rfl (Nat.le_of_ble_eq_true rfl) (Nat.le_of_ble_eq_true rfl) (Nat.le_of_ble_eq_true rfl) (by decide +kernel) rfl (fun v5 w6 h => ?_)
  refine Gz.putI (pc' := 16) (j := 5) fd_La_28 sh_19 rfl (by decide +kernel) rfl ?_
  refine Gz.nmW (fun w7 e8 => ?_)
  have h := zok_l e8 h
  refine Gz.iconst (n := 0) (v := (0 : Int32)) (pc' := 17) (by decide +kernel) rfl rfl ?_
  refine Gz.istore_n (q := 2) (pc' := 18) (L' := [(2, .int (0 : Int32)), (0, .ref 19), (1, .ref 3)]) (by decide +kernel) rfl (Nat.le_of_ble_eq_true rfl) rfl ?_
  refine Gz.sub (L' := [(0, .ref 19), (1, .ref 3), (2, .int (0 : Int32))]) [1, 2, 0] rfl ?_
  exact g_La_settle_b18 (0 : Int32) w7 h
def f_Arr_fill_AII_b5_s (k5 : Nat → Int32 → Int32 → Int32 → gW → Option (Unit × gW)) (x0 : Nat) (x1 : Int32) (x2 : Int32) (x3 : Int32) (w : gW) : Option (Unit × gW) :=
if x3 ≤ x2 then
(some ((), w))
else
(if inb x2 (g_len 1 x0) then
zl (zsI w x0 (ix x2) x1) (fun w3 =>
zl (x2 + (1 : Int32)) (fun v5 =>
k5 x0 x1 v5 x3 w3))
else none)
def f_Arr_fill_AII_b5 : Nat → Int32 → Int32 → Int32 → gW → Option (Unit × gW) := zfx (fun _ _ _ _ _ => none) (f_Arr_fill_AII_b5_s) zFU
def f_Arr_fill_AII (a0 : Nat) (a1 : Int32) (w : gW) : Option (Unit × gW) :=
if (g_sh a0).1 = 1 then
zl (nI (g_len 1 a0)) (fun v2 =>
f_Arr_fill_AII_b5 a0 a1 (0 : Int32) v2 w)
else none
theorem g_Arr_fill_AII_b5_s {l : Launch} {Q : Option Value → gW → Prop} (k5 : Nat → Int32 → Int32 → Int32 → gW → Option (Unit × gW)) (hk5 : ∀ (x0 : Nat) (x1 : Int32) (x2 : Int32) (x3 : Int32) (w : gW), zok eV (k5 x0 x1 x2 x3 w) Q → Gz l m_Arr_fill_AII 1 5 [(0, .ref x0), (1, .int x1), (2, .int x2), (3, .int x3)] [] w Q) (x0 : Nat) (x1 : Int32) (x2 : Int32) (x3 : Int32) (w : gW) (h : zok eV (f_Arr_fill_AII_b5_s k5 x0 x1 x2 x3 w) Q) : Gz l m_Arr_fill_AII 1 5 [(0, .ref x0), (1, .int x1), (2, .int x2), (3, .int x3)] [] w Q := by
  unfold f_Arr_fill_AII_b5_s at h
  refine Gz.iload_n (q := 2) (pc' := 6) (by decide +kernel) rfl 2 rfl ?_
  refine Gz.iload_n (q := 3) (pc' := 7) (by decide +kernel) rfl 3 rfl ?_
  refine Gz.icmp_ge (off := 13) (tgt := 20) (pc' := 10) (by decide +kernel) (by decide) rfl (fun c1 => ?_) (fun c1 => ?_)
  · have h := zok_t c1 h
    exact Gz.return_ (by decide +kernel) rfl (zok_sV h)
  · have h := zok_f c1 h
    refine Gz.aload_n (q := 0) (pc' := 11) (by decide +kernel) rfl 0 rfl ?_
    refine Gz.iload_n (q := 2) (pc' := 12) (by decide +kernel) rfl 2 rfl ?_
    refine Gz.iload_n (q := 1) (pc' := 13) (by decide +kernel) rfl 1 rfl ?_
    obtain ⟨c2, h⟩ := zok_c h
    refine Gz.iast (pc' := 14) (n := (g_len 1 x0)) (by decide +kernel) rfl rfl c2 ?_
    refine Gz.nmW (fun w3 e4 => ?_)
    have h := zok_l e4 h
    obtain ⟨v5, e6⟩ : ∃ y : Int32, y = x2 + (1 : Int32) := ⟨_, rfl⟩
    have h := zok_l e6 h
    refine Gz.iinc (i := 2) (n := 1) (pc' := 17) (L' := [(2, .int v5), (0, .ref x0), (1, .int x1), (3, .int x3)]) v5 (by decide +kernel) rfl 2 rfl (by rw [e6]; rfl) (Nat.le_of_ble_eq_true rfl) rfl ?_
    refine Gz.goto (off := -12) (tgt := 5) (by decide +kernel) (by decide) ?_
    refine Gz.sub (L' := [(0, .ref x0), (1, .int x1), (2, .int v5), (3, .int x3)]) [1, 2, 0, 3] rfl ?_
    exact hk5 x0 x1 v5 x3 w3 h
theorem g_Arr_fill_AII_b5 {l : Launch} {Q : Option Value → gW → Prop} (x0 : Nat) (x1 : Int32) (x2 : Int32) (x3 : Int32) (w : gW) (h : zok eV (f_Arr_fill_AII_b5 x0 x1 x2 x3 w) Q) : Gz l m_Arr_fill_AII 1 5 [(0, .ref x0), (1, .int x1), (2, .int x2), (3, .int x3)] [] w Q := by
  have key : ∀ (n : Nat) (x0 : Nat) (x1 : Int32) (x2 : Int32) (x3 : Int32) (w : gW), zok eV (zfx (fun _ _ _ _ _ => none) (f_Arr_fill_AII_b5_s) n x0 x1 x2 x3 w) Q → Gz l m_Arr_fill_AII 1 5 [(0, .ref x0), (1, .int x1), (2, .int x2), (3, .int x3)] [] w Q := by
    intro n
    induction n with
    | zero => intro x0 x1 x2 x3 w h; exact zok_n h
    | succ n ih => intro x0 x1 x2 x3 w h; exact g_Arr_fill_AII_b5_s _ ih x0 x1 x2 x3 w h
  exact key zFU x0 x1 x2 x3 w h
theorem g_Arr_fill_AII {l : Launch} (a0 : Nat) (a1 : Int32) (w : gW) : gCt l m_Arr_fill_AII 1 [.ref a0, .int a1] w eV (f_Arr_fill_AII a0 a1 w) := by
  intro Q h
  unfold f_Arr_fill_AII at h
  show Gz l m_Arr_fill_AII 1 0 [(0, .ref a0), (1, .int a1)] [] w Q
  refine Gz.iconst (n := 0) (v := (0 : Int32)) (pc' := 1) (by decide +kernel) rfl rfl ?_
  refine Gz.istore_n (q := 2) (pc' := 2) (L' := [(2, .int (0 : Int32)), (0, .ref a0), (1, .int a1)]) (by decide +kernel) rfl (Nat.le_of_ble_eq_true rfl) rfl ?_
  refine Gz.aload_n (q := 0) (pc' := 3) (by decide +kernel) rfl 1 rfl ?_
  obtain ⟨c1, h⟩ := zok_c h
  refine Gz.alen (pc' := 4) (n := g_len 1 a0) (kd := 1) (by decide +kernel) rfl (Or.inl rfl) c1 rfl ?_
  refine Gz.nmI (fun v2 e3 => ?_)
  have h := zok_l e3 h
  refine Gz.istore_n (q := 3) (pc' := 5) (L' := [(3, .int v2), (2, .int (0 : Int32)), (0, .ref a0), (1, .int a1)]) (by decide +kernel) rfl (Nat.le_of_ble_eq_true rfl) rfl ?_
  refine Gz.sub (L' := [(0, .ref a0), (1, .int a1), (2, .int (0 : Int32)), (3, .int v2)]) [2, 3, 1, 0] rfl ?_
  exact g_Arr_fill_AII_b5 a0 a1 (0 : Int32) v2 w h
def f_An_clear (w : gW) : Option (Unit × gW) :=
zl (zsI w 59 6 (0 : Int32)) (fun w1 =>
zl (zsI w1 59 7 (0 : Int32)) (fun w3 =>
zb (f_Arr_fill_AII 65 (1 : Int32) w3) (fun _ w5 =>
some ((), w5))))
theorem g_An_clear {l : Launch} (w : gW) : gCt l m_An_clear 2 [.ref 59] w eV (f_An_clear w) := by
  intro Q h
  unfold f_An_clear at h
  show Gz l m_An_clear 2 0 [(0, .ref 59)] [] w Q
  refine Gz.aload_n (q := 0) (pc' := 1) (by decide +kernel) rfl 0 rfl ?_
  refine Gz.iconst (n := 0) (v := (0 : Int32)) (pc' := 2) (by decide +kernel) rfl rfl ?_
  refine Gz.putI (pc' := 5) (j := 6) fd_An_37 sh_59 rfl (by decide +kernel) rfl ?_
  refine Gz.nmW (fun w1 e2 => ?_)
  have h := zok_l e2 h
  refine Gz.aload_n (q := 0) (pc' := 6) (by decide +kernel) rfl 0 rfl ?_
  refine Gz.iconst (n := 0) (v := (0 : Int32)) (pc' := 7) (by decide +kernel) rfl rfl ?_
  refine Gz.putI (pc' := 10) (j := 7) fd_An_41 sh_59 rfl (by decide +kernel) rfl ?_
  refine Gz.nmW (fun w3 e4 => ?_)
  have h := zok_l e4 h
  refine Gz.aload_n (q := 0) (pc' := 11) (by decide +kernel) rfl 0 rfl ?_
  refine Gz.getR (pc' := 14) (j := 5) 65 fd_An_28 sh_59 rfl (by decide +kernel) rfl ?_
  refine Gz.iconst (n := 1) (v := (1 : Int32)) (pc' := 15) (by decide +kernel) rfl rfl ?_
  refine Gz.callSV (st := []) (pc' := 18) [.ref 65, .int (1 : Int32)] (g_Arr_fill_AII 65 (1 : Int32) w3) h ok_m_Arr_fill_AII lk_An_31 rfl (Nat.le_of_ble_eq_true rfl) (Nat.le_of_ble_eq_true rfl) (Nat.le_of_ble_eq_true rfl) (by decide +kernel) rfl (fun _ w5 h => ?_)
  exact Gz.return_ (by decide +kernel) rfl (zok_sV h)
def f_La_total (w : gW) : Option (Int32 × gW) :=
some (w.1 19 6, w)
theorem g_La_total {l : Launch} (w : gW) : gCt l m_La_total 1 [.ref 19] w eI (f_La_total w) := by
  intro Q h
  unfold f_La_total at h
  show Gz l m_La_total 1 0 [(0, .ref 19)] [] w Q
  refine Gz.aload_n (q := 0) (pc' := 1) (by decide +kernel) rfl 0 rfl ?_
  refine Gz.getI (pc' := 4) (j := 6) fd_La_35 sh_19 rfl (by decide +kernel) rfl ?_
  exact Gz.ireturn (by decide +kernel) rfl (zok_sI h)
def f_An_factCount (w : gW) : Option (Int32 × gW) :=
some (w.1 59 7, w)
theorem g_An_factCount {l : Launch} (w : gW) : gCt l m_An_factCount 1 [.ref 59] w eI (f_An_factCount w) := by
  intro Q h
  unfold f_An_factCount at h
  show Gz l m_An_factCount 1 0 [(0, .ref 59)] [] w Q
  refine Gz.aload_n (q := 0) (pc' := 1) (by decide +kernel) rfl 0 rfl ?_
  refine Gz.getI (pc' := 4) (j := 7) fd_An_41 sh_59 rfl (by decide +kernel) rfl ?_
  exact Gz.ireturn (by decide +kernel) rfl (zok_sI h)
def f_An_factDeed (a1 : Int32) (w : gW) : Option (Int32 × gW) :=
if a1 < 0 then
(some ((-1 : Int32), w))
else
(if (20 : Int32) ≤ a1 then
(some ((-1 : Int32), w))
else
(if inb a1 20 then
some (w.1 61 (ix a1), w)
else none))
theorem g_An_factDeed {l : Launch} (a1 : Int32) (w : gW) : gCt l m_An_factDeed 1 [.ref 59, .int a1] w eI (f_An_factDeed a1 w) := by
  intro Q h
  unfold f_An_factDeed at h
  show Gz l m_An_factDeed 1 0 [(0, .ref 59), (1, .int a1)] [] w Q
  refine Gz.iload_n (q := 1) (pc' := 1) (by decide +kernel) rfl 1 rfl ?_
  refine Gz.if_lt (off := 18) (tgt := 19) (pc' := 4) (by decide +kernel) (by decide) rfl (fun c1 => ?_) (fun c1 => ?_)
  · have h := zok_t c1 h
    refine Gz.iconst (n := -1) (v := (-1 : Int32)) (pc' := 20) (by decide +kernel) rfl rfl ?_
    exact Gz.ireturn (by decide +kernel) rfl (zok_sI h)
  · have h := zok_f c1 h
    refine Gz.iload_n (q := 1) (pc' := 5) (by decide +kernel) rfl 1 rfl ?_
    refine Gz.bipush (n := 20) (v := (20 : Int32)) (pc' := 7) (by decide +kernel) rfl rfl ?_
    refine Gz.icmp_ge (off := 12) (tgt := 19) (pc' := 10) (by decide +kernel) (by decide) rfl (fun c2 => ?_) (fun c2 => ?_)
    · have h := zok_t c2 h
      refine Gz.iconst (n := -1) (v := (-1 : Int32)) (pc' := 20) (by decide +kernel) rfl rfl ?_
      exact Gz.ireturn (by decide +kernel) rfl (zok_sI h)
    · have h := zok_f c2 h
      refine Gz.aload_n (q := 0) (pc' := 11) (by decide +kernel) rfl 0 rfl ?_
      refine Gz.getR (pc' := 14) (j := 1) 61 fd_An_15 sh_59 rfl (by decide +kernel) rfl ?_
      refine Gz.iload_n (q := 1) (pc' := 15) (by decide +kernel) rfl 1 rfl ?_
      obtain ⟨c3, h⟩ := zok_c h
      refine Gz.iald (pc' := 16) (n := 20) (by decide +kernel) rfl rfl c3 ?_
      refine Gz.goto (off := 4) (tgt := 20) (by decide +kernel) (by decide) ?_
      exact Gz.ireturn (by decide +kernel) rfl (zok_sI h)
def f_An_factDay (a1 : Int32) (w : gW) : Option (Int32 × gW) :=
if a1 < 0 then
(some ((-1 : Int32), w))
else
(if (20 : Int32) ≤ a1 then
(some ((-1 : Int32), w))
else
(if inb a1 20 then
some (w.1 62 (ix a1), w)
else none))
theorem g_An_factDay {l : Launch} (a1 : Int32) (w : gW) : gCt l m_An_factDay 1 [.ref 59, .int a1] w eI (f_An_factDay a1 w) := by
  intro Q h
  unfold f_An_factDay at h
  show Gz l m_An_factDay 1 0 [(0, .ref 59), (1, .int a1)] [] w Q
  refine Gz.iload_n (q := 1) (pc' := 1) (by decide +kernel) rfl 1 rfl ?_
  refine Gz.if_lt (off := 18) (tgt := 19) (pc' := 4) (by decide +kernel) (by decide) rfl (fun c1 => ?_) (fun c1 => ?_)
  · have h := zok_t c1 h
    refine Gz.iconst (n := -1) (v := (-1 : Int32)) (pc' := 20) (by decide +kernel) rfl rfl ?_
    exact Gz.ireturn (by decide +kernel) rfl (zok_sI h)
  · have h := zok_f c1 h
    refine Gz.iload_n (q := 1) (pc' := 5) (by decide +kernel) rfl 1 rfl ?_
    refine Gz.bipush (n := 20) (v := (20 : Int32)) (pc' := 7) (by decide +kernel) rfl rfl ?_
    refine Gz.icmp_ge (off := 12) (tgt := 19) (pc' := 10) (by decide +kernel) (by decide) rfl (fun c2 => ?_) (fun c2 => ?_)
    · have h := zok_t c2 h
      refine Gz.iconst (n := -1) (v := (-1 : Int32)) (pc' := 20) (by decide +kernel) rfl rfl ?_
      exact Gz.ireturn (by decide +kernel) rfl (zok_sI h)
    · have h := zok_f c2 h
      refine Gz.aload_n (q := 0) (pc' := 11) (by decide +kernel) rfl 0 rfl ?_
      refine Gz.getR (pc' := 14) (j := 2) 62 fd_An_18 sh_59 rfl (by decide +kernel) rfl ?_
      refine Gz.iload_n (q := 1) (pc' := 15) (by decide +kernel) rfl 1 rfl ?_
      obtain ⟨c3, h⟩ := zok_c h
      refine Gz.iald (pc' := 16) (n := 20) (by decide +kernel) rfl rfl c3 ?_
      refine Gz.goto (off := 4) (tgt := 20) (by decide +kernel) (by decide) ?_
      exact Gz.ireturn (by decide +kernel) rfl (zok_sI h)
def f_An_factTruth (a1 : Int32) (w : gW) : Option (Int32 × gW) :=
if a1 < 0 then
(some ((0 : Int32), w))
else
(if (20 : Int32) ≤ a1 then
(some ((0 : Int32), w))
else
(if inb a1 20 then
if (w.1 63 (ix a1)) = 0 then
(some ((0 : Int32), w))
else
(some ((1 : Int32), w))
else none))
theorem g_An_factTruth {l : Launch} (a1 : Int32) (w : gW) : gCt l m_An_factTruth 1 [.ref 59, .int a1] w eI (f_An_factTruth a1 w) := by
  intro Q h
  unfold f_An_factTruth at h
  show Gz l m_An_factTruth 1 0 [(0, .ref 59), (1, .int a1)] [] w Q
  refine Gz.iload_n (q := 1) (pc' := 1) (by decide +kernel) rfl 1 rfl ?_
  refine Gz.if_lt (off := 22) (tgt := 23) (pc' := 4) (by decide +kernel) (by decide) rfl (fun c1 => ?_) (fun c1 => ?_)
  · have h := zok_t c1 h
    refine Gz.iconst (n := 0) (v := (0 : Int32)) (pc' := 24) (by decide +kernel) rfl rfl ?_
    exact Gz.zreturn (by decide +kernel) rfl (by decide) (zok_sI h)
  · have h := zok_f c1 h
    refine Gz.iload_n (q := 1) (pc' := 5) (by decide +kernel) rfl 1 rfl ?_
    refine Gz.bipush (n := 20) (v := (20 : Int32)) (pc' := 7) (by decide +kernel) rfl rfl ?_
    refine Gz.icmp_ge (off := 16) (tgt := 23) (pc' := 10) (by decide +kernel) (by decide) rfl (fun c2 => ?_) (fun c2 => ?_)
    · have h := zok_t c2 h
      refine Gz.iconst (n := 0) (v := (0 : Int32)) (pc' := 24) (by decide +kernel) rfl rfl ?_
      exact Gz.zreturn (by decide +kernel) rfl (by decide) (zok_sI h)
    · have h := zok_f c2 h
      refine Gz.aload_n (q := 0) (pc' := 11) (by decide +kernel) rfl 0 rfl ?_
      refine Gz.getR (pc' := 14) (j := 3) 63 fd_An_21 sh_59 rfl (by decide +kernel) rfl ?_
      refine Gz.iload_n (q := 1) (pc' := 15) (by decide +kernel) rfl 1 rfl ?_
      obtain ⟨c3, h⟩ := zok_c h
      refine Gz.zald (pc' := 16) (n := 20) (by decide +kernel) rfl rfl c3 ?_
      refine Gz.if_eq (off := 7) (tgt := 23) (pc' := 19) (by decide +kernel) (by decide) rfl (fun c4 => ?_) (fun c4 => ?_)
      · have h := zok_t c4 h
        refine Gz.iconst (n := 0) (v := (0 : Int32)) (pc' := 24) (by decide +kernel) rfl rfl ?_
        exact Gz.zreturn (by decide +kernel) rfl (by decide) (zok_sI h)
      · have h := zok_f c4 h
        refine Gz.iconst (n := 1) (v := (1 : Int32)) (pc' := 20) (by decide +kernel) rfl rfl ?_
        refine Gz.goto (off := 4) (tgt := 24) (by decide +kernel) (by decide) ?_
        exact Gz.zreturn (by decide +kernel) rfl (by decide) (zok_sI h)
def f_La_seenWord_b29 (w : gW) : Option (Int64 × gW) :=
some ((0 : Int64), w)
def f_La_seenWord (a1 : Int32) (a2 : Int32) (a3 : Int32) (w : gW) : Option (Int64 × gW) :=
zb (f_La_hasDeed a1 w) (fun v1 w2 =>
if v1 = 0 then
(f_La_seenWord_b29 w2)
else
(if a2 < 0 then
(f_La_seenWord_b29 w2)
else
(if (7 : Int32) ≤ a2 then
(f_La_seenWord_b29 w2)
else
(if a3 < 0 then
(f_La_seenWord_b29 w2)
else
(if a3 < (263 : Int32) then
(if inb ((a1 * (7 : Int32)) + a2) 35 then
if inb a3 (g_len 2 (23 + 1 + ix ((a1 * (7 : Int32)) + a2))) then
some (w2.2 (23 + 1 + ix ((a1 * (7 : Int32)) + a2)) (ix a3), w2)
else none
else none)
else
(f_La_seenWord_b29 w2))))))
theorem g_La_seenWord_b29 {l : Launch} {Q : Option Value → gW → Prop} (w : gW) (h : zok eJ (f_La_seenWord_b29 w) Q) : Gz l m_La_seenWord 2 29 [] [] w Q := by
  unfold f_La_seenWord_b29 at h
  refine Gz.lconst (n := 0) (v := (0 : Int64)) (pc' := 30) (by decide +kernel) rfl rfl ?_
  exact Gz.lreturn (by decide +kernel) rfl (zok_sJ h)
theorem g_La_seenWord {l : Launch} (a1 : Int32) (a2 : Int32) (a3 : Int32) (w : gW) : gCt l m_La_seenWord 2 [.ref 19, .int a1, .int a2, .int a3] w eJ (f_La_seenWord a1 a2 a3 w) := by
  intro Q h
  unfold f_La_seenWord at h
  show Gz l m_La_seenWord 2 0 [(0, .ref 19), (1, .int a1), (2, .int a2), (3, .int a3)] [] w Q
  refine Gz.aload_n (q := 0) (pc' := 1) (by decide +kernel) rfl 0 rfl ?_
  refine Gz.iload_n (q := 1) (pc' := 2) (by decide +kernel) rfl 1 rfl ?_
  refine Gz.callVI (st := []) (b := 19) (pc' := 5) [.int a1] (g_La_hasDeed a1 w) h ok_m_La_hasDeed lk_La_38 sh_19 rfl rfl rfl (Nat.le_of_ble_eq_true rfl) (Nat.le_of_ble_eq_true rfl) (Nat.le_of_ble_eq_true rfl) (by decide +kernel) rfl (fun v1 w2 h => ?_)
  refine Gz.if_eq (off := 24) (tgt := 29) (pc' := 8) (by decide +kernel) (by decide) rfl (fun c3 => ?_) (fun c3 => ?_)
  · have h := zok_t c3 h
    refine Gz.sub (L' := []) [] rfl ?_
    exact g_La_seenWord_b29 w2 h
  · have h := zok_f c3 h
    refine Gz.iload_n (q := 2) (pc' := 9) (by decide +kernel) rfl 2 rfl ?_
    refine Gz.if_lt (off := 20) (tgt := 29) (pc' := 12) (by decide +kernel) (by decide) rfl (fun c4 => ?_) (fun c4 => ?_)
    · have h := zok_t c4 h
      refine Gz.sub (L' := []) [] rfl ?_
      exact g_La_seenWord_b29 w2 h
    · have h := zok_f c4 h
      refine Gz.iload_n (q := 2) (pc' := 13) (by decide +kernel) rfl 2 rfl ?_
      refine Gz.bipush (n := 7) (v := (7 : Int32)) (pc' := 15) (by decide +kernel) rfl rfl ?_
      refine Gz.icmp_ge (off := 14) (tgt := 29) (pc' := 18) (by decide +kernel) (by decide) rfl (fun c5 => ?_) (fun c5 => ?_)
      · have h := zok_t c5 h
        refine Gz.sub (L' := []) [] rfl ?_
        exact g_La_seenWord_b29 w2 h
      · have h := zok_f c5 h
        refine Gz.iload_n (q := 3) (pc' := 19) (by decide +kernel) rfl 3 rfl ?_
        refine Gz.if_lt (off := 10) (tgt := 29) (pc' := 22) (by decide +kernel) (by decide) rfl (fun c6 => ?_) (fun c6 => ?_)
        · have h := zok_t c6 h
          refine Gz.sub (L' := []) [] rfl ?_
          exact g_La_seenWord_b29 w2 h
        · have h := zok_f c6 h
          refine Gz.iload_n (q := 3) (pc' := 23) (by decide +kernel) rfl 3 rfl ?_
          refine Gz.sipush (n := 263) (v := (263 : Int32)) (pc' := 26) (by decide +kernel) rfl rfl ?_
          refine Gz.icmp_lt (off := 5) (tgt := 31) (pc' := 29) (by decide +kernel) (by decide) rfl (fun c7 => ?_) (fun c7 => ?_)
          · have h := zok_t c7 h
            refine Gz.aload_n (q := 0) (pc' := 32) (by decide +kernel) rfl 0 rfl ?_
            refine Gz.getR (pc' := 35) (j := 3) 23 fd_La_25 sh_19 rfl (by decide +kernel) rfl ?_
            refine Gz.iload_n (q := 1) (pc' := 36) (by decide +kernel) rfl 1 rfl ?_
            refine Gz.bipush (n := 7) (v := (7 : Int32)) (pc' := 38) (by decide +kernel) rfl rfl ?_
            refine Gz.imul (pc' := 39) (by decide +kernel) rfl ?_
            refine Gz.iload_n (q := 2) (pc' := 40) (by decide +kernel) rfl 2 rfl ?_
            refine Gz.iadd (pc' := 41) (by decide +kernel) rfl ?_
            obtain ⟨c8, h⟩ := zok_c h
            refine Gz.aald (pc' := 42) (n := 35) (by decide +kernel) rfl (Or.inr rfl) rfl c8 ?_
            refine Gz.iload_n (q := 3) (pc' := 43) (by decide +kernel) rfl 3 rfl ?_
            obtain ⟨c9, h⟩ := zok_c h
            refine Gz.lald (pc' := 44) (n := (g_len 2 (23 + 1 + ix ((a1 * (7 : Int32)) + a2)))) (by decide +kernel) rfl rfl c9 ?_
            exact Gz.lreturn (by decide +kernel) rfl (zok_sJ h)
          · have h := zok_f c7 h
            refine Gz.sub (L' := []) [] rfl ?_
            exact g_La_seenWord_b29 w2 h
def f_La_dateWord (a1 : Int32) (a2 : Int32) (a3 : Int32) (w : gW) : Option (Int64 × gW) :=
if a2 = (9 : Int32) then
(zb (f_La_seenWord a1 (w.1 19 4) a3 w) (fun v6 w7 =>
some (v6 ^^^ (-1 : Int64), w7)))
else
(zb (f_La_seenWord a1 (a2 + (1 : Int32)) a3 w) (fun v2 w3 =>
zb (f_La_seenWord a1 a2 a3 w3) (fun v4 w5 =>
some (v2 &&& (v4 ^^^ (-1 : Int64)), w5))))
theorem g_La_dateWord {l : Launch} (a1 : Int32) (a2 : Int32) (a3 : Int32) (w : gW) : gCt l m_La_dateWord 3 [.ref 19, .int a1, .int a2, .int a3] w eJ (f_La_dateWord a1 a2 a3 w) := by
  intro Q h
  unfold f_La_dateWord at h
  show Gz l m_La_dateWord 3 0 [(0, .ref 19), (1, .int a1), (2, .int a2), (3, .int a3)] [] w Q
  refine Gz.iload_n (q := 2) (pc' := 1) (by decide +kernel) rfl 2 rfl ?_
  refine Gz.bipush (n := 9) (v := (9 : Int32)) (pc' := 3) (by decide +kernel) rfl rfl ?_
  refine Gz.icmp_ne (off := 18) (tgt := 21) (pc' := 6) (by decide +kernel) (by decide) rfl (fun c1 => ?_) (fun c1 => ?_)
  · have h := zok_f c1 h
    refine Gz.aload_n (q := 0) (pc' := 22) (by decide +kernel) rfl 0 rfl ?_
    refine Gz.iload_n (q := 1) (pc' := 23) (by decide +kernel) rfl 1 rfl ?_
    refine Gz.iload_n (q := 2) (pc' := 24) (by decide +kernel) rfl 2 rfl ?_
    refine Gz.iconst (n := 1) (v := (1 : Int32)) (pc' := 25) (by decide +kernel) rfl rfl ?_
    refine Gz.iadd (pc' := 26) (by decide +kernel) rfl ?_
    refine Gz.iload_n (q := 3) (pc' := 27) (by decide +kernel) rfl 3 rfl ?_
    refine Gz.callVJ (st := []) (b := 19) (pc' := 30) [.int a1, .int (a2 + (1 : Int32)), .int a3] (g_La_seenWord a1 (a2 + (1 : Int32)) a3 w) h ok_m_La_seenWord lk_La_59 sh_19 rfl rfl rfl (Nat.le_of_ble_eq_true rfl) (Nat.le_of_ble_eq_true rfl) (Nat.le_of_ble_eq_true rfl) (by decide +kernel) rfl (fun v2 w3 h => ?_)
    refine Gz.aload_n (q := 0) (pc' := 31) (by decide +kernel) rfl 0 rfl ?_
    refine Gz.iload_n (q := 1) (pc' := 32) (by decide +kernel) rfl 1 rfl ?_
    refine Gz.iload_n (q := 2) (pc' := 33) (by decide +kernel) rfl 2 rfl ?_
    refine Gz.iload_n (q := 3) (pc' := 34) (by decide +kernel) rfl 3 rfl ?_
    refine Gz.callVJ (st := [.long v2]) (b := 19) (pc' := 37) [.int a1, .int a2, .int a3] (g_La_seenWord a1 a2 a3 w3) h ok_m_La_seenWord lk_La_59 sh_19 rfl rfl rfl (Nat.le_of_ble_eq_true rfl) (Nat.le_of_ble_eq_true rfl) (Nat.le_of_ble_eq_true rfl) (by decide +kernel) rfl (fun v4 w5 h => ?_)
    refine Gz.ldc2 (idx := 63) (v := (-1 : Int64)) (pc' := 40) (by decide +kernel) rfl kc_La_63 ?_
    refine Gz.lxor (pc' := 41) (by decide +kernel) rfl ?_
    refine Gz.land (pc' := 42) (by decide +kernel) rfl ?_
    exact Gz.lreturn (by decide +kernel) rfl (zok_sJ h)
  · have h := zok_t c1 h
    refine Gz.aload_n (q := 0) (pc' := 7) (by decide +kernel) rfl 0 rfl ?_
    refine Gz.iload_n (q := 1) (pc' := 8) (by decide +kernel) rfl 1 rfl ?_
    refine Gz.aload_n (q := 0) (pc' := 9) (by decide +kernel) rfl 0 rfl ?_
    refine Gz.getI (pc' := 12) (j := 4) fd_La_32 sh_19 rfl (by decide +kernel) rfl ?_
    refine Gz.iload_n (q := 3) (pc' := 13) (by decide +kernel) rfl 3 rfl ?_
    refine Gz.callVJ (st := []) (b := 19) (pc' := 16) [.int a1, .int (w.1 19 4), .int a3] (g_La_seenWord a1 (w.1 19 4) a3 w) h ok_m_La_seenWord lk_La_59 sh_19 rfl rfl rfl (Nat.le_of_ble_eq_true rfl) (Nat.le_of_ble_eq_true rfl) (Nat.le_of_ble_eq_true rfl) (by decide +kernel) rfl (fun v6 w7 h => ?_)
    refine Gz.ldc2 (idx := 63) (v := (-1 : Int64)) (pc' := 19) (by decide +kernel) rfl kc_La_63 ?_
    refine Gz.lxor (pc' := 20) (by decide +kernel) rfl ?_
    exact Gz.lreturn (by decide +kernel) rfl (zok_sJ h)
def f_Co_narrow_b56 (k3 : Nat → Int32 → Int32 → Int32 → Int32 → gW → Option (Unit × gW)) (x1 : Nat) (x2 : Int32) (x3 : Int32) (x4 : Int32) (x5 : Int32) (s0 : Nat) (s1 : Int32) (s2 : Int64) (s3 : Int64) (w : gW) : Option (Unit × gW) :=
if inb s1 (g_len 2 s0) then
zl (zsL w s0 (ix s1) (s2 &&& s3)) (fun w2 =>
zl (x5 + (1 : Int32)) (fun v4 =>
k3 x1 x2 x3 x4 v4 w2))
else none
def f_Co_narrow_b3_s (k3 : Nat → Int32 → Int32 → Int32 → Int32 → gW → Option (Unit × gW)) (x1 : Nat) (x2 : Int32) (x3 : Int32) (x4 : Int32) (x5 : Int32) (w : gW) : Option (Unit × gW) :=
zb (f_La_words w) (fun v1 w2 =>
if v1 ≤ x5 then
(some ((), w2))
else
(if (g_sh x1).1 = 2 then
if (nI (g_len 2 x1)) ≤ x5 then
(some ((), w2))
else
(zb (f_La_dateWord x2 x3 x5 w2) (fun v6 w7 =>
if inb x5 (g_len 2 x1) then
if x4 = 0 then
(f_Co_narrow_b56 k3 x1 x2 x3 x4 x5 x1 x5 (w7.2 x1 (ix x5)) (v6 ^^^ (-1 : Int64)) w7)
else
(f_Co_narrow_b56 k3 x1 x2 x3 x4 x5 x1 x5 (w7.2 x1 (ix x5)) v6 w7)
else none))
else none))
def f_Co_narrow_b3 : Nat → Int32 → Int32 → Int32 → Int32 → gW → Option (Unit × gW) := zfx (fun _ _ _ _ _ _ => none) (f_Co_narrow_b3_s) zFU
def f_Co_narrow (a1 : Nat) (a2 : Int32) (a3 : Int32) (a4 : Int32) (w : gW) : Option (Unit × gW) :=
f_Co_narrow_b3 a1 a2 a3 a4 (0 : Int32) w
theorem g_Co_narrow_b56 {l : Launch} {Q : Option Value → gW → Prop} (k3 : Nat → Int32 → Int32 → Int32 → Int32 → gW → Option (Unit × gW)) (hk3 : ∀ (x1 : Nat) (x2 : Int32) (x3 : Int32) (x4 : Int32) (x5 : Int32) (w : gW), zok eV (k3 x1 x2 x3 x4 x5 w) Q → Gz l m_Co_narrow 4 3 [(0, .ref 73), (1, .ref x1), (2, .int x2), (3, .int x3), (4, .int x4), (5, .int x5)] [] w Q) (x1 : Nat) (x2 : Int32) (x3 : Int32) (x4 : Int32) (x5 : Int32) (s0 : Nat) (s1 : Int32) (s2 : Int64) (s3 : Int64) (w : gW) (h : zok eV (f_Co_narrow_b56 k3 x1 x2 x3 x4 x5 s0 s1 s2 s3 w) Q) : Gz l m_Co_narrow 4 56 [(0, .ref 73), (1, .ref x1), (2, .int x2), (3, .int x3), (4, .int x4), (5, .int x5)] [.long s3, .long s2, .int s1, .ref s0] w Q := by
  unfold f_Co_narrow_b56 at h
  refine Gz.land (pc' := 57) (by decide +kernel) rfl ?_
  obtain ⟨c1, h⟩ := zok_c h
  refine Gz.last (pc' := 58) (n := (g_len 2 s0)) (by decide +kernel) rfl rfl c1 ?_
  refine Gz.nmW (fun w2 e3 => ?_)
  have h := zok_l e3 h
  obtain ⟨v4, e5⟩ : ∃ y : Int32, y = x5 + (1 : Int32) := ⟨_, rfl⟩
  have h := zok_l e5 h
  refine Gz.iinc (i := 5) (n := 1) (pc' := 61) (L' := [(5, .int v4), (0, .ref 73), (1, .ref x1), (2, .int x2), (3, .int x3), (4, .int x4)]) v4 (by decide +kernel) rfl 5 rfl (by rw [e5]; rfl) (Nat.le_of_ble_eq_true rfl) rfl ?_
  refine Gz.goto (off := -58) (tgt := 3) (by decide +kernel) (by decide) ?_
  refine Gz.sub (L' := [(0, .ref 73), (1, .ref x1), (2, .int x2), (3, .int x3), (4, .int x4), (5, .int v4)]) [1, 2, 3, 4, 5, 0] rfl ?_
  exact hk3 x1 x2 x3 x4 v4 w2 h
theorem g_Co_narrow_b3_s {l : Launch} {Q : Option Value → gW → Prop} (k3 : Nat → Int32 → Int32 → Int32 → Int32 → gW → Option (Unit × gW)) (hk3 : ∀ (x1 : Nat) (x2 : Int32) (x3 : Int32) (x4 : Int32) (x5 : Int32) (w : gW), zok eV (k3 x1 x2 x3 x4 x5 w) Q → Gz l m_Co_narrow 4 3 [(0, .ref 73), (1, .ref x1), (2, .int x2), (3, .int x3), (4, .int x4), (5, .int x5)] [] w Q) (x1 : Nat) (x2 : Int32) (x3 : Int32) (x4 : Int32) (x5 : Int32) (w : gW) (h : zok eV (f_Co_narrow_b3_s k3 x1 x2 x3 x4 x5 w) Q) : Gz l m_Co_narrow 4 3 [(0, .ref 73), (1, .ref x1), (2, .int x2), (3, .int x3), (4, .int x4), (5, .int x5)] [] w Q := by
  unfold f_Co_narrow_b3_s at h
  refine Gz.iload (i := 5) (pc' := 5) (by decide +kernel) rfl 5 rfl ?_
  refine Gz.aload_n (q := 0) (pc' := 6) (by decide +kernel) rfl 0 rfl ?_
  refine Gz.getR (pc' := 9) (j := 0) 19 fd_Co_26 sh_73 rfl (by decide +kernel) rfl ?_
  refine Gz.callVI (st := [.int x5]) (b := 19) (pc' := 12) [] (g_La_words w) h ok_m_La_words lk_Co_107 sh_19 rfl rfl rfl (Nat.le_of_ble_eq_true rfl) (Nat.le_of_ble_eq_true rfl) (Nat.le_of_ble_eq_true rfl) (by decide +kernel) rfl (fun v1 w2 h => ?_)
  refine Gz.icmp_ge (off := 52) (tgt := 64) (pc' := 15) (by decide +kernel) (by decide) rfl (fun c3 => ?_) (fun c3 => ?_)
  · have h := zok_t c3 h
    exact Gz.return_ (by decide +kernel) rfl (zok_sV h)
  · have h := zok_f c3 h
    refine Gz.iload (i := 5) (pc' := 17) (by decide +kernel) rfl 5 rfl ?_
    refine Gz.aload_n (q := 1) (pc' := 18) (by decide +kernel) rfl 1 rfl ?_
    obtain ⟨c4, h⟩ := zok_c h
    refine Gz.alen (pc' := 19) (n := g_len 2 x1) (kd := 2) (by decide +kernel) rfl (Or.inr rfl) c4 rfl ?_
    refine Gz.icmp_ge (off := 45) (tgt := 64) (pc' := 22) (by decide +kernel) (by decide) rfl (fun c5 => ?_) (fun c5 => ?_)
    · have h := zok_t c5 h
      exact Gz.return_ (by decide +kernel) rfl (zok_sV h)
    · have h := zok_f c5 h
      refine Gz.aload_n (q := 0) (pc' := 23) (by decide +kernel) rfl 0 rfl ?_
      refine Gz.getR (pc' := 26) (j := 0) 19 fd_Co_26 sh_73 rfl (by decide +kernel) rfl ?_
      refine Gz.iload_n (q := 2) (pc' := 27) (by decide +kernel) rfl 2 rfl ?_
      refine Gz.iload_n (q := 3) (pc' := 28) (by decide +kernel) rfl 3 rfl ?_
      refine Gz.iload (i := 5) (pc' := 30) (by decide +kernel) rfl 5 rfl ?_
      refine Gz.callVJ (st := []) (b := 19) (pc' := 33) [.int x2, .int x3, .int x5] (g_La_dateWord x2 x3 x5 w2) h ok_m_La_dateWord lk_Co_110 sh_19 rfl rfl rfl (Nat.le_of_ble_eq_true rfl) (Nat.le_of_ble_eq_true rfl) (Nat.le_of_ble_eq_true rfl) (by decide +kernel) rfl (fun v6 w7 h => ?_)
      refine Gz.lstore (i := 6) (pc' := 35) (L' := [(6, .long v6), (0, .ref 73), (1, .ref x1), (2, .int x2), (3, .int x3), (4, .int x4), (5, .int x5)]) (by decide +kernel) rfl (Nat.le_of_ble_eq_true rfl) rfl ?_
      refine Gz.aload_n (q := 1) (pc' := 36) (by decide +kernel) rfl 2 rfl ?_
      refine Gz.iload (i := 5) (pc' := 38) (by decide +kernel) rfl 6 rfl ?_
      refine Gz.dup2 (pc' := 39) (by decide +kernel) rfl rfl rfl ?_
      obtain ⟨c8, h⟩ := zok_c h
      refine Gz.lald (pc' := 40) (n := (g_len 2 x1)) (by decide +kernel) rfl rfl c8 ?_
      refine Gz.iload (i := 4) (pc' := 42) (by decide +kernel) rfl 5 rfl ?_
      refine Gz.if_eq (off := 8) (tgt := 50) (pc' := 45) (by decide +kernel) (by decide) rfl (fun c9 => ?_) (fun c9 => ?_)
      · have h := zok_t c9 h
        refine Gz.lload (i := 6) (pc' := 52) (by decide +kernel) rfl 0 rfl ?_
        refine Gz.ldc2 (idx := 114) (v := (-1 : Int64)) (pc' := 55) (by decide +kernel) rfl kc_Co_114 ?_
        refine Gz.lxor (pc' := 56) (by decide +kernel) rfl ?_
        refine Gz.sub (L' := [(0, .ref 73), (1, .ref x1), (2, .int x2), (3, .int x3), (4, .int x4), (5, .int x5)]) [1, 2, 3, 4, 5, 6] rfl ?_
        exact g_Co_narrow_b56 k3 hk3 x1 x2 x3 x4 x5 x1 x5 (w7.2 x1 (ix x5)) (v6 ^^^ (-1 : Int64)) w7 h
      · have h := zok_f c9 h
        refine Gz.lload (i := 6) (pc' := 47) (by decide +kernel) rfl 0 rfl ?_
        refine Gz.goto (off := 9) (tgt := 56) (by decide +kernel) (by decide) ?_
        refine Gz.sub (L' := [(0, .ref 73), (1, .ref x1), (2, .int x2), (3, .int x3), (4, .int x4), (5, .int x5)]) [1, 2, 3, 4, 5, 6] rfl ?_
        exact g_Co_narrow_b56 k3 hk3 x1 x2 x3 x4 x5 x1 x5 (w7.2 x1 (ix x5)) v6 w7 h
theorem g_Co_narrow_b3 {l : Launch} {Q : Option Value → gW → Prop} (x1 : Nat) (x2 : Int32) (x3 : Int32) (x4 : Int32) (x5 : Int32) (w : gW) (h : zok eV (f_Co_narrow_b3 x1 x2 x3 x4 x5 w) Q) : Gz l m_Co_narrow 4 3 [(0, .ref 73), (1, .ref x1), (2, .int x2), (3, .int x3), (4, .int x4), (5, .int x5)] [] w Q := by
  have key : ∀ (n : Nat) (x1 : Nat) (x2 : Int32) (x3 : Int32) (x4 : Int32) (x5 : Int32) (w : gW), zok eV (zfx (fun _ _ _ _ _ _ => none) (f_Co_narrow_b3_s) n x1 x2 x3 x4 x5 w) Q → Gz l m_Co_narrow 4 3 [(0, .ref 73), (1, .ref x1), (2, .int x2), (3, .int x3), (4, .int x4), (5, .int x5)] [] w Q := by
    intro n
    induction n with
    | zero => intro x1 x2 x3 x4 x5 w h; exact zok_n h
    | succ n ih => intro x1 x2 x3 x4 x5 w h; exact g_Co_narrow_b3_s _ ih x1 x2 x3 x4 x5 w h
  exact key zFU x1 x2 x3 x4 x5 w h
theorem g_Co_narrow {l : Launch} (a1 : Nat) (a2 : Int32) (a3 : Int32) (a4 : Int32) (w : gW) : gCt l m_Co_narrow 4 [.ref 73, .ref a1, .int a2, .int a3, .int a4] w eV (f_Co_narrow a1 a2 a3 a4 w) := by
  intro Q h
  unfold f_Co_narrow at h
  show Gz l m_Co_narrow 4 0 [(0, .ref 73), (1, .ref a1), (2, .int a2), (3, .int a3), (4, .int a4)] [] w Q
  refine Gz.iconst (n := 0) (v := (0 : Int32)) (pc' := 1) (by decide +kernel) rfl rfl ?_
  refine Gz.istore (i := 5) (pc' := 3) (L' := [(5, .int (0 : Int32)), (0, .ref 73), (1, .ref a1), (2, .int a2), (3, .int a3), (4, .int a4)]) (by decide +kernel) rfl (Nat.le_of_ble_eq_true rfl) rfl ?_
  refine Gz.sub (L' := [(0, .ref 73), (1, .ref a1), (2, .int a2), (3, .int a3), (4, .int a4), (5, .int (0 : Int32))]) [1, 2, 3, 4, 5, 0] rfl ?_
  exact g_Co_narrow_b3 a1 a2 a3 a4 (0 : Int32) w h
def f_Ro_copy (a0 : Nat) (a1 : Nat) (w : gW) : Option (Unit × gW) :=
if (g_sh a0).1 = 2 then
if (g_sh a1).1 = 2 then
if (nI (g_len 2 a0)) = (nI (g_len 2 a1)) then
(if (g_sh a0).1 = 2 then
if (g_sh a0).1 = 2 ∧ (g_sh a1).1 = 2 ∧ cpOk (0 : Int32) (0 : Int32) (nI (g_len 2 a0)) (g_len 2 a0) (g_len 2 a1) then
zl (zcL w a1 (va_cpy (w.2 a0) (w.2 a1) (ix (0 : Int32)) (ix (0 : Int32)) (ix (nI (g_len 2 a0))))) (fun w6 =>
some ((), w6))
else none
else none)
else
(some ((), w))
else none
else none
theorem g_Ro_copy {l : Launch} (a0 : Nat) (a1 : Nat) (w : gW) : gCt l m_Ro_copy 1 [.ref a0, .ref a1] w eV (f_Ro_copy a0 a1 w) := by
  intro Q h
  unfold f_Ro_copy at h
  show Gz l m_Ro_copy 1 0 [(0, .ref a0), (1, .ref a1)] [] w Q
  refine Gz.aload_n (q := 0) (pc' := 1) (by decide +kernel) rfl 0 rfl ?_
  obtain ⟨c1, h⟩ := zok_c h
  refine Gz.alen (pc' := 2) (n := g_len 2 a0) (kd := 2) (by decide +kernel) rfl (Or.inr rfl) c1 rfl ?_
  refine Gz.aload_n (q := 1) (pc' := 3) (by decide +kernel) rfl 1 rfl ?_
  obtain ⟨c2, h⟩ := zok_c h
  refine Gz.alen (pc' := 4) (n := g_len 2 a1) (kd := 2) (by decide +kernel) rfl (Or.inr rfl) c2 rfl ?_
  refine Gz.icmp_ne (off := 12) (tgt := 16) (pc' := 7) (by decide +kernel) (by decide) rfl (fun c3 => ?_) (fun c3 => ?_)
  · have h := zok_f c3 h
    exact Gz.return_ (by decide +kernel) rfl (zok_sV h)
  · have h := zok_t c3 h
    refine Gz.aload_n (q := 0) (pc' := 8) (by decide +kernel) rfl 0 rfl ?_
    refine Gz.iconst (n := 0) (v := (0 : Int32)) (pc' := 9) (by decide +kernel) rfl rfl ?_
    refine Gz.aload_n (q := 1) (pc' := 10) (by decide +kernel) rfl 1 rfl ?_
    refine Gz.iconst (n := 0) (v := (0 : Int32)) (pc' := 11) (by decide +kernel) rfl rfl ?_
    refine Gz.aload_n (q := 0) (pc' := 12) (by decide +kernel) rfl 0 rfl ?_
    obtain ⟨c4, h⟩ := zok_c h
    refine Gz.alen (pc' := 13) (n := g_len 2 a0) (kd := 2) (by decide +kernel) rfl (Or.inr rfl) c4 rfl ?_
    obtain ⟨c5, h⟩ := zok_c h
    refine Gz.copyL (pc' := 16) (by decide +kernel) rfl lk_Ro_17 cp_n cp_s cp_i c5.1 c5.2.1 rfl rfl c5.2.2 (Nat.le_of_ble_eq_true rfl) (Nat.le_of_ble_eq_true rfl) ?_
    refine Gz.nmW (fun w6 e7 => ?_)
    have h := zok_l e7 h
    exact Gz.return_ (by decide +kernel) rfl (zok_sV h)
def f_An_swornCount (w : gW) : Option (Int32 × gW) :=
some (w.1 59 6, w)
theorem g_An_swornCount {l : Launch} (w : gW) : gCt l m_An_swornCount 1 [.ref 59] w eI (f_An_swornCount w) := by
  intro Q h
  unfold f_An_swornCount at h
  show Gz l m_An_swornCount 1 0 [(0, .ref 59)] [] w Q
  refine Gz.aload_n (q := 0) (pc' := 1) (by decide +kernel) rfl 0 rfl ?_
  refine Gz.getI (pc' := 4) (j := 6) fd_An_37 sh_59 rfl (by decide +kernel) rfl ?_
  exact Gz.ireturn (by decide +kernel) rfl (zok_sI h)
def f_An_allSworn (w : gW) : Option (Int32 × gW) :=
some (((1 : Int32) <<< ((w.1 59 6) &&& 31)) - (1 : Int32), w)
theorem g_An_allSworn {l : Launch} (w : gW) : gCt l m_An_allSworn 1 [.ref 59] w eI (f_An_allSworn w) := by
  intro Q h
  unfold f_An_allSworn at h
  show Gz l m_An_allSworn 1 0 [(0, .ref 59)] [] w Q
  refine Gz.iconst (n := 1) (v := (1 : Int32)) (pc' := 1) (by decide +kernel) rfl rfl ?_
  refine Gz.aload_n (q := 0) (pc' := 2) (by decide +kernel) rfl 0 rfl ?_
  refine Gz.getI (pc' := 5) (j := 6) fd_An_37 sh_59 rfl (by decide +kernel) rfl ?_
  refine Gz.ishl (pc' := 6) (by decide +kernel) rfl ?_
  refine Gz.iconst (n := 1) (v := (1 : Int32)) (pc' := 7) (by decide +kernel) rfl rfl ?_
  refine Gz.isub (pc' := 8) (by decide +kernel) rfl ?_
  exact Gz.ireturn (by decide +kernel) rfl (zok_sI h)
def f_An_swornPart (a1 : Int32) (a2 : Int32) (w : gW) : Option (Int32 × gW) :=
if a1 < 0 then
(some ((-1 : Int32), w))
else
(if (w.1 59 6) ≤ a1 then
(some ((-1 : Int32), w))
else
(if (10 : Int32) ≤ a1 then
(some ((-1 : Int32), w))
else
(if a2 < 0 then
(some ((-1 : Int32), w))
else
(if a2 < (4 : Int32) then
(if inb ((a1 * (4 : Int32)) + a2) 40 then
some (w.1 60 (ix ((a1 * (4 : Int32)) + a2)), w)
else none)
else
(some ((-1 : Int32), w))))))
theorem g_An_swornPart {l : Launch} (a1 : Int32) (a2 : Int32) (w : gW) : gCt l m_An_swornPart 1 [.ref 59, .int a1, .int a2] w eI (f_An_swornPart a1 a2 w) := by
  intro Q h
  unfold f_An_swornPart at h
  show Gz l m_An_swornPart 1 0 [(0, .ref 59), (1, .int a1), (2, .int a2)] [] w Q
  refine Gz.iload_n (q := 1) (pc' := 1) (by decide +kernel) rfl 1 rfl ?_
  refine Gz.if_lt (off := 26) (tgt := 27) (pc' := 4) (by decide +kernel) (by decide) rfl (fun c1 => ?_) (fun c1 => ?_)
  · have h := zok_t c1 h
    refine Gz.iconst (n := -1) (v := (-1 : Int32)) (pc' := 28) (by decide +kernel) rfl rfl ?_
    exact Gz.ireturn (by decide +kernel) rfl (zok_sI h)
  · have h := zok_f c1 h
    refine Gz.iload_n (q := 1) (pc' := 5) (by decide +kernel) rfl 1 rfl ?_
    refine Gz.aload_n (q := 0) (pc' := 6) (by decide +kernel) rfl 0 rfl ?_
    refine Gz.getI (pc' := 9) (j := 6) fd_An_37 sh_59 rfl (by decide +kernel) rfl ?_
    refine Gz.icmp_ge (off := 18) (tgt := 27) (pc' := 12) (by decide +kernel) (by decide) rfl (fun c2 => ?_) (fun c2 => ?_)
    · have h := zok_t c2 h
      refine Gz.iconst (n := -1) (v := (-1 : Int32)) (pc' := 28) (by decide +kernel) rfl rfl ?_
      exact Gz.ireturn (by decide +kernel) rfl (zok_sI h)
    · have h := zok_f c2 h
      refine Gz.iload_n (q := 1) (pc' := 13) (by decide +kernel) rfl 1 rfl ?_
      refine Gz.bipush (n := 10) (v := (10 : Int32)) (pc' := 15) (by decide +kernel) rfl rfl ?_
      refine Gz.icmp_ge (off := 12) (tgt := 27) (pc' := 18) (by decide +kernel) (by decide) rfl (fun c3 => ?_) (fun c3 => ?_)
      · have h := zok_t c3 h
        refine Gz.iconst (n := -1) (v := (-1 : Int32)) (pc' := 28) (by decide +kernel) rfl rfl ?_
        exact Gz.ireturn (by decide +kernel) rfl (zok_sI h)
      · have h := zok_f c3 h
        refine Gz.iload_n (q := 2) (pc' := 19) (by decide +kernel) rfl 2 rfl ?_
        refine Gz.if_lt (off := 8) (tgt := 27) (pc' := 22) (by decide +kernel) (by decide) rfl (fun c4 => ?_) (fun c4 => ?_)
        · have h := zok_t c4 h
          refine Gz.iconst (n := -1) (v := (-1 : Int32)) (pc' := 28) (by decide +kernel) rfl rfl ?_
          exact Gz.ireturn (by decide +kernel) rfl (zok_sI h)
        · have h := zok_f c4 h
          refine Gz.iload_n (q := 2) (pc' := 23) (by decide +kernel) rfl 2 rfl ?_
          refine Gz.iconst (n := 4) (v := (4 : Int32)) (pc' := 24) (by decide +kernel) rfl rfl ?_
          refine Gz.icmp_lt (off := 5) (tgt := 29) (pc' := 27) (by decide +kernel) (by decide) rfl (fun c5 => ?_) (fun c5 => ?_)
          · have h := zok_t c5 h
            refine Gz.aload_n (q := 0) (pc' := 30) (by decide +kernel) rfl 0 rfl ?_
            refine Gz.getR (pc' := 33) (j := 0) 60 fd_An_11 sh_59 rfl (by decide +kernel) rfl ?_
            refine Gz.iload_n (q := 1) (pc' := 34) (by decide +kernel) rfl 1 rfl ?_
            refine Gz.iconst (n := 4) (v := (4 : Int32)) (pc' := 35) (by decide +kernel) rfl rfl ?_
            refine Gz.imul (pc' := 36) (by decide +kernel) rfl ?_
            refine Gz.iload_n (q := 2) (pc' := 37) (by decide +kernel) rfl 2 rfl ?_
            refine Gz.iadd (pc' := 38) (by decide +kernel) rfl ?_
            obtain ⟨c6, h⟩ := zok_c h
            refine Gz.iald (pc' := 39) (n := 40) (by decide +kernel) rfl rfl c6 ?_
            exact Gz.ireturn (by decide +kernel) rfl (zok_sI h)
          · have h := zok_f c5 h
            refine Gz.iconst (n := -1) (v := (-1 : Int32)) (pc' := 28) (by decide +kernel) rfl rfl ?_
            exact Gz.ireturn (by decide +kernel) rfl (zok_sI h)
def f_An_oathOf (a1 : Int32) (w : gW) : Option (Int32 × gW) :=
zb (f_An_swornPart a1 (1 : Int32) w) (fun v1 w2 =>
some (v1, w2))
theorem g_An_oathOf {l : Launch} (a1 : Int32) (w : gW) : gCt l m_An_oathOf 2 [.ref 59, .int a1] w eI (f_An_oathOf a1 w) := by
  intro Q h
  unfold f_An_oathOf at h
  show Gz l m_An_oathOf 2 0 [(0, .ref 59), (1, .int a1)] [] w Q
  refine Gz.aload_n (q := 0) (pc' := 1) (by decide +kernel) rfl 0 rfl ?_
  refine Gz.iload_n (q := 1) (pc' := 2) (by decide +kernel) rfl 1 rfl ?_
  refine Gz.iconst (n := 1) (v := (1 : Int32)) (pc' := 3) (by decide +kernel) rfl rfl ?_
  refine Gz.callVI (st := []) (b := 59) (pc' := 6) [.int a1, .int (1 : Int32)] (g_An_swornPart a1 (1 : Int32) w) h ok_m_An_swornPart lk_An_58 sh_59 rfl rfl rfl (Nat.le_of_ble_eq_true rfl) (Nat.le_of_ble_eq_true rfl) (Nat.le_of_ble_eq_true rfl) (by decide +kernel) rfl (fun v1 w2 h => ?_)
  exact Gz.ireturn (by decide +kernel) rfl (zok_sI h)
def f_An_dayOf (a1 : Int32) (w : gW) : Option (Int32 × gW) :=
zb (f_An_swornPart a1 (2 : Int32) w) (fun v1 w2 =>
some (v1, w2))
theorem g_An_dayOf {l : Launch} (a1 : Int32) (w : gW) : gCt l m_An_dayOf 2 [.ref 59, .int a1] w eI (f_An_dayOf a1 w) := by
  intro Q h
  unfold f_An_dayOf at h
  show Gz l m_An_dayOf 2 0 [(0, .ref 59), (1, .int a1)] [] w Q
  refine Gz.aload_n (q := 0) (pc' := 1) (by decide +kernel) rfl 0 rfl ?_
  refine Gz.iload_n (q := 1) (pc' := 2) (by decide +kernel) rfl 1 rfl ?_
  refine Gz.iconst (n := 2) (v := (2 : Int32)) (pc' := 3) (by decide +kernel) rfl rfl ?_
  refine Gz.callVI (st := []) (b := 59) (pc' := 6) [.int a1, .int (2 : Int32)] (g_An_swornPart a1 (2 : Int32) w) h ok_m_An_swornPart lk_An_58 sh_59 rfl rfl rfl (Nat.le_of_ble_eq_true rfl) (Nat.le_of_ble_eq_true rfl) (Nat.le_of_ble_eq_true rfl) (by decide +kernel) rfl (fun v1 w2 h => ?_)
  exact Gz.ireturn (by decide +kernel) rfl (zok_sI h)
def f_Oa_has (a1 : Int32) (w : gW) : Option (Int32 × gW) :=
if a1 < 0 then
(some ((0 : Int32), w))
else
(if (w.1 5 4) ≤ a1 then
(some ((0 : Int32), w))
else
(if (8 : Int32) ≤ a1 then
(some ((0 : Int32), w))
else
(some ((1 : Int32), w))))
theorem g_Oa_has {l : Launch} (a1 : Int32) (w : gW) : gCt l m_Oa_has 1 [.ref 5, .int a1] w eI (f_Oa_has a1 w) := by
  intro Q h
  unfold f_Oa_has at h
  show Gz l m_Oa_has 1 0 [(0, .ref 5), (1, .int a1)] [] w Q
  refine Gz.iload_n (q := 1) (pc' := 1) (by decide +kernel) rfl 1 rfl ?_
  refine Gz.if_lt (off := 21) (tgt := 22) (pc' := 4) (by decide +kernel) (by decide) rfl (fun c1 => ?_) (fun c1 => ?_)
  · have h := zok_t c1 h
    refine Gz.iconst (n := 0) (v := (0 : Int32)) (pc' := 23) (by decide +kernel) rfl rfl ?_
    exact Gz.zreturn (by decide +kernel) rfl (by decide) (zok_sI h)
  · have h := zok_f c1 h
    refine Gz.iload_n (q := 1) (pc' := 5) (by decide +kernel) rfl 1 rfl ?_
    refine Gz.aload_n (q := 0) (pc' := 6) (by decide +kernel) rfl 0 rfl ?_
    refine Gz.getI (pc' := 9) (j := 4) fd_Oa_26 sh_5 rfl (by decide +kernel) rfl ?_
    refine Gz.icmp_ge (off := 13) (tgt := 22) (pc' := 12) (by decide +kernel) (by decide) rfl (fun c2 => ?_) (fun c2 => ?_)
    · have h := zok_t c2 h
      refine Gz.iconst (n := 0) (v := (0 : Int32)) (pc' := 23) (by decide +kernel) rfl rfl ?_
      exact Gz.zreturn (by decide +kernel) rfl (by decide) (zok_sI h)
    · have h := zok_f c2 h
      refine Gz.iload_n (q := 1) (pc' := 13) (by decide +kernel) rfl 1 rfl ?_
      refine Gz.bipush (n := 8) (v := (8 : Int32)) (pc' := 15) (by decide +kernel) rfl rfl ?_
      refine Gz.icmp_ge (off := 7) (tgt := 22) (pc' := 18) (by decide +kernel) (by decide) rfl (fun c3 => ?_) (fun c3 => ?_)
      · have h := zok_t c3 h
        refine Gz.iconst (n := 0) (v := (0 : Int32)) (pc' := 23) (by decide +kernel) rfl rfl ?_
        exact Gz.zreturn (by decide +kernel) rfl (by decide) (zok_sI h)
      · have h := zok_f c3 h
        refine Gz.iconst (n := 1) (v := (1 : Int32)) (pc' := 19) (by decide +kernel) rfl rfl ?_
        refine Gz.goto (off := 4) (tgt := 23) (by decide +kernel) (by decide) ?_
        exact Gz.zreturn (by decide +kernel) rfl (by decide) (zok_sI h)
def f_Oa_length (a1 : Int32) (w : gW) : Option (Int32 × gW) :=
zb (f_Oa_has a1 w) (fun v1 w2 =>
if v1 = 0 then
(some ((0 : Int32), w2))
else
(if inb a1 9 then
some (w2.1 16 (ix a1), w2)
else none))
theorem g_Oa_length {l : Launch} (a1 : Int32) (w : gW) : gCt l m_Oa_length 2 [.ref 5, .int a1] w eI (f_Oa_length a1 w) := by
  intro Q h
  unfold f_Oa_length at h
  show Gz l m_Oa_length 2 0 [(0, .ref 5), (1, .int a1)] [] w Q
  refine Gz.aload_n (q := 0) (pc' := 1) (by decide +kernel) rfl 0 rfl ?_
  refine Gz.iload_n (q := 1) (pc' := 2) (by decide +kernel) rfl 1 rfl ?_
  refine Gz.callVI (st := []) (b := 5) (pc' := 5) [.int a1] (g_Oa_has a1 w) h ok_m_Oa_has lk_Oa_30 sh_5 rfl rfl rfl (Nat.le_of_ble_eq_true rfl) (Nat.le_of_ble_eq_true rfl) (Nat.le_of_ble_eq_true rfl) (by decide +kernel) rfl (fun v1 w2 h => ?_)
  refine Gz.if_eq (off := 12) (tgt := 17) (pc' := 8) (by decide +kernel) (by decide) rfl (fun c3 => ?_) (fun c3 => ?_)
  · have h := zok_t c3 h
    refine Gz.iconst (n := 0) (v := (0 : Int32)) (pc' := 18) (by decide +kernel) rfl rfl ?_
    exact Gz.ireturn (by decide +kernel) rfl (zok_sI h)
  · have h := zok_f c3 h
    refine Gz.aload_n (q := 0) (pc' := 9) (by decide +kernel) rfl 0 rfl ?_
    refine Gz.getR (pc' := 12) (j := 1) 16 fd_Oa_16 sh_5 rfl (by decide +kernel) rfl ?_
    refine Gz.iload_n (q := 1) (pc' := 13) (by decide +kernel) rfl 1 rfl ?_
    obtain ⟨c4, h⟩ := zok_c h
    refine Gz.iald (pc' := 14) (n := 9) (by decide +kernel) rfl rfl c4 ?_
    refine Gz.goto (off := 4) (tgt := 18) (by decide +kernel) (by decide) ?_
    exact Gz.ireturn (by decide +kernel) rfl (zok_sI h)
def f_Oa_codeAt (a1 : Int32) (a2 : Int32) (w : gW) : Option (Int32 × gW) :=
zb (f_Oa_has a1 w) (fun v1 w2 =>
if v1 = 0 then
(some ((0 : Int32), w2))
else
(if a2 < 0 then
(some ((0 : Int32), w2))
else
(if (120 : Int32) ≤ a2 then
(some ((0 : Int32), w2))
else
(if inb a1 9 then
if inb a2 (g_len 1 (6 + 1 + ix a1)) then
some (w2.1 (6 + 1 + ix a1) (ix a2), w2)
else none
else none))))
theorem g_Oa_codeAt {l : Launch} (a1 : Int32) (a2 : Int32) (w : gW) : gCt l m_Oa_codeAt 2 [.ref 5, .int a1, .int a2] w eI (f_Oa_codeAt a1 a2 w) := by
  intro Q h
  unfold f_Oa_codeAt at h
  show Gz l m_Oa_codeAt 2 0 [(0, .ref 5), (1, .int a1), (2, .int a2)] [] w Q
  refine Gz.aload_n (q := 0) (pc' := 1) (by decide +kernel) rfl 0 rfl ?_
  refine Gz.iload_n (q := 1) (pc' := 2) (by decide +kernel) rfl 1 rfl ?_
  refine Gz.callVI (st := []) (b := 5) (pc' := 5) [.int a1] (g_Oa_has a1 w) h ok_m_Oa_has lk_Oa_30 sh_5 rfl rfl rfl (Nat.le_of_ble_eq_true rfl) (Nat.le_of_ble_eq_true rfl) (Nat.le_of_ble_eq_true rfl) (by decide +kernel) rfl (fun v1 w2 h => ?_)
  refine Gz.if_eq (off := 24) (tgt := 29) (pc' := 8) (by decide +kernel) (by decide) rfl (fun c3 => ?_) (fun c3 => ?_)
  · have h := zok_t c3 h
    refine Gz.iconst (n := 0) (v := (0 : Int32)) (pc' := 30) (by decide +kernel) rfl rfl ?_
    exact Gz.ireturn (by decide +kernel) rfl (zok_sI h)
  · have h := zok_f c3 h
    refine Gz.iload_n (q := 2) (pc' := 9) (by decide +kernel) rfl 2 rfl ?_
    refine Gz.if_lt (off := 20) (tgt := 29) (pc' := 12) (by decide +kernel) (by decide) rfl (fun c4 => ?_) (fun c4 => ?_)
    · have h := zok_t c4 h
      refine Gz.iconst (n := 0) (v := (0 : Int32)) (pc' := 30) (by decide +kernel) rfl rfl ?_
      exact Gz.ireturn (by decide +kernel) rfl (zok_sI h)
    · have h := zok_f c4 h
      refine Gz.iload_n (q := 2) (pc' := 13) (by decide +kernel) rfl 2 rfl ?_
      refine Gz.bipush (n := 120) (v := (120 : Int32)) (pc' := 15) (by decide +kernel) rfl rfl ?_
      refine Gz.icmp_ge (off := 14) (tgt := 29) (pc' := 18) (by decide +kernel) (by decide) rfl (fun c5 => ?_) (fun c5 => ?_)
      · have h := zok_t c5 h
        refine Gz.iconst (n := 0) (v := (0 : Int32)) (pc' := 30) (by decide +kernel) rfl rfl ?_
        exact Gz.ireturn (by decide +kernel) rfl (zok_sI h)
      · have h := zok_f c5 h
        refine Gz.aload_n (q := 0) (pc' := 19) (by decide +kernel) rfl 0 rfl ?_
        refine Gz.getR (pc' := 22) (j := 0) 6 fd_Oa_11 sh_5 rfl (by decide +kernel) rfl ?_
        refine Gz.iload_n (q := 1) (pc' := 23) (by decide +kernel) rfl 1 rfl ?_
        obtain ⟨c6, h⟩ := zok_c h
        refine Gz.aald (pc' := 24) (n := 9) (by decide +kernel) rfl (Or.inl rfl) rfl c6 ?_
        refine Gz.iload_n (q := 2) (pc' := 25) (by decide +kernel) rfl 2 rfl ?_
        obtain ⟨c7, h⟩ := zok_c h
        refine Gz.iald (pc' := 26) (n := (g_len 1 (6 + 1 + ix a1))) (by decide +kernel) rfl rfl c7 ?_
        refine Gz.goto (off := 4) (tgt := 30) (by decide +kernel) (by decide) ?_
        exact Gz.ireturn (by decide +kernel) rfl (zok_sI h)
def f_Oa_oneOf (a0 : Int32) (w : gW) : Option (Int32 × gW) :=
some ((a0 >>> ((4 : Int32) &&& 31)) &&& (15 : Int32), w)
theorem g_Oa_oneOf {l : Launch} (a0 : Int32) (w : gW) : gCt l m_Oa_oneOf 1 [.int a0] w eI (f_Oa_oneOf a0 w) := by
  intro Q h
  unfold f_Oa_oneOf at h
  show Gz l m_Oa_oneOf 1 0 [(0, .int a0)] [] w Q
  refine Gz.iload_n (q := 0) (pc' := 1) (by decide +kernel) rfl 0 rfl ?_
  refine Gz.iconst (n := 4) (v := (4 : Int32)) (pc' := 2) (by decide +kernel) rfl rfl ?_
  refine Gz.ishr (pc' := 3) (by decide +kernel) rfl ?_
  refine Gz.bipush (n := 15) (v := (15 : Int32)) (pc' := 5) (by decide +kernel) rfl rfl ?_
  refine Gz.iand (pc' := 6) (by decide +kernel) rfl ?_
  exact Gz.ireturn (by decide +kernel) rfl (zok_sI h)
def f_Oa_otherOf (a0 : Int32) (w : gW) : Option (Int32 × gW) :=
some (a0 &&& (15 : Int32), w)
theorem g_Oa_otherOf {l : Launch} (a0 : Int32) (w : gW) : gCt l m_Oa_otherOf 1 [.int a0] w eI (f_Oa_otherOf a0 w) := by
  intro Q h
  unfold f_Oa_otherOf at h
  show Gz l m_Oa_otherOf 1 0 [(0, .int a0)] [] w Q
  refine Gz.iload_n (q := 0) (pc' := 1) (by decide +kernel) rfl 0 rfl ?_
  refine Gz.bipush (n := 15) (v := (15 : Int32)) (pc' := 3) (by decide +kernel) rfl rfl ?_
  refine Gz.iand (pc' := 4) (by decide +kernel) rfl ?_
  exact Gz.ireturn (by decide +kernel) rfl (zok_sI h)
def f_Oa_kindOf (a0 : Int32) (w : gW) : Option (Int32 × gW) :=
some (a0 >>> ((8 : Int32) &&& 31), w)
theorem g_Oa_kindOf {l : Launch} (a0 : Int32) (w : gW) : gCt l m_Oa_kindOf 1 [.int a0] w eI (f_Oa_kindOf a0 w) := by
  intro Q h
  unfold f_Oa_kindOf at h
  show Gz l m_Oa_kindOf 1 0 [(0, .int a0)] [] w Q
  refine Gz.iload_n (q := 0) (pc' := 1) (by decide +kernel) rfl 0 rfl ?_
  refine Gz.bipush (n := 8) (v := (8 : Int32)) (pc' := 3) (by decide +kernel) rfl rfl ?_
  refine Gz.ishr (pc' := 4) (by decide +kernel) rfl ?_
  exact Gz.ireturn (by decide +kernel) rfl (zok_sI h)
def f_Co_merge_b49 (s1 : Int32) (s2 : Int64) (w : gW) : Option (Unit × gW) :=
if inb s1 16 then
zl (zsL w 74 (ix s1) s2) (fun w2 =>
some ((), w2))
else none
def f_Co_merge (a1 : Int32) (a2 : Int32) (w : gW) : Option (Unit × gW) :=
if a1 < 0 then
(some ((), w))
else
(if (16 : Int32) ≤ (a1 + (1 : Int32)) then
(some ((), w))
else
(if inb a1 16 then
zl (w.2 74 (ix a1)) (fun v4 =>
if inb (a1 + (1 : Int32)) 16 then
zl (w.2 74 (ix (a1 + (1 : Int32)))) (fun v7 =>
if a2 = 0 then
(f_Co_merge_b49 a1 (v4 ||| v7) w)
else
(f_Co_merge_b49 a1 (v4 &&& v7) w))
else none)
else none))
theorem g_Co_merge_b49 {l : Launch} {Q : Option Value → gW → Prop} (s1 : Int32) (s2 : Int64) (w : gW) (h : zok eV (f_Co_merge_b49 s1 s2 w) Q) : Gz l m_Co_merge 1 49 [] [.long s2, .int s1, .ref 74] w Q := by
  unfold f_Co_merge_b49 at h
  obtain ⟨c1, h⟩ := zok_c h
  refine Gz.last (pc' := 50) (n := 16) (by decide +kernel) rfl rfl c1 ?_
  refine Gz.nmW (fun w2 e3 => ?_)
  have h := zok_l e3 h
  exact Gz.return_ (by decide +kernel) rfl (zok_sV h)
theorem g_Co_merge {l : Launch} (a1 : Int32) (a2 : Int32) (w : gW) : gCt l m_Co_merge 1 [.ref 73, .int a1, .int a2] w eV (f_Co_merge a1 a2 w) := by
  intro Q h
  unfold f_Co_merge at h
  show Gz l m_Co_merge 1 0 [(0, .ref 73), (1, .int a1), (2, .int a2)] [] w Q
  refine Gz.iload_n (q := 1) (pc' := 1) (by decide +kernel) rfl 1 rfl ?_
  refine Gz.if_lt (off := 49) (tgt := 50) (pc' := 4) (by decide +kernel) (by decide) rfl (fun c1 => ?_) (fun c1 => ?_)
  · have h := zok_t c1 h
    exact Gz.return_ (by decide +kernel) rfl (zok_sV h)
  · have h := zok_f c1 h
    refine Gz.iload_n (q := 1) (pc' := 5) (by decide +kernel) rfl 1 rfl ?_
    refine Gz.iconst (n := 1) (v := (1 : Int32)) (pc' := 6) (by decide +kernel) rfl rfl ?_
    refine Gz.iadd (pc' := 7) (by decide +kernel) rfl ?_
    refine Gz.bipush (n := 16) (v := (16 : Int32)) (pc' := 9) (by decide +kernel) rfl rfl ?_
    refine Gz.icmp_ge (off := 41) (tgt := 50) (pc' := 12) (by decide +kernel) (by decide) rfl (fun c2 => ?_) (fun c2 => ?_)
    · have h := zok_t c2 h
      exact Gz.return_ (by decide +kernel) rfl (zok_sV h)
    · have h := zok_f c2 h
      refine Gz.aload_n (q := 0) (pc' := 13) (by decide +kernel) rfl 0 rfl ?_
      refine Gz.getR (pc' := 16) (j := 3) 74 fd_Co_11 sh_73 rfl (by decide +kernel) rfl ?_
      refine Gz.iload_n (q := 1) (pc' := 17) (by decide +kernel) rfl 1 rfl ?_
      obtain ⟨c3, h⟩ := zok_c h
      refine Gz.lald (pc' := 18) (n := 16) (by decide +kernel) rfl rfl c3 ?_
      refine Gz.nmJ (fun v4 e5 => ?_)
      have h := zok_l e5 h
      refine Gz.lstore_n (q := 3) (pc' := 19) (L' := [(3, .long v4), (0, .ref 73), (1, .int a1), (2, .int a2)]) (by decide +kernel) rfl (Nat.le_of_ble_eq_true rfl) rfl ?_
      refine Gz.aload_n (q := 0) (pc' := 20) (by decide +kernel) rfl 1 rfl ?_
      refine Gz.getR (pc' := 23) (j := 3) 74 fd_Co_11 sh_73 rfl (by decide +kernel) rfl ?_
      refine Gz.iload_n (q := 1) (pc' := 24) (by decide +kernel) rfl 2 rfl ?_
      refine Gz.iconst (n := 1) (v := (1 : Int32)) (pc' := 25) (by decide +kernel) rfl rfl ?_
      refine Gz.iadd (pc' := 26) (by decide +kernel) rfl ?_
      obtain ⟨c6, h⟩ := zok_c h
      refine Gz.lald (pc' := 27) (n := 16) (by decide +kernel) rfl rfl c6 ?_
      refine Gz.nmJ (fun v7 e8 => ?_)
      have h := zok_l e8 h
      refine Gz.lstore (i := 5) (pc' := 29) (L' := [(5, .long v7), (3, .long v4), (0, .ref 73), (1, .int a1), (2, .int a2)]) (by decide +kernel) rfl (Nat.le_of_ble_eq_true rfl) rfl ?_
      refine Gz.aload_n (q := 0) (pc' := 30) (by decide +kernel) rfl 2 rfl ?_
      refine Gz.getR (pc' := 33) (j := 3) 74 fd_Co_11 sh_73 rfl (by decide +kernel) rfl ?_
      refine Gz.iload_n (q := 1) (pc' := 34) (by decide +kernel) rfl 3 rfl ?_
      refine Gz.iload_n (q := 2) (pc' := 35) (by decide +kernel) rfl 4 rfl ?_
      refine Gz.if_eq (off := 10) (tgt := 45) (pc' := 38) (by decide +kernel) (by decide) rfl (fun c9 => ?_) (fun c9 => ?_)
      · have h := zok_t c9 h
        refine Gz.lload_n (q := 3) (pc' := 46) (by decide +kernel) rfl 1 rfl ?_
        refine Gz.lload (i := 5) (pc' := 48) (by decide +kernel) rfl 0 rfl ?_
        refine Gz.lor (pc' := 49) (by decide +kernel) rfl ?_
        refine Gz.sub (L' := []) [] rfl ?_
        exact g_Co_merge_b49 a1 (v4 ||| v7) w h
      · have h := zok_f c9 h
        refine Gz.lload_n (q := 3) (pc' := 39) (by decide +kernel) rfl 1 rfl ?_
        refine Gz.lload (i := 5) (pc' := 41) (by decide +kernel) rfl 0 rfl ?_
        refine Gz.land (pc' := 42) (by decide +kernel) rfl ?_
        refine Gz.goto (off := 7) (tgt := 49) (by decide +kernel) (by decide) ?_
        refine Gz.sub (L' := []) [] rfl ?_
        exact g_Co_merge_b49 a1 (v4 &&& v7) w h
def f_Co_turn (a1 : Int32) (w : gW) : Option (Unit × gW) :=
if a1 < 0 then
(some ((), w))
else
(if (16 : Int32) ≤ a1 then
(some ((), w))
else
(if inb a1 16 then
if inb a1 16 then
zl (zsL w 74 (ix a1) ((w.2 74 (ix a1)) ^^^ (-1 : Int64))) (fun w5 =>
some ((), w5))
else none
else none))
theorem g_Co_turn {l : Launch} (a1 : Int32) (w : gW) : gCt l m_Co_turn 1 [.ref 73, .int a1] w eV (f_Co_turn a1 w) := by
  intro Q h
  unfold f_Co_turn at h
  show Gz l m_Co_turn 1 0 [(0, .ref 73), (1, .int a1)] [] w Q
  refine Gz.iload_n (q := 1) (pc' := 1) (by decide +kernel) rfl 1 rfl ?_
  refine Gz.if_lt (off := 25) (tgt := 26) (pc' := 4) (by decide +kernel) (by decide) rfl (fun c1 => ?_) (fun c1 => ?_)
  · have h := zok_t c1 h
    exact Gz.return_ (by decide +kernel) rfl (zok_sV h)
  · have h := zok_f c1 h
    refine Gz.iload_n (q := 1) (pc' := 5) (by decide +kernel) rfl 1 rfl ?_
    refine Gz.bipush (n := 16) (v := (16 : Int32)) (pc' := 7) (by decide +kernel) rfl rfl ?_
    refine Gz.icmp_ge (off := 19) (tgt := 26) (pc' := 10) (by decide +kernel) (by decide) rfl (fun c2 => ?_) (fun c2 => ?_)
    · have h := zok_t c2 h
      exact Gz.return_ (by decide +kernel) rfl (zok_sV h)
    · have h := zok_f c2 h
      refine Gz.aload_n (q := 0) (pc' := 11) (by decide +kernel) rfl 0 rfl ?_
      refine Gz.getR (pc' := 14) (j := 3) 74 fd_Co_11 sh_73 rfl (by decide +kernel) rfl ?_
      refine Gz.iload_n (q := 1) (pc' := 15) (by decide +kernel) rfl 1 rfl ?_
      refine Gz.aload_n (q := 0) (pc' := 16) (by decide +kernel) rfl 0 rfl ?_
      refine Gz.getR (pc' := 19) (j := 3) 74 fd_Co_11 sh_73 rfl (by decide +kernel) rfl ?_
      refine Gz.iload_n (q := 1) (pc' := 20) (by decide +kernel) rfl 1 rfl ?_
      obtain ⟨c3, h⟩ := zok_c h
      refine Gz.lald (pc' := 21) (n := 16) (by decide +kernel) rfl rfl c3 ?_
      refine Gz.ldc2 (idx := 114) (v := (-1 : Int64)) (pc' := 24) (by decide +kernel) rfl kc_Co_114 ?_
      refine Gz.lxor (pc' := 25) (by decide +kernel) rfl ?_
      obtain ⟨c4, h⟩ := zok_c h
      refine Gz.last (pc' := 26) (n := 16) (by decide +kernel) rfl rfl c4 ?_
      refine Gz.nmW (fun w5 e6 => ?_)
      have h := zok_l e6 h
      exact Gz.return_ (by decide +kernel) rfl (zok_sV h)
def f_Co_put (a1 : Int32) (a2 : Int64) (w : gW) : Option (Unit × gW) :=
if a1 < 0 then
(some ((), w))
else
(if (16 : Int32) ≤ a1 then
(some ((), w))
else
(if inb a1 16 then
zl (zsL w 74 (ix a1) a2) (fun w4 =>
some ((), w4))
else none))
theorem g_Co_put {l : Launch} (a1 : Int32) (a2 : Int64) (w : gW) : gCt l m_Co_put 1 [.ref 73, .int a1, .long a2] w eV (f_Co_put a1 a2 w) := by
  intro Q h
  unfold f_Co_put at h
  show Gz l m_Co_put 1 0 [(0, .ref 73), (1, .int a1), (2, .long a2)] [] w Q
  refine Gz.iload_n (q := 1) (pc' := 1) (by decide +kernel) rfl 1 rfl ?_
  refine Gz.if_lt (off := 16) (tgt := 17) (pc' := 4) (by decide +kernel) (by decide) rfl (fun c1 => ?_) (fun c1 => ?_)
  · have h := zok_t c1 h
    exact Gz.return_ (by decide +kernel) rfl (zok_sV h)
  · have h := zok_f c1 h
    refine Gz.iload_n (q := 1) (pc' := 5) (by decide +kernel) rfl 1 rfl ?_
    refine Gz.bipush (n := 16) (v := (16 : Int32)) (pc' := 7) (by decide +kernel) rfl rfl ?_
    refine Gz.icmp_ge (off := 10) (tgt := 17) (pc' := 10) (by decide +kernel) (by decide) rfl (fun c2 => ?_) (fun c2 => ?_)
    · have h := zok_t c2 h
      exact Gz.return_ (by decide +kernel) rfl (zok_sV h)
    · have h := zok_f c2 h
      refine Gz.aload_n (q := 0) (pc' := 11) (by decide +kernel) rfl 0 rfl ?_
      refine Gz.getR (pc' := 14) (j := 3) 74 fd_Co_11 sh_73 rfl (by decide +kernel) rfl ?_
      refine Gz.iload_n (q := 1) (pc' := 15) (by decide +kernel) rfl 1 rfl ?_
      refine Gz.lload_n (q := 2) (pc' := 16) (by decide +kernel) rfl 2 rfl ?_
      obtain ⟨c3, h⟩ := zok_c h
      refine Gz.last (pc' := 17) (n := 16) (by decide +kernel) rfl rfl c3 ?_
      refine Gz.nmW (fun w4 e5 => ?_)
      have h := zok_l e5 h
      exact Gz.return_ (by decide +kernel) rfl (zok_sV h)
def f_La_togetherWord_b29 (w : gW) : Option (Int64 × gW) :=
some ((0 : Int64), w)
def f_La_togetherWord_b140 (x5 : Int64) (w : gW) : Option (Int64 × gW) :=
some (x5, w)
def f_La_togetherWord_b37_s (k37 : Int32 → Int32 → Int32 → Int32 → Int64 → Int32 → gW → Option (Int64 × gW)) (x1 : Int32) (x2 : Int32) (x3 : Int32) (x4 : Int32) (x5 : Int64) (x7 : Int32) (w : gW) : Option (Int64 × gW) :=
if x3 ≤ x7 then
(f_La_togetherWord_b140 x5 w)
else
(if (6 : Int32) ≤ x7 then
(f_La_togetherWord_b140 x5 w)
else
(if inb (((x2 * (7 : Int32)) + x7) + (1 : Int32)) 35 then
if inb x4 (g_len 2 (23 + 1 + ix (((x2 * (7 : Int32)) + x7) + (1 : Int32)))) then
if inb ((x2 * (7 : Int32)) + x7) 35 then
if inb x4 (g_len 2 (23 + 1 + ix ((x2 * (7 : Int32)) + x7))) then
zl ((w.2 (23 + 1 + ix (((x2 * (7 : Int32)) + x7) + (1 : Int32))) (ix x4)) &&& ((w.2 (23 + 1 + ix ((x2 * (7 : Int32)) + x7)) (ix x4)) ^^^ (-1 : Int64))) (fun v7 =>
if inb (((x1 * (7 : Int32)) + x7) + (1 : Int32)) 35 then
if inb x4 (g_len 2 (23 + 1 + ix (((x1 * (7 : Int32)) + x7) + (1 : Int32)))) then
if inb ((x1 * (7 : Int32)) + x7) 35 then
if inb x4 (g_len 2 (23 + 1 + ix ((x1 * (7 : Int32)) + x7))) then
zl (x5 ||| ((v7 &&& (w.2 (23 + 1 + ix (((x1 * (7 : Int32)) + x7) + (1 : Int32))) (ix x4))) &&& ((w.2 (23 + 1 + ix ((x1 * (7 : Int32)) + x7)) (ix x4)) ^^^ (-1 : Int64)))) (fun v13 =>
zl (x7 + (1 : Int32)) (fun v15 =>
k37 x1 x2 x3 x4 v13 v15 w))
else none
else none
else none
else none)
else none
else none
else none
else none))
def f_La_togetherWord_b37 : Int32 → Int32 → Int32 → Int32 → Int64 → Int32 → gW → Option (Int64 × gW) := zfx (fun _ _ _ _ _ _ _ => none) (f_La_togetherWord_b37_s) zFU
def f_La_togetherWord (a1 : Int32) (a2 : Int32) (a3 : Int32) (a4 : Int32) (w : gW) : Option (Int64 × gW) :=
zb (f_La_hasDeed a1 w) (fun v1 w2 =>
if v1 = 0 then
(f_La_togetherWord_b29 w2)
else
(zb (f_La_hasDeed a2 w2) (fun v4 w5 =>
if v4 = 0 then
(f_La_togetherWord_b29 w5)
else
(if a4 < 0 then
(f_La_togetherWord_b29 w5)
else
(if a4 < (263 : Int32) then
(f_La_togetherWord_b37 a1 a2 a3 a4 (0 : Int64) (0 : Int32) w5)
else
(f_La_togetherWord_b29 w5))))))
theorem g_La_togetherWord_b29 {l : Launch} {Q : Option Value → gW → Prop} (w : gW) (h : zok eJ (f_La_togetherWord_b29 w) Q) : Gz l m_La_togetherWord 2 29 [] [] w Q := by
  unfold f_La_togetherWord_b29 at h
  refine Gz.lconst (n := 0) (v := (0 : Int64)) (pc' := 30) (by decide +kernel) rfl rfl ?_
  exact Gz.lreturn (by decide +kernel) rfl (zok_sJ h)
theorem g_La_togetherWord_b140 {l : Launch} {Q : Option Value → gW → Prop} (x5 : Int64) (w : gW) (h : zok eJ (f_La_togetherWord_b140 x5 w) Q) : Gz l m_La_togetherWord 2 140 [(5, .long x5)] [] w Q := by
  unfold f_La_togetherWord_b140 at h
  refine Gz.lload (i := 5) (pc' := 142) (by decide +kernel) rfl 0 rfl ?_
  exact Gz.lreturn (by decide +kernel) rfl (zok_sJ h)
theorem g_La_togetherWord_b37_s {l : Launch} {Q : Option Value → gW → Prop} (k37 : Int32 → Int32 → Int32 → Int32 → Int64 → Int32 → gW → Option (Int64 × gW)) (hk37 : ∀ (x1 : Int32) (x2 : Int32) (x3 : Int32) (x4 : Int32) (x5 : Int64) (x7 : Int32) (w : gW), zok eJ (k37 x1 x2 x3 x4 x5 x7 w) Q → Gz l m_La_togetherWord 2 37 [(0, .ref 19), (1, .int x1), (2, .int x2), (3, .int x3), (4, .int x4), (5, .long x5), (7, .int x7)] [] w Q) (x1 : Int32) (x2 : Int32) (x3 : Int32) (x4 : Int32) (x5 : Int64) (x7 : Int32) (w : gW) (h : zok eJ (f_La_togetherWord_b37_s k37 x1 x2 x3 x4 x5 x7 w) Q) : Gz l m_La_togetherWord 2 37 [(0, .ref 19), (1, .int x1), (2, .int x2), (3, .int x3), (4, .int x4), (5, .long x5), (7, .int x7)] [] w Q := by
  unfold f_La_togetherWord_b37_s at h
  refine Gz.iload (i := 7) (pc' := 39) (by decide +kernel) rfl 6 rfl ?_
  refine Gz.iload_n (q := 3) (pc' := 40) (by decide +kernel) rfl 3 rfl ?_
  refine Gz.icmp_ge (off := 100) (tgt := 140) (pc' := 43) (by decide +kernel) (by decide) rfl (fun c1 => ?_) (fun c1 => ?_)
  · have h := zok_t c1 h
    refine Gz.sub (L' := [(5, .long x5)]) [5] rfl ?_
    exact g_La_togetherWord_b140 x5 w h
  · have h := zok_f c1 h
    refine Gz.iload (i := 7) (pc' := 45) (by decide +kernel) rfl 6 rfl ?_
    refine Gz.bipush (n := 6) (v := (6 : Int32)) (pc' := 47) (by decide +kernel) rfl rfl ?_
    refine Gz.icmp_ge (off := 93) (tgt := 140) (pc' := 50) (by decide +kernel) (by decide) rfl (fun c2 => ?_) (fun c2 => ?_)
    · have h := zok_t c2 h
      refine Gz.sub (L' := [(5, .long x5)]) [5] rfl ?_
      exact g_La_togetherWord_b140 x5 w h
    · have h := zok_f c2 h
      refine Gz.aload_n (q := 0) (pc' := 51) (by decide +kernel) rfl 0 rfl ?_
      refine Gz.getR (pc' := 54) (j := 3) 23 fd_La_25 sh_19 rfl (by decide +kernel) rfl ?_
      refine Gz.iload_n (q := 2) (pc' := 55) (by decide +kernel) rfl 2 rfl ?_
      refine Gz.bipush (n := 7) (v := (7 : Int32)) (pc' := 57) (by decide +kernel) rfl rfl ?_
      refine Gz.imul (pc' := 58) (by decide +kernel) rfl ?_
      refine Gz.iload (i := 7) (pc' := 60) (by decide +kernel) rfl 6 rfl ?_
      refine Gz.iadd (pc' := 61) (by decide +kernel) rfl ?_
      refine Gz.iconst (n := 1) (v := (1 : Int32)) (pc' := 62) (by decide +kernel) rfl rfl ?_
      refine Gz.iadd (pc' := 63) (by decide +kernel) rfl ?_
      obtain ⟨c3, h⟩ := zok_c h
      refine Gz.aald (pc' := 64) (n := 35) (by decide +kernel) rfl (Or.inr rfl) rfl c3 ?_
      refine Gz.iload (i := 4) (pc' := 66) (by decide +kernel) rfl 4 rfl ?_
      obtain ⟨c4, h⟩ := zok_c h
      refine Gz.lald (pc' := 67) (n := (g_len 2 (23 + 1 + ix (((x2 * (7 : Int32)) + x7) + (1 : Int32))))) (by decide +kernel) rfl rfl c4 ?_
      refine Gz.aload_n (q := 0) (pc' := 68) (by decide +kernel) rfl 0 rfl ?_
      refine Gz.getR (pc' := 71) (j := 3) 23 fd_La_25 sh_19 rfl (by decide +kernel) rfl ?_
      refine Gz.iload_n (q := 2) (pc' := 72) (by decide +kernel) rfl 2 rfl ?_
      refine Gz.bipush (n := 7) (v := (7 : Int32)) (pc' := 74) (by decide +kernel) rfl rfl ?_
      refine Gz.imul (pc' := 75) (by decide +kernel) rfl ?_
      refine Gz.iload (i := 7) (pc' := 77) (by decide +kernel) rfl 6 rfl ?_
      refine Gz.iadd (pc' := 78) (by decide +kernel) rfl ?_
      obtain ⟨c5, h⟩ := zok_c h
      refine Gz.aald (pc' := 79) (n := 35) (by decide +kernel) rfl (Or.inr rfl) rfl c5 ?_
      refine Gz.iload (i := 4) (pc' := 81) (by decide +kernel) rfl 4 rfl ?_
      obtain ⟨c6, h⟩ := zok_c h
      refine Gz.lald (pc' := 82) (n := (g_len 2 (23 + 1 + ix ((x2 * (7 : Int32)) + x7)))) (by decide +kernel) rfl rfl c6 ?_
      refine Gz.ldc2 (idx := 63) (v := (-1 : Int64)) (pc' := 85) (by decide +kernel) rfl kc_La_63 ?_
      refine Gz.lxor (pc' := 86) (by decide +kernel) rfl ?_
      refine Gz.land (pc' := 87) (by decide +kernel) rfl ?_
      refine Gz.nmJ (fun v7 e8 => ?_)
      have h := zok_l e8 h
      refine Gz.lstore (i := 8) (pc' := 89) (L' := [(8, .long v7), (0, .ref 19), (1, .int x1), (2, .int x2), (3, .int x3), (4, .int x4), (5, .long x5), (7, .int x7)]) (by decide +kernel) rfl (Nat.le_of_ble_eq_true rfl) rfl ?_
      refine Gz.lload (i := 5) (pc' := 91) (by decide +kernel) rfl 6 rfl ?_
      refine Gz.lload (i := 8) (pc' := 93) (by decide +kernel) rfl 0 rfl ?_
      refine Gz.aload_n (q := 0) (pc' := 94) (by decide +kernel) rfl 1 rfl ?_
      refine Gz.getR (pc' := 97) (j := 3) 23 fd_La_25 sh_19 rfl (by decide +kernel) rfl ?_
      refine Gz.iload_n (q := 1) (pc' := 98) (by decide +kernel) rfl 2 rfl ?_
      refine Gz.bipush (n := 7) (v := (7 : Int32)) (pc' := 100) (by decide +kernel) rfl rfl ?_
      refine Gz.imul (pc' := 101) (by decide +kernel) rfl ?_
      refine Gz.iload (i := 7) (pc' := 103) (by decide +kernel) rfl 7 rfl ?_
      refine Gz.iadd (pc' := 104) (by decide +kernel) rfl ?_
      refine Gz.iconst (n := 1) (v := (1 : Int32)) (pc' := 105) (by decide +kernel) rfl rfl ?_
      refine Gz.iadd (pc' := 106) (by decide +kernel) rfl ?_
      obtain ⟨c9, h⟩ := zok_c h
      refine Gz.aald (pc' := 107) (n := 35) (by decide +kernel) rfl (Or.inr rfl) rfl c9 ?_
      refine Gz.iload (i := 4) (pc' := 109) (by decide +kernel) rfl 5 rfl ?_
      obtain ⟨c10, h⟩ := zok_c h
      refine Gz.lald (pc' := 110) (n := (g_len 2 (23 + 1 + ix (((x1 * (7 : Int32)) + x7) + (1 : Int32))))) (by decide +kernel) rfl rfl c10 ?_
      refine Gz.land (pc' := 111) (by decide +kernel) rfl ?_
      refine Gz.aload_n (q := 0) (pc' := 112) (by decide +kernel) rfl 1 rfl ?_
      refine Gz.getR (pc' := 115) (j := 3) 23 fd_La_25 sh_19 rfl (by decide +kernel) rfl ?_
      refine Gz.iload_n (q := 1) (pc' := 116) (by decide +kernel) rfl 2 rfl ?_
      refine Gz.bipush (n := 7) (v := (7 : Int32)) (pc' := 118) (by decide +kernel) rfl rfl ?_
      refine Gz.imul (pc' := 119) (by decide +kernel) rfl ?_
      refine Gz.iload (i := 7) (pc' := 121) (by decide +kernel) rfl 7 rfl ?_
      refine Gz.iadd (pc' := 122) (by decide +kernel) rfl ?_
      obtain ⟨c11, h⟩ := zok_c h
      refine Gz.aald (pc' := 123) (n := 35) (by decide +kernel) rfl (Or.inr rfl) rfl c11 ?_
      refine Gz.iload (i := 4) (pc' := 125) (by decide +kernel) rfl 5 rfl ?_
      obtain ⟨c12, h⟩ := zok_c h
      refine Gz.lald (pc' := 126) (n := (g_len 2 (23 + 1 + ix ((x1 * (7 : Int32)) + x7)))) (by decide +kernel) rfl rfl c12 ?_
      refine Gz.ldc2 (idx := 63) (v := (-1 : Int64)) (pc' := 129) (by decide +kernel) rfl kc_La_63 ?_
      refine Gz.lxor (pc' := 130) (by decide +kernel) rfl ?_
      refine Gz.land (pc' := 131) (by decide +kernel) rfl ?_
      refine Gz.lor (pc' := 132) (by decide +kernel) rfl ?_
      refine Gz.nmJ (fun v13 e14 => ?_)
      have h := zok_l e14 h
      refine Gz.lstore (i := 5) (pc' := 134) (L' := [(5, .long v13), (8, .long v7), (0, .ref 19), (1, .int x1), (2, .int x2), (3, .int x3), (4, .int x4), (7, .int x7)]) (by decide +kernel) rfl (Nat.le_of_ble_eq_true rfl) rfl ?_
      obtain ⟨v15, e16⟩ : ∃ y : Int32, y = x7 + (1 : Int32) := ⟨_, rfl⟩
      have h := zok_l e16 h
      refine Gz.iinc (i := 7) (n := 1) (pc' := 137) (L' := [(7, .int v15), (5, .long v13), (8, .long v7), (0, .ref 19), (1, .int x1), (2, .int x2), (3, .int x3), (4, .int x4)]) v15 (by decide +kernel) rfl 7 rfl (by rw [e16]; rfl) (Nat.le_of_ble_eq_true rfl) rfl ?_
      refine Gz.goto (off := -100) (tgt := 37) (by decide +kernel) (by decide) ?_
      refine Gz.sub (L' := [(0, .ref 19), (1, .int x1), (2, .int x2), (3, .int x3), (4, .int x4), (5, .long v13), (7, .int v15)]) [3, 4, 5, 6, 7, 1, 0] rfl ?_
      exact hk37 x1 x2 x3 x4 v13 v15 w h
theorem g_La_togetherWord_b37 {l : Launch} {Q : Option Value → gW → Prop} (x1 : Int32) (x2 : Int32) (x3 : Int32) (x4 : Int32) (x5 : Int64) (x7 : Int32) (w : gW) (h : zok eJ (f_La_togetherWord_b37 x1 x2 x3 x4 x5 x7 w) Q) : Gz l m_La_togetherWord 2 37 [(0, .ref 19), (1, .int x1), (2, .int x2), (3, .int x3), (4, .int x4), (5, .long x5), (7, .int x7)] [] w Q := by
  have key : ∀ (n : Nat) (x1 : Int32) (x2 : Int32) (x3 : Int32) (x4 : Int32) (x5 : Int64) (x7 : Int32) (w : gW), zok eJ (zfx (fun _ _ _ _ _ _ _ => none) (f_La_togetherWord_b37_s) n x1 x2 x3 x4 x5 x7 w) Q → Gz l m_La_togetherWord 2 37 [(0, .ref 19), (1, .int x1), (2, .int x2), (3, .int x3), (4, .int x4), (5, .long x5), (7, .int x7)] [] w Q := by
    intro n
    induction n with
    | zero => intro x1 x2 x3 x4 x5 x7 w h; exact zok_n h
    | succ n ih => intro x1 x2 x3 x4 x5 x7 w h; exact g_La_togetherWord_b37_s _ ih x1 x2 x3 x4 x5 x7 w h
  exact key zFU x1 x2 x3 x4 x5 x7 w h
theorem g_La_togetherWord {l : Launch} (a1 : Int32) (a2 : Int32) (a3 : Int32) (a4 : Int32) (w : gW) : gCt l m_La_togetherWord 2 [.ref 19, .int a1, .int a2, .int a3, .int a4] w eJ (f_La_togetherWord a1 a2 a3 a4 w) := by
  intro Q h
  unfold f_La_togetherWord at h
  show Gz l m_La_togetherWord 2 0 [(0, .ref 19), (1, .int a1), (2, .int a2), (3, .int a3), (4, .int a4)] [] w Q
  refine Gz.aload_n (q := 0) (pc' := 1) (by decide +kernel) rfl 0 rfl ?_
  refine Gz.iload_n (q := 1) (pc' := 2) (by decide +kernel) rfl 1 rfl ?_
  refine Gz.callVI (st := []) (b := 19) (pc' := 5) [.int a1] (g_La_hasDeed a1 w) h ok_m_La_hasDeed lk_La_38 sh_19 rfl rfl rfl (Nat.le_of_ble_eq_true rfl) (Nat.le_of_ble_eq_true rfl) (Nat.le_of_ble_eq_true rfl) (by decide +kernel) rfl (fun v1 w2 h => ?_)
  refine Gz.if_eq (off := 24) (tgt := 29) (pc' := 8) (by decide +kernel) (by decide) rfl (fun c3 => ?_) (fun c3 => ?_)
  · have h := zok_t c3 h
    refine Gz.sub (L' := []) [] rfl ?_
    exact g_La_togetherWord_b29 w2 h
  · have h := zok_f c3 h
    refine Gz.aload_n (q := 0) (pc' := 9) (by decide +kernel) rfl 0 rfl ?_
    refine Gz.iload_n (q := 2) (pc' := 10) (by decide +kernel) rfl 2 rfl ?_
    refine Gz.callVI (st := []) (b := 19) (pc' := 13) [.int a2] (g_La_hasDeed a2 w2) h ok_m_La_hasDeed lk_La_38 sh_19 rfl rfl rfl (Nat.le_of_ble_eq_true rfl) (Nat.le_of_ble_eq_true rfl) (Nat.le_of_ble_eq_true rfl) (by decide +kernel) rfl (fun v4 w5 h => ?_)
    refine Gz.if_eq (off := 16) (tgt := 29) (pc' := 16) (by decide +kernel) (by decide) rfl (fun c6 => ?_) (fun c6 => ?_)
    · have h := zok_t c6 h
      refine Gz.sub (L' := []) [] rfl ?_
      exact g_La_togetherWord_b29 w5 h
    · have h := zok_f c6 h
      refine Gz.iload (i := 4) (pc' := 18) (by decide +kernel) rfl 4 rfl ?_
      refine Gz.if_lt (off := 11) (tgt := 29) (pc' := 21) (by decide +kernel) (by decide) rfl (fun c7 => ?_) (fun c7 => ?_)
      · have h := zok_t c7 h
        refine Gz.sub (L' := []) [] rfl ?_
        exact g_La_togetherWord_b29 w5 h
      · have h := zok_f c7 h
        refine Gz.iload (i := 4) (pc' := 23) (by decide +kernel) rfl 4 rfl ?_
        refine Gz.sipush (n := 263) (v := (263 : Int32)) (pc' := 26) (by decide +kernel) rfl rfl ?_
        refine Gz.icmp_lt (off := 5) (tgt := 31) (pc' := 29) (by decide +kernel) (by decide) rfl (fun c8 => ?_) (fun c8 => ?_)
        · have h := zok_t c8 h
          refine Gz.lconst (n := 0) (v := (0 : Int64)) (pc' := 32) (by decide +kernel) rfl rfl ?_
          refine Gz.lstore (i := 5) (pc' := 34) (L' := [(5, .long (0 : Int64)), (0, .ref 19), (1, .int a1), (2, .int a2), (3, .int a3), (4, .int a4)]) (by decide +kernel) rfl (Nat.le_of_ble_eq_true rfl) rfl ?_
          refine Gz.iconst (n := 0) (v := (0 : Int32)) (pc' := 35) (by decide +kernel) rfl rfl ?_
          refine Gz.istore (i := 7) (pc' := 37) (L' := [(7, .int (0 : Int32)), (5, .long (0 : Int64)), (0, .ref 19), (1, .int a1), (2, .int a2), (3, .int a3), (4, .int a4)]) (by decide +kernel) rfl (Nat.le_of_ble_eq_true rfl) rfl ?_
          refine Gz.sub (L' := [(0, .ref 19), (1, .int a1), (2, .int a2), (3, .int a3), (4, .int a4), (5, .long (0 : Int64)), (7, .int (0 : Int32))]) [2, 3, 4, 5, 6, 1, 0] rfl ?_
          exact g_La_togetherWord_b37 a1 a2 a3 a4 (0 : Int64) (0 : Int32) w5 h
        · have h := zok_f c8 h
          refine Gz.sub (L' := []) [] rfl ?_
          exact g_La_togetherWord_b29 w5 h
