def f_Oa_readChoice_b51 (rK : Int32 → gW → Option (Int32 × gW)) (x3 : Int32) (w : gW) : Option (Int32 × gW) :=
if x3 &&& 1 = x3 then some (x3, w) else none
def f_Oa_readChoice_b10_s (rK : Int32 → gW → Option (Int32 × gW)) (k10 : Int32 → Int32 → Int32 → gW → Option (Int32 × gW)) (x2 : Int32) (x3 : Int32) (x4 : Int32) (w : gW) : Option (Int32 × gW) :=
if x3 = 0 then
(f_Oa_readChoice_b51 rK x3 w)
else
(if (120 : Int32) ≤ x4 then
(f_Oa_readChoice_b51 rK x3 w)
else
(zb (f_Tp_passes (38 : Int32) w) (fun v3 w4 =>
if v3 = 0 then
(f_Oa_readChoice_b51 rK x3 w4)
else
(zb (rK x2 w4) (fun v6 w7 =>
zb (f_Oa_put (5 : Int32) (0 : Int32) (0 : Int32) w7) (fun v8 w9 =>
zl (x4 + (1 : Int32)) (fun v10 =>
k10 x2 v6 v10 w9)))))))
def f_Oa_readChoice_b10 (rK : Int32 → gW → Option (Int32 × gW)) : Int32 → Int32 → Int32 → gW → Option (Int32 × gW) := zfx (fun _ _ _ _ => none) (f_Oa_readChoice_b10_s rK) zFU
def f_Oa_readChoice_rec (rK : Int32 → gW → Option (Int32 × gW)) (a2 : Int32) (w : gW) : Option (Int32 × gW) :=
zb (rK a2 w) (fun v1 w2 =>
f_Oa_readChoice_b10 rK a2 v1 (0 : Int32) w2)
theorem g_Oa_readChoice_b51 {l : Launch} {Q : Option Value → gW → Prop} (rK : Int32 → gW → Option (Int32 × gW)) {dK : Nat} (hd0 : 3 ≤ dK) (hK : ∀ (a2 : Int32) (w : gW), gCt l m_Oa_readUnit dK [.ref 5, .ref 1, .int a2] w eI (rK a2 w)) (x3 : Int32) (w : gW) (h : zok eI (f_Oa_readChoice_b51 rK x3 w) Q) : Gz l m_Oa_readChoice (dK + 1) 51 [(3, .int x3)] [] w Q := by
  unfold f_Oa_readChoice_b51 at h
  refine Gz.iload_n (q := 3) (pc' := 52) (by decide +kernel) rfl 0 rfl ?_
  obtain ⟨c1, h⟩ := zok_c h
  exact Gz.zreturn (by decide +kernel) rfl c1 (zok_sI h)
theorem g_Oa_readChoice_b10_s {l : Launch} {Q : Option Value → gW → Prop} (rK : Int32 → gW → Option (Int32 × gW)) {dK : Nat} (hd0 : 3 ≤ dK) (hK : ∀ (a2 : Int32) (w : gW), gCt l m_Oa_readUnit dK [.ref 5, .ref 1, .int a2] w eI (rK a2 w)) (k10 : Int32 → Int32 → Int32 → gW → Option (Int32 × gW)) (hk10 : ∀ (x2 : Int32) (x3 : Int32) (x4 : Int32) (w : gW), zok eI (k10 x2 x3 x4 w) Q → Gz l m_Oa_readChoice (dK + 1) 10 [(0, .ref 5), (1, .ref 1), (2, .int x2), (3, .int x3), (4, .int x4)] [] w Q) (x2 : Int32) (x3 : Int32) (x4 : Int32) (w : gW) (h : zok eI (f_Oa_readChoice_b10_s rK k10 x2 x3 x4 w) Q) : Gz l m_Oa_readChoice (dK + 1) 10 [(0, .ref 5), (1, .ref 1), (2, .int x2), (3, .int x3), (4, .int x4)] [] w Q := by
  unfold f_Oa_readChoice_b10_s at h
  refine Gz.iload_n (q := 3) (pc' := 11) (by decide +kernel) rfl 3 rfl ?_
  refine Gz.if_eq (off := 40) (tgt := 51) (pc' := 14) (by decide +kernel) (by decide) rfl (fun c1 => ?_) (fun c1 => ?_)
  · have h := zok_t c1 h
    refine Gz.sub (L' := [(3, .int x3)]) [3] rfl ?_
    exact g_Oa_readChoice_b51 rK hd0 hK x3 w h
  · have h := zok_f c1 h
    refine Gz.iload (i := 4) (pc' := 16) (by decide +kernel) rfl 4 rfl ?_
    refine Gz.bipush (n := 120) (v := (120 : Int32)) (pc' := 18) (by decide +kernel) rfl rfl ?_
    refine Gz.icmp_ge (off := 33) (tgt := 51) (pc' := 21) (by decide +kernel) (by decide) rfl (fun c2 => ?_) (fun c2 => ?_)
    · have h := zok_t c2 h
      refine Gz.sub (L' := [(3, .int x3)]) [3] rfl ?_
      exact g_Oa_readChoice_b51 rK hd0 hK x3 w h
    · have h := zok_f c2 h
      refine Gz.aload_n (q := 1) (pc' := 22) (by decide +kernel) rfl 1 rfl ?_
      refine Gz.bipush (n := 38) (v := (38 : Int32)) (pc' := 24) (by decide +kernel) rfl rfl ?_
      refine Gz.callVI (st := []) (b := 1) (pc' := 27) [.int (38 : Int32)] (g_Tp_passes (38 : Int32) w) h ok_m_Tp_passes lk_Oa_57 sh_1 rfl rfl rfl (Nat.le_of_ble_eq_true rfl) (by omega) (Nat.le_of_ble_eq_true rfl) (by decide +kernel) rfl (fun v3 w4 h => ?_)
      refine Gz.if_eq (off := 24) (tgt := 51) (pc' := 30) (by decide +kernel) (by decide) rfl (fun c5 => ?_) (fun c5 => ?_)
      · have h := zok_t c5 h
        refine Gz.sub (L' := [(3, .int x3)]) [3] rfl ?_
        exact g_Oa_readChoice_b51 rK hd0 hK x3 w4 h
      · have h := zok_f c5 h
        refine Gz.aload_n (q := 0) (pc' := 31) (by decide +kernel) rfl 0 rfl ?_
        refine Gz.aload_n (q := 1) (pc' := 32) (by decide +kernel) rfl 1 rfl ?_
        refine Gz.iload_n (q := 2) (pc' := 33) (by decide +kernel) rfl 2 rfl ?_
        refine Gz.callVI (st := []) (b := 5) (pc' := 36) [.ref 1, .int x2] (hK x2 w4) h ok_m_Oa_readUnit lk_Oa_64 sh_5 rfl rfl rfl (Nat.le_of_ble_eq_true rfl) (by omega) (Nat.le_of_ble_eq_true rfl) (by decide +kernel) rfl (fun v6 w7 h => ?_)
        refine Gz.istore_n (q := 3) (pc' := 37) (L' := [(3, .int v6), (0, .ref 5), (1, .ref 1), (2, .int x2), (4, .int x4)]) (by decide +kernel) rfl (Nat.le_of_ble_eq_true rfl) rfl ?_
        refine Gz.aload_n (q := 0) (pc' := 38) (by decide +kernel) rfl 1 rfl ?_
        refine Gz.iconst (n := 5) (v := (5 : Int32)) (pc' := 39) (by decide +kernel) rfl rfl ?_
        refine Gz.iconst (n := 0) (v := (0 : Int32)) (pc' := 40) (by decide +kernel) rfl rfl ?_
        refine Gz.iconst (n := 0) (v := (0 : Int32)) (pc' := 41) (by decide +kernel) rfl rfl ?_
        refine Gz.callVI (st := []) (b := 5) (pc' := 44) [.int (5 : Int32), .int (0 : Int32), .int (0 : Int32)] (g_Oa_put (5 : Int32) (0 : Int32) (0 : Int32) w7) h ok_m_Oa_put lk_Oa_60 sh_5 rfl rfl rfl (Nat.le_of_ble_eq_true rfl) (by omega) (Nat.le_of_ble_eq_true rfl) (by decide +kernel) rfl (fun v8 w9 h => ?_)
        refine Gz.pop (pc' := 45) (by decide +kernel) rfl rfl ?_
        obtain ⟨v10, e11⟩ : ∃ y : Int32, y = x4 + (1 : Int32) := ⟨_, rfl⟩
        have h := zok_l e11 h
        refine Gz.iinc (i := 4) (n := 1) (pc' := 48) (L' := [(4, .int v10), (3, .int v6), (0, .ref 5), (1, .ref 1), (2, .int x2)]) v10 (by decide +kernel) rfl 4 rfl (by rw [e11]; rfl) (Nat.le_of_ble_eq_true rfl) rfl ?_
        refine Gz.goto (off := -38) (tgt := 10) (by decide +kernel) (by decide) ?_
        refine Gz.sub (L' := [(0, .ref 5), (1, .ref 1), (2, .int x2), (3, .int v6), (4, .int v10)]) [2, 3, 4, 1, 0] rfl ?_
        exact hk10 x2 v6 v10 w9 h
theorem g_Oa_readChoice_b10 {l : Launch} {Q : Option Value → gW → Prop} (rK : Int32 → gW → Option (Int32 × gW)) {dK : Nat} (hd0 : 3 ≤ dK) (hK : ∀ (a2 : Int32) (w : gW), gCt l m_Oa_readUnit dK [.ref 5, .ref 1, .int a2] w eI (rK a2 w)) (x2 : Int32) (x3 : Int32) (x4 : Int32) (w : gW) (h : zok eI (f_Oa_readChoice_b10 rK x2 x3 x4 w) Q) : Gz l m_Oa_readChoice (dK + 1) 10 [(0, .ref 5), (1, .ref 1), (2, .int x2), (3, .int x3), (4, .int x4)] [] w Q := by
  have key : ∀ (n : Nat) (x2 : Int32) (x3 : Int32) (x4 : Int32) (w : gW), zok eI (zfx (fun _ _ _ _ => none) (f_Oa_readChoice_b10_s rK) n x2 x3 x4 w) Q → Gz l m_Oa_readChoice (dK + 1) 10 [(0, .ref 5), (1, .ref 1), (2, .int x2), (3, .int x3), (4, .int x4)] [] w Q := by
    intro n
    induction n with
    | zero => intro x2 x3 x4 w h; exact zok_n h
    | succ n ih => intro x2 x3 x4 w h; exact g_Oa_readChoice_b10_s rK hd0 hK _ ih x2 x3 x4 w h
  exact key zFU x2 x3 x4 w h
theorem g_Oa_readChoice_rec {l : Launch} (rK : Int32 → gW → Option (Int32 × gW)) {dK : Nat} (hd0 : 3 ≤ dK) (hK : ∀ (a2 : Int32) (w : gW), gCt l m_Oa_readUnit dK [.ref 5, .ref 1, .int a2] w eI (rK a2 w)) (a2 : Int32) (w : gW) : gCt l m_Oa_readChoice (dK + 1) [.ref 5, .ref 1, .int a2] w eI (f_Oa_readChoice_rec rK a2 w) := by
  intro Q h
  unfold f_Oa_readChoice_rec at h
  show Gz l m_Oa_readChoice (dK + 1) 0 [(0, .ref 5), (1, .ref 1), (2, .int a2)] [] w Q
  refine Gz.aload_n (q := 0) (pc' := 1) (by decide +kernel) rfl 0 rfl ?_
  refine Gz.aload_n (q := 1) (pc' := 2) (by decide +kernel) rfl 1 rfl ?_
  refine Gz.iload_n (q := 2) (pc' := 3) (by decide +kernel) rfl 2 rfl ?_
  refine Gz.callVI (st := []) (b := 5) (pc' := 6) [.ref 1, .int a2] (hK a2 w) h ok_m_Oa_readUnit lk_Oa_64 sh_5 rfl rfl rfl (Nat.le_of_ble_eq_true rfl) (by omega) (Nat.le_of_ble_eq_true rfl) (by decide +kernel) rfl (fun v1 w2 h => ?_)
  refine Gz.istore_n (q := 3) (pc' := 7) (L' := [(3, .int v1), (0, .ref 5), (1, .ref 1), (2, .int a2)]) (by decide +kernel) rfl (Nat.le_of_ble_eq_true rfl) rfl ?_
  refine Gz.iconst (n := 0) (v := (0 : Int32)) (pc' := 8) (by decide +kernel) rfl rfl ?_
  refine Gz.istore (i := 4) (pc' := 10) (L' := [(4, .int (0 : Int32)), (3, .int v1), (0, .ref 5), (1, .ref 1), (2, .int a2)]) (by decide +kernel) rfl (Nat.le_of_ble_eq_true rfl) rfl ?_
  refine Gz.sub (L' := [(0, .ref 5), (1, .ref 1), (2, .int a2), (3, .int v1), (4, .int (0 : Int32))]) [2, 3, 4, 1, 0] rfl ?_
  exact g_Oa_readChoice_b10 rK hd0 hK a2 v1 (0 : Int32) w2 h
def f_Oa_readChoices_b52 (rK : Int32 → gW → Option (Int32 × gW)) (x3 : Int32) (w : gW) : Option (Int32 × gW) :=
if x3 &&& 1 = x3 then some (x3, w) else none
def f_Oa_readChoices_b10_s (rK : Int32 → gW → Option (Int32 × gW)) (k10 : Int32 → Int32 → Int32 → gW → Option (Int32 × gW)) (x2 : Int32) (x3 : Int32) (x4 : Int32) (w : gW) : Option (Int32 × gW) :=
if x3 = 0 then
(f_Oa_readChoices_b52 rK x3 w)
else
(if (120 : Int32) ≤ x4 then
(f_Oa_readChoices_b52 rK x3 w)
else
(zb (f_Tp_passes (124 : Int32) w) (fun v3 w4 =>
if v3 = 0 then
(f_Oa_readChoices_b52 rK x3 w4)
else
(zb (f_Oa_readChoice_rec rK x2 w4) (fun v6 w7 =>
zb (f_Oa_put (6 : Int32) (0 : Int32) (0 : Int32) w7) (fun v8 w9 =>
zl (x4 + (1 : Int32)) (fun v10 =>
k10 x2 v6 v10 w9)))))))
def f_Oa_readChoices_b10 (rK : Int32 → gW → Option (Int32 × gW)) : Int32 → Int32 → Int32 → gW → Option (Int32 × gW) := zfx (fun _ _ _ _ => none) (f_Oa_readChoices_b10_s rK) zFU
def f_Oa_readChoices_rec (rK : Int32 → gW → Option (Int32 × gW)) (a2 : Int32) (w : gW) : Option (Int32 × gW) :=
zb (f_Oa_readChoice_rec rK a2 w) (fun v1 w2 =>
f_Oa_readChoices_b10 rK a2 v1 (0 : Int32) w2)
theorem g_Oa_readChoices_b52 {l : Launch} {Q : Option Value → gW → Prop} (rK : Int32 → gW → Option (Int32 × gW)) {dK : Nat} (hd0 : 3 ≤ dK) (hK : ∀ (a2 : Int32) (w : gW), gCt l m_Oa_readUnit dK [.ref 5, .ref 1, .int a2] w eI (rK a2 w)) (x3 : Int32) (w : gW) (h : zok eI (f_Oa_readChoices_b52 rK x3 w) Q) : Gz l m_Oa_readChoices (dK + 2) 52 [(3, .int x3)] [] w Q := by
  unfold f_Oa_readChoices_b52 at h
  refine Gz.iload_n (q := 3) (pc' := 53) (by decide +kernel) rfl 0 rfl ?_
  obtain ⟨c1, h⟩ := zok_c h
  exact Gz.zreturn (by decide +kernel) rfl c1 (zok_sI h)
theorem g_Oa_readChoices_b10_s {l : Launch} {Q : Option Value → gW → Prop} (rK : Int32 → gW → Option (Int32 × gW)) {dK : Nat} (hd0 : 3 ≤ dK) (hK : ∀ (a2 : Int32) (w : gW), gCt l m_Oa_readUnit dK [.ref 5, .ref 1, .int a2] w eI (rK a2 w)) (k10 : Int32 → Int32 → Int32 → gW → Option (Int32 × gW)) (hk10 : ∀ (x2 : Int32) (x3 : Int32) (x4 : Int32) (w : gW), zok eI (k10 x2 x3 x4 w) Q → Gz l m_Oa_readChoices (dK + 2) 10 [(0, .ref 5), (1, .ref 1), (2, .int x2), (3, .int x3), (4, .int x4)] [] w Q) (x2 : Int32) (x3 : Int32) (x4 : Int32) (w : gW) (h : zok eI (f_Oa_readChoices_b10_s rK k10 x2 x3 x4 w) Q) : Gz l m_Oa_readChoices (dK + 2) 10 [(0, .ref 5), (1, .ref 1), (2, .int x2), (3, .int x3), (4, .int x4)] [] w Q := by
  unfold f_Oa_readChoices_b10_s at h
  refine Gz.iload_n (q := 3) (pc' := 11) (by decide +kernel) rfl 3 rfl ?_
  refine Gz.if_eq (off := 41) (tgt := 52) (pc' := 14) (by decide +kernel) (by decide) rfl (fun c1 => ?_) (fun c1 => ?_)
  · have h := zok_t c1 h
    refine Gz.sub (L' := [(3, .int x3)]) [3] rfl ?_
    exact g_Oa_readChoices_b52 rK hd0 hK x3 w h
  · have h := zok_f c1 h
    refine Gz.iload (i := 4) (pc' := 16) (by decide +kernel) rfl 4 rfl ?_
    refine Gz.bipush (n := 120) (v := (120 : Int32)) (pc' := 18) (by decide +kernel) rfl rfl ?_
    refine Gz.icmp_ge (off := 34) (tgt := 52) (pc' := 21) (by decide +kernel) (by decide) rfl (fun c2 => ?_) (fun c2 => ?_)
    · have h := zok_t c2 h
      refine Gz.sub (L' := [(3, .int x3)]) [3] rfl ?_
      exact g_Oa_readChoices_b52 rK hd0 hK x3 w h
    · have h := zok_f c2 h
      refine Gz.aload_n (q := 1) (pc' := 22) (by decide +kernel) rfl 1 rfl ?_
      refine Gz.bipush (n := 124) (v := (124 : Int32)) (pc' := 24) (by decide +kernel) rfl rfl ?_
      refine Gz.callVI (st := []) (b := 1) (pc' := 27) [.int (124 : Int32)] (g_Tp_passes (124 : Int32) w) h ok_m_Tp_passes lk_Oa_57 sh_1 rfl rfl rfl (Nat.le_of_ble_eq_true rfl) (by omega) (Nat.le_of_ble_eq_true rfl) (by decide +kernel) rfl (fun v3 w4 h => ?_)
      refine Gz.if_eq (off := 25) (tgt := 52) (pc' := 30) (by decide +kernel) (by decide) rfl (fun c5 => ?_) (fun c5 => ?_)
      · have h := zok_t c5 h
        refine Gz.sub (L' := [(3, .int x3)]) [3] rfl ?_
        exact g_Oa_readChoices_b52 rK hd0 hK x3 w4 h
      · have h := zok_f c5 h
        refine Gz.aload_n (q := 0) (pc' := 31) (by decide +kernel) rfl 0 rfl ?_
        refine Gz.aload_n (q := 1) (pc' := 32) (by decide +kernel) rfl 1 rfl ?_
        refine Gz.iload_n (q := 2) (pc' := 33) (by decide +kernel) rfl 2 rfl ?_
        refine Gz.callVI (st := []) (b := 5) (pc' := 36) [.ref 1, .int x2] (g_Oa_readChoice_rec rK hd0 hK x2 w4) h ok_m_Oa_readChoice lk_Oa_54 sh_5 rfl rfl rfl (Nat.le_of_ble_eq_true rfl) (by omega) (Nat.le_of_ble_eq_true rfl) (by decide +kernel) rfl (fun v6 w7 h => ?_)
        refine Gz.istore_n (q := 3) (pc' := 37) (L' := [(3, .int v6), (0, .ref 5), (1, .ref 1), (2, .int x2), (4, .int x4)]) (by decide +kernel) rfl (Nat.le_of_ble_eq_true rfl) rfl ?_
        refine Gz.aload_n (q := 0) (pc' := 38) (by decide +kernel) rfl 1 rfl ?_
        refine Gz.bipush (n := 6) (v := (6 : Int32)) (pc' := 40) (by decide +kernel) rfl rfl ?_
        refine Gz.iconst (n := 0) (v := (0 : Int32)) (pc' := 41) (by decide +kernel) rfl rfl ?_
        refine Gz.iconst (n := 0) (v := (0 : Int32)) (pc' := 42) (by decide +kernel) rfl rfl ?_
        refine Gz.callVI (st := []) (b := 5) (pc' := 45) [.int (6 : Int32), .int (0 : Int32), .int (0 : Int32)] (g_Oa_put (6 : Int32) (0 : Int32) (0 : Int32) w7) h ok_m_Oa_put lk_Oa_60 sh_5 rfl rfl rfl (Nat.le_of_ble_eq_true rfl) (by omega) (Nat.le_of_ble_eq_true rfl) (by decide +kernel) rfl (fun v8 w9 h => ?_)
        refine Gz.pop (pc' := 46) (by decide +kernel) rfl rfl ?_
        obtain ⟨v10, e11⟩ : ∃ y : Int32, y = x4 + (1 : Int32) := ⟨_, rfl⟩
        have h := zok_l e11 h
        refine Gz.iinc (i := 4) (n := 1) (pc' := 49) (L' := [(4, .int v10), (3, .int v6), (0, .ref 5), (1, .ref 1), (2, .int x2)]) v10 (by decide +kernel) rfl 4 rfl (by rw [e11]; rfl) (Nat.le_of_ble_eq_true rfl) rfl ?_
        refine Gz.goto (off := -39) (tgt := 10) (by decide +kernel) (by decide) ?_
        refine Gz.sub (L' := [(0, .ref 5), (1, .ref 1), (2, .int x2), (3, .int v6), (4, .int v10)]) [2, 3, 4, 1, 0] rfl ?_
        exact hk10 x2 v6 v10 w9 h
theorem g_Oa_readChoices_b10 {l : Launch} {Q : Option Value → gW → Prop} (rK : Int32 → gW → Option (Int32 × gW)) {dK : Nat} (hd0 : 3 ≤ dK) (hK : ∀ (a2 : Int32) (w : gW), gCt l m_Oa_readUnit dK [.ref 5, .ref 1, .int a2] w eI (rK a2 w)) (x2 : Int32) (x3 : Int32) (x4 : Int32) (w : gW) (h : zok eI (f_Oa_readChoices_b10 rK x2 x3 x4 w) Q) : Gz l m_Oa_readChoices (dK + 2) 10 [(0, .ref 5), (1, .ref 1), (2, .int x2), (3, .int x3), (4, .int x4)] [] w Q := by
  have key : ∀ (n : Nat) (x2 : Int32) (x3 : Int32) (x4 : Int32) (w : gW), zok eI (zfx (fun _ _ _ _ => none) (f_Oa_readChoices_b10_s rK) n x2 x3 x4 w) Q → Gz l m_Oa_readChoices (dK + 2) 10 [(0, .ref 5), (1, .ref 1), (2, .int x2), (3, .int x3), (4, .int x4)] [] w Q := by
    intro n
    induction n with
    | zero => intro x2 x3 x4 w h; exact zok_n h
    | succ n ih => intro x2 x3 x4 w h; exact g_Oa_readChoices_b10_s rK hd0 hK _ ih x2 x3 x4 w h
  exact key zFU x2 x3 x4 w h
theorem g_Oa_readChoices_rec {l : Launch} (rK : Int32 → gW → Option (Int32 × gW)) {dK : Nat} (hd0 : 3 ≤ dK) (hK : ∀ (a2 : Int32) (w : gW), gCt l m_Oa_readUnit dK [.ref 5, .ref 1, .int a2] w eI (rK a2 w)) (a2 : Int32) (w : gW) : gCt l m_Oa_readChoices (dK + 2) [.ref 5, .ref 1, .int a2] w eI (f_Oa_readChoices_rec rK a2 w) := by
  intro Q h
  unfold f_Oa_readChoices_rec at h
  show Gz l m_Oa_readChoices (dK + 2) 0 [(0, .ref 5), (1, .ref 1), (2, .int a2)] [] w Q
  refine Gz.aload_n (q := 0) (pc' := 1) (by decide +kernel) rfl 0 rfl ?_
  refine Gz.aload_n (q := 1) (pc' := 2) (by decide +kernel) rfl 1 rfl ?_
  refine Gz.iload_n (q := 2) (pc' := 3) (by decide +kernel) rfl 2 rfl ?_
  refine Gz.callVI (st := []) (b := 5) (pc' := 6) [.ref 1, .int a2] (g_Oa_readChoice_rec rK hd0 hK a2 w) h ok_m_Oa_readChoice lk_Oa_54 sh_5 rfl rfl rfl (Nat.le_of_ble_eq_true rfl) (by omega) (Nat.le_of_ble_eq_true rfl) (by decide +kernel) rfl (fun v1 w2 h => ?_)
  refine Gz.istore_n (q := 3) (pc' := 7) (L' := [(3, .int v1), (0, .ref 5), (1, .ref 1), (2, .int a2)]) (by decide +kernel) rfl (Nat.le_of_ble_eq_true rfl) rfl ?_
  refine Gz.iconst (n := 0) (v := (0 : Int32)) (pc' := 8) (by decide +kernel) rfl rfl ?_
  refine Gz.istore (i := 4) (pc' := 10) (L' := [(4, .int (0 : Int32)), (3, .int v1), (0, .ref 5), (1, .ref 1), (2, .int a2)]) (by decide +kernel) rfl (Nat.le_of_ble_eq_true rfl) rfl ?_
  refine Gz.sub (L' := [(0, .ref 5), (1, .ref 1), (2, .int a2), (3, .int v1), (4, .int (0 : Int32))]) [2, 3, 4, 1, 0] rfl ?_
  exact g_Oa_readChoices_b10 rK hd0 hK a2 v1 (0 : Int32) w2 h
def f_Oa_readUnit_b17 (rK : Int32 → gW → Option (Int32 × gW)) (x2 : Int32) (x3 : Int32) (w : gW) : Option (Int32 × gW) :=
if x2 < (6 : Int32) then
(zb (f_Tp_step w) (fun _ w2 =>
if x3 = (40 : Int32) then
(zb (f_Oa_readChoices_rec rK (x2 + (1 : Int32)) w2) (fun v9 w10 =>
if v9 = 0 then
(some ((0 : Int32), w10))
else
(zb (f_Tp_passes (41 : Int32) w10) (fun v12 w13 =>
if v12 = 0 then
(some ((0 : Int32), w13))
else
(some ((1 : Int32), w13))))))
else
(zb (rK (x2 + (1 : Int32)) w2) (fun v4 w5 =>
zb (f_Oa_put (4 : Int32) (0 : Int32) (0 : Int32) w5) (fun v6 w7 =>
if v4 &&& 1 = v4 then some (v4, w7) else none)))))
else
(some ((0 : Int32), w))
def f_Oa_readUnit_rec (rK : Int32 → gW → Option (Int32 × gW)) (a2 : Int32) (w : gW) : Option (Int32 × gW) :=
zb (f_Tp_sign w) (fun v1 w2 =>
if v1 = (33 : Int32) then
(f_Oa_readUnit_b17 rK a2 v1 w2)
else
(if v1 = (40 : Int32) then
(f_Oa_readUnit_b17 rK a2 v1 w2)
else
(if v1 = (35 : Int32) then
(zb (f_Tp_step w2) (fun _ w12 =>
zb (f_Tp_digit (0 : Int32) (9 : Int32) w12) (fun v13 w14 =>
if v13 = (-1 : Int32) then
(some ((0 : Int32), w14))
else
(zb (f_Oa_putThere v13 w14) (fun v16 w17 =>
if v16 = 0 then
(some ((0 : Int32), w17))
else
(some ((1 : Int32), w17)))))))
else
(zb (f_Tp_letter w2) (fun v6 w7 =>
if v6 = (-1 : Int32) then
(some ((0 : Int32), w7))
else
(zb (f_Oa_readRest v6 w7) (fun v9 w10 =>
if v9 = 0 then
(some ((0 : Int32), w10))
else
(some ((1 : Int32), w10)))))))))
def f_Oa_readUnit (a2 : Int32) (w : gW) : Option (Int32 × gW) := zfx (fun _ _ => none) f_Oa_readUnit_rec 16 a2 w
def f_Oa_readChoice (a2 : Int32) (w : gW) : Option (Int32 × gW) := f_Oa_readChoice_rec f_Oa_readUnit a2 w
def f_Oa_readChoices (a2 : Int32) (w : gW) : Option (Int32 × gW) := f_Oa_readChoices_rec f_Oa_readUnit a2 w
theorem g_Oa_readUnit_b17 {l : Launch} {Q : Option Value → gW → Prop} (rK : Int32 → gW → Option (Int32 × gW)) {dK : Nat} (hd0 : 3 ≤ dK) (hK : ∀ (a2 : Int32) (w : gW), gCt l m_Oa_readUnit dK [.ref 5, .ref 1, .int a2] w eI (rK a2 w)) (x2 : Int32) (x3 : Int32) (w : gW) (h : zok eI (f_Oa_readUnit_b17 rK x2 x3 w) Q) : Gz l m_Oa_readUnit (dK + 3) 17 [(0, .ref 5), (1, .ref 1), (2, .int x2), (3, .int x3)] [] w Q := by
  unfold f_Oa_readUnit_b17 at h
  refine Gz.iload_n (q := 2) (pc' := 18) (by decide +kernel) rfl 2 rfl ?_
  refine Gz.bipush (n := 6) (v := (6 : Int32)) (pc' := 20) (by decide +kernel) rfl rfl ?_
  refine Gz.icmp_lt (off := 5) (tgt := 25) (pc' := 23) (by decide +kernel) (by decide) rfl (fun c1 => ?_) (fun c1 => ?_)
  · have h := zok_t c1 h
    refine Gz.aload_n (q := 1) (pc' := 26) (by decide +kernel) rfl 1 rfl ?_
    refine Gz.callVV (st := []) (b := 1) (pc' := 29) [] (g_Tp_step w) h ok_m_Tp_step lk_Oa_70 sh_1 rfl rfl rfl (Nat.le_of_ble_eq_true rfl) (by omega) (Nat.le_of_ble_eq_true rfl) (by decide +kernel) rfl (fun _ w2 h => ?_)
    refine Gz.iload_n (q := 3) (pc' := 30) (by decide +kernel) rfl 3 rfl ?_
    refine Gz.bipush (n := 40) (v := (40 : Int32)) (pc' := 32) (by decide +kernel) rfl rfl ?_
    refine Gz.icmp_ne (off := 29) (tgt := 61) (pc' := 35) (by decide +kernel) (by decide) rfl (fun c3 => ?_) (fun c3 => ?_)
    · have h := zok_f c3 h
      refine Gz.aload_n (q := 0) (pc' := 62) (by decide +kernel) rfl 0 rfl ?_
      refine Gz.aload_n (q := 1) (pc' := 63) (by decide +kernel) rfl 1 rfl ?_
      refine Gz.iload_n (q := 2) (pc' := 64) (by decide +kernel) rfl 2 rfl ?_
      refine Gz.iconst (n := 1) (v := (1 : Int32)) (pc' := 65) (by decide +kernel) rfl rfl ?_
      refine Gz.iadd (pc' := 66) (by decide +kernel) rfl ?_
      refine Gz.callVI (st := []) (b := 5) (pc' := 69) [.ref 1, .int (x2 + (1 : Int32))] (hK (x2 + (1 : Int32)) w2) h ok_m_Oa_readUnit lk_Oa_64 sh_5 rfl rfl rfl (Nat.le_of_ble_eq_true rfl) (by omega) (Nat.le_of_ble_eq_true rfl) (by decide +kernel) rfl (fun v4 w5 h => ?_)
      refine Gz.istore (i := 4) (pc' := 71) (L' := [(4, .int v4), (0, .ref 5), (1, .ref 1), (2, .int x2), (3, .int x3)]) (by decide +kernel) rfl (Nat.le_of_ble_eq_true rfl) rfl ?_
      refine Gz.aload_n (q := 0) (pc' := 72) (by decide +kernel) rfl 1 rfl ?_
      refine Gz.iconst (n := 4) (v := (4 : Int32)) (pc' := 73) (by decide +kernel) rfl rfl ?_
      refine Gz.iconst (n := 0) (v := (0 : Int32)) (pc' := 74) (by decide +kernel) rfl rfl ?_
      refine Gz.iconst (n := 0) (v := (0 : Int32)) (pc' := 75) (by decide +kernel) rfl rfl ?_
      refine Gz.callVI (st := []) (b := 5) (pc' := 78) [.int (4 : Int32), .int (0 : Int32), .int (0 : Int32)] (g_Oa_put (4 : Int32) (0 : Int32) (0 : Int32) w5) h ok_m_Oa_put lk_Oa_60 sh_5 rfl rfl rfl (Nat.le_of_ble_eq_true rfl) (by omega) (Nat.le_of_ble_eq_true rfl) (by decide +kernel) rfl (fun v6 w7 h => ?_)
      refine Gz.pop (pc' := 79) (by decide +kernel) rfl rfl ?_
      refine Gz.iload (i := 4) (pc' := 81) (by decide +kernel) rfl 0 rfl ?_
      obtain ⟨c8, h⟩ := zok_c h
      exact Gz.zreturn (by decide +kernel) rfl c8 (zok_sI h)
    · have h := zok_t c3 h
      refine Gz.aload_n (q := 0) (pc' := 36) (by decide +kernel) rfl 0 rfl ?_
      refine Gz.aload_n (q := 1) (pc' := 37) (by decide +kernel) rfl 1 rfl ?_
      refine Gz.iload_n (q := 2) (pc' := 38) (by decide +kernel) rfl 2 rfl ?_
      refine Gz.iconst (n := 1) (v := (1 : Int32)) (pc' := 39) (by decide +kernel) rfl rfl ?_
      refine Gz.iadd (pc' := 40) (by decide +kernel) rfl ?_
      refine Gz.callVI (st := []) (b := 5) (pc' := 43) [.ref 1, .int (x2 + (1 : Int32))] (g_Oa_readChoices_rec rK hd0 hK (x2 + (1 : Int32)) w2) h ok_m_Oa_readChoices lk_Oa_43 sh_5 rfl rfl rfl (Nat.le_of_ble_eq_true rfl) (by omega) (Nat.le_of_ble_eq_true rfl) (by decide +kernel) rfl (fun v9 w10 h => ?_)
      refine Gz.if_eq (off := 16) (tgt := 59) (pc' := 46) (by decide +kernel) (by decide) rfl (fun c11 => ?_) (fun c11 => ?_)
      · have h := zok_t c11 h
        refine Gz.iconst (n := 0) (v := (0 : Int32)) (pc' := 60) (by decide +kernel) rfl rfl ?_
        exact Gz.zreturn (by decide +kernel) rfl (by decide) (zok_sI h)
      · have h := zok_f c11 h
        refine Gz.aload_n (q := 1) (pc' := 47) (by decide +kernel) rfl 1 rfl ?_
        refine Gz.bipush (n := 41) (v := (41 : Int32)) (pc' := 49) (by decide +kernel) rfl rfl ?_
        refine Gz.callVI (st := []) (b := 1) (pc' := 52) [.int (41 : Int32)] (g_Tp_passes (41 : Int32) w10) h ok_m_Tp_passes lk_Oa_57 sh_1 rfl rfl rfl (Nat.le_of_ble_eq_true rfl) (by omega) (Nat.le_of_ble_eq_true rfl) (by decide +kernel) rfl (fun v12 w13 h => ?_)
        refine Gz.if_eq (off := 7) (tgt := 59) (pc' := 55) (by decide +kernel) (by decide) rfl (fun c14 => ?_) (fun c14 => ?_)
        · have h := zok_t c14 h
          refine Gz.iconst (n := 0) (v := (0 : Int32)) (pc' := 60) (by decide +kernel) rfl rfl ?_
          exact Gz.zreturn (by decide +kernel) rfl (by decide) (zok_sI h)
        · have h := zok_f c14 h
          refine Gz.iconst (n := 1) (v := (1 : Int32)) (pc' := 56) (by decide +kernel) rfl rfl ?_
          refine Gz.goto (off := 4) (tgt := 60) (by decide +kernel) (by decide) ?_
          exact Gz.zreturn (by decide +kernel) rfl (by decide) (zok_sI h)
  · have h := zok_f c1 h
    refine Gz.iconst (n := 0) (v := (0 : Int32)) (pc' := 24) (by decide +kernel) rfl rfl ?_
    exact Gz.zreturn (by decide +kernel) rfl (by decide) (zok_sI h)
theorem g_Oa_readUnit_rec {l : Launch} (rK : Int32 → gW → Option (Int32 × gW)) {dK : Nat} (hd0 : 3 ≤ dK) (hK : ∀ (a2 : Int32) (w : gW), gCt l m_Oa_readUnit dK [.ref 5, .ref 1, .int a2] w eI (rK a2 w)) (a2 : Int32) (w : gW) : gCt l m_Oa_readUnit (dK + 3) [.ref 5, .ref 1, .int a2] w eI (f_Oa_readUnit_rec rK a2 w) := by
  intro Q h
  unfold f_Oa_readUnit_rec at h
  show Gz l m_Oa_readUnit (dK + 3) 0 [(0, .ref 5), (1, .ref 1), (2, .int a2)] [] w Q
  refine Gz.aload_n (q := 1) (pc' := 1) (by decide +kernel) rfl 1 rfl ?_
  refine Gz.callVI (st := []) (b := 1) (pc' := 4) [] (g_Tp_sign w) h ok_m_Tp_sign lk_Oa_67 sh_1 rfl rfl rfl (Nat.le_of_ble_eq_true rfl) (by omega) (Nat.le_of_ble_eq_true rfl) (by decide +kernel) rfl (fun v1 w2 h => ?_)
  refine Gz.istore_n (q := 3) (pc' := 5) (L' := [(3, .int v1), (0, .ref 5), (1, .ref 1), (2, .int a2)]) (by decide +kernel) rfl (Nat.le_of_ble_eq_true rfl) rfl ?_
  refine Gz.iload_n (q := 3) (pc' := 6) (by decide +kernel) rfl 0 rfl ?_
  refine Gz.bipush (n := 33) (v := (33 : Int32)) (pc' := 8) (by decide +kernel) rfl rfl ?_
  refine Gz.icmp_eq (off := 9) (tgt := 17) (pc' := 11) (by decide +kernel) (by decide) rfl (fun c3 => ?_) (fun c3 => ?_)
  · have h := zok_t c3 h
    refine Gz.sub (L' := [(0, .ref 5), (1, .ref 1), (2, .int a2), (3, .int v1)]) [1, 2, 3, 0] rfl ?_
    exact g_Oa_readUnit_b17 rK hd0 hK a2 v1 w2 h
  · have h := zok_f c3 h
    refine Gz.iload_n (q := 3) (pc' := 12) (by decide +kernel) rfl 0 rfl ?_
    refine Gz.bipush (n := 40) (v := (40 : Int32)) (pc' := 14) (by decide +kernel) rfl rfl ?_
    refine Gz.icmp_ne (off := 68) (tgt := 82) (pc' := 17) (by decide +kernel) (by decide) rfl (fun c4 => ?_) (fun c4 => ?_)
    · have h := zok_f c4 h
      refine Gz.iload_n (q := 3) (pc' := 83) (by decide +kernel) rfl 0 rfl ?_
      refine Gz.bipush (n := 35) (v := (35 : Int32)) (pc' := 85) (by decide +kernel) rfl rfl ?_
      refine Gz.icmp_ne (off := 37) (tgt := 122) (pc' := 88) (by decide +kernel) (by decide) rfl (fun c5 => ?_) (fun c5 => ?_)
      · have h := zok_f c5 h
        refine Gz.aload_n (q := 1) (pc' := 123) (by decide +kernel) rfl 2 rfl ?_
        refine Gz.callVI (st := []) (b := 1) (pc' := 126) [] (g_Tp_letter w2) h ok_m_Tp_letter lk_Oa_80 sh_1 rfl rfl rfl (Nat.le_of_ble_eq_true rfl) (by omega) (Nat.le_of_ble_eq_true rfl) (by decide +kernel) rfl (fun v6 w7 h => ?_)
        refine Gz.istore (i := 4) (pc' := 128) (L' := [(4, .int v6), (3, .int v1), (0, .ref 5), (1, .ref 1), (2, .int a2)]) (by decide +kernel) rfl (Nat.le_of_ble_eq_true rfl) rfl ?_
        refine Gz.iload (i := 4) (pc' := 130) (by decide +kernel) rfl 0 rfl ?_
        refine Gz.iconst (n := -1) (v := (-1 : Int32)) (pc' := 131) (by decide +kernel) rfl rfl ?_
        refine Gz.icmp_eq (off := 17) (tgt := 148) (pc' := 134) (by decide +kernel) (by decide) rfl (fun c8 => ?_) (fun c8 => ?_)
        · have h := zok_t c8 h
          refine Gz.iconst (n := 0) (v := (0 : Int32)) (pc' := 149) (by decide +kernel) rfl rfl ?_
          exact Gz.zreturn (by decide +kernel) rfl (by decide) (zok_sI h)
        · have h := zok_f c8 h
          refine Gz.aload_n (q := 0) (pc' := 135) (by decide +kernel) rfl 2 rfl ?_
          refine Gz.aload_n (q := 1) (pc' := 136) (by decide +kernel) rfl 3 rfl ?_
          refine Gz.iload (i := 4) (pc' := 138) (by decide +kernel) rfl 0 rfl ?_
          refine Gz.callVI (st := []) (b := 5) (pc' := 141) [.ref 1, .int v6] (g_Oa_readRest v6 w7) h ok_m_Oa_readRest lk_Oa_83 sh_5 rfl rfl rfl (Nat.le_of_ble_eq_true rfl) (by omega) (Nat.le_of_ble_eq_true rfl) (by decide +kernel) rfl (fun v9 w10 h => ?_)
          refine Gz.if_eq (off := 7) (tgt := 148) (pc' := 144) (by decide +kernel) (by decide) rfl (fun c11 => ?_) (fun c11 => ?_)
          · have h := zok_t c11 h
            refine Gz.iconst (n := 0) (v := (0 : Int32)) (pc' := 149) (by decide +kernel) rfl rfl ?_
            exact Gz.zreturn (by decide +kernel) rfl (by decide) (zok_sI h)
          · have h := zok_f c11 h
            refine Gz.iconst (n := 1) (v := (1 : Int32)) (pc' := 145) (by decide +kernel) rfl rfl ?_
            refine Gz.goto (off := 4) (tgt := 149) (by decide +kernel) (by decide) ?_
            exact Gz.zreturn (by decide +kernel) rfl (by decide) (zok_sI h)
      · have h := zok_t c5 h
        refine Gz.aload_n (q := 1) (pc' := 89) (by decide +kernel) rfl 2 rfl ?_
        refine Gz.callVV (st := []) (b := 1) (pc' := 92) [] (g_Tp_step w2) h ok_m_Tp_step lk_Oa_70 sh_1 rfl rfl rfl (Nat.le_of_ble_eq_true rfl) (by omega) (Nat.le_of_ble_eq_true rfl) (by decide +kernel) rfl (fun _ w12 h => ?_)
        refine Gz.aload_n (q := 1) (pc' := 93) (by decide +kernel) rfl 2 rfl ?_
        refine Gz.iconst (n := 0) (v := (0 : Int32)) (pc' := 94) (by decide +kernel) rfl rfl ?_
        refine Gz.bipush (n := 9) (v := (9 : Int32)) (pc' := 96) (by decide +kernel) rfl rfl ?_
        refine Gz.callVI (st := []) (b := 1) (pc' := 99) [.int (0 : Int32), .int (9 : Int32)] (g_Tp_digit (0 : Int32) (9 : Int32) w12) h ok_m_Tp_digit lk_Oa_73 sh_1 rfl rfl rfl (Nat.le_of_ble_eq_true rfl) (by omega) (Nat.le_of_ble_eq_true rfl) (by decide +kernel) rfl (fun v13 w14 h => ?_)
        refine Gz.istore (i := 4) (pc' := 101) (L' := [(4, .int v13), (3, .int v1), (0, .ref 5), (1, .ref 1), (2, .int a2)]) (by decide +kernel) rfl (Nat.le_of_ble_eq_true rfl) rfl ?_
        refine Gz.iload (i := 4) (pc' := 103) (by decide +kernel) rfl 0 rfl ?_
        refine Gz.iconst (n := -1) (v := (-1 : Int32)) (pc' := 104) (by decide +kernel) rfl rfl ?_
        refine Gz.icmp_eq (off := 16) (tgt := 120) (pc' := 107) (by decide +kernel) (by decide) rfl (fun c15 => ?_) (fun c15 => ?_)
        · have h := zok_t c15 h
          refine Gz.iconst (n := 0) (v := (0 : Int32)) (pc' := 121) (by decide +kernel) rfl rfl ?_
          exact Gz.zreturn (by decide +kernel) rfl (by decide) (zok_sI h)
        · have h := zok_f c15 h
          refine Gz.aload_n (q := 0) (pc' := 108) (by decide +kernel) rfl 2 rfl ?_
          refine Gz.iload (i := 4) (pc' := 110) (by decide +kernel) rfl 0 rfl ?_
          refine Gz.callVI (st := []) (b := 5) (pc' := 113) [.int v13] (g_Oa_putThere v13 w14) h ok_m_Oa_putThere lk_Oa_77 sh_5 rfl rfl rfl (Nat.le_of_ble_eq_true rfl) (by omega) (Nat.le_of_ble_eq_true rfl) (by decide +kernel) rfl (fun v16 w17 h => ?_)
          refine Gz.if_eq (off := 7) (tgt := 120) (pc' := 116) (by decide +kernel) (by decide) rfl (fun c18 => ?_) (fun c18 => ?_)
          · have h := zok_t c18 h
            refine Gz.iconst (n := 0) (v := (0 : Int32)) (pc' := 121) (by decide +kernel) rfl rfl ?_
            exact Gz.zreturn (by decide +kernel) rfl (by decide) (zok_sI h)
          · have h := zok_f c18 h
            refine Gz.iconst (n := 1) (v := (1 : Int32)) (pc' := 117) (by decide +kernel) rfl rfl ?_
            refine Gz.goto (off := 4) (tgt := 121) (by decide +kernel) (by decide) ?_
            exact Gz.zreturn (by decide +kernel) rfl (by decide) (zok_sI h)
    · have h := zok_t c4 h
      refine Gz.sub (L' := [(0, .ref 5), (1, .ref 1), (2, .int a2), (3, .int v1)]) [1, 2, 3, 0] rfl ?_
      exact g_Oa_readUnit_b17 rK hd0 hK a2 v1 w2 h
theorem g_Oa_readUnit_n {l : Launch} : ∀ (n : Nat) (a2 : Int32) (w : gW), gCt l m_Oa_readUnit (3 + n * 3) [.ref 5, .ref 1, .int a2] w eI (zfx (fun _ _ => none) f_Oa_readUnit_rec n a2 w) := by
  intro n
  induction n with
  | zero => intro a2 w Q h; exact zok_n h
  | succ n ih =>
    intro a2 w
    have hh := g_Oa_readUnit_rec (l := l) _ (dK := 3 + n * 3) (by omega) ih a2 w
    rw [show 3 + (n + 1) * 3 = 3 + n * 3 + 3 by omega]
    exact hh
theorem g_Oa_readUnit {l : Launch} (a2 : Int32) (w : gW) : gCt l m_Oa_readUnit 51 [.ref 5, .ref 1, .int a2] w eI (f_Oa_readUnit a2 w) := g_Oa_readUnit_n 16 a2 w
theorem g_Oa_readChoice {l : Launch} (a2 : Int32) (w : gW) : gCt l m_Oa_readChoice 52 [.ref 5, .ref 1, .int a2] w eI (f_Oa_readChoice a2 w) := g_Oa_readChoice_rec (l := l) f_Oa_readUnit (dK := 51) (by omega) (fun a2 w => g_Oa_readUnit a2 w) a2 w
theorem g_Oa_readChoices {l : Launch} (a2 : Int32) (w : gW) : gCt l m_Oa_readChoices 53 [.ref 5, .ref 1, .int a2] w eI (f_Oa_readChoices a2 w) := g_Oa_readChoices_rec (l := l) f_Oa_readUnit (dK := 51) (by omega) (fun a2 w => g_Oa_readUnit a2 w) a2 w
def f_Oa_read_b40 (w : gW) : Option (Int32 × gW) :=
zb (f_Tp_spot w) (fun v1 w2 =>
some (v1, w2))
def f_Oa_read (w : gW) : Option (Int32 × gW) :=
zb (f_Tp_rewind w) (fun _ w1 =>
zb (f_Oa_draft w1) (fun v2 w3 =>
if inb v2 9 then
zl (zsI w3 16 (ix v2) (0 : Int32)) (fun w5 =>
zb (f_Oa_draft w5) (fun v7 w8 =>
if inb v7 9 then
zl (zsI w8 17 (ix v7) (0 : Int32)) (fun w10 =>
zb (f_Oa_readChoices (0 : Int32) w10) (fun v12 w13 =>
if v12 = 0 then
(f_Oa_read_b40 w13)
else
(zb (f_Tp_isAtEnd w13) (fun v15 w16 =>
if v15 = 0 then
(f_Oa_read_b40 w16)
else
(some ((-1 : Int32), w16))))))
else none))
else none))
theorem g_Oa_read_b40 {l : Launch} {Q : Option Value → gW → Prop} (w : gW) (h : zok eI (f_Oa_read_b40 w) Q) : Gz l m_Oa_read 54 40 [(1, .ref 1)] [] w Q := by
  unfold f_Oa_read_b40 at h
  refine Gz.aload_n (q := 1) (pc' := 41) (by decide +kernel) rfl 0 rfl ?_
  refine Gz.callVI (st := []) (b := 1) (pc' := 44) [] (g_Tp_spot w) h ok_m_Tp_spot lk_Oa_51 sh_1 rfl rfl rfl (Nat.le_of_ble_eq_true rfl) (Nat.le_of_ble_eq_true rfl) (Nat.le_of_ble_eq_true rfl) (by decide +kernel) rfl (fun v1 w2 h => ?_)
  exact Gz.ireturn (by decide +kernel) rfl (zok_sI h)
theorem g_Oa_read {l : Launch} (w : gW) : gCt l m_Oa_read 54 [.ref 5, .ref 1] w eI (f_Oa_read w) := by
  intro Q h
  unfold f_Oa_read at h
  show Gz l m_Oa_read 54 0 [(0, .ref 5), (1, .ref 1)] [] w Q
  refine Gz.aload_n (q := 1) (pc' := 1) (by decide +kernel) rfl 1 rfl ?_
  refine Gz.callVV (st := []) (b := 1) (pc' := 4) [] (g_Tp_rewind w) h ok_m_Tp_rewind lk_Oa_34 sh_1 rfl rfl rfl (Nat.le_of_ble_eq_true rfl) (Nat.le_of_ble_eq_true rfl) (Nat.le_of_ble_eq_true rfl) (by decide +kernel) rfl (fun _ w1 h => ?_)
  refine Gz.aload_n (q := 0) (pc' := 5) (by decide +kernel) rfl 0 rfl ?_
  refine Gz.getR (pc' := 8) (j := 1) 16 fd_Oa_16 sh_5 rfl (by decide +kernel) rfl ?_
  refine Gz.aload_n (q := 0) (pc' := 9) (by decide +kernel) rfl 0 rfl ?_
  refine Gz.callVI (st := [.ref 16]) (b := 5) (pc' := 12) [] (g_Oa_draft w1) h ok_m_Oa_draft lk_Oa_39 sh_5 rfl rfl rfl (Nat.le_of_ble_eq_true rfl) (Nat.le_of_ble_eq_true rfl) (Nat.le_of_ble_eq_true rfl) (by decide +kernel) rfl (fun v2 w3 h => ?_)
  refine Gz.iconst (n := 0) (v := (0 : Int32)) (pc' := 13) (by decide +kernel) rfl rfl ?_
  obtain ⟨c4, h⟩ := zok_c h
  refine Gz.iast (pc' := 14) (n := 9) (by decide +kernel) rfl rfl c4 ?_
  refine Gz.nmW (fun w5 e6 => ?_)
  have h := zok_l e6 h
  refine Gz.aload_n (q := 0) (pc' := 15) (by decide +kernel) rfl 0 rfl ?_
  refine Gz.getR (pc' := 18) (j := 2) 17 fd_Oa_20 sh_5 rfl (by decide +kernel) rfl ?_
  refine Gz.aload_n (q := 0) (pc' := 19) (by decide +kernel) rfl 0 rfl ?_
  refine Gz.callVI (st := [.ref 17]) (b := 5) (pc' := 22) [] (g_Oa_draft w5) h ok_m_Oa_draft lk_Oa_39 sh_5 rfl rfl rfl (Nat.le_of_ble_eq_true rfl) (Nat.le_of_ble_eq_true rfl) (Nat.le_of_ble_eq_true rfl) (by decide +kernel) rfl (fun v7 w8 h => ?_)
  refine Gz.iconst (n := 0) (v := (0 : Int32)) (pc' := 23) (by decide +kernel) rfl rfl ?_
  obtain ⟨c9, h⟩ := zok_c h
  refine Gz.iast (pc' := 24) (n := 9) (by decide +kernel) rfl rfl c9 ?_
  refine Gz.nmW (fun w10 e11 => ?_)
  have h := zok_l e11 h
  refine Gz.aload_n (q := 0) (pc' := 25) (by decide +kernel) rfl 0 rfl ?_
  refine Gz.aload_n (q := 1) (pc' := 26) (by decide +kernel) rfl 1 rfl ?_
  refine Gz.iconst (n := 0) (v := (0 : Int32)) (pc' := 27) (by decide +kernel) rfl rfl ?_
  refine Gz.callVI (st := []) (b := 5) (pc' := 30) [.ref 1, .int (0 : Int32)] (g_Oa_readChoices (0 : Int32) w10) h ok_m_Oa_readChoices lk_Oa_43 sh_5 rfl rfl rfl (Nat.le_of_ble_eq_true rfl) (Nat.le_of_ble_eq_true rfl) (Nat.le_of_ble_eq_true rfl) (by decide +kernel) rfl (fun v12 w13 h => ?_)
  refine Gz.if_eq (off := 10) (tgt := 40) (pc' := 33) (by decide +kernel) (by decide) rfl (fun c14 => ?_) (fun c14 => ?_)
  · have h := zok_t c14 h
    refine Gz.sub (L' := [(1, .ref 1)]) [1] rfl ?_
    exact g_Oa_read_b40 w13 h
  · have h := zok_f c14 h
    refine Gz.aload_n (q := 1) (pc' := 34) (by decide +kernel) rfl 1 rfl ?_
    refine Gz.callVI (st := []) (b := 1) (pc' := 37) [] (g_Tp_isAtEnd w13) h ok_m_Tp_isAtEnd lk_Oa_47 sh_1 rfl rfl rfl (Nat.le_of_ble_eq_true rfl) (Nat.le_of_ble_eq_true rfl) (Nat.le_of_ble_eq_true rfl) (by decide +kernel) rfl (fun v15 w16 h => ?_)
    refine Gz.if_ne (off := 8) (tgt := 45) (pc' := 40) (by decide +kernel) (by decide) rfl (fun c17 => ?_) (fun c17 => ?_)
    · have h := zok_f c17 h
      refine Gz.iconst (n := -1) (v := (-1 : Int32)) (pc' := 46) (by decide +kernel) rfl rfl ?_
      exact Gz.ireturn (by decide +kernel) rfl (zok_sI h)
    · have h := zok_t c17 h
      refine Gz.sub (L' := [(1, .ref 1)]) [1] rfl ?_
      exact g_Oa_read_b40 w16 h
def f_X_fault (a1 : Int32) (w : gW) : Option (Int32 × gW) :=
if a1 = 0 then
(zb (f_Rd_read w) (fun v5 w6 =>
some (v5, w6)))
else
(if a1 = (1 : Int32) then
(zb (f_Oa_read w) (fun v3 w4 =>
some (v3, w4)))
else
(some ((-2 : Int32), w)))
theorem g_X_fault {l : Launch} (a1 : Int32) (w : gW) : gCt l m_X_fault 55 [.ref 0, .int a1] w eI (f_X_fault a1 w) := by
  intro Q h
  unfold f_X_fault at h
  show Gz l m_X_fault 55 0 [(0, .ref 0), (1, .int a1)] [] w Q
  refine Gz.iload_n (q := 1) (pc' := 1) (by decide +kernel) rfl 1 rfl ?_
  refine Gz.if_ne (off := 15) (tgt := 16) (pc' := 4) (by decide +kernel) (by decide) rfl (fun c1 => ?_) (fun c1 => ?_)
  · have h := zok_f c1 h
    refine Gz.iload_n (q := 1) (pc' := 17) (by decide +kernel) rfl 1 rfl ?_
    refine Gz.iconst (n := 1) (v := (1 : Int32)) (pc' := 18) (by decide +kernel) rfl rfl ?_
    refine Gz.icmp_ne (off := 17) (tgt := 35) (pc' := 21) (by decide +kernel) (by decide) rfl (fun c2 => ?_) (fun c2 => ?_)
    · have h := zok_f c2 h
      refine Gz.bipush (n := -2) (v := (-2 : Int32)) (pc' := 37) (by decide +kernel) rfl rfl ?_
      exact Gz.ireturn (by decide +kernel) rfl (zok_sI h)
    · have h := zok_t c2 h
      refine Gz.aload_n (q := 0) (pc' := 22) (by decide +kernel) rfl 0 rfl ?_
      refine Gz.getR (pc' := 25) (j := 2) 5 fd_X_26 sh_0 rfl (by decide +kernel) rfl ?_
      refine Gz.aload_n (q := 0) (pc' := 26) (by decide +kernel) rfl 0 rfl ?_
      refine Gz.getR (pc' := 29) (j := 0) 1 fd_X_12 sh_0 rfl (by decide +kernel) rfl ?_
      refine Gz.callVI (st := []) (b := 5) (pc' := 32) [.ref 1] (g_Oa_read w) h ok_m_Oa_read lk_X_108 sh_5 rfl rfl rfl (Nat.le_of_ble_eq_true rfl) (Nat.le_of_ble_eq_true rfl) (Nat.le_of_ble_eq_true rfl) (by decide +kernel) rfl (fun v3 w4 h => ?_)
      refine Gz.goto (off := 5) (tgt := 37) (by decide +kernel) (by decide) ?_
      exact Gz.ireturn (by decide +kernel) rfl (zok_sI h)
  · have h := zok_t c1 h
    refine Gz.aload_n (q := 0) (pc' := 5) (by decide +kernel) rfl 0 rfl ?_
    refine Gz.getR (pc' := 8) (j := 1) 3 fd_X_19 sh_0 rfl (by decide +kernel) rfl ?_
    refine Gz.aload_n (q := 0) (pc' := 9) (by decide +kernel) rfl 0 rfl ?_
    refine Gz.getR (pc' := 12) (j := 0) 1 fd_X_12 sh_0 rfl (by decide +kernel) rfl ?_
    refine Gz.callVI (st := []) (b := 3) (pc' := 15) [.ref 1] (g_Rd_read w) h ok_m_Rd_read lk_X_104 sh_3 rfl rfl rfl (Nat.le_of_ble_eq_true rfl) (Nat.le_of_ble_eq_true rfl) (Nat.le_of_ble_eq_true rfl) (by decide +kernel) rfl (fun v5 w6 h => ?_)
    exact Gz.ireturn (by decide +kernel) rfl (zok_sI h)
def f_Rd_dayCount (w : gW) : Option (Int32 × gW) :=
some (w.1 3 1, w)
theorem g_Rd_dayCount {l : Launch} (w : gW) : gCt l m_Rd_dayCount 1 [.ref 3] w eI (f_Rd_dayCount w) := by
  intro Q h
  unfold f_Rd_dayCount at h
  show Gz l m_Rd_dayCount 1 0 [(0, .ref 3)] [] w Q
  refine Gz.aload_n (q := 0) (pc' := 1) (by decide +kernel) rfl 0 rfl ?_
  refine Gz.getI (pc' := 4) (j := 1) fd_Rd_15 sh_3 rfl (by decide +kernel) rfl ?_
  exact Gz.ireturn (by decide +kernel) rfl (zok_sI h)
def f_Rd_deedCount (w : gW) : Option (Int32 × gW) :=
some (w.1 3 2, w)
theorem g_Rd_deedCount {l : Launch} (w : gW) : gCt l m_Rd_deedCount 1 [.ref 3] w eI (f_Rd_deedCount w) := by
  intro Q h
  unfold f_Rd_deedCount at h
  show Gz l m_Rd_deedCount 1 0 [(0, .ref 3)] [] w Q
  refine Gz.aload_n (q := 0) (pc' := 1) (by decide +kernel) rfl 0 rfl ?_
  refine Gz.getI (pc' := 4) (j := 2) fd_Rd_19 sh_3 rfl (by decide +kernel) rfl ?_
  exact Gz.ireturn (by decide +kernel) rfl (zok_sI h)
def f_La_trait (a1 : Int32) (a2 : Int32) (w : gW) : Option (Int32 × gW) :=
zl ((a1 * (3 : Int32)) + a2) (fun v1 =>
if v1 < 0 then
(some ((0 : Int32), w))
else
(if (nI 15) ≤ v1 then
(some ((0 : Int32), w))
else
(if inb v1 15 then
some (w.1 20 (ix v1), w)
else none)))
theorem g_La_trait {l : Launch} (a1 : Int32) (a2 : Int32) (w : gW) : gCt l m_La_trait 1 [.ref 19, .int a1, .int a2] w eI (f_La_trait a1 a2 w) := by
  intro Q h
  unfold f_La_trait at h
  show Gz l m_La_trait 1 0 [(0, .ref 19), (1, .int a1), (2, .int a2)] [] w Q
  refine Gz.iload_n (q := 1) (pc' := 1) (by decide +kernel) rfl 1 rfl ?_
  refine Gz.iconst (n := 3) (v := (3 : Int32)) (pc' := 2) (by decide +kernel) rfl rfl ?_
  refine Gz.imul (pc' := 3) (by decide +kernel) rfl ?_
  refine Gz.iload_n (q := 2) (pc' := 4) (by decide +kernel) rfl 2 rfl ?_
  refine Gz.iadd (pc' := 5) (by decide +kernel) rfl ?_
  refine Gz.nmI (fun v1 e2 => ?_)
  have h := zok_l e2 h
  refine Gz.istore_n (q := 3) (pc' := 6) (L' := [(3, .int v1), (0, .ref 19), (1, .int a1), (2, .int a2)]) (by decide +kernel) rfl (Nat.le_of_ble_eq_true rfl) rfl ?_
  refine Gz.iload_n (q := 3) (pc' := 7) (by decide +kernel) rfl 0 rfl ?_
  refine Gz.if_lt (off := 21) (tgt := 28) (pc' := 10) (by decide +kernel) (by decide) rfl (fun c3 => ?_) (fun c3 => ?_)
  · have h := zok_t c3 h
    refine Gz.iconst (n := 0) (v := (0 : Int32)) (pc' := 29) (by decide +kernel) rfl rfl ?_
    exact Gz.ireturn (by decide +kernel) rfl (zok_sI h)
  · have h := zok_f c3 h
    refine Gz.iload_n (q := 3) (pc' := 11) (by decide +kernel) rfl 0 rfl ?_
    refine Gz.aload_n (q := 0) (pc' := 12) (by decide +kernel) rfl 1 rfl ?_
    refine Gz.getR (pc' := 15) (j := 0) 20 fd_La_11 sh_19 rfl (by decide +kernel) rfl ?_
    refine Gz.alen (pc' := 16) (n := 15) (kd := 1) (by decide +kernel) rfl (Or.inl rfl) rfl rfl ?_
    refine Gz.icmp_ge (off := 12) (tgt := 28) (pc' := 19) (by decide +kernel) (by decide) rfl (fun c4 => ?_) (fun c4 => ?_)
    · have h := zok_t c4 h
      refine Gz.iconst (n := 0) (v := (0 : Int32)) (pc' := 29) (by decide +kernel) rfl rfl ?_
      exact Gz.ireturn (by decide +kernel) rfl (zok_sI h)
    · have h := zok_f c4 h
      refine Gz.aload_n (q := 0) (pc' := 20) (by decide +kernel) rfl 1 rfl ?_
      refine Gz.getR (pc' := 23) (j := 0) 20 fd_La_11 sh_19 rfl (by decide +kernel) rfl ?_
      refine Gz.iload_n (q := 3) (pc' := 24) (by decide +kernel) rfl 0 rfl ?_
      obtain ⟨c5, h⟩ := zok_c h
      refine Gz.iald (pc' := 25) (n := 15) (by decide +kernel) rfl rfl c5 ?_
      refine Gz.goto (off := 4) (tgt := 29) (by decide +kernel) (by decide) ?_
      exact Gz.ireturn (by decide +kernel) rfl (zok_sI h)
def f_La_sight_b29 (s1 : Int32) (w : gW) : Option (Nat × gW) :=
if inb s1 35 then
some (23 + 1 + ix s1, w)
else none
def f_La_sight_b28 (w : gW) : Option (Nat × gW) :=
f_La_sight_b29 (0 : Int32) w
def f_La_sight (a1 : Int32) (a2 : Int32) (w : gW) : Option (Nat × gW) :=
zl ((a1 * (7 : Int32)) + a2) (fun v1 =>
if v1 < 0 then
(f_La_sight_b28 w)
else
(if (nI 35) ≤ v1 then
(f_La_sight_b28 w)
else
(f_La_sight_b29 v1 w)))
theorem g_La_sight_b29 {l : Launch} {Q : Option Value → gW → Prop} (s1 : Int32) (w : gW) (h : zok eR (f_La_sight_b29 s1 w) Q) : Gz l m_La_sight 1 29 [] [.int s1, .ref 23] w Q := by
  unfold f_La_sight_b29 at h
  obtain ⟨c1, h⟩ := zok_c h
  refine Gz.aald (pc' := 30) (n := 35) (by decide +kernel) rfl (Or.inr rfl) rfl c1 ?_
  exact Gz.areturn (by decide +kernel) rfl (zok_sR h)
theorem g_La_sight_b28 {l : Launch} {Q : Option Value → gW → Prop} (w : gW) (h : zok eR (f_La_sight_b28 w) Q) : Gz l m_La_sight 1 28 [] [.ref 23] w Q := by
  unfold f_La_sight_b28 at h
  refine Gz.iconst (n := 0) (v := (0 : Int32)) (pc' := 29) (by decide +kernel) rfl rfl ?_
  exact g_La_sight_b29 (0 : Int32) w h
theorem g_La_sight {l : Launch} (a1 : Int32) (a2 : Int32) (w : gW) : gCt l m_La_sight 1 [.ref 19, .int a1, .int a2] w eR (f_La_sight a1 a2 w) := by
  intro Q h
  unfold f_La_sight at h
  show Gz l m_La_sight 1 0 [(0, .ref 19), (1, .int a1), (2, .int a2)] [] w Q
  refine Gz.iload_n (q := 1) (pc' := 1) (by decide +kernel) rfl 1 rfl ?_
  refine Gz.bipush (n := 7) (v := (7 : Int32)) (pc' := 3) (by decide +kernel) rfl rfl ?_
  refine Gz.imul (pc' := 4) (by decide +kernel) rfl ?_
  refine Gz.iload_n (q := 2) (pc' := 5) (by decide +kernel) rfl 2 rfl ?_
  refine Gz.iadd (pc' := 6) (by decide +kernel) rfl ?_
  refine Gz.nmI (fun v1 e2 => ?_)
  have h := zok_l e2 h
  refine Gz.istore_n (q := 3) (pc' := 7) (L' := [(3, .int v1), (0, .ref 19), (1, .int a1), (2, .int a2)]) (by decide +kernel) rfl (Nat.le_of_ble_eq_true rfl) rfl ?_
  refine Gz.aload_n (q := 0) (pc' := 8) (by decide +kernel) rfl 1 rfl ?_
  refine Gz.getR (pc' := 11) (j := 3) 23 fd_La_25 sh_19 rfl (by decide +kernel) rfl ?_
  refine Gz.iload_n (q := 3) (pc' := 12) (by decide +kernel) rfl 0 rfl ?_
  refine Gz.if_lt (off := 16) (tgt := 28) (pc' := 15) (by decide +kernel) (by decide) rfl (fun c3 => ?_) (fun c3 => ?_)
  · have h := zok_t c3 h
    refine Gz.sub (L' := []) [] rfl ?_
    exact g_La_sight_b28 w h
  · have h := zok_f c3 h
    refine Gz.iload_n (q := 3) (pc' := 16) (by decide +kernel) rfl 0 rfl ?_
    refine Gz.aload_n (q := 0) (pc' := 17) (by decide +kernel) rfl 1 rfl ?_
    refine Gz.getR (pc' := 20) (j := 3) 23 fd_La_25 sh_19 rfl (by decide +kernel) rfl ?_
    refine Gz.alenR (pc' := 21) (n := 35) (kd := 6) (by decide +kernel) rfl (Or.inr rfl) rfl rfl ?_
    refine Gz.icmp_ge (off := 7) (tgt := 28) (pc' := 24) (by decide +kernel) (by decide) rfl (fun c4 => ?_) (fun c4 => ?_)
    · have h := zok_t c4 h
      refine Gz.sub (L' := []) [] rfl ?_
      exact g_La_sight_b28 w h
    · have h := zok_f c4 h
      refine Gz.iload_n (q := 3) (pc' := 25) (by decide +kernel) rfl 0 rfl ?_
      refine Gz.goto (off := 4) (tgt := 29) (by decide +kernel) (by decide) ?_
      refine Gz.sub (L' := []) [] rfl ?_
      exact g_La_sight_b29 v1 w h
def f_Arr_fill_AJJ_b6_s (k6 : Nat → Int64 → Int32 → Int32 → gW → Option (Unit × gW)) (x0 : Nat) (x1 : Int64) (x3 : Int32) (x4 : Int32) (w : gW) : Option (Unit × gW) :=
if x4 ≤ x3 then
(some ((), w))
else
(if inb x3 (g_len 2 x0) then
zl (zsL w x0 (ix x3) x1) (fun w3 =>
zl (x3 + (1 : Int32)) (fun v5 =>
k6 x0 x1 v5 x4 w3))
else none)
def f_Arr_fill_AJJ_b6 : Nat → Int64 → Int32 → Int32 → gW → Option (Unit × gW) := zfx (fun _ _ _ _ _ => none) (f_Arr_fill_AJJ_b6_s) zFU
def f_Arr_fill_AJJ (a0 : Nat) (a1 : Int64) (w : gW) : Option (Unit × gW) :=
if (g_sh a0).1 = 2 then
zl (nI (g_len 2 a0)) (fun v2 =>
f_Arr_fill_AJJ_b6 a0 a1 (0 : Int32) v2 w)
else none
theorem g_Arr_fill_AJJ_b6_s {l : Launch} {Q : Option Value → gW → Prop} (k6 : Nat → Int64 → Int32 → Int32 → gW → Option (Unit × gW)) (hk6 : ∀ (x0 : Nat) (x1 : Int64) (x3 : Int32) (x4 : Int32) (w : gW), zok eV (k6 x0 x1 x3 x4 w) Q → Gz l m_Arr_fill_AJJ 1 6 [(0, .ref x0), (1, .long x1), (3, .int x3), (4, .int x4)] [] w Q) (x0 : Nat) (x1 : Int64) (x3 : Int32) (x4 : Int32) (w : gW) (h : zok eV (f_Arr_fill_AJJ_b6_s k6 x0 x1 x3 x4 w) Q) : Gz l m_Arr_fill_AJJ 1 6 [(0, .ref x0), (1, .long x1), (3, .int x3), (4, .int x4)] [] w Q := by
  unfold f_Arr_fill_AJJ_b6_s at h
  refine Gz.iload_n (q := 3) (pc' := 7) (by decide +kernel) rfl 2 rfl ?_
  refine Gz.iload (i := 4) (pc' := 9) (by decide +kernel) rfl 3 rfl ?_
  refine Gz.icmp_ge (off := 13) (tgt := 22) (pc' := 12) (by decide +kernel) (by decide) rfl (fun c1 => ?_) (fun c1 => ?_)
  · have h := zok_t c1 h
    exact Gz.return_ (by decide +kernel) rfl (zok_sV h)
  · have h := zok_f c1 h
    refine Gz.aload_n (q := 0) (pc' := 13) (by decide +kernel) rfl 0 rfl ?_
    refine Gz.iload_n (q := 3) (pc' := 14) (by decide +kernel) rfl 2 rfl ?_
    refine Gz.lload_n (q := 1) (pc' := 15) (by decide +kernel) rfl 1 rfl ?_
    obtain ⟨c2, h⟩ := zok_c h
    refine Gz.last (pc' := 16) (n := (g_len 2 x0)) (by decide +kernel) rfl rfl c2 ?_
    refine Gz.nmW (fun w3 e4 => ?_)
    have h := zok_l e4 h
    obtain ⟨v5, e6⟩ : ∃ y : Int32, y = x3 + (1 : Int32) := ⟨_, rfl⟩
    have h := zok_l e6 h
    refine Gz.iinc (i := 3) (n := 1) (pc' := 19) (L' := [(3, .int v5), (0, .ref x0), (1, .long x1), (4, .int x4)]) v5 (by decide +kernel) rfl 2 rfl (by rw [e6]; rfl) (Nat.le_of_ble_eq_true rfl) rfl ?_
    refine Gz.goto (off := -13) (tgt := 6) (by decide +kernel) (by decide) ?_
    refine Gz.sub (L' := [(0, .ref x0), (1, .long x1), (3, .int v5), (4, .int x4)]) [1, 2, 0, 3] rfl ?_
    exact hk6 x0 x1 v5 x4 w3 h
theorem g_Arr_fill_AJJ_b6 {l : Launch} {Q : Option Value → gW → Prop} (x0 : Nat) (x1 : Int64) (x3 : Int32) (x4 : Int32) (w : gW) (h : zok eV (f_Arr_fill_AJJ_b6 x0 x1 x3 x4 w) Q) : Gz l m_Arr_fill_AJJ 1 6 [(0, .ref x0), (1, .long x1), (3, .int x3), (4, .int x4)] [] w Q := by
  have key : ∀ (n : Nat) (x0 : Nat) (x1 : Int64) (x3 : Int32) (x4 : Int32) (w : gW), zok eV (zfx (fun _ _ _ _ _ => none) (f_Arr_fill_AJJ_b6_s) n x0 x1 x3 x4 w) Q → Gz l m_Arr_fill_AJJ 1 6 [(0, .ref x0), (1, .long x1), (3, .int x3), (4, .int x4)] [] w Q := by
    intro n
    induction n with
    | zero => intro x0 x1 x3 x4 w h; exact zok_n h
    | succ n ih => intro x0 x1 x3 x4 w h; exact g_Arr_fill_AJJ_b6_s _ ih x0 x1 x3 x4 w h
  exact key zFU x0 x1 x3 x4 w h
theorem g_Arr_fill_AJJ {l : Launch} (a0 : Nat) (a1 : Int64) (w : gW) : gCt l m_Arr_fill_AJJ 1 [.ref a0, .long a1] w eV (f_Arr_fill_AJJ a0 a1 w) := by
  intro Q h
  unfold f_Arr_fill_AJJ at h
  show Gz l m_Arr_fill_AJJ 1 0 [(0, .ref a0), (1, .long a1)] [] w Q
  refine Gz.iconst (n := 0) (v := (0 : Int32)) (pc' := 1) (by decide +kernel) rfl rfl ?_
  refine Gz.istore_n (q := 3) (pc' := 2) (L' := [(3, .int (0 : Int32)), (0, .ref a0), (1, .long a1)]) (by decide +kernel) rfl (Nat.le_of_ble_eq_true rfl) rfl ?_
  refine Gz.aload_n (q := 0) (pc' := 3) (by decide +kernel) rfl 1 rfl ?_
  obtain ⟨c1, h⟩ := zok_c h
  refine Gz.alen (pc' := 4) (n := g_len 2 a0) (kd := 2) (by decide +kernel) rfl (Or.inr rfl) c1 rfl ?_
  refine Gz.nmI (fun v2 e3 => ?_)
  have h := zok_l e3 h
  refine Gz.istore (i := 4) (pc' := 6) (L' := [(4, .int v2), (3, .int (0 : Int32)), (0, .ref a0), (1, .long a1)]) (by decide +kernel) rfl (Nat.le_of_ble_eq_true rfl) rfl ?_
  refine Gz.sub (L' := [(0, .ref a0), (1, .long a1), (3, .int (0 : Int32)), (4, .int v2)]) [2, 3, 1, 0] rfl ?_
  exact g_Arr_fill_AJJ_b6 a0 a1 (0 : Int32) v2 w h
def f_Ro_clear (a0 : Nat) (w : gW) : Option (Unit × gW) :=
zb (f_Arr_fill_AJJ a0 (0 : Int64) w) (fun _ w1 =>
some ((), w1))
theorem g_Ro_clear {l : Launch} (a0 : Nat) (w : gW) : gCt l m_Ro_clear 2 [.ref a0] w eV (f_Ro_clear a0 w) := by
  intro Q h
  unfold f_Ro_clear at h
  show Gz l m_Ro_clear 2 0 [(0, .ref a0)] [] w Q
  refine Gz.aload_n (q := 0) (pc' := 1) (by decide +kernel) rfl 0 rfl ?_
  refine Gz.lconst (n := 0) (v := (0 : Int64)) (pc' := 2) (by decide +kernel) rfl rfl ?_
  refine Gz.callSV (st := []) (pc' := 5) [.ref a0, .long (0 : Int64)] (g_Arr_fill_AJJ a0 (0 : Int64) w) h ok_m_Arr_fill_AJJ lk_Ro_9 rfl (Nat.le_of_ble_eq_true rfl) (Nat.le_of_ble_eq_true rfl) (Nat.le_of_ble_eq_true rfl) (by decide +kernel) rfl (fun _ w1 h => ?_)
  exact Gz.return_ (by decide +kernel) rfl (zok_sV h)
def f_La_hasDeed (a1 : Int32) (w : gW) : Option (Int32 × gW) :=
if a1 < 0 then
(some ((0 : Int32), w))
else
(if (w.1 19 5) ≤ a1 then
(some ((0 : Int32), w))
else
(if (5 : Int32) ≤ a1 then
(some ((0 : Int32), w))
else
(some ((1 : Int32), w))))
theorem g_La_hasDeed {l : Launch} (a1 : Int32) (w : gW) : gCt l m_La_hasDeed 1 [.ref 19, .int a1] w eI (f_La_hasDeed a1 w) := by
  intro Q h
  unfold f_La_hasDeed at h
  show Gz l m_La_hasDeed 1 0 [(0, .ref 19), (1, .int a1)] [] w Q
  refine Gz.iload_n (q := 1) (pc' := 1) (by decide +kernel) rfl 1 rfl ?_
  refine Gz.if_lt (off := 20) (tgt := 21) (pc' := 4) (by decide +kernel) (by decide) rfl (fun c1 => ?_) (fun c1 => ?_)
  · have h := zok_t c1 h
    refine Gz.iconst (n := 0) (v := (0 : Int32)) (pc' := 22) (by decide +kernel) rfl rfl ?_
    exact Gz.zreturn (by decide +kernel) rfl (by decide) (zok_sI h)
  · have h := zok_f c1 h
    refine Gz.iload_n (q := 1) (pc' := 5) (by decide +kernel) rfl 1 rfl ?_
    refine Gz.aload_n (q := 0) (pc' := 6) (by decide +kernel) rfl 0 rfl ?_
    refine Gz.getI (pc' := 9) (j := 5) fd_La_28 sh_19 rfl (by decide +kernel) rfl ?_
    refine Gz.icmp_ge (off := 12) (tgt := 21) (pc' := 12) (by decide +kernel) (by decide) rfl (fun c2 => ?_) (fun c2 => ?_)
    · have h := zok_t c2 h
      refine Gz.iconst (n := 0) (v := (0 : Int32)) (pc' := 22) (by decide +kernel) rfl rfl ?_
      exact Gz.zreturn (by decide +kernel) rfl (by decide) (zok_sI h)
    · have h := zok_f c2 h
      refine Gz.iload_n (q := 1) (pc' := 13) (by decide +kernel) rfl 1 rfl ?_
      refine Gz.iconst (n := 5) (v := (5 : Int32)) (pc' := 14) (by decide +kernel) rfl rfl ?_
      refine Gz.icmp_ge (off := 7) (tgt := 21) (pc' := 17) (by decide +kernel) (by decide) rfl (fun c3 => ?_) (fun c3 => ?_)
      · have h := zok_t c3 h
        refine Gz.iconst (n := 0) (v := (0 : Int32)) (pc' := 22) (by decide +kernel) rfl rfl ?_
        exact Gz.zreturn (by decide +kernel) rfl (by decide) (zok_sI h)
      · have h := zok_f c3 h
        refine Gz.iconst (n := 1) (v := (1 : Int32)) (pc' := 18) (by decide +kernel) rfl rfl ?_
        refine Gz.goto (off := 4) (tgt := 22) (by decide +kernel) (by decide) ?_
        exact Gz.zreturn (by decide +kernel) rfl (by decide) (zok_sI h)
def f_La_stride (a1 : Int32) (w : gW) : Option (Int32 × gW) :=
zb (f_La_hasDeed a1 w) (fun v1 w2 =>
if v1 = 0 then
(some ((0 : Int32), w2))
else
(if inb a1 5 then
some (w2.1 22 (ix a1), w2)
else none))
theorem g_La_stride {l : Launch} (a1 : Int32) (w : gW) : gCt l m_La_stride 2 [.ref 19, .int a1] w eI (f_La_stride a1 w) := by
  intro Q h
  unfold f_La_stride at h
  show Gz l m_La_stride 2 0 [(0, .ref 19), (1, .int a1)] [] w Q
  refine Gz.aload_n (q := 0) (pc' := 1) (by decide +kernel) rfl 0 rfl ?_
  refine Gz.iload_n (q := 1) (pc' := 2) (by decide +kernel) rfl 1 rfl ?_
  refine Gz.callVI (st := []) (b := 19) (pc' := 5) [.int a1] (g_La_hasDeed a1 w) h ok_m_La_hasDeed lk_La_38 sh_19 rfl rfl rfl (Nat.le_of_ble_eq_true rfl) (Nat.le_of_ble_eq_true rfl) (Nat.le_of_ble_eq_true rfl) (by decide +kernel) rfl (fun v1 w2 h => ?_)
  refine Gz.if_eq (off := 12) (tgt := 17) (pc' := 8) (by decide +kernel) (by decide) rfl (fun c3 => ?_) (fun c3 => ?_)
  · have h := zok_t c3 h
    refine Gz.iconst (n := 0) (v := (0 : Int32)) (pc' := 18) (by decide +kernel) rfl rfl ?_
    exact Gz.ireturn (by decide +kernel) rfl (zok_sI h)
  · have h := zok_f c3 h
    refine Gz.aload_n (q := 0) (pc' := 9) (by decide +kernel) rfl 0 rfl ?_
    refine Gz.getR (pc' := 12) (j := 2) 22 fd_La_20 sh_19 rfl (by decide +kernel) rfl ?_
    refine Gz.iload_n (q := 1) (pc' := 13) (by decide +kernel) rfl 1 rfl ?_
    obtain ⟨c4, h⟩ := zok_c h
    refine Gz.iald (pc' := 14) (n := 5) (by decide +kernel) rfl rfl c4 ?_
    refine Gz.goto (off := 4) (tgt := 18) (by decide +kernel) (by decide) ?_
    exact Gz.ireturn (by decide +kernel) rfl (zok_sI h)
def f_La_options (a1 : Int32) (w : gW) : Option (Int32 × gW) :=
zb (f_La_hasDeed a1 w) (fun v1 w2 =>
if v1 = 0 then
(some ((0 : Int32), w2))
else
(if inb a1 5 then
some (w2.1 21 (ix a1), w2)
else none))
theorem g_La_options {l : Launch} (a1 : Int32) (w : gW) : gCt l m_La_options 2 [.ref 19, .int a1] w eI (f_La_options a1 w) := by
  intro Q h
  unfold f_La_options at h
  show Gz l m_La_options 2 0 [(0, .ref 19), (1, .int a1)] [] w Q
  refine Gz.aload_n (q := 0) (pc' := 1) (by decide +kernel) rfl 0 rfl ?_
  refine Gz.iload_n (q := 1) (pc' := 2) (by decide +kernel) rfl 1 rfl ?_
  refine Gz.callVI (st := []) (b := 19) (pc' := 5) [.int a1] (g_La_hasDeed a1 w) h ok_m_La_hasDeed lk_La_38 sh_19 rfl rfl rfl (Nat.le_of_ble_eq_true rfl) (Nat.le_of_ble_eq_true rfl) (Nat.le_of_ble_eq_true rfl) (by decide +kernel) rfl (fun v1 w2 h => ?_)
  refine Gz.if_eq (off := 12) (tgt := 17) (pc' := 8) (by decide +kernel) (by decide) rfl (fun c3 => ?_) (fun c3 => ?_)
  · have h := zok_t c3 h
    refine Gz.iconst (n := 0) (v := (0 : Int32)) (pc' := 18) (by decide +kernel) rfl rfl ?_
    exact Gz.ireturn (by decide +kernel) rfl (zok_sI h)
  · have h := zok_f c3 h
    refine Gz.aload_n (q := 0) (pc' := 9) (by decide +kernel) rfl 0 rfl ?_
    refine Gz.getR (pc' := 12) (j := 1) 21 fd_La_17 sh_19 rfl (by decide +kernel) rfl ?_
    refine Gz.iload_n (q := 1) (pc' := 13) (by decide +kernel) rfl 1 rfl ?_
    obtain ⟨c4, h⟩ := zok_c h
    refine Gz.iald (pc' := 14) (n := 5) (by decide +kernel) rfl rfl c4 ?_
    refine Gz.goto (off := 4) (tgt := 18) (by decide +kernel) (by decide) ?_
    exact Gz.ireturn (by decide +kernel) rfl (zok_sI h)
def f_La_dayOf (a1 : Int32) (a2 : Int32) (w : gW) : Option (Int32 × gW) :=
zb (f_La_trait a1 (1 : Int32) w) (fun v1 w2 =>
zl (v1 + a2) (fun v3 =>
zb (f_La_trait a1 (2 : Int32) w2) (fun v5 w6 =>
if v5 < v3 then
(some ((9 : Int32), w6))
else
(some (v3, w6)))))
theorem g_La_dayOf {l : Launch} (a1 : Int32) (a2 : Int32) (w : gW) : gCt l m_La_dayOf 2 [.ref 19, .int a1, .int a2] w eI (f_La_dayOf a1 a2 w) := by
  intro Q h
  unfold f_La_dayOf at h
  show Gz l m_La_dayOf 2 0 [(0, .ref 19), (1, .int a1), (2, .int a2)] [] w Q
  refine Gz.aload_n (q := 0) (pc' := 1) (by decide +kernel) rfl 0 rfl ?_
  refine Gz.iload_n (q := 1) (pc' := 2) (by decide +kernel) rfl 1 rfl ?_
  refine Gz.iconst (n := 1) (v := (1 : Int32)) (pc' := 3) (by decide +kernel) rfl rfl ?_
  refine Gz.callVI (st := []) (b := 19) (pc' := 6) [.int a1, .int (1 : Int32)] (g_La_trait a1 (1 : Int32) w) h ok_m_La_trait lk_La_42 sh_19 rfl rfl rfl (Nat.le_of_ble_eq_true rfl) (Nat.le_of_ble_eq_true rfl) (Nat.le_of_ble_eq_true rfl) (by decide +kernel) rfl (fun v1 w2 h => ?_)
  refine Gz.iload_n (q := 2) (pc' := 7) (by decide +kernel) rfl 2 rfl ?_
  refine Gz.iadd (pc' := 8) (by decide +kernel) rfl ?_
  refine Gz.nmI (fun v3 e4 => ?_)
  have h := zok_l e4 h
  refine Gz.istore_n (q := 3) (pc' := 9) (L' := [(3, .int v3), (0, .ref 19), (1, .int a1), (2, .int a2)]) (by decide +kernel) rfl (Nat.le_of_ble_eq_true rfl) rfl ?_
  refine Gz.iload_n (q := 3) (pc' := 10) (by decide +kernel) rfl 0 rfl ?_
  refine Gz.aload_n (q := 0) (pc' := 11) (by decide +kernel) rfl 1 rfl ?_
  refine Gz.iload_n (q := 1) (pc' := 12) (by decide +kernel) rfl 2 rfl ?_
  refine Gz.iconst (n := 2) (v := (2 : Int32)) (pc' := 13) (by decide +kernel) rfl rfl ?_
  refine Gz.callVI (st := [.int v3]) (b := 19) (pc' := 16) [.int a1, .int (2 : Int32)] (g_La_trait a1 (2 : Int32) w2) h ok_m_La_trait lk_La_42 sh_19 rfl rfl rfl (Nat.le_of_ble_eq_true rfl) (Nat.le_of_ble_eq_true rfl) (Nat.le_of_ble_eq_true rfl) (by decide +kernel) rfl (fun v5 w6 h => ?_)
  refine Gz.icmp_gt (off := 7) (tgt := 23) (pc' := 19) (by decide +kernel) (by decide) rfl (fun c7 => ?_) (fun c7 => ?_)
  · have h := zok_t c7 h
    refine Gz.bipush (n := 9) (v := (9 : Int32)) (pc' := 25) (by decide +kernel) rfl rfl ?_
    exact Gz.ireturn (by decide +kernel) rfl (zok_sI h)
  · have h := zok_f c7 h
    refine Gz.iload_n (q := 3) (pc' := 20) (by decide +kernel) rfl 0 rfl ?_
    refine Gz.goto (off := 5) (tgt := 25) (by decide +kernel) (by decide) ?_
    exact Gz.ireturn (by decide +kernel) rfl (zok_sI h)
def f_Ro_fill_b73 (k2 : Nat → Int32 → Int32 → gW → Option (Unit × gW)) (x0 : Nat) (x2 : Int32) (x3 : Int32) (w : gW) : Option (Unit × gW) :=
zl (((x3 >>> ((6 : Int32) &&& 31)) + (1 : Int32)) <<< ((6 : Int32) &&& 31)) (fun v1 =>
k2 x0 x2 v1 w)
def f_Ro_fill_b52 (k2 : Nat → Int32 → Int32 → gW → Option (Unit × gW)) (x0 : Nat) (x2 : Int32) (x3 : Int32) (x4 : Int32) (x5 : Int64) (w : gW) : Option (Unit × gW) :=
if x4 < 0 then
(f_Ro_fill_b73 k2 x0 x2 x3 w)
else
(if (g_sh x0).1 = 2 then
if (nI (g_len 2 x0)) ≤ x4 then
(f_Ro_fill_b73 k2 x0 x2 x3 w)
else
(if inb x4 (g_len 2 x0) then
if inb x4 (g_len 2 x0) then
zl (zsL w x0 (ix x4) ((w.2 x0 (ix x4)) ||| x5)) (fun w6 =>
f_Ro_fill_b73 k2 x0 x2 x3 w6)
else none
else none)
else none)
def f_Ro_fill_b2_s (k2 : Nat → Int32 → Int32 → gW → Option (Unit × gW)) (x0 : Nat) (x2 : Int32) (x3 : Int32) (w : gW) : Option (Unit × gW) :=
if x2 ≤ x3 then
(some ((), w))
else
(zl (x3 >>> ((6 : Int32) &&& 31)) (fun v2 =>
zl (zslL (-1 : Int64) (x3 &&& (63 : Int32))) (fun v4 =>
if (64 : Int32) ≤ (x2 - (v2 <<< ((6 : Int32) &&& 31))) then
(f_Ro_fill_b52 k2 x0 x2 x3 v2 v4 w)
else
(zl (v4 &&& ((zslL (-1 : Int64) (x2 &&& (63 : Int32))) ^^^ (-1 : Int64))) (fun v7 =>
f_Ro_fill_b52 k2 x0 x2 x3 v2 v7 w)))))
def f_Ro_fill_b2 : Nat → Int32 → Int32 → gW → Option (Unit × gW) := zfx (fun _ _ _ _ => none) (f_Ro_fill_b2_s) zFU
def f_Ro_fill (a0 : Nat) (a1 : Int32) (a2 : Int32) (w : gW) : Option (Unit × gW) :=
f_Ro_fill_b2 a0 a2 a1 w
theorem g_Ro_fill_b73 {l : Launch} {Q : Option Value → gW → Prop} (k2 : Nat → Int32 → Int32 → gW → Option (Unit × gW)) (hk2 : ∀ (x0 : Nat) (x2 : Int32) (x3 : Int32) (w : gW), zok eV (k2 x0 x2 x3 w) Q → Gz l m_Ro_fill 1 2 [(0, .ref x0), (2, .int x2), (3, .int x3)] [] w Q) (x0 : Nat) (x2 : Int32) (x3 : Int32) (w : gW) (h : zok eV (f_Ro_fill_b73 k2 x0 x2 x3 w) Q) : Gz l m_Ro_fill 1 73 [(0, .ref x0), (2, .int x2), (3, .int x3)] [] w Q := by
  unfold f_Ro_fill_b73 at h
  refine Gz.iload_n (q := 3) (pc' := 74) (by decide +kernel) rfl 2 rfl ?_
  refine Gz.bipush (n := 6) (v := (6 : Int32)) (pc' := 76) (by decide +kernel) rfl rfl ?_
  refine Gz.ishr (pc' := 77) (by decide +kernel) rfl ?_
  refine Gz.iconst (n := 1) (v := (1 : Int32)) (pc' := 78) (by decide +kernel) rfl rfl ?_
  refine Gz.iadd (pc' := 79) (by decide +kernel) rfl ?_
  refine Gz.bipush (n := 6) (v := (6 : Int32)) (pc' := 81) (by decide +kernel) rfl rfl ?_
  refine Gz.ishl (pc' := 82) (by decide +kernel) rfl ?_
  refine Gz.nmI (fun v1 e2 => ?_)
  have h := zok_l e2 h
  refine Gz.istore_n (q := 3) (pc' := 83) (L' := [(3, .int v1), (0, .ref x0), (2, .int x2)]) (by decide +kernel) rfl (Nat.le_of_ble_eq_true rfl) rfl ?_
  refine Gz.goto (off := -81) (tgt := 2) (by decide +kernel) (by decide) ?_
  refine Gz.sub (L' := [(0, .ref x0), (2, .int x2), (3, .int v1)]) [1, 2, 0] rfl ?_
  exact hk2 x0 x2 v1 w h
theorem g_Ro_fill_b52 {l : Launch} {Q : Option Value → gW → Prop} (k2 : Nat → Int32 → Int32 → gW → Option (Unit × gW)) (hk2 : ∀ (x0 : Nat) (x2 : Int32) (x3 : Int32) (w : gW), zok eV (k2 x0 x2 x3 w) Q → Gz l m_Ro_fill 1 2 [(0, .ref x0), (2, .int x2), (3, .int x3)] [] w Q) (x0 : Nat) (x2 : Int32) (x3 : Int32) (x4 : Int32) (x5 : Int64) (w : gW) (h : zok eV (f_Ro_fill_b52 k2 x0 x2 x3 x4 x5 w) Q) : Gz l m_Ro_fill 1 52 [(0, .ref x0), (2, .int x2), (3, .int x3), (4, .int x4), (5, .long x5)] [] w Q := by
  unfold f_Ro_fill_b52 at h
  refine Gz.iload (i := 4) (pc' := 54) (by decide +kernel) rfl 3 rfl ?_
  refine Gz.if_lt (off := 19) (tgt := 73) (pc' := 57) (by decide +kernel) (by decide) rfl (fun c1 => ?_) (fun c1 => ?_)
  · have h := zok_t c1 h
    refine Gz.sub (L' := [(0, .ref x0), (2, .int x2), (3, .int x3)]) [0, 1, 2] rfl ?_
    exact g_Ro_fill_b73 k2 hk2 x0 x2 x3 w h
  · have h := zok_f c1 h
    refine Gz.iload (i := 4) (pc' := 59) (by decide +kernel) rfl 3 rfl ?_
    refine Gz.aload_n (q := 0) (pc' := 60) (by decide +kernel) rfl 0 rfl ?_
    obtain ⟨c2, h⟩ := zok_c h
    refine Gz.alen (pc' := 61) (n := g_len 2 x0) (kd := 2) (by decide +kernel) rfl (Or.inr rfl) c2 rfl ?_
    refine Gz.icmp_ge (off := 12) (tgt := 73) (pc' := 64) (by decide +kernel) (by decide) rfl (fun c3 => ?_) (fun c3 => ?_)
    · have h := zok_t c3 h
      refine Gz.sub (L' := [(0, .ref x0), (2, .int x2), (3, .int x3)]) [0, 1, 2] rfl ?_
      exact g_Ro_fill_b73 k2 hk2 x0 x2 x3 w h
    · have h := zok_f c3 h
      refine Gz.aload_n (q := 0) (pc' := 65) (by decide +kernel) rfl 0 rfl ?_
      refine Gz.iload (i := 4) (pc' := 67) (by decide +kernel) rfl 3 rfl ?_
      refine Gz.dup2 (pc' := 68) (by decide +kernel) rfl rfl rfl ?_
      obtain ⟨c4, h⟩ := zok_c h
      refine Gz.lald (pc' := 69) (n := (g_len 2 x0)) (by decide +kernel) rfl rfl c4 ?_
      refine Gz.lload (i := 5) (pc' := 71) (by decide +kernel) rfl 4 rfl ?_
      refine Gz.lor (pc' := 72) (by decide +kernel) rfl ?_
      obtain ⟨c5, h⟩ := zok_c h
      refine Gz.last (pc' := 73) (n := (g_len 2 x0)) (by decide +kernel) rfl rfl c5 ?_
      refine Gz.nmW (fun w6 e7 => ?_)
      have h := zok_l e7 h
      refine Gz.sub (L' := [(0, .ref x0), (2, .int x2), (3, .int x3)]) [0, 1, 2] rfl ?_
      exact g_Ro_fill_b73 k2 hk2 x0 x2 x3 w6 h
theorem g_Ro_fill_b2_s {l : Launch} {Q : Option Value → gW → Prop} (k2 : Nat → Int32 → Int32 → gW → Option (Unit × gW)) (hk2 : ∀ (x0 : Nat) (x2 : Int32) (x3 : Int32) (w : gW), zok eV (k2 x0 x2 x3 w) Q → Gz l m_Ro_fill 1 2 [(0, .ref x0), (2, .int x2), (3, .int x3)] [] w Q) (x0 : Nat) (x2 : Int32) (x3 : Int32) (w : gW) (h : zok eV (f_Ro_fill_b2_s k2 x0 x2 x3 w) Q) : Gz l m_Ro_fill 1 2 [(0, .ref x0), (2, .int x2), (3, .int x3)] [] w Q := by
  unfold f_Ro_fill_b2_s at h
  refine Gz.iload_n (q := 3) (pc' := 3) (by decide +kernel) rfl 2 rfl ?_
  refine Gz.iload_n (q := 2) (pc' := 4) (by decide +kernel) rfl 1 rfl ?_
  refine Gz.icmp_ge (off := 82) (tgt := 86) (pc' := 7) (by decide +kernel) (by decide) rfl (fun c1 => ?_) (fun c1 => ?_)
  · have h := zok_t c1 h
    exact Gz.return_ (by decide +kernel) rfl (zok_sV h)
  · have h := zok_f c1 h
    refine Gz.iload_n (q := 3) (pc' := 8) (by decide +kernel) rfl 2 rfl ?_
    refine Gz.bipush (n := 6) (v := (6 : Int32)) (pc' := 10) (by decide +kernel) rfl rfl ?_
    refine Gz.ishr (pc' := 11) (by decide +kernel) rfl ?_
    refine Gz.nmI (fun v2 e3 => ?_)
    have h := zok_l e3 h
    refine Gz.istore (i := 4) (pc' := 13) (L' := [(4, .int v2), (0, .ref x0), (2, .int x2), (3, .int x3)]) (by decide +kernel) rfl (Nat.le_of_ble_eq_true rfl) rfl ?_
    refine Gz.ldc2 (idx := 15) (v := (-1 : Int64)) (pc' := 16) (by decide +kernel) rfl kc_Ro_15 ?_
    refine Gz.iload_n (q := 3) (pc' := 17) (by decide +kernel) rfl 3 rfl ?_
    refine Gz.bipush (n := 63) (v := (63 : Int32)) (pc' := 19) (by decide +kernel) rfl rfl ?_
    refine Gz.iand (pc' := 20) (by decide +kernel) rfl ?_
    refine Gz.lshl (pc' := 21) (by decide +kernel) rfl ?_
    refine Gz.nmJ (fun v4 e5 => ?_)
    have h := zok_l e5 h
    refine Gz.lstore (i := 5) (pc' := 23) (L' := [(5, .long v4), (4, .int v2), (0, .ref x0), (2, .int x2), (3, .int x3)]) (by decide +kernel) rfl (Nat.le_of_ble_eq_true rfl) rfl ?_
    refine Gz.iload_n (q := 2) (pc' := 24) (by decide +kernel) rfl 3 rfl ?_
    refine Gz.iload (i := 4) (pc' := 26) (by decide +kernel) rfl 1 rfl ?_
    refine Gz.bipush (n := 6) (v := (6 : Int32)) (pc' := 28) (by decide +kernel) rfl rfl ?_
    refine Gz.ishl (pc' := 29) (by decide +kernel) rfl ?_
    refine Gz.isub (pc' := 30) (by decide +kernel) rfl ?_
    refine Gz.bipush (n := 64) (v := (64 : Int32)) (pc' := 32) (by decide +kernel) rfl rfl ?_
    refine Gz.icmp_ge (off := 20) (tgt := 52) (pc' := 35) (by decide +kernel) (by decide) rfl (fun c6 => ?_) (fun c6 => ?_)
    · have h := zok_t c6 h
      refine Gz.sub (L' := [(0, .ref x0), (2, .int x2), (3, .int x3), (4, .int v2), (5, .long v4)]) [2, 3, 4, 1, 0] rfl ?_
      exact g_Ro_fill_b52 k2 hk2 x0 x2 x3 v2 v4 w h
    · have h := zok_f c6 h
      refine Gz.lload (i := 5) (pc' := 37) (by decide +kernel) rfl 0 rfl ?_
      refine Gz.ldc2 (idx := 15) (v := (-1 : Int64)) (pc' := 40) (by decide +kernel) rfl kc_Ro_15 ?_
      refine Gz.iload_n (q := 2) (pc' := 41) (by decide +kernel) rfl 3 rfl ?_
      refine Gz.bipush (n := 63) (v := (63 : Int32)) (pc' := 43) (by decide +kernel) rfl rfl ?_
      refine Gz.iand (pc' := 44) (by decide +kernel) rfl ?_
      refine Gz.lshl (pc' := 45) (by decide +kernel) rfl ?_
      refine Gz.ldc2 (idx := 15) (v := (-1 : Int64)) (pc' := 48) (by decide +kernel) rfl kc_Ro_15 ?_
      refine Gz.lxor (pc' := 49) (by decide +kernel) rfl ?_
      refine Gz.land (pc' := 50) (by decide +kernel) rfl ?_
      refine Gz.nmJ (fun v7 e8 => ?_)
      have h := zok_l e8 h
      refine Gz.lstore (i := 5) (pc' := 52) (L' := [(5, .long v7), (4, .int v2), (0, .ref x0), (2, .int x2), (3, .int x3)]) (by decide +kernel) rfl (Nat.le_of_ble_eq_true rfl) rfl ?_
      refine Gz.sub (L' := [(0, .ref x0), (2, .int x2), (3, .int x3), (4, .int v2), (5, .long v7)]) [2, 3, 4, 1, 0] rfl ?_
      exact g_Ro_fill_b52 k2 hk2 x0 x2 x3 v2 v7 w h
theorem g_Ro_fill_b2 {l : Launch} {Q : Option Value → gW → Prop} (x0 : Nat) (x2 : Int32) (x3 : Int32) (w : gW) (h : zok eV (f_Ro_fill_b2 x0 x2 x3 w) Q) : Gz l m_Ro_fill 1 2 [(0, .ref x0), (2, .int x2), (3, .int x3)] [] w Q := by
  have key : ∀ (n : Nat) (x0 : Nat) (x2 : Int32) (x3 : Int32) (w : gW), zok eV (zfx (fun _ _ _ _ => none) (f_Ro_fill_b2_s) n x0 x2 x3 w) Q → Gz l m_Ro_fill 1 2 [(0, .ref x0), (2, .int x2), (3, .int x3)] [] w Q := by
    intro n
    induction n with
    | zero => intro x0 x2 x3 w h; exact zok_n h
    | succ n ih => intro x0 x2 x3 w h; exact g_Ro_fill_b2_s _ ih x0 x2 x3 w h
  exact key zFU x0 x2 x3 w h
theorem g_Ro_fill {l : Launch} (a0 : Nat) (a1 : Int32) (a2 : Int32) (w : gW) : gCt l m_Ro_fill 1 [.ref a0, .int a1, .int a2] w eV (f_Ro_fill a0 a1 a2 w) := by
  intro Q h
  unfold f_Ro_fill at h
  show Gz l m_Ro_fill 1 0 [(0, .ref a0), (1, .int a1), (2, .int a2)] [] w Q
  refine Gz.iload_n (q := 1) (pc' := 1) (by decide +kernel) rfl 1 rfl ?_
  refine Gz.istore_n (q := 3) (pc' := 2) (L' := [(3, .int a1), (0, .ref a0), (1, .int a1), (2, .int a2)]) (by decide +kernel) rfl (Nat.le_of_ble_eq_true rfl) rfl ?_
  refine Gz.sub (L' := [(0, .ref a0), (2, .int a2), (3, .int a1)]) [1, 3, 0] rfl ?_
  exact g_Ro_fill_b2 a0 a2 a1 w h
def f_La_words (w : gW) : Option (Int32 × gW) :=
some (((w.1 19 6) + (63 : Int32)) >>> ((6 : Int32) &&& 31), w)
theorem g_La_words {l : Launch} (w : gW) : gCt l m_La_words 1 [.ref 19] w eI (f_La_words w) := by
  intro Q h
  unfold f_La_words at h
  show Gz l m_La_words 1 0 [(0, .ref 19)] [] w Q
  refine Gz.aload_n (q := 0) (pc' := 1) (by decide +kernel) rfl 0 rfl ?_
  refine Gz.getI (pc' := 4) (j := 6) fd_La_35 sh_19 rfl (by decide +kernel) rfl ?_
  refine Gz.bipush (n := 63) (v := (63 : Int32)) (pc' := 6) (by decide +kernel) rfl rfl ?_
  refine Gz.iadd (pc' := 7) (by decide +kernel) rfl ?_
  refine Gz.bipush (n := 6) (v := (6 : Int32)) (pc' := 9) (by decide +kernel) rfl rfl ?_
  refine Gz.ishr (pc' := 10) (by decide +kernel) rfl ?_
  exact Gz.ireturn (by decide +kernel) rfl (zok_sI h)
def f_Ro_join_b2_s (k2 : Nat → Nat → Int32 → Int32 → gW → Option (Unit × gW)) (x0 : Nat) (x1 : Nat) (x2 : Int32) (x3 : Int32) (w : gW) : Option (Unit × gW) :=
if x2 ≤ x3 then
(some ((), w))
else
(if (g_sh x0).1 = 2 then
if (nI (g_len 2 x0)) ≤ x3 then
(some ((), w))
else
(if (g_sh x1).1 = 2 then
if (nI (g_len 2 x1)) ≤ x3 then
(some ((), w))
else
(if inb x3 (g_len 2 x0) then
if inb x3 (g_len 2 x1) then
if inb x3 (g_len 2 x0) then
zl (zsL w x0 (ix x3) ((w.2 x0 (ix x3)) ||| (w.2 x1 (ix x3)))) (fun w9 =>
zl (x3 + (1 : Int32)) (fun v11 =>
k2 x0 x1 x2 v11 w9))
else none
else none
else none)
else none)
else none)
def f_Ro_join_b2 : Nat → Nat → Int32 → Int32 → gW → Option (Unit × gW) := zfx (fun _ _ _ _ _ => none) (f_Ro_join_b2_s) zFU
def f_Ro_join (a0 : Nat) (a1 : Nat) (a2 : Int32) (w : gW) : Option (Unit × gW) :=
f_Ro_join_b2 a0 a1 a2 (0 : Int32) w
theorem g_Ro_join_b2_s {l : Launch} {Q : Option Value → gW → Prop} (k2 : Nat → Nat → Int32 → Int32 → gW → Option (Unit × gW)) (hk2 : ∀ (x0 : Nat) (x1 : Nat) (x2 : Int32) (x3 : Int32) (w : gW), zok eV (k2 x0 x1 x2 x3 w) Q → Gz l m_Ro_join 1 2 [(0, .ref x0), (1, .ref x1), (2, .int x2), (3, .int x3)] [] w Q) (x0 : Nat) (x1 : Nat) (x2 : Int32) (x3 : Int32) (w : gW) (h : zok eV (f_Ro_join_b2_s k2 x0 x1 x2 x3 w) Q) : Gz l m_Ro_join 1 2 [(0, .ref x0), (1, .ref x1), (2, .int x2), (3, .int x3)] [] w Q := by
  unfold f_Ro_join_b2_s at h
  refine Gz.iload_n (q := 3) (pc' := 3) (by decide +kernel) rfl 3 rfl ?_
  refine Gz.iload_n (q := 2) (pc' := 4) (by decide +kernel) rfl 2 rfl ?_
  refine Gz.icmp_ge (off := 30) (tgt := 34) (pc' := 7) (by decide +kernel) (by decide) rfl (fun c1 => ?_) (fun c1 => ?_)
  · have h := zok_t c1 h
    exact Gz.return_ (by decide +kernel) rfl (zok_sV h)
  · have h := zok_f c1 h
    refine Gz.iload_n (q := 3) (pc' := 8) (by decide +kernel) rfl 3 rfl ?_
    refine Gz.aload_n (q := 0) (pc' := 9) (by decide +kernel) rfl 0 rfl ?_
    obtain ⟨c2, h⟩ := zok_c h
    refine Gz.alen (pc' := 10) (n := g_len 2 x0) (kd := 2) (by decide +kernel) rfl (Or.inr rfl) c2 rfl ?_
    refine Gz.icmp_ge (off := 24) (tgt := 34) (pc' := 13) (by decide +kernel) (by decide) rfl (fun c3 => ?_) (fun c3 => ?_)
    · have h := zok_t c3 h
      exact Gz.return_ (by decide +kernel) rfl (zok_sV h)
    · have h := zok_f c3 h
      refine Gz.iload_n (q := 3) (pc' := 14) (by decide +kernel) rfl 3 rfl ?_
      refine Gz.aload_n (q := 1) (pc' := 15) (by decide +kernel) rfl 1 rfl ?_
      obtain ⟨c4, h⟩ := zok_c h
      refine Gz.alen (pc' := 16) (n := g_len 2 x1) (kd := 2) (by decide +kernel) rfl (Or.inr rfl) c4 rfl ?_
      refine Gz.icmp_ge (off := 18) (tgt := 34) (pc' := 19) (by decide +kernel) (by decide) rfl (fun c5 => ?_) (fun c5 => ?_)
      · have h := zok_t c5 h
        exact Gz.return_ (by decide +kernel) rfl (zok_sV h)
      · have h := zok_f c5 h
        refine Gz.aload_n (q := 0) (pc' := 20) (by decide +kernel) rfl 0 rfl ?_
        refine Gz.iload_n (q := 3) (pc' := 21) (by decide +kernel) rfl 3 rfl ?_
        refine Gz.dup2 (pc' := 22) (by decide +kernel) rfl rfl rfl ?_
        obtain ⟨c6, h⟩ := zok_c h
        refine Gz.lald (pc' := 23) (n := (g_len 2 x0)) (by decide +kernel) rfl rfl c6 ?_
        refine Gz.aload_n (q := 1) (pc' := 24) (by decide +kernel) rfl 1 rfl ?_
        refine Gz.iload_n (q := 3) (pc' := 25) (by decide +kernel) rfl 3 rfl ?_
        obtain ⟨c7, h⟩ := zok_c h
        refine Gz.lald (pc' := 26) (n := (g_len 2 x1)) (by decide +kernel) rfl rfl c7 ?_
        refine Gz.lor (pc' := 27) (by decide +kernel) rfl ?_
        obtain ⟨c8, h⟩ := zok_c h
        refine Gz.last (pc' := 28) (n := (g_len 2 x0)) (by decide +kernel) rfl rfl c8 ?_
        refine Gz.nmW (fun w9 e10 => ?_)
        have h := zok_l e10 h
        obtain ⟨v11, e12⟩ : ∃ y : Int32, y = x3 + (1 : Int32) := ⟨_, rfl⟩
        have h := zok_l e12 h
        refine Gz.iinc (i := 3) (n := 1) (pc' := 31) (L' := [(3, .int v11), (0, .ref x0), (1, .ref x1), (2, .int x2)]) v11 (by decide +kernel) rfl 3 rfl (by rw [e12]; rfl) (Nat.le_of_ble_eq_true rfl) rfl ?_
        refine Gz.goto (off := -29) (tgt := 2) (by decide +kernel) (by decide) ?_
        refine Gz.sub (L' := [(0, .ref x0), (1, .ref x1), (2, .int x2), (3, .int v11)]) [1, 2, 3, 0] rfl ?_
        exact hk2 x0 x1 x2 v11 w9 h
theorem g_Ro_join_b2 {l : Launch} {Q : Option Value → gW → Prop} (x0 : Nat) (x1 : Nat) (x2 : Int32) (x3 : Int32) (w : gW) (h : zok eV (f_Ro_join_b2 x0 x1 x2 x3 w) Q) : Gz l m_Ro_join 1 2 [(0, .ref x0), (1, .ref x1), (2, .int x2), (3, .int x3)] [] w Q := by
  have key : ∀ (n : Nat) (x0 : Nat) (x1 : Nat) (x2 : Int32) (x3 : Int32) (w : gW), zok eV (zfx (fun _ _ _ _ _ => none) (f_Ro_join_b2_s) n x0 x1 x2 x3 w) Q → Gz l m_Ro_join 1 2 [(0, .ref x0), (1, .ref x1), (2, .int x2), (3, .int x3)] [] w Q := by
    intro n
    induction n with
    | zero => intro x0 x1 x2 x3 w h; exact zok_n h
    | succ n ih => intro x0 x1 x2 x3 w h; exact g_Ro_join_b2_s _ ih x0 x1 x2 x3 w h
  exact key zFU x0 x1 x2 x3 w h
theorem g_Ro_join {l : Launch} (a0 : Nat) (a1 : Nat) (a2 : Int32) (w : gW) : gCt l m_Ro_join 1 [.ref a0, .ref a1, .int a2] w eV (f_Ro_join a0 a1 a2 w) := by
  intro Q h
  unfold f_Ro_join at h
  show Gz l m_Ro_join 1 0 [(0, .ref a0), (1, .ref a1), (2, .int a2)] [] w Q
  refine Gz.iconst (n := 0) (v := (0 : Int32)) (pc' := 1) (by decide +kernel) rfl rfl ?_
  refine Gz.istore_n (q := 3) (pc' := 2) (L' := [(3, .int (0 : Int32)), (0, .ref a0), (1, .ref a1), (2, .int a2)]) (by decide +kernel) rfl (Nat.le_of_ble_eq_true rfl) rfl ?_
  refine Gz.sub (L' := [(0, .ref a0), (1, .ref a1), (2, .int a2), (3, .int (0 : Int32))]) [1, 2, 3, 0] rfl ?_
  exact g_Ro_join_b2 a0 a1 a2 (0 : Int32) w h
def f_La_watch_b118_s (k118 : Int32 → Int32 → gW → Option (Unit × gW)) (x1 : Int32) (x3 : Int32) (w : gW) : Option (Unit × gW) :=
if (7 : Int32) ≤ x3 then
(some ((), w))
else
(zb (f_La_sight x1 x3 w) (fun v2 w3 =>
zb (f_La_sight x1 (x3 - (1 : Int32)) w3) (fun v4 w5 =>
zb (f_La_words w5) (fun v6 w7 =>
zb (f_Ro_join v2 v4 v6 w7) (fun _ w8 =>
zl (x3 + (1 : Int32)) (fun v9 =>
k118 x1 v9 w8))))))
def f_La_watch_b118 : Int32 → Int32 → gW → Option (Unit × gW) := zfx (fun _ _ _ => none) (f_La_watch_b118_s) zFU
def f_La_watch_b116 (x1 : Int32) (w : gW) : Option (Unit × gW) :=
f_La_watch_b118 x1 (1 : Int32) w
def f_La_watch_b52_s (k37 : Int32 → Int32 → Int32 → gW → Option (Unit × gW)) (k52 : Int32 → Int32 → Int32 → Int32 → gW → Option (Unit × gW)) (x1 : Int32) (x2 : Int32) (x3 : Int32) (x4 : Int32) (w : gW) : Option (Unit × gW) :=
zb (f_La_options x1 w) (fun v1 w2 =>
if (v1 - (1 : Int32)) ≤ x4 then
(zl (x3 + x2) (fun v4 =>
k37 x1 x2 v4 w2))
else
(zb (f_La_stride x1 w2) (fun v6 w7 =>
zl (x3 + (x4 * v6)) (fun v8 =>
zb (f_La_dayOf x1 x4 w7) (fun v10 w11 =>
zb (f_La_sight x1 (v10 + (1 : Int32)) w11) (fun v12 w13 =>
zb (f_La_stride x1 w13) (fun v14 w15 =>
zb (f_Ro_fill v12 v8 (v8 + v14) w15) (fun _ w16 =>
zl (x4 + (1 : Int32)) (fun v17 =>
k52 x1 x2 x3 v17 w16)))))))))
def f_La_watch_b52 (k37 : Int32 → Int32 → Int32 → gW → Option (Unit × gW)) : Int32 → Int32 → Int32 → Int32 → gW → Option (Unit × gW) := zfx (fun _ _ _ _ _ => none) (f_La_watch_b52_s k37) zFU
def f_La_watch_b37_s (k37 : Int32 → Int32 → Int32 → gW → Option (Unit × gW)) (x1 : Int32) (x2 : Int32) (x3 : Int32) (w : gW) : Option (Unit × gW) :=
if x2 ≤ 0 then
(f_La_watch_b116 x1 w)
else
(if (w.1 19 6) ≤ x3 then
(f_La_watch_b116 x1 w)
else
(f_La_watch_b52 k37 x1 x2 x3 (0 : Int32) w))
def f_La_watch_b37 : Int32 → Int32 → Int32 → gW → Option (Unit × gW) := zfx (fun _ _ _ _ => none) (f_La_watch_b37_s) zFU
def f_La_watch_b2_s (k2 : Int32 → Int32 → gW → Option (Unit × gW)) (x1 : Int32) (x2 : Int32) (w : gW) : Option (Unit × gW) :=
if (7 : Int32) ≤ x2 then
(zb (f_La_stride x1 w) (fun v2 w3 =>
zb (f_La_options x1 w3) (fun v4 w5 =>
zl (v2 * v4) (fun v6 =>
f_La_watch_b37 x1 v6 (0 : Int32) w5))))
else
(zb (f_La_sight x1 x2 w) (fun v8 w9 =>
zb (f_Ro_clear v8 w9) (fun _ w10 =>
zl (x2 + (1 : Int32)) (fun v11 =>
k2 x1 v11 w10))))
def f_La_watch_b2 : Int32 → Int32 → gW → Option (Unit × gW) := zfx (fun _ _ _ => none) (f_La_watch_b2_s) zFU
def f_La_watch (a1 : Int32) (w : gW) : Option (Unit × gW) :=
f_La_watch_b2 a1 (0 : Int32) w
theorem g_La_watch_b118_s {l : Launch} {Q : Option Value → gW → Prop} (k118 : Int32 → Int32 → gW → Option (Unit × gW)) (hk118 : ∀ (x1 : Int32) (x3 : Int32) (w : gW), zok eV (k118 x1 x3 w) Q → Gz l m_La_watch 3 118 [(0, .ref 19), (1, .int x1), (3, .int x3)] [] w Q) (x1 : Int32) (x3 : Int32) (w : gW) (h : zok eV (f_La_watch_b118_s k118 x1 x3 w) Q) : Gz l m_La_watch 3 118 [(0, .ref 19), (1, .int x1), (3, .int x3)] [] w Q := by
  unfold f_La_watch_b118_s at h
  refine Gz.iload_n (q := 3) (pc' := 119) (by decide +kernel) rfl 2 rfl ?_
  refine Gz.bipush (n := 7) (v := (7 : Int32)) (pc' := 121) (by decide +kernel) rfl rfl ?_
  refine Gz.icmp_ge (off := 30) (tgt := 151) (pc' := 124) (by decide +kernel) (by decide) rfl (fun c1 => ?_) (fun c1 => ?_)
  · have h := zok_t c1 h
    exact Gz.return_ (by decide +kernel) rfl (zok_sV h)
  · have h := zok_f c1 h
    refine Gz.aload_n (q := 0) (pc' := 125) (by decide +kernel) rfl 0 rfl ?_
    refine Gz.iload_n (q := 1) (pc' := 126) (by decide +kernel) rfl 1 rfl ?_
    refine Gz.iload_n (q := 3) (pc' := 127) (by decide +kernel) rfl 2 rfl ?_
    refine Gz.callVR (st := []) (b := 19) (pc' := 130) [.int x1, .int x3] (g_La_sight x1 x3 w) h ok_m_La_sight lk_La_79 sh_19 rfl rfl rfl (Nat.le_of_ble_eq_true rfl) (Nat.le_of_ble_eq_true rfl) (Nat.le_of_ble_eq_true rfl) (by decide +kernel) rfl (fun v2 w3 h => ?_)
    refine Gz.aload_n (q := 0) (pc' := 131) (by decide +kernel) rfl 0 rfl ?_
    refine Gz.iload_n (q := 1) (pc' := 132) (by decide +kernel) rfl 1 rfl ?_
    refine Gz.iload_n (q := 3) (pc' := 133) (by decide +kernel) rfl 2 rfl ?_
    refine Gz.iconst (n := 1) (v := (1 : Int32)) (pc' := 134) (by decide +kernel) rfl rfl ?_
    refine Gz.isub (pc' := 135) (by decide +kernel) rfl ?_
    refine Gz.callVR (st := [.ref v2]) (b := 19) (pc' := 138) [.int x1, .int (x3 - (1 : Int32))] (g_La_sight x1 (x3 - (1 : Int32)) w3) h ok_m_La_sight lk_La_79 sh_19 rfl rfl rfl (Nat.le_of_ble_eq_true rfl) (Nat.le_of_ble_eq_true rfl) (Nat.le_of_ble_eq_true rfl) (by decide +kernel) rfl (fun v4 w5 h => ?_)
    refine Gz.aload_n (q := 0) (pc' := 139) (by decide +kernel) rfl 0 rfl ?_
    refine Gz.callVI (st := [.ref v4, .ref v2]) (b := 19) (pc' := 142) [] (g_La_words w5) h ok_m_La_words lk_La_93 sh_19 rfl rfl rfl (Nat.le_of_ble_eq_true rfl) (Nat.le_of_ble_eq_true rfl) (Nat.le_of_ble_eq_true rfl) (by decide +kernel) rfl (fun v6 w7 h => ?_)
    refine Gz.callSV (st := []) (pc' := 145) [.ref v2, .ref v4, .int v6] (g_Ro_join v2 v4 v6 w7) h ok_m_Ro_join lk_La_96 rfl (Nat.le_of_ble_eq_true rfl) (Nat.le_of_ble_eq_true rfl) (Nat.le_of_ble_eq_true rfl) (by decide +kernel) rfl (fun _ w8 h => ?_)
    obtain ⟨v9, e10⟩ : ∃ y : Int32, y = x3 + (1 : Int32) := ⟨_, rfl⟩
    have h := zok_l e10 h
    refine Gz.iinc (i := 3) (n := 1) (pc' := 148) (L' := [(3, .int v9), (0, .ref 19), (1, .int x1)]) v9 (by decide +kernel) rfl 2 rfl (by rw [e10]; rfl) (Nat.le_of_ble_eq_true rfl) rfl ?_
    refine Gz.goto (off := -30) (tgt := 118) (by decide +kernel) (by decide) ?_
    refine Gz.sub (L' := [(0, .ref 19), (1, .int x1), (3, .int v9)]) [1, 2, 0] rfl ?_
    exact hk118 x1 v9 w8 h
theorem g_La_watch_b118 {l : Launch} {Q : Option Value → gW → Prop} (x1 : Int32) (x3 : Int32) (w : gW) (h : zok eV (f_La_watch_b118 x1 x3 w) Q) : Gz l m_La_watch 3 118 [(0, .ref 19), (1, .int x1), (3, .int x3)] [] w Q := by
  have key : ∀ (n : Nat) (x1 : Int32) (x3 : Int32) (w : gW), zok eV (zfx (fun _ _ _ => none) (f_La_watch_b118_s) n x1 x3 w) Q → Gz l m_La_watch 3 118 [(0, .ref 19), (1, .int x1), (3, .int x3)] [] w Q := by
    intro n
    induction n with
    | zero => intro x1 x3 w h; exact zok_n h
    | succ n ih => intro x1 x3 w h; exact g_La_watch_b118_s _ ih x1 x3 w h
  exact key zFU x1 x3 w h
theorem g_La_watch_b116 {l : Launch} {Q : Option Value → gW → Prop} (x1 : Int32) (w : gW) (h : zok eV (f_La_watch_b116 x1 w) Q) : Gz l m_La_watch 3 116 [(0, .ref 19), (1, .int x1)] [] w Q := by
  unfold f_La_watch_b116 at h
  refine Gz.iconst (n := 1) (v := (1 : Int32)) (pc' := 117) (by decide +kernel) rfl rfl ?_
  refine Gz.istore_n (q := 3) (pc' := 118) (L' := [(3, .int (1 : Int32)), (0, .ref 19), (1, .int x1)]) (by decide +kernel) rfl (Nat.le_of_ble_eq_true rfl) rfl ?_
  refine Gz.sub (L' := [(0, .ref 19), (1, .int x1), (3, .int (1 : Int32))]) [1, 2, 0] rfl ?_
  exact g_La_watch_b118 x1 (1 : Int32) w h
theorem g_La_watch_b52_s {l : Launch} {Q : Option Value → gW → Prop} (k37 : Int32 → Int32 → Int32 → gW → Option (Unit × gW)) (hk37 : ∀ (x1 : Int32) (x2 : Int32) (x3 : Int32) (w : gW), zok eV (k37 x1 x2 x3 w) Q → Gz l m_La_watch 3 37 [(0, .ref 19), (1, .int x1), (2, .int x2), (3, .int x3)] [] w Q) (k52 : Int32 → Int32 → Int32 → Int32 → gW → Option (Unit × gW)) (hk52 : ∀ (x1 : Int32) (x2 : Int32) (x3 : Int32) (x4 : Int32) (w : gW), zok eV (k52 x1 x2 x3 x4 w) Q → Gz l m_La_watch 3 52 [(0, .ref 19), (1, .int x1), (2, .int x2), (3, .int x3), (4, .int x4)] [] w Q) (x1 : Int32) (x2 : Int32) (x3 : Int32) (x4 : Int32) (w : gW) (h : zok eV (f_La_watch_b52_s k37 k52 x1 x2 x3 x4 w) Q) : Gz l m_La_watch 3 52 [(0, .ref 19), (1, .int x1), (2, .int x2), (3, .int x3), (4, .int x4)] [] w Q := by
  unfold f_La_watch_b52_s at h
  refine Gz.iload (i := 4) (pc' := 54) (by decide +kernel) rfl 4 rfl ?_
  refine Gz.aload_n (q := 0) (pc' := 55) (by decide +kernel) rfl 0 rfl ?_
  refine Gz.iload_n (q := 1) (pc' := 56) (by decide +kernel) rfl 1 rfl ?_
  refine Gz.callVI (st := [.int x4]) (b := 19) (pc' := 59) [.int x1] (g_La_options x1 w) h ok_m_La_options lk_La_77 sh_19 rfl rfl rfl (Nat.le_of_ble_eq_true rfl) (Nat.le_of_ble_eq_true rfl) (Nat.le_of_ble_eq_true rfl) (by decide +kernel) rfl (fun v1 w2 h => ?_)
  refine Gz.iconst (n := 1) (v := (1 : Int32)) (pc' := 60) (by decide +kernel) rfl rfl ?_
  refine Gz.isub (pc' := 61) (by decide +kernel) rfl ?_
  refine Gz.icmp_ge (off := 48) (tgt := 109) (pc' := 64) (by decide +kernel) (by decide) rfl (fun c3 => ?_) (fun c3 => ?_)
  · have h := zok_t c3 h
    refine Gz.iload_n (q := 3) (pc' := 110) (by decide +kernel) rfl 3 rfl ?_
    refine Gz.iload_n (q := 2) (pc' := 111) (by decide +kernel) rfl 2 rfl ?_
    refine Gz.iadd (pc' := 112) (by decide +kernel) rfl ?_
    refine Gz.nmI (fun v4 e5 => ?_)
    have h := zok_l e5 h
    refine Gz.istore_n (q := 3) (pc' := 113) (L' := [(3, .int v4), (0, .ref 19), (1, .int x1), (2, .int x2), (4, .int x4)]) (by decide +kernel) rfl (Nat.le_of_ble_eq_true rfl) rfl ?_
    refine Gz.goto (off := -76) (tgt := 37) (by decide +kernel) (by decide) ?_
    refine Gz.sub (L' := [(0, .ref 19), (1, .int x1), (2, .int x2), (3, .int v4)]) [1, 2, 3, 0] rfl ?_
    exact hk37 x1 x2 v4 w2 h
  · have h := zok_f c3 h
    refine Gz.iload_n (q := 3) (pc' := 65) (by decide +kernel) rfl 3 rfl ?_
    refine Gz.iload (i := 4) (pc' := 67) (by decide +kernel) rfl 4 rfl ?_
    refine Gz.aload_n (q := 0) (pc' := 68) (by decide +kernel) rfl 0 rfl ?_
    refine Gz.iload_n (q := 1) (pc' := 69) (by decide +kernel) rfl 1 rfl ?_
    refine Gz.callVI (st := [.int x4, .int x3]) (b := 19) (pc' := 72) [.int x1] (g_La_stride x1 w2) h ok_m_La_stride lk_La_55 sh_19 rfl rfl rfl (Nat.le_of_ble_eq_true rfl) (Nat.le_of_ble_eq_true rfl) (Nat.le_of_ble_eq_true rfl) (by decide +kernel) rfl (fun v6 w7 h => ?_)
    refine Gz.imul (pc' := 73) (by decide +kernel) rfl ?_
    refine Gz.iadd (pc' := 74) (by decide +kernel) rfl ?_
    refine Gz.nmI (fun v8 e9 => ?_)
    have h := zok_l e9 h
    refine Gz.istore (i := 5) (pc' := 76) (L' := [(5, .int v8), (0, .ref 19), (1, .int x1), (2, .int x2), (3, .int x3), (4, .int x4)]) (by decide +kernel) rfl (Nat.le_of_ble_eq_true rfl) rfl ?_
    refine Gz.aload_n (q := 0) (pc' := 77) (by decide +kernel) rfl 1 rfl ?_
    refine Gz.iload_n (q := 1) (pc' := 78) (by decide +kernel) rfl 2 rfl ?_
    refine Gz.aload_n (q := 0) (pc' := 79) (by decide +kernel) rfl 1 rfl ?_
    refine Gz.iload_n (q := 1) (pc' := 80) (by decide +kernel) rfl 2 rfl ?_
    refine Gz.iload (i := 4) (pc' := 82) (by decide +kernel) rfl 5 rfl ?_
    refine Gz.callVI (st := [.int x1, .ref 19]) (b := 19) (pc' := 85) [.int x1, .int x4] (g_La_dayOf x1 x4 w7) h ok_m_La_dayOf lk_La_46 sh_19 rfl rfl rfl (Nat.le_of_ble_eq_true rfl) (Nat.le_of_ble_eq_true rfl) (Nat.le_of_ble_eq_true rfl) (by decide +kernel) rfl (fun v10 w11 h => ?_)
    refine Gz.iconst (n := 1) (v := (1 : Int32)) (pc' := 86) (by decide +kernel) rfl rfl ?_
    refine Gz.iadd (pc' := 87) (by decide +kernel) rfl ?_
    refine Gz.callVR (st := []) (b := 19) (pc' := 90) [.int x1, .int (v10 + (1 : Int32))] (g_La_sight x1 (v10 + (1 : Int32)) w11) h ok_m_La_sight lk_La_79 sh_19 rfl rfl rfl (Nat.le_of_ble_eq_true rfl) (Nat.le_of_ble_eq_true rfl) (Nat.le_of_ble_eq_true rfl) (by decide +kernel) rfl (fun v12 w13 h => ?_)
    refine Gz.iload (i := 5) (pc' := 92) (by decide +kernel) rfl 0 rfl ?_
    refine Gz.iload (i := 5) (pc' := 94) (by decide +kernel) rfl 0 rfl ?_
    refine Gz.aload_n (q := 0) (pc' := 95) (by decide +kernel) rfl 1 rfl ?_
    refine Gz.iload_n (q := 1) (pc' := 96) (by decide +kernel) rfl 2 rfl ?_
    refine Gz.callVI (st := [.int v8, .int v8, .ref v12]) (b := 19) (pc' := 99) [.int x1] (g_La_stride x1 w13) h ok_m_La_stride lk_La_55 sh_19 rfl rfl rfl (Nat.le_of_ble_eq_true rfl) (Nat.le_of_ble_eq_true rfl) (Nat.le_of_ble_eq_true rfl) (by decide +kernel) rfl (fun v14 w15 h => ?_)
    refine Gz.iadd (pc' := 100) (by decide +kernel) rfl ?_
    refine Gz.callSV (st := []) (pc' := 103) [.ref v12, .int v8, .int (v8 + v14)] (g_Ro_fill v12 v8 (v8 + v14) w15) h ok_m_Ro_fill lk_La_89 rfl (Nat.le_of_ble_eq_true rfl) (Nat.le_of_ble_eq_true rfl) (Nat.le_of_ble_eq_true rfl) (by decide +kernel) rfl (fun _ w16 h => ?_)
    obtain ⟨v17, e18⟩ : ∃ y : Int32, y = x4 + (1 : Int32) := ⟨_, rfl⟩
    have h := zok_l e18 h
    refine Gz.iinc (i := 4) (n := 1) (pc' := 106) (L' := [(4, .int v17), (5, .int v8), (0, .ref 19), (1, .int x1), (2, .int x2), (3, .int x3)]) v17 (by decide +kernel) rfl 5 rfl (by rw [e18]; rfl) (Nat.le_of_ble_eq_true rfl) rfl ?_
    refine Gz.goto (off := -54) (tgt := 52) (by decide +kernel) (by decide) ?_
    refine Gz.sub (L' := [(0, .ref 19), (1, .int x1), (2, .int x2), (3, .int x3), (4, .int v17)]) [2, 3, 4, 5, 0] rfl ?_
    exact hk52 x1 x2 x3 v17 w16 h
theorem g_La_watch_b52 {l : Launch} {Q : Option Value → gW → Prop} (k37 : Int32 → Int32 → Int32 → gW → Option (Unit × gW)) (hk37 : ∀ (x1 : Int32) (x2 : Int32) (x3 : Int32) (w : gW), zok eV (k37 x1 x2 x3 w) Q → Gz l m_La_watch 3 37 [(0, .ref 19), (1, .int x1), (2, .int x2), (3, .int x3)] [] w Q) (x1 : Int32) (x2 : Int32) (x3 : Int32) (x4 : Int32) (w : gW) (h : zok eV (f_La_watch_b52 k37 x1 x2 x3 x4 w) Q) : Gz l m_La_watch 3 52 [(0, .ref 19), (1, .int x1), (2, .int x2), (3, .int x3), (4, .int x4)] [] w Q := by
  have key : ∀ (n : Nat) (x1 : Int32) (x2 : Int32) (x3 : Int32) (x4 : Int32) (w : gW), zok eV (zfx (fun _ _ _ _ _ => none) (f_La_watch_b52_s k37) n x1 x2 x3 x4 w) Q → Gz l m_La_watch 3 52 [(0, .ref 19), (1, .int x1), (2, .int x2), (3, .int x3), (4, .int x4)] [] w Q := by
    intro n
    induction n with
    | zero => intro x1 x2 x3 x4 w h; exact zok_n h
    | succ n ih => intro x1 x2 x3 x4 w h; exact g_La_watch_b52_s k37 hk37 _ ih x1 x2 x3 x4 w h
  exact key zFU x1 x2 x3 x4 w h
theorem g_La_watch_b37_s {l : Launch} {Q : Option Value → gW → Prop} (k37 : Int32 → Int32 → Int32 → gW → Option (Unit × gW)) (hk37 : ∀ (x1 : Int32) (x2 : Int32) (x3 : Int32) (w : gW), zok eV (k37 x1 x2 x3 w) Q → Gz l m_La_watch 3 37 [(0, .ref 19), (1, .int x1), (2, .int x2), (3, .int x3)] [] w Q) (x1 : Int32) (x2 : Int32) (x3 : Int32) (w : gW) (h : zok eV (f_La_watch_b37_s k37 x1 x2 x3 w) Q) : Gz l m_La_watch 3 37 [(0, .ref 19), (1, .int x1), (2, .int x2), (3, .int x3)] [] w Q := by
  unfold f_La_watch_b37_s at h
  refine Gz.iload_n (q := 2) (pc' := 38) (by decide +kernel) rfl 2 rfl ?_
  refine Gz.if_le (off := 78) (tgt := 116) (pc' := 41) (by decide +kernel) (by decide) rfl (fun c1 => ?_) (fun c1 => ?_)
  · have h := zok_t c1 h
    refine Gz.sub (L' := [(0, .ref 19), (1, .int x1)]) [0, 1] rfl ?_
    exact g_La_watch_b116 x1 w h
  · have h := zok_f c1 h
    refine Gz.iload_n (q := 3) (pc' := 42) (by decide +kernel) rfl 3 rfl ?_
    refine Gz.aload_n (q := 0) (pc' := 43) (by decide +kernel) rfl 0 rfl ?_
    refine Gz.getI (pc' := 46) (j := 6) fd_La_35 sh_19 rfl (by decide +kernel) rfl ?_
    refine Gz.icmp_ge (off := 70) (tgt := 116) (pc' := 49) (by decide +kernel) (by decide) rfl (fun c2 => ?_) (fun c2 => ?_)
    · have h := zok_t c2 h
      refine Gz.sub (L' := [(0, .ref 19), (1, .int x1)]) [0, 1] rfl ?_
      exact g_La_watch_b116 x1 w h
    · have h := zok_f c2 h
      refine Gz.iconst (n := 0) (v := (0 : Int32)) (pc' := 50) (by decide +kernel) rfl rfl ?_
      refine Gz.istore (i := 4) (pc' := 52) (L' := [(4, .int (0 : Int32)), (0, .ref 19), (1, .int x1), (2, .int x2), (3, .int x3)]) (by decide +kernel) rfl (Nat.le_of_ble_eq_true rfl) rfl ?_
      refine Gz.sub (L' := [(0, .ref 19), (1, .int x1), (2, .int x2), (3, .int x3), (4, .int (0 : Int32))]) [1, 2, 3, 4, 0] rfl ?_
      exact g_La_watch_b52 k37 hk37 x1 x2 x3 (0 : Int32) w h
theorem g_La_watch_b37 {l : Launch} {Q : Option Value → gW → Prop} (x1 : Int32) (x2 : Int32) (x3 : Int32) (w : gW) (h : zok eV (f_La_watch_b37 x1 x2 x3 w) Q) : Gz l m_La_watch 3 37 [(0, .ref 19), (1, .int x1), (2, .int x2), (3, .int x3)] [] w Q := by
  have key : ∀ (n : Nat) (x1 : Int32) (x2 : Int32) (x3 : Int32) (w : gW), zok eV (zfx (fun _ _ _ _ => none) (f_La_watch_b37_s) n x1 x2 x3 w) Q → Gz l m_La_watch 3 37 [(0, .ref 19), (1, .int x1), (2, .int x2), (3, .int x3)] [] w Q := by
    intro n
    induction n with
    | zero => intro x1 x2 x3 w h; exact zok_n h
    | succ n ih => intro x1 x2 x3 w h; exact g_La_watch_b37_s _ ih x1 x2 x3 w h
  exact key zFU x1 x2 x3 w h
theorem g_La_watch_b2_s {l : Launch} {Q : Option Value → gW → Prop} (k2 : Int32 → Int32 → gW → Option (Unit × gW)) (hk2 : ∀ (x1 : Int32) (x2 : Int32) (w : gW), zok eV (k2 x1 x2 w) Q → Gz l m_La_watch 3 2 [(0, .ref 19), (1, .int x1), (2, .int x2)] [] w Q) (x1 : Int32) (x2 : Int32) (w : gW) (h : zok eV (f_La_watch_b2_s k2 x1 x2 w) Q) : Gz l m_La_watch 3 2 [(0, .ref 19), (1, .int x1), (2, .int x2)] [] w Q := by
  unfold f_La_watch_b2_s at h
  refine Gz.iload_n (q := 2) (pc' := 3) (by decide +kernel) rfl 2 rfl ?_
  refine Gz.bipush (n := 7) (v := (7 : Int32)) (pc' := 5) (by decide +kernel) rfl rfl ?_
  refine Gz.icmp_ge (off := 18) (tgt := 23) (pc' := 8) (by decide +kernel) (by decide) rfl (fun c1 => ?_) (fun c1 => ?_)
  · have h := zok_t c1 h
    refine Gz.aload_n (q := 0) (pc' := 24) (by decide +kernel) rfl 0 rfl ?_
    refine Gz.iload_n (q := 1) (pc' := 25) (by decide +kernel) rfl 1 rfl ?_
    refine Gz.callVI (st := []) (b := 19) (pc' := 28) [.int x1] (g_La_stride x1 w) h ok_m_La_stride lk_La_55 sh_19 rfl rfl rfl (Nat.le_of_ble_eq_true rfl) (Nat.le_of_ble_eq_true rfl) (Nat.le_of_ble_eq_true rfl) (by decide +kernel) rfl (fun v2 w3 h => ?_)
    refine Gz.aload_n (q := 0) (pc' := 29) (by decide +kernel) rfl 0 rfl ?_
    refine Gz.iload_n (q := 1) (pc' := 30) (by decide +kernel) rfl 1 rfl ?_
    refine Gz.callVI (st := [.int v2]) (b := 19) (pc' := 33) [.int x1] (g_La_options x1 w3) h ok_m_La_options lk_La_77 sh_19 rfl rfl rfl (Nat.le_of_ble_eq_true rfl) (Nat.le_of_ble_eq_true rfl) (Nat.le_of_ble_eq_true rfl) (by decide +kernel) rfl (fun v4 w5 h => ?_)
    refine Gz.imul (pc' := 34) (by decide +kernel) rfl ?_
    refine Gz.nmI (fun v6 e7 => ?_)
    have h := zok_l e7 h
    refine Gz.istore_n (q := 2) (pc' := 35) (L' := [(2, .int v6), (0, .ref 19), (1, .int x1)]) (by decide +kernel) rfl (Nat.le_of_ble_eq_true rfl) rfl ?_
    refine Gz.iconst (n := 0) (v := (0 : Int32)) (pc' := 36) (by decide +kernel) rfl rfl ?_
    refine Gz.istore_n (q := 3) (pc' := 37) (L' := [(3, .int (0 : Int32)), (2, .int v6), (0, .ref 19), (1, .int x1)]) (by decide +kernel) rfl (Nat.le_of_ble_eq_true rfl) rfl ?_
    refine Gz.sub (L' := [(0, .ref 19), (1, .int x1), (2, .int v6), (3, .int (0 : Int32))]) [2, 3, 1, 0] rfl ?_
    exact g_La_watch_b37 x1 v6 (0 : Int32) w5 h
  · have h := zok_f c1 h
    refine Gz.aload_n (q := 0) (pc' := 9) (by decide +kernel) rfl 0 rfl ?_
    refine Gz.iload_n (q := 1) (pc' := 10) (by decide +kernel) rfl 1 rfl ?_
    refine Gz.iload_n (q := 2) (pc' := 11) (by decide +kernel) rfl 2 rfl ?_
    refine Gz.callVR (st := []) (b := 19) (pc' := 14) [.int x1, .int x2] (g_La_sight x1 x2 w) h ok_m_La_sight lk_La_79 sh_19 rfl rfl rfl (Nat.le_of_ble_eq_true rfl) (Nat.le_of_ble_eq_true rfl) (Nat.le_of_ble_eq_true rfl) (by decide +kernel) rfl (fun v8 w9 h => ?_)
    refine Gz.callSV (st := []) (pc' := 17) [.ref v8] (g_Ro_clear v8 w9) h ok_m_Ro_clear lk_La_83 rfl (Nat.le_of_ble_eq_true rfl) (Nat.le_of_ble_eq_true rfl) (Nat.le_of_ble_eq_true rfl) (by decide +kernel) rfl (fun _ w10 h => ?_)
    obtain ⟨v11, e12⟩ : ∃ y : Int32, y = x2 + (1 : Int32) := ⟨_, rfl⟩
    have h := zok_l e12 h
    refine Gz.iinc (i := 2) (n := 1) (pc' := 20) (L' := [(2, .int v11), (0, .ref 19), (1, .int x1)]) v11 (by decide +kernel) rfl 2 rfl (by rw [e12]; rfl) (Nat.le_of_ble_eq_true rfl) rfl ?_
    refine Gz.goto (off := -18) (tgt := 2) (by decide +kernel) (by decide) ?_
    refine Gz.sub (L' := [(0, .ref 19), (1, .int x1), (2, .int v11)]) [1, 2, 0] rfl ?_
    exact hk2 x1 v11 w10 h
theorem g_La_watch_b2 {l : Launch} {Q : Option Value → gW → Prop} (x1 : Int32) (x2 : Int32) (w : gW) (h : zok eV (f_La_watch_b2 x1 x2 w) Q) : Gz l m_La_watch 3 2 [(0, .ref 19), (1, .int x1), (2, .int x2)] [] w Q := by
  have key : ∀ (n : Nat) (x1 : Int32) (x2 : Int32) (w : gW), zok eV (zfx (fun _ _ _ => none) (f_La_watch_b2_s) n x1 x2 w) Q → Gz l m_La_watch 3 2 [(0, .ref 19), (1, .int x1), (2, .int x2)] [] w Q := by
    intro n
    induction n with
    | zero => intro x1 x2 w h; exact zok_n h
    | succ n ih => intro x1 x2 w h; exact g_La_watch_b2_s _ ih x1 x2 w h
  exact key zFU x1 x2 w h
theorem g_La_watch {l : Launch} (a1 : Int32) (w : gW) : gCt l m_La_watch 3 [.ref 19, .int a1] w eV (f_La_watch a1 w) := by
  intro Q h
  unfold f_La_watch at h
  show Gz l m_La_watch 3 0 [(0, .ref 19), (1, .int a1)] [] w Q
  refine Gz.iconst (n := 0) (v := (0 : Int32)) (pc' := 1) (by decide +kernel) rfl rfl ?_
  refine Gz.istore_n (q := 2) (pc' := 2) (L' := [(2, .int (0 : Int32)), (0, .ref 19), (1, .int a1)]) (by decide +kernel) rfl (Nat.le_of_ble_eq_true rfl) rfl ?_
  refine Gz.sub (L' := [(0, .ref 19), (1, .int a1), (2, .int (0 : Int32))]) [1, 2, 0] rfl ?_
  exact g_La_watch_b2 a1 (0 : Int32) w h
