def f_La_beforeWord_b29 (w : gW) : Option (Int64 × gW) :=
some ((0 : Int64), w)
def f_La_beforeWord_b118 (x5 : Int64) (w : gW) : Option (Int64 × gW) :=
some (x5, w)
def f_La_beforeWord_b37_s (k37 : Int32 → Int32 → Int32 → Int32 → Int64 → Int32 → gW → Option (Int64 × gW)) (x1 : Int32) (x2 : Int32) (x3 : Int32) (x4 : Int32) (x5 : Int64) (x7 : Int32) (w : gW) : Option (Int64 × gW) :=
if x3 ≤ x7 then
(f_La_beforeWord_b118 x5 w)
else
(if (6 : Int32) ≤ x7 then
(f_La_beforeWord_b118 x5 w)
else
(if inb (((x2 * (7 : Int32)) + x7) + (1 : Int32)) 35 then
if inb x4 (g_len 2 (23 + 1 + ix (((x2 * (7 : Int32)) + x7) + (1 : Int32)))) then
if inb ((x2 * (7 : Int32)) + x7) 35 then
if inb x4 (g_len 2 (23 + 1 + ix ((x2 * (7 : Int32)) + x7))) then
zl ((w.2 (23 + 1 + ix (((x2 * (7 : Int32)) + x7) + (1 : Int32))) (ix x4)) &&& ((w.2 (23 + 1 + ix ((x2 * (7 : Int32)) + x7)) (ix x4)) ^^^ (-1 : Int64))) (fun v7 =>
if inb ((x1 * (7 : Int32)) + x7) 35 then
if inb x4 (g_len 2 (23 + 1 + ix ((x1 * (7 : Int32)) + x7))) then
zl (x5 ||| (v7 &&& (w.2 (23 + 1 + ix ((x1 * (7 : Int32)) + x7)) (ix x4)))) (fun v11 =>
zl (x7 + (1 : Int32)) (fun v13 =>
k37 x1 x2 x3 x4 v11 v13 w))
else none
else none)
else none
else none
else none
else none))
def f_La_beforeWord_b37 : Int32 → Int32 → Int32 → Int32 → Int64 → Int32 → gW → Option (Int64 × gW) := zfx (fun _ _ _ _ _ _ _ => none) (f_La_beforeWord_b37_s) zFU
def f_La_beforeWord (a1 : Int32) (a2 : Int32) (a3 : Int32) (a4 : Int32) (w : gW) : Option (Int64 × gW) :=
zb (f_La_hasDeed a1 w) (fun v1 w2 =>
if v1 = 0 then
(f_La_beforeWord_b29 w2)
else
(zb (f_La_hasDeed a2 w2) (fun v4 w5 =>
if v4 = 0 then
(f_La_beforeWord_b29 w5)
else
(if a4 < 0 then
(f_La_beforeWord_b29 w5)
else
(if a4 < (263 : Int32) then
(f_La_beforeWord_b37 a1 a2 a3 a4 (0 : Int64) (1 : Int32) w5)
else
(f_La_beforeWord_b29 w5))))))
theorem g_La_beforeWord_b29 {l : Launch} {Q : Option Value → gW → Prop} (w : gW) (h : zok eJ (f_La_beforeWord_b29 w) Q) : Gz l m_La_beforeWord 2 29 [] [] w Q := by
  unfold f_La_beforeWord_b29 at h
  refine Gz.lconst (n := 0) (v := (0 : Int64)) (pc' := 30) (by decide +kernel) rfl rfl ?_
  exact Gz.lreturn (by decide +kernel) rfl (zok_sJ h)
theorem g_La_beforeWord_b118 {l : Launch} {Q : Option Value → gW → Prop} (x5 : Int64) (w : gW) (h : zok eJ (f_La_beforeWord_b118 x5 w) Q) : Gz l m_La_beforeWord 2 118 [(5, .long x5)] [] w Q := by
  unfold f_La_beforeWord_b118 at h
  refine Gz.lload (i := 5) (pc' := 120) (by decide +kernel) rfl 0 rfl ?_
  exact Gz.lreturn (by decide +kernel) rfl (zok_sJ h)
theorem g_La_beforeWord_b37_s {l : Launch} {Q : Option Value → gW → Prop} (k37 : Int32 → Int32 → Int32 → Int32 → Int64 → Int32 → gW → Option (Int64 × gW)) (hk37 : ∀ (x1 : Int32) (x2 : Int32) (x3 : Int32) (x4 : Int32) (x5 : Int64) (x7 : Int32) (w : gW), zok eJ (k37 x1 x2 x3 x4 x5 x7 w) Q → Gz l m_La_beforeWord 2 37 [(0, .ref 19), (1, .int x1), (2, .int x2), (3, .int x3), (4, .int x4), (5, .long x5), (7, .int x7)] [] w Q) (x1 : Int32) (x2 : Int32) (x3 : Int32) (x4 : Int32) (x5 : Int64) (x7 : Int32) (w : gW) (h : zok eJ (f_La_beforeWord_b37_s k37 x1 x2 x3 x4 x5 x7 w) Q) : Gz l m_La_beforeWord 2 37 [(0, .ref 19), (1, .int x1), (2, .int x2), (3, .int x3), (4, .int x4), (5, .long x5), (7, .int x7)] [] w Q := by
  unfold f_La_beforeWord_b37_s at h
  refine Gz.iload (i := 7) (pc' := 39) (by decide +kernel) rfl 6 rfl ?_
  refine Gz.iload_n (q := 3) (pc' := 40) (by decide +kernel) rfl 3 rfl ?_
  refine Gz.icmp_ge (off := 78) (tgt := 118) (pc' := 43) (by decide +kernel) (by decide) rfl (fun c1 => ?_) (fun c1 => ?_)
  · have h := zok_t c1 h
    refine Gz.sub (L' := [(5, .long x5)]) [5] rfl ?_
    exact g_La_beforeWord_b118 x5 w h
  · have h := zok_f c1 h
    refine Gz.iload (i := 7) (pc' := 45) (by decide +kernel) rfl 6 rfl ?_
    refine Gz.bipush (n := 6) (v := (6 : Int32)) (pc' := 47) (by decide +kernel) rfl rfl ?_
    refine Gz.icmp_ge (off := 71) (tgt := 118) (pc' := 50) (by decide +kernel) (by decide) rfl (fun c2 => ?_) (fun c2 => ?_)
    · have h := zok_t c2 h
      refine Gz.sub (L' := [(5, .long x5)]) [5] rfl ?_
      exact g_La_beforeWord_b118 x5 w h
    · have h := zok_f c2 h
      refine Gz.aload_n (q := 0) (pc' := 51) (by decide +kernel) rfl 0 rfl ?_
      refine Gz.getR (pc' := 54) (j := 3) 23 fd_La_25 sh_19 rfl (by decide +kernel) rfl ?_
      refine Gz.iload_n (q := 2) (pc' := 55) (by decide +kernel) rfl 2 rfl ?_
      refine Gz.bipush (n := 7) (v := (7 : Int32)) (pc' := 57) (by decide +kernel) rfl rfl ?_
      refine Gz.imul (pc' := 58) (by decide +kernel) rfl ?_
      refine Gz.iload (i := 7) (pc' := 60) (by decide +kernel) rfl 6 rfl ?_
      refine Gz.iadd (pc' := 61) (by decide +kernel) rfl ?_
      refine Gz.iconst (n := 1) (v := (1 : Int32)) (pc' := 62) (by decide +kernel) rfl rfl ?_
      refine Gz.iadd (pc' := 63) (by decide +kernel) rfl ?_
      obtain ⟨c3, h⟩ := zok_c h
      refine Gz.aald (pc' := 64) (n := 35) (by decide +kernel) rfl (Or.inr rfl) rfl c3 ?_
      refine Gz.iload (i := 4) (pc' := 66) (by decide +kernel) rfl 4 rfl ?_
      obtain ⟨c4, h⟩ := zok_c h
      refine Gz.lald (pc' := 67) (n := (g_len 2 (23 + 1 + ix (((x2 * (7 : Int32)) + x7) + (1 : Int32))))) (by decide +kernel) rfl rfl c4 ?_
      refine Gz.aload_n (q := 0) (pc' := 68) (by decide +kernel) rfl 0 rfl ?_
      refine Gz.getR (pc' := 71) (j := 3) 23 fd_La_25 sh_19 rfl (by decide +kernel) rfl ?_
      refine Gz.iload_n (q := 2) (pc' := 72) (by decide +kernel) rfl 2 rfl ?_
      refine Gz.bipush (n := 7) (v := (7 : Int32)) (pc' := 74) (by decide +kernel) rfl rfl ?_
      refine Gz.imul (pc' := 75) (by decide +kernel) rfl ?_
      refine Gz.iload (i := 7) (pc' := 77) (by decide +kernel) rfl 6 rfl ?_
      refine Gz.iadd (pc' := 78) (by decide +kernel) rfl ?_
      obtain ⟨c5, h⟩ := zok_c h
      refine Gz.aald (pc' := 79) (n := 35) (by decide +kernel) rfl (Or.inr rfl) rfl c5 ?_
      refine Gz.iload (i := 4) (pc' := 81) (by decide +kernel) rfl 4 rfl ?_
      obtain ⟨c6, h⟩ := zok_c h
      refine Gz.lald (pc' := 82) (n := (g_len 2 (23 + 1 + ix ((x2 * (7 : Int32)) + x7)))) (by decide +kernel) rfl rfl c6 ?_
      refine Gz.ldc2 (idx := 63) (v := (-1 : Int64)) (pc' := 85) (by decide +kernel) rfl kc_La_63 ?_
      refine Gz.lxor (pc' := 86) (by decide +kernel) rfl ?_
      refine Gz.land (pc' := 87) (by decide +kernel) rfl ?_
      refine Gz.nmJ (fun v7 e8 => ?_)
      have h := zok_l e8 h
      refine Gz.lstore (i := 8) (pc' := 89) (L' := [(8, .long v7), (0, .ref 19), (1, .int x1), (2, .int x2), (3, .int x3), (4, .int x4), (5, .long x5), (7, .int x7)]) (by decide +kernel) rfl (Nat.le_of_ble_eq_true rfl) rfl ?_
      refine Gz.lload (i := 5) (pc' := 91) (by decide +kernel) rfl 6 rfl ?_
      refine Gz.lload (i := 8) (pc' := 93) (by decide +kernel) rfl 0 rfl ?_
      refine Gz.aload_n (q := 0) (pc' := 94) (by decide +kernel) rfl 1 rfl ?_
      refine Gz.getR (pc' := 97) (j := 3) 23 fd_La_25 sh_19 rfl (by decide +kernel) rfl ?_
      refine Gz.iload_n (q := 1) (pc' := 98) (by decide +kernel) rfl 2 rfl ?_
      refine Gz.bipush (n := 7) (v := (7 : Int32)) (pc' := 100) (by decide +kernel) rfl rfl ?_
      refine Gz.imul (pc' := 101) (by decide +kernel) rfl ?_
      refine Gz.iload (i := 7) (pc' := 103) (by decide +kernel) rfl 7 rfl ?_
      refine Gz.iadd (pc' := 104) (by decide +kernel) rfl ?_
      obtain ⟨c9, h⟩ := zok_c h
      refine Gz.aald (pc' := 105) (n := 35) (by decide +kernel) rfl (Or.inr rfl) rfl c9 ?_
      refine Gz.iload (i := 4) (pc' := 107) (by decide +kernel) rfl 5 rfl ?_
      obtain ⟨c10, h⟩ := zok_c h
      refine Gz.lald (pc' := 108) (n := (g_len 2 (23 + 1 + ix ((x1 * (7 : Int32)) + x7)))) (by decide +kernel) rfl rfl c10 ?_
      refine Gz.land (pc' := 109) (by decide +kernel) rfl ?_
      refine Gz.lor (pc' := 110) (by decide +kernel) rfl ?_
      refine Gz.nmJ (fun v11 e12 => ?_)
      have h := zok_l e12 h
      refine Gz.lstore (i := 5) (pc' := 112) (L' := [(5, .long v11), (8, .long v7), (0, .ref 19), (1, .int x1), (2, .int x2), (3, .int x3), (4, .int x4), (7, .int x7)]) (by decide +kernel) rfl (Nat.le_of_ble_eq_true rfl) rfl ?_
      obtain ⟨v13, e14⟩ : ∃ y : Int32, y = x7 + (1 : Int32) := ⟨_, rfl⟩
      have h := zok_l e14 h
      refine Gz.iinc (i := 7) (n := 1) (pc' := 115) (L' := [(7, .int v13), (5, .long v11), (8, .long v7), (0, .ref 19), (1, .int x1), (2, .int x2), (3, .int x3), (4, .int x4)]) v13 (by decide +kernel) rfl 7 rfl (by rw [e14]; rfl) (Nat.le_of_ble_eq_true rfl) rfl ?_
      refine Gz.goto (off := -78) (tgt := 37) (by decide +kernel) (by decide) ?_
      refine Gz.sub (L' := [(0, .ref 19), (1, .int x1), (2, .int x2), (3, .int x3), (4, .int x4), (5, .long v11), (7, .int v13)]) [3, 4, 5, 6, 7, 1, 0] rfl ?_
      exact hk37 x1 x2 x3 x4 v11 v13 w h
theorem g_La_beforeWord_b37 {l : Launch} {Q : Option Value → gW → Prop} (x1 : Int32) (x2 : Int32) (x3 : Int32) (x4 : Int32) (x5 : Int64) (x7 : Int32) (w : gW) (h : zok eJ (f_La_beforeWord_b37 x1 x2 x3 x4 x5 x7 w) Q) : Gz l m_La_beforeWord 2 37 [(0, .ref 19), (1, .int x1), (2, .int x2), (3, .int x3), (4, .int x4), (5, .long x5), (7, .int x7)] [] w Q := by
  have key : ∀ (n : Nat) (x1 : Int32) (x2 : Int32) (x3 : Int32) (x4 : Int32) (x5 : Int64) (x7 : Int32) (w : gW), zok eJ (zfx (fun _ _ _ _ _ _ _ => none) (f_La_beforeWord_b37_s) n x1 x2 x3 x4 x5 x7 w) Q → Gz l m_La_beforeWord 2 37 [(0, .ref 19), (1, .int x1), (2, .int x2), (3, .int x3), (4, .int x4), (5, .long x5), (7, .int x7)] [] w Q := by
    intro n
    induction n with
    | zero => intro x1 x2 x3 x4 x5 x7 w h; exact zok_n h
    | succ n ih => intro x1 x2 x3 x4 x5 x7 w h; exact g_La_beforeWord_b37_s _ ih x1 x2 x3 x4 x5 x7 w h
  exact key zFU x1 x2 x3 x4 x5 x7 w h
theorem g_La_beforeWord {l : Launch} (a1 : Int32) (a2 : Int32) (a3 : Int32) (a4 : Int32) (w : gW) : gCt l m_La_beforeWord 2 [.ref 19, .int a1, .int a2, .int a3, .int a4] w eJ (f_La_beforeWord a1 a2 a3 a4 w) := by
  intro Q h
  unfold f_La_beforeWord at h
  show Gz l m_La_beforeWord 2 0 [(0, .ref 19), (1, .int a1), (2, .int a2), (3, .int a3), (4, .int a4)] [] w Q
  refine Gz.aload_n (q := 0) (pc' := 1) (by decide +kernel) rfl 0 rfl ?_
  refine Gz.iload_n (q := 1) (pc' := 2) (by decide +kernel) rfl 1 rfl ?_
  refine Gz.callVI (st := []) (b := 19) (pc' := 5) [.int a1] (g_La_hasDeed a1 w) h ok_m_La_hasDeed lk_La_38 sh_19 rfl rfl rfl (Nat.le_of_ble_eq_true rfl) (Nat.le_of_ble_eq_true rfl) (Nat.le_of_ble_eq_true rfl) (by decide +kernel) rfl (fun v1 w2 h => ?_)
  refine Gz.if_eq (off := 24) (tgt := 29) (pc' := 8) (by decide +kernel) (by decide) rfl (fun c3 => ?_) (fun c3 => ?_)
  · have h := zok_t c3 h
    refine Gz.sub (L' := []) [] rfl ?_
    exact g_La_beforeWord_b29 w2 h
  · have h := zok_f c3 h
    refine Gz.aload_n (q := 0) (pc' := 9) (by decide +kernel) rfl 0 rfl ?_
    refine Gz.iload_n (q := 2) (pc' := 10) (by decide +kernel) rfl 2 rfl ?_
    refine Gz.callVI (st := []) (b := 19) (pc' := 13) [.int a2] (g_La_hasDeed a2 w2) h ok_m_La_hasDeed lk_La_38 sh_19 rfl rfl rfl (Nat.le_of_ble_eq_true rfl) (Nat.le_of_ble_eq_true rfl) (Nat.le_of_ble_eq_true rfl) (by decide +kernel) rfl (fun v4 w5 h => ?_)
    refine Gz.if_eq (off := 16) (tgt := 29) (pc' := 16) (by decide +kernel) (by decide) rfl (fun c6 => ?_) (fun c6 => ?_)
    · have h := zok_t c6 h
      refine Gz.sub (L' := []) [] rfl ?_
      exact g_La_beforeWord_b29 w5 h
    · have h := zok_f c6 h
      refine Gz.iload (i := 4) (pc' := 18) (by decide +kernel) rfl 4 rfl ?_
      refine Gz.if_lt (off := 11) (tgt := 29) (pc' := 21) (by decide +kernel) (by decide) rfl (fun c7 => ?_) (fun c7 => ?_)
      · have h := zok_t c7 h
        refine Gz.sub (L' := []) [] rfl ?_
        exact g_La_beforeWord_b29 w5 h
      · have h := zok_f c7 h
        refine Gz.iload (i := 4) (pc' := 23) (by decide +kernel) rfl 4 rfl ?_
        refine Gz.sipush (n := 263) (v := (263 : Int32)) (pc' := 26) (by decide +kernel) rfl rfl ?_
        refine Gz.icmp_lt (off := 5) (tgt := 31) (pc' := 29) (by decide +kernel) (by decide) rfl (fun c8 => ?_) (fun c8 => ?_)
        · have h := zok_t c8 h
          refine Gz.lconst (n := 0) (v := (0 : Int64)) (pc' := 32) (by decide +kernel) rfl rfl ?_
          refine Gz.lstore (i := 5) (pc' := 34) (L' := [(5, .long (0 : Int64)), (0, .ref 19), (1, .int a1), (2, .int a2), (3, .int a3), (4, .int a4)]) (by decide +kernel) rfl (Nat.le_of_ble_eq_true rfl) rfl ?_
          refine Gz.iconst (n := 1) (v := (1 : Int32)) (pc' := 35) (by decide +kernel) rfl rfl ?_
          refine Gz.istore (i := 7) (pc' := 37) (L' := [(7, .int (1 : Int32)), (5, .long (0 : Int64)), (0, .ref 19), (1, .int a1), (2, .int a2), (3, .int a3), (4, .int a4)]) (by decide +kernel) rfl (Nat.le_of_ble_eq_true rfl) rfl ?_
          refine Gz.sub (L' := [(0, .ref 19), (1, .int a1), (2, .int a2), (3, .int a3), (4, .int a4), (5, .long (0 : Int64)), (7, .int (1 : Int32))]) [2, 3, 4, 5, 6, 1, 0] rfl ?_
          exact g_La_beforeWord_b37 a1 a2 a3 a4 (0 : Int64) (1 : Int32) w5 h
        · have h := zok_f c8 h
          refine Gz.sub (L' := []) [] rfl ?_
          exact g_La_beforeWord_b29 w5 h
def f_Co_wordOf_b231 (k6 : Int32 → Int32 → Int32 → Int32 → Int32 → Int32 → gW → Option (Int64 × gW)) (x1 : Int32) (x2 : Int32) (x3 : Int32) (x4 : Int32) (x5 : Int32) (x6 : Int32) (w : gW) : Option (Int64 × gW) :=
zl (x6 + (1 : Int32)) (fun v1 =>
k6 x1 x2 x3 x4 x5 v1 w)
def f_Co_wordOf_b228 (k6 : Int32 → Int32 → Int32 → Int32 → Int32 → Int32 → gW → Option (Int64 × gW)) (x1 : Int32) (x2 : Int32) (x3 : Int32) (x4 : Int32) (x5 : Int32) (x6 : Int32) (s1 : Int32) (s2 : Int32) (w : gW) : Option (Int64 × gW) :=
zb (f_Co_merge s1 s2 w) (fun _ w1 =>
f_Co_wordOf_b231 k6 x1 x2 x3 x4 x5 x6 w1)
def f_Co_wordOf_b189 (k6 : Int32 → Int32 → Int32 → Int32 → Int32 → Int32 → gW → Option (Int64 × gW)) (x1 : Int32) (x2 : Int32) (x3 : Int32) (x4 : Int32) (x5 : Int32) (x6 : Int32) (s1 : Int32) (s2 : Int64) (w : gW) : Option (Int64 × gW) :=
zb (f_Co_put s1 s2 w) (fun _ w1 =>
f_Co_wordOf_b231 k6 x1 x2 x3 x4 x5 x6 w1)
def f_Co_wordOf_b6_s (k6 : Int32 → Int32 → Int32 → Int32 → Int32 → Int32 → gW → Option (Int64 × gW)) (x1 : Int32) (x2 : Int32) (x3 : Int32) (x4 : Int32) (x5 : Int32) (x6 : Int32) (w : gW) : Option (Int64 × gW) :=
zb (f_Oa_length x1 w) (fun v1 w2 =>
if v1 ≤ x6 then
(if inb (0 : Int32) 16 then
some (w2.2 74 (ix (0 : Int32)), w2)
else none)
else
(zb (f_Oa_codeAt x1 x6 w2) (fun v5 w6 =>
zb (f_Oa_oneOf v5 w6) (fun v7 w8 =>
zb (f_Oa_otherOf v5 w8) (fun v9 w10 =>
zb (f_Oa_kindOf v5 w10) (fun v11 w12 =>
if v11 = nI 0 then
(zl (x5 + (1 : Int32)) (fun v14 =>
zl (if (v9 + (1 : Int32)) < x2 then v9 + (1 : Int32) else x2) (fun v16 =>
zb (f_La_seenWord v7 v16 x4 w12) (fun v18 w19 =>
zb (f_Co_put x5 v18 w19) (fun _ w20 =>
f_Co_wordOf_b231 k6 x1 x2 x3 x4 v14 x6 w20)))))
else
(if v11 = nI 1 then
(zl (x5 + (1 : Int32)) (fun v22 =>
zb (f_La_beforeWord v7 v9 x2 x4 w12) (fun v24 w25 =>
zb (f_Co_put x5 v24 w25) (fun _ w26 =>
f_Co_wordOf_b231 k6 x1 x2 x3 x4 v22 x6 w26))))
else
(if v11 = nI 2 then
(zl (x5 + (1 : Int32)) (fun v28 =>
zb (f_La_togetherWord v7 v9 x2 x4 w12) (fun v30 w31 =>
zb (f_Co_put x5 v30 w31) (fun _ w32 =>
f_Co_wordOf_b231 k6 x1 x2 x3 x4 v28 x6 w32))))
else
(if v11 = nI 3 then
(zl (x5 + (1 : Int32)) (fun v34 =>
if ((x3 >>> (v7 &&& 31)) &&& (1 : Int32)) = 0 then
(f_Co_wordOf_b189 k6 x1 x2 x3 x4 v34 x6 x5 (0 : Int64) w12)
else
(f_Co_wordOf_b189 k6 x1 x2 x3 x4 v34 x6 x5 (-1 : Int64) w12)))
else
(if v11 = nI 4 then
(zb (f_Co_turn (x5 - (1 : Int32)) w12) (fun _ w38 =>
f_Co_wordOf_b231 k6 x1 x2 x3 x4 x5 x6 w38))
else
(zl (x5 + (-1 : Int32)) (fun v39 =>
zb (f_Oa_kindOf v5 w12) (fun v41 w42 =>
if v41 = (5 : Int32) then
(f_Co_wordOf_b228 k6 x1 x2 x3 x4 v39 x6 (v39 - (1 : Int32)) (1 : Int32) w42)
else
(f_Co_wordOf_b228 k6 x1 x2 x3 x4 v39 x6 (v39 - (1 : Int32)) (0 : Int32) w42))))))))))))))
def f_Co_wordOf_b6 : Int32 → Int32 → Int32 → Int32 → Int32 → Int32 → gW → Option (Int64 × gW) := zfx (fun _ _ _ _ _ _ _ => none) (f_Co_wordOf_b6_s) zFU
def f_Co_wordOf (a1 : Int32) (a2 : Int32) (a3 : Int32) (a4 : Int32) (w : gW) : Option (Int64 × gW) :=
f_Co_wordOf_b6 a1 a2 a3 a4 (0 : Int32) (0 : Int32) w
theorem g_Co_wordOf_b231 {l : Launch} {Q : Option Value → gW → Prop} (k6 : Int32 → Int32 → Int32 → Int32 → Int32 → Int32 → gW → Option (Int64 × gW)) (hk6 : ∀ (x1 : Int32) (x2 : Int32) (x3 : Int32) (x4 : Int32) (x5 : Int32) (x6 : Int32) (w : gW), zok eJ (k6 x1 x2 x3 x4 x5 x6 w) Q → Gz l m_Co_wordOf 3 6 [(0, .ref 73), (1, .int x1), (2, .int x2), (3, .int x3), (4, .int x4), (5, .int x5), (6, .int x6)] [] w Q) (x1 : Int32) (x2 : Int32) (x3 : Int32) (x4 : Int32) (x5 : Int32) (x6 : Int32) (w : gW) (h : zok eJ (f_Co_wordOf_b231 k6 x1 x2 x3 x4 x5 x6 w) Q) : Gz l m_Co_wordOf 3 231 [(0, .ref 73), (1, .int x1), (2, .int x2), (3, .int x3), (4, .int x4), (5, .int x5), (6, .int x6)] [] w Q := by
  unfold f_Co_wordOf_b231 at h
  obtain ⟨v1, e2⟩ : ∃ y : Int32, y = x6 + (1 : Int32) := ⟨_, rfl⟩
  have h := zok_l e2 h
  refine Gz.iinc (i := 6) (n := 1) (pc' := 234) (L' := [(6, .int v1), (0, .ref 73), (1, .int x1), (2, .int x2), (3, .int x3), (4, .int x4), (5, .int x5)]) v1 (by decide +kernel) rfl 6 rfl (by rw [e2]; rfl) (Nat.le_of_ble_eq_true rfl) rfl ?_
  refine Gz.goto (off := -228) (tgt := 6) (by decide +kernel) (by decide) ?_
  refine Gz.sub (L' := [(0, .ref 73), (1, .int x1), (2, .int x2), (3, .int x3), (4, .int x4), (5, .int x5), (6, .int v1)]) [1, 2, 3, 4, 5, 6, 0] rfl ?_
  exact hk6 x1 x2 x3 x4 x5 v1 w h
theorem g_Co_wordOf_b228 {l : Launch} {Q : Option Value → gW → Prop} (k6 : Int32 → Int32 → Int32 → Int32 → Int32 → Int32 → gW → Option (Int64 × gW)) (hk6 : ∀ (x1 : Int32) (x2 : Int32) (x3 : Int32) (x4 : Int32) (x5 : Int32) (x6 : Int32) (w : gW), zok eJ (k6 x1 x2 x3 x4 x5 x6 w) Q → Gz l m_Co_wordOf 3 6 [(0, .ref 73), (1, .int x1), (2, .int x2), (3, .int x3), (4, .int x4), (5, .int x5), (6, .int x6)] [] w Q) (x1 : Int32) (x2 : Int32) (x3 : Int32) (x4 : Int32) (x5 : Int32) (x6 : Int32) (s1 : Int32) (s2 : Int32) (w : gW) (h : zok eJ (f_Co_wordOf_b228 k6 x1 x2 x3 x4 x5 x6 s1 s2 w) Q) : Gz l m_Co_wordOf 3 228 [(0, .ref 73), (1, .int x1), (2, .int x2), (3, .int x3), (4, .int x4), (5, .int x5), (6, .int x6)] [.int s2, .int s1, .ref 73] w Q := by
  unfold f_Co_wordOf_b228 at h
  refine Gz.callVV (st := []) (b := 73) (pc' := 231) [.int s1, .int s2] (g_Co_merge s1 s2 w) h ok_m_Co_merge lk_Co_153 sh_73 rfl rfl rfl (Nat.le_of_ble_eq_true rfl) (Nat.le_of_ble_eq_true rfl) (Nat.le_of_ble_eq_true rfl) (by decide +kernel) rfl (fun _ w1 h => ?_)
  exact g_Co_wordOf_b231 k6 hk6 x1 x2 x3 x4 x5 x6 w1 h
theorem g_Co_wordOf_b189 {l : Launch} {Q : Option Value → gW → Prop} (k6 : Int32 → Int32 → Int32 → Int32 → Int32 → Int32 → gW → Option (Int64 × gW)) (hk6 : ∀ (x1 : Int32) (x2 : Int32) (x3 : Int32) (x4 : Int32) (x5 : Int32) (x6 : Int32) (w : gW), zok eJ (k6 x1 x2 x3 x4 x5 x6 w) Q → Gz l m_Co_wordOf 3 6 [(0, .ref 73), (1, .int x1), (2, .int x2), (3, .int x3), (4, .int x4), (5, .int x5), (6, .int x6)] [] w Q) (x1 : Int32) (x2 : Int32) (x3 : Int32) (x4 : Int32) (x5 : Int32) (x6 : Int32) (s1 : Int32) (s2 : Int64) (w : gW) (h : zok eJ (f_Co_wordOf_b189 k6 x1 x2 x3 x4 x5 x6 s1 s2 w) Q) : Gz l m_Co_wordOf 3 189 [(0, .ref 73), (1, .int x1), (2, .int x2), (3, .int x3), (4, .int x4), (5, .int x5), (6, .int x6)] [.long s2, .int s1, .ref 73] w Q := by
  unfold f_Co_wordOf_b189 at h
  refine Gz.callVV (st := []) (b := 73) (pc' := 192) [.int s1, .long s2] (g_Co_put s1 s2 w) h ok_m_Co_put lk_Co_140 sh_73 rfl rfl rfl (Nat.le_of_ble_eq_true rfl) (Nat.le_of_ble_eq_true rfl) (Nat.le_of_ble_eq_true rfl) (by decide +kernel) rfl (fun _ w1 h => ?_)
  refine Gz.goto (off := 39) (tgt := 231) (by decide +kernel) (by decide) ?_
  exact g_Co_wordOf_b231 k6 hk6 x1 x2 x3 x4 x5 x6 w1 h
theorem g_Co_wordOf_b6_s {l : Launch} {Q : Option Value → gW → Prop} (k6 : Int32 → Int32 → Int32 → Int32 → Int32 → Int32 → gW → Option (Int64 × gW)) (hk6 : ∀ (x1 : Int32) (x2 : Int32) (x3 : Int32) (x4 : Int32) (x5 : Int32) (x6 : Int32) (w : gW), zok eJ (k6 x1 x2 x3 x4 x5 x6 w) Q → Gz l m_Co_wordOf 3 6 [(0, .ref 73), (1, .int x1), (2, .int x2), (3, .int x3), (4, .int x4), (5, .int x5), (6, .int x6)] [] w Q) (x1 : Int32) (x2 : Int32) (x3 : Int32) (x4 : Int32) (x5 : Int32) (x6 : Int32) (w : gW) (h : zok eJ (f_Co_wordOf_b6_s k6 x1 x2 x3 x4 x5 x6 w) Q) : Gz l m_Co_wordOf 3 6 [(0, .ref 73), (1, .int x1), (2, .int x2), (3, .int x3), (4, .int x4), (5, .int x5), (6, .int x6)] [] w Q := by
  unfold f_Co_wordOf_b6_s at h
  refine Gz.iload (i := 6) (pc' := 8) (by decide +kernel) rfl 6 rfl ?_
  refine Gz.aload_n (q := 0) (pc' := 9) (by decide +kernel) rfl 0 rfl ?_
  refine Gz.getR (pc' := 12) (j := 1) 5 fd_Co_30 sh_73 rfl (by decide +kernel) rfl ?_
  refine Gz.iload_n (q := 1) (pc' := 13) (by decide +kernel) rfl 1 rfl ?_
  refine Gz.callVI (st := [.int x6]) (b := 5) (pc' := 16) [.int x1] (g_Oa_length x1 w) h ok_m_Oa_length lk_Co_116 sh_5 rfl rfl rfl (Nat.le_of_ble_eq_true rfl) (Nat.le_of_ble_eq_true rfl) (Nat.le_of_ble_eq_true rfl) (by decide +kernel) rfl (fun v1 w2 h => ?_)
  refine Gz.icmp_ge (off := 221) (tgt := 237) (pc' := 19) (by decide +kernel) (by decide) rfl (fun c3 => ?_) (fun c3 => ?_)
  · have h := zok_t c3 h
    refine Gz.aload_n (q := 0) (pc' := 238) (by decide +kernel) rfl 0 rfl ?_
    refine Gz.getR (pc' := 241) (j := 3) 74 fd_Co_11 sh_73 rfl (by decide +kernel) rfl ?_
    refine Gz.iconst (n := 0) (v := (0 : Int32)) (pc' := 242) (by decide +kernel) rfl rfl ?_
    obtain ⟨c4, h⟩ := zok_c h
    refine Gz.lald (pc' := 243) (n := 16) (by decide +kernel) rfl rfl c4 ?_
    exact Gz.lreturn (by decide +kernel) rfl (zok_sJ h)
  · have h := zok_f c3 h
    refine Gz.aload_n (q := 0) (pc' := 20) (by decide +kernel) rfl 0 rfl ?_
    refine Gz.getR (pc' := 23) (j := 1) 5 fd_Co_30 sh_73 rfl (by decide +kernel) rfl ?_
    refine Gz.iload_n (q := 1) (pc' := 24) (by decide +kernel) rfl 1 rfl ?_
    refine Gz.iload (i := 6) (pc' := 26) (by decide +kernel) rfl 6 rfl ?_
    refine Gz.callVI (st := []) (b := 5) (pc' := 29) [.int x1, .int x6] (g_Oa_codeAt x1 x6 w2) h ok_m_Oa_codeAt lk_Co_119 sh_5 rfl rfl rfl (Nat.le_of_ble_eq_true rfl) (Nat.le_of_ble_eq_true rfl) (Nat.le_of_ble_eq_true rfl) (by decide +kernel) rfl (fun v5 w6 h => ?_)
    refine Gz.istore (i := 7) (pc' := 31) (L' := [(7, .int v5), (0, .ref 73), (1, .int x1), (2, .int x2), (3, .int x3), (4, .int x4), (5, .int x5), (6, .int x6)]) (by decide +kernel) rfl (Nat.le_of_ble_eq_true rfl) rfl ?_
    refine Gz.iload (i := 7) (pc' := 33) (by decide +kernel) rfl 0 rfl ?_
    refine Gz.callSI (st := []) (pc' := 36) [.int v5] (g_Oa_oneOf v5 w6) h ok_m_Oa_oneOf lk_Co_123 rfl (Nat.le_of_ble_eq_true rfl) (Nat.le_of_ble_eq_true rfl) (Nat.le_of_ble_eq_true rfl) (by decide +kernel) rfl (fun v7 w8 h => ?_)
    refine Gz.istore (i := 8) (pc' := 38) (L' := [(8, .int v7), (7, .int v5), (0, .ref 73), (1, .int x1), (2, .int x2), (3, .int x3), (4, .int x4), (5, .int x5), (6, .int x6)]) (by decide +kernel) rfl (Nat.le_of_ble_eq_true rfl) rfl ?_
    refine Gz.iload (i := 7) (pc' := 40) (by decide +kernel) rfl 1 rfl ?_
    refine Gz.callSI (st := []) (pc' := 43) [.int v5] (g_Oa_otherOf v5 w8) h ok_m_Oa_otherOf lk_Co_126 rfl (Nat.le_of_ble_eq_true rfl) (Nat.le_of_ble_eq_true rfl) (Nat.le_of_ble_eq_true rfl) (by decide +kernel) rfl (fun v9 w10 h => ?_)
    refine Gz.istore (i := 9) (pc' := 45) (L' := [(9, .int v9), (8, .int v7), (7, .int v5), (0, .ref 73), (1, .int x1), (2, .int x2), (3, .int x3), (4, .int x4), (5, .int x5), (6, .int x6)]) (by decide +kernel) rfl (Nat.le_of_ble_eq_true rfl) rfl ?_
    refine Gz.iload (i := 7) (pc' := 47) (by decide +kernel) rfl 2 rfl ?_
    refine Gz.callSI (st := []) (pc' := 50) [.int v5] (g_Oa_kindOf v5 w10) h ok_m_Oa_kindOf lk_Co_129 rfl (Nat.le_of_ble_eq_true rfl) (Nat.le_of_ble_eq_true rfl) (Nat.le_of_ble_eq_true rfl) (by decide +kernel) rfl (fun v11 w12 h => ?_)
    by_cases c13 : v11 = nI 0
    · have h := zok_t c13 h
      refine Gz.tin (dflt := 156) (lo := 0) (hi := 4) (offs := #[34, 65, 91, 117, 145]) (len := 34) (off := 34) (tgt := 84) (by decide +kernel) (by rw [c13]; decide +kernel) (by rw [c13]; decide +kernel) (by rw [c13]; decide +kernel) (by decide) ?_
      refine Gz.aload_n (q := 0) (pc' := 85) (by decide +kernel) rfl 3 rfl ?_
      refine Gz.iload (i := 5) (pc' := 87) (by decide +kernel) rfl 8 rfl ?_
      obtain ⟨v14, e15⟩ : ∃ y : Int32, y = x5 + (1 : Int32) := ⟨_, rfl⟩
      have h := zok_l e15 h
      refine Gz.iinc (i := 5) (n := 1) (pc' := 90) (L' := [(5, .int v14), (9, .int v9), (8, .int v7), (7, .int v5), (0, .ref 73), (1, .int x1), (2, .int x2), (3, .int x3), (4, .int x4), (6, .int x6)]) v14 (by decide +kernel) rfl 8 rfl (by rw [e15]; rfl) (Nat.le_of_ble_eq_true rfl) rfl ?_
      refine Gz.aload_n (q := 0) (pc' := 91) (by decide +kernel) rfl 4 rfl ?_
      refine Gz.getR (pc' := 94) (j := 0) 19 fd_Co_26 sh_73 rfl (by decide +kernel) rfl ?_
      refine Gz.iload (i := 8) (pc' := 96) (by decide +kernel) rfl 2 rfl ?_
      refine Gz.iload_n (q := 2) (pc' := 97) (by decide +kernel) rfl 6 rfl ?_
      refine Gz.iload (i := 9) (pc' := 99) (by decide +kernel) rfl 1 rfl ?_
      refine Gz.iconst (n := 1) (v := (1 : Int32)) (pc' := 100) (by decide +kernel) rfl rfl ?_
      refine Gz.iadd (pc' := 101) (by decide +kernel) rfl ?_
      refine Gz.mmin (pc' := 104) (by decide +kernel) rfl lk_Co_132 mmin_s math_i mmin_c (Nat.le_of_ble_eq_true rfl) (Nat.le_of_ble_eq_true rfl) ?_
      refine Gz.nmI (fun v16 e17 => ?_)
      have h := zok_l e17 h
      refine Gz.iload (i := 4) (pc' := 106) (by decide +kernel) rfl 8 rfl ?_
      refine Gz.callVJ (st := [.int x5, .ref 73]) (b := 19) (pc' := 109) [.int v7, .int v16, .int x4] (g_La_seenWord v7 v16 x4 w12) h ok_m_La_seenWord lk_Co_137 sh_19 rfl rfl rfl (Nat.le_of_ble_eq_true rfl) (Nat.le_of_ble_eq_true rfl) (Nat.le_of_ble_eq_true rfl) (by decide +kernel) rfl (fun v18 w19 h => ?_)
      refine Gz.callVV (st := []) (b := 73) (pc' := 112) [.int x5, .long v18] (g_Co_put x5 v18 w19) h ok_m_Co_put lk_Co_140 sh_73 rfl rfl rfl (Nat.le_of_ble_eq_true rfl) (Nat.le_of_ble_eq_true rfl) (Nat.le_of_ble_eq_true rfl) (by decide +kernel) rfl (fun _ w20 h => ?_)
      refine Gz.goto (off := 119) (tgt := 231) (by decide +kernel) (by decide) ?_
      refine Gz.sub (L' := [(0, .ref 73), (1, .int x1), (2, .int x2), (3, .int x3), (4, .int x4), (5, .int v14), (6, .int x6)]) [4, 5, 6, 7, 8, 0, 9] rfl ?_
      exact g_Co_wordOf_b231 k6 hk6 x1 x2 x3 x4 v14 x6 w20 h
    have h := zok_f c13 h
    by_cases c21 : v11 = nI 1
    · have h := zok_t c21 h
      refine Gz.tin (dflt := 156) (lo := 0) (hi := 4) (offs := #[34, 65, 91, 117, 145]) (len := 34) (off := 65) (tgt := 115) (by decide +kernel) (by rw [c21]; decide +kernel) (by rw [c21]; decide +kernel) (by rw [c21]; decide +kernel) (by decide) ?_
      refine Gz.aload_n (q := 0) (pc' := 116) (by decide +kernel) rfl 3 rfl ?_
      refine Gz.iload (i := 5) (pc' := 118) (by decide +kernel) rfl 8 rfl ?_
      obtain ⟨v22, e23⟩ : ∃ y : Int32, y = x5 + (1 : Int32) := ⟨_, rfl⟩
      have h := zok_l e23 h
      refine Gz.iinc (i := 5) (n := 1) (pc' := 121) (L' := [(5, .int v22), (9, .int v9), (8, .int v7), (7, .int v5), (0, .ref 73), (1, .int x1), (2, .int x2), (3, .int x3), (4, .int x4), (6, .int x6)]) v22 (by decide +kernel) rfl 8 rfl (by rw [e23]; rfl) (Nat.le_of_ble_eq_true rfl) rfl ?_
      refine Gz.aload_n (q := 0) (pc' := 122) (by decide +kernel) rfl 4 rfl ?_
      refine Gz.getR (pc' := 125) (j := 0) 19 fd_Co_26 sh_73 rfl (by decide +kernel) rfl ?_
      refine Gz.iload (i := 8) (pc' := 127) (by decide +kernel) rfl 2 rfl ?_
      refine Gz.iload (i := 9) (pc' := 129) (by decide +kernel) rfl 1 rfl ?_
      refine Gz.iload_n (q := 2) (pc' := 130) (by decide +kernel) rfl 6 rfl ?_
      refine Gz.iload (i := 4) (pc' := 132) (by decide +kernel) rfl 8 rfl ?_
      refine Gz.callVJ (st := [.int x5, .ref 73]) (b := 19) (pc' := 135) [.int v7, .int v9, .int x2, .int x4] (g_La_beforeWord v7 v9 x2 x4 w12) h ok_m_La_beforeWord lk_Co_144 sh_19 rfl rfl rfl (Nat.le_of_ble_eq_true rfl) (Nat.le_of_ble_eq_true rfl) (Nat.le_of_ble_eq_true rfl) (by decide +kernel) rfl (fun v24 w25 h => ?_)
      refine Gz.callVV (st := []) (b := 73) (pc' := 138) [.int x5, .long v24] (g_Co_put x5 v24 w25) h ok_m_Co_put lk_Co_140 sh_73 rfl rfl rfl (Nat.le_of_ble_eq_true rfl) (Nat.le_of_ble_eq_true rfl) (Nat.le_of_ble_eq_true rfl) (by decide +kernel) rfl (fun _ w26 h => ?_)
      refine Gz.goto (off := 93) (tgt := 231) (by decide +kernel) (by decide) ?_
      refine Gz.sub (L' := [(0, .ref 73), (1, .int x1), (2, .int x2), (3, .int x3), (4, .int x4), (5, .int v22), (6, .int x6)]) [4, 5, 6, 7, 8, 0, 9] rfl ?_
      exact g_Co_wordOf_b231 k6 hk6 x1 x2 x3 x4 v22 x6 w26 h
    have h := zok_f c21 h
    by_cases c27 : v11 = nI 2
    · have h := zok_t c27 h
      refine Gz.tin (dflt := 156) (lo := 0) (hi := 4) (offs := #[34, 65, 91, 117, 145]) (len := 34) (off := 91) (tgt := 141) (by decide +kernel) (by rw [c27]; decide +kernel) (by rw [c27]; decide +kernel) (by rw [c27]; decide +kernel) (by decide) ?_
      refine Gz.aload_n (q := 0) (pc' := 142) (by decide +kernel) rfl 3 rfl ?_
      refine Gz.iload (i := 5) (pc' := 144) (by decide +kernel) rfl 8 rfl ?_
      obtain ⟨v28, e29⟩ : ∃ y : Int32, y = x5 + (1 : Int32) := ⟨_, rfl⟩
      have h := zok_l e29 h
      refine Gz.iinc (i := 5) (n := 1) (pc' := 147) (L' := [(5, .int v28), (9, .int v9), (8, .int v7), (7, .int v5), (0, .ref 73), (1, .int x1), (2, .int x2), (3, .int x3), (4, .int x4), (6, .int x6)]) v28 (by decide +kernel) rfl 8 rfl (by rw [e29]; rfl) (Nat.le_of_ble_eq_true rfl) rfl ?_
      refine Gz.aload_n (q := 0) (pc' := 148) (by decide +kernel) rfl 4 rfl ?_
      refine Gz.getR (pc' := 151) (j := 0) 19 fd_Co_26 sh_73 rfl (by decide +kernel) rfl ?_
      refine Gz.iload (i := 8) (pc' := 153) (by decide +kernel) rfl 2 rfl ?_
      refine Gz.iload (i := 9) (pc' := 155) (by decide +kernel) rfl 1 rfl ?_
      refine Gz.iload_n (q := 2) (pc' := 156) (by decide +kernel) rfl 6 rfl ?_
      refine Gz.iload (i := 4) (pc' := 158) (by decide +kernel) rfl 8 rfl ?_
      refine Gz.callVJ (st := [.int x5, .ref 73]) (b := 19) (pc' := 161) [.int v7, .int v9, .int x2, .int x4] (g_La_togetherWord v7 v9 x2 x4 w12) h ok_m_La_togetherWord lk_Co_147 sh_19 rfl rfl rfl (Nat.le_of_ble_eq_true rfl) (Nat.le_of_ble_eq_true rfl) (Nat.le_of_ble_eq_true rfl) (by decide +kernel) rfl (fun v30 w31 h => ?_)
      refine Gz.callVV (st := []) (b := 73) (pc' := 164) [.int x5, .long v30] (g_Co_put x5 v30 w31) h ok_m_Co_put lk_Co_140 sh_73 rfl rfl rfl (Nat.le_of_ble_eq_true rfl) (Nat.le_of_ble_eq_true rfl) (Nat.le_of_ble_eq_true rfl) (by decide +kernel) rfl (fun _ w32 h => ?_)
      refine Gz.goto (off := 67) (tgt := 231) (by decide +kernel) (by decide) ?_
      refine Gz.sub (L' := [(0, .ref 73), (1, .int x1), (2, .int x2), (3, .int x3), (4, .int x4), (5, .int v28), (6, .int x6)]) [4, 5, 6, 7, 8, 0, 9] rfl ?_
      exact g_Co_wordOf_b231 k6 hk6 x1 x2 x3 x4 v28 x6 w32 h
    have h := zok_f c27 h
    by_cases c33 : v11 = nI 3
    · have h := zok_t c33 h
      refine Gz.tin (dflt := 156) (lo := 0) (hi := 4) (offs := #[34, 65, 91, 117, 145]) (len := 34) (off := 117) (tgt := 167) (by decide +kernel) (by rw [c33]; decide +kernel) (by rw [c33]; decide +kernel) (by rw [c33]; decide +kernel) (by decide) ?_
      refine Gz.aload_n (q := 0) (pc' := 168) (by decide +kernel) rfl 3 rfl ?_
      refine Gz.iload (i := 5) (pc' := 170) (by decide +kernel) rfl 8 rfl ?_
      obtain ⟨v34, e35⟩ : ∃ y : Int32, y = x5 + (1 : Int32) := ⟨_, rfl⟩
      have h := zok_l e35 h
      refine Gz.iinc (i := 5) (n := 1) (pc' := 173) (L' := [(5, .int v34), (9, .int v9), (8, .int v7), (7, .int v5), (0, .ref 73), (1, .int x1), (2, .int x2), (3, .int x3), (4, .int x4), (6, .int x6)]) v34 (by decide +kernel) rfl 8 rfl (by rw [e35]; rfl) (Nat.le_of_ble_eq_true rfl) rfl ?_
      refine Gz.iload_n (q := 3) (pc' := 174) (by decide +kernel) rfl 7 rfl ?_
      refine Gz.iload (i := 8) (pc' := 176) (by decide +kernel) rfl 2 rfl ?_
      refine Gz.ishr (pc' := 177) (by decide +kernel) rfl ?_
      refine Gz.iconst (n := 1) (v := (1 : Int32)) (pc' := 178) (by decide +kernel) rfl rfl ?_
      refine Gz.iand (pc' := 179) (by decide +kernel) rfl ?_
      refine Gz.if_ne (off := 7) (tgt := 186) (pc' := 182) (by decide +kernel) (by decide) rfl (fun c36 => ?_) (fun c36 => ?_)
      · have h := zok_f c36 h
        refine Gz.ldc2 (idx := 114) (v := (-1 : Int64)) (pc' := 189) (by decide +kernel) rfl kc_Co_114 ?_
        refine Gz.sub (L' := [(0, .ref 73), (1, .int x1), (2, .int x2), (3, .int x3), (4, .int x4), (5, .int v34), (6, .int x6)]) [4, 5, 6, 7, 8, 0, 9] rfl ?_
        exact g_Co_wordOf_b189 k6 hk6 x1 x2 x3 x4 v34 x6 x5 (-1 : Int64) w12 h
      · have h := zok_t c36 h
        refine Gz.lconst (n := 0) (v := (0 : Int64)) (pc' := 183) (by decide +kernel) rfl rfl ?_
        refine Gz.goto (off := 6) (tgt := 189) (by decide +kernel) (by decide) ?_
        refine Gz.sub (L' := [(0, .ref 73), (1, .int x1), (2, .int x2), (3, .int x3), (4, .int x4), (5, .int v34), (6, .int x6)]) [4, 5, 6, 7, 8, 0, 9] rfl ?_
        exact g_Co_wordOf_b189 k6 hk6 x1 x2 x3 x4 v34 x6 x5 (0 : Int64) w12 h
    have h := zok_f c33 h
    by_cases c37 : v11 = nI 4
    · have h := zok_t c37 h
      refine Gz.tin (dflt := 156) (lo := 0) (hi := 4) (offs := #[34, 65, 91, 117, 145]) (len := 34) (off := 145) (tgt := 195) (by decide +kernel) (by rw [c37]; decide +kernel) (by rw [c37]; decide +kernel) (by rw [c37]; decide +kernel) (by decide) ?_
      refine Gz.aload_n (q := 0) (pc' := 196) (by decide +kernel) rfl 3 rfl ?_
      refine Gz.iload (i := 5) (pc' := 198) (by decide +kernel) rfl 8 rfl ?_
      refine Gz.iconst (n := 1) (v := (1 : Int32)) (pc' := 199) (by decide +kernel) rfl rfl ?_
      refine Gz.isub (pc' := 200) (by decide +kernel) rfl ?_
      refine Gz.callVV (st := []) (b := 73) (pc' := 203) [.int (x5 - (1 : Int32))] (g_Co_turn (x5 - (1 : Int32)) w12) h ok_m_Co_turn lk_Co_150 sh_73 rfl rfl rfl (Nat.le_of_ble_eq_true rfl) (Nat.le_of_ble_eq_true rfl) (Nat.le_of_ble_eq_true rfl) (by decide +kernel) rfl (fun _ w38 h => ?_)
      refine Gz.goto (off := 28) (tgt := 231) (by decide +kernel) (by decide) ?_
      refine Gz.sub (L' := [(0, .ref 73), (1, .int x1), (2, .int x2), (3, .int x3), (4, .int x4), (5, .int x5), (6, .int x6)]) [3, 4, 5, 6, 7, 8, 9] rfl ?_
      exact g_Co_wordOf_b231 k6 hk6 x1 x2 x3 x4 x5 x6 w38 h
    have h := zok_f c37 h
    have hsw : ∀ k : Nat, k ≤ 4 → ¬ v11 = nI k := by
      intro k hk
      rcases (show k = 0 ∨ k = 1 ∨ k = 2 ∨ k = 3 ∨ k = 4 by omega) with q | q | q | q | q
      · rw [q]; exact c13
      · rw [q]; exact c21
      · rw [q]; exact c27
      · rw [q]; exact c33
      · rw [q]; exact c37
    refine Gz.tout (dflt := 156) (lo := 0) (hi := 4) (offs := #[34, 65, 91, 117, 145]) (len := 34) (tgt := 206) (by decide +kernel) (z_sw 4 (by decide) hsw) (by decide) ?_
    obtain ⟨v39, e40⟩ : ∃ y : Int32, y = x5 + (-1 : Int32) := ⟨_, rfl⟩
    have h := zok_l e40 h
    refine Gz.iinc (i := 5) (n := -1) (pc' := 209) (L' := [(5, .int v39), (9, .int v9), (8, .int v7), (7, .int v5), (0, .ref 73), (1, .int x1), (2, .int x2), (3, .int x3), (4, .int x4), (6, .int x6)]) v39 (by decide +kernel) rfl 8 rfl (by rw [e40]; rfl) (Nat.le_of_ble_eq_true rfl) rfl ?_
    refine Gz.aload_n (q := 0) (pc' := 210) (by decide +kernel) rfl 4 rfl ?_
    refine Gz.iload (i := 5) (pc' := 212) (by decide +kernel) rfl 0 rfl ?_
    refine Gz.iconst (n := 1) (v := (1 : Int32)) (pc' := 213) (by decide +kernel) rfl rfl ?_
    refine Gz.isub (pc' := 214) (by decide +kernel) rfl ?_
    refine Gz.iload (i := 7) (pc' := 216) (by decide +kernel) rfl 3 rfl ?_
    refine Gz.callSI (st := [.int (v39 - (1 : Int32)), .ref 73]) (pc' := 219) [.int v5] (g_Oa_kindOf v5 w12) h ok_m_Oa_kindOf lk_Co_129 rfl (Nat.le_of_ble_eq_true rfl) (Nat.le_of_ble_eq_true rfl) (Nat.le_of_ble_eq_true rfl) (by decide +kernel) rfl (fun v41 w42 h => ?_)
    refine Gz.iconst (n := 5) (v := (5 : Int32)) (pc' := 220) (by decide +kernel) rfl rfl ?_
    refine Gz.icmp_ne (off := 7) (tgt := 227) (pc' := 223) (by decide +kernel) (by decide) rfl (fun c43 => ?_) (fun c43 => ?_)
    · have h := zok_f c43 h
      refine Gz.iconst (n := 0) (v := (0 : Int32)) (pc' := 228) (by decide +kernel) rfl rfl ?_
      refine Gz.sub (L' := [(0, .ref 73), (1, .int x1), (2, .int x2), (3, .int x3), (4, .int x4), (5, .int v39), (6, .int x6)]) [4, 5, 6, 7, 8, 0, 9] rfl ?_
      exact g_Co_wordOf_b228 k6 hk6 x1 x2 x3 x4 v39 x6 (v39 - (1 : Int32)) (0 : Int32) w42 h
    · have h := zok_t c43 h
      refine Gz.iconst (n := 1) (v := (1 : Int32)) (pc' := 224) (by decide +kernel) rfl rfl ?_
      refine Gz.goto (off := 4) (tgt := 228) (by decide +kernel) (by decide) ?_
      refine Gz.sub (L' := [(0, .ref 73), (1, .int x1), (2, .int x2), (3, .int x3), (4, .int x4), (5, .int v39), (6, .int x6)]) [4, 5, 6, 7, 8, 0, 9] rfl ?_
      exact g_Co_wordOf_b228 k6 hk6 x1 x2 x3 x4 v39 x6 (v39 - (1 : Int32)) (1 : Int32) w42 h
theorem g_Co_wordOf_b6 {l : Launch} {Q : Option Value → gW → Prop} (x1 : Int32) (x2 : Int32) (x3 : Int32) (x4 : Int32) (x5 : Int32) (x6 : Int32) (w : gW) (h : zok eJ (f_Co_wordOf_b6 x1 x2 x3 x4 x5 x6 w) Q) : Gz l m_Co_wordOf 3 6 [(0, .ref 73), (1, .int x1), (2, .int x2), (3, .int x3), (4, .int x4), (5, .int x5), (6, .int x6)] [] w Q := by
  have key : ∀ (n : Nat) (x1 : Int32) (x2 : Int32) (x3 : Int32) (x4 : Int32) (x5 : Int32) (x6 : Int32) (w : gW), zok eJ (zfx (fun _ _ _ _ _ _ _ => none) (f_Co_wordOf_b6_s) n x1 x2 x3 x4 x5 x6 w) Q → Gz l m_Co_wordOf 3 6 [(0, .ref 73), (1, .int x1), (2, .int x2), (3, .int x3), (4, .int x4), (5, .int x5), (6, .int x6)] [] w Q := by
    intro n
    induction n with
    | zero => intro x1 x2 x3 x4 x5 x6 w h; exact zok_n h
    | succ n ih => intro x1 x2 x3 x4 x5 x6 w h; exact g_Co_wordOf_b6_s _ ih x1 x2 x3 x4 x5 x6 w h
  exact key zFU x1 x2 x3 x4 x5 x6 w h
theorem g_Co_wordOf {l : Launch} (a1 : Int32) (a2 : Int32) (a3 : Int32) (a4 : Int32) (w : gW) : gCt l m_Co_wordOf 3 [.ref 73, .int a1, .int a2, .int a3, .int a4] w eJ (f_Co_wordOf a1 a2 a3 a4 w) := by
  intro Q h
  unfold f_Co_wordOf at h
  show Gz l m_Co_wordOf 3 0 [(0, .ref 73), (1, .int a1), (2, .int a2), (3, .int a3), (4, .int a4)] [] w Q
  refine Gz.iconst (n := 0) (v := (0 : Int32)) (pc' := 1) (by decide +kernel) rfl rfl ?_
  refine Gz.istore (i := 5) (pc' := 3) (L' := [(5, .int (0 : Int32)), (0, .ref 73), (1, .int a1), (2, .int a2), (3, .int a3), (4, .int a4)]) (by decide +kernel) rfl (Nat.le_of_ble_eq_true rfl) rfl ?_
  refine Gz.iconst (n := 0) (v := (0 : Int32)) (pc' := 4) (by decide +kernel) rfl rfl ?_
  refine Gz.istore (i := 6) (pc' := 6) (L' := [(6, .int (0 : Int32)), (5, .int (0 : Int32)), (0, .ref 73), (1, .int a1), (2, .int a2), (3, .int a3), (4, .int a4)]) (by decide +kernel) rfl (Nat.le_of_ble_eq_true rfl) rfl ?_
  refine Gz.sub (L' := [(0, .ref 73), (1, .int a1), (2, .int a2), (3, .int a3), (4, .int a4), (5, .int (0 : Int32)), (6, .int (0 : Int32))]) [2, 3, 4, 5, 6, 1, 0] rfl ?_
  exact g_Co_wordOf_b6 a1 a2 a3 a4 (0 : Int32) (0 : Int32) w h
def f_Co_admit_b10_s (k10 : Int32 → Int32 → Int32 → gW → Option (Unit × gW)) (x1 : Int32) (x2 : Int32) (x3 : Int32) (w : gW) : Option (Unit × gW) :=
if x1 < 0 then
(some ((), w))
else
(if (10 : Int32) ≤ x1 then
(some ((), w))
else
(zb (f_La_words w) (fun v3 w4 =>
if v3 ≤ x3 then
(some ((), w4))
else
(if (263 : Int32) ≤ x3 then
(some ((), w4))
else
(zb (f_An_oathOf x1 w4) (fun v7 w8 =>
zb (f_An_dayOf x1 w8) (fun v9 w10 =>
zb (f_Co_wordOf v7 v9 x2 x3 w10) (fun v11 w12 =>
if inb x1 10 then
if inb x3 (g_len 2 (77 + 1 + ix x1)) then
zl (zsL w12 (77 + 1 + ix x1) (ix x3) v11) (fun w15 =>
if inb x3 263 then
if inb x3 263 then
zl (zsL w15 76 (ix x3) ((w15.2 76 (ix x3)) &&& v11)) (fun w19 =>
zl (x3 + (1 : Int32)) (fun v21 =>
k10 x1 x2 v21 w19))
else none
else none)
else none
else none))))))))
def f_Co_admit_b10 : Int32 → Int32 → Int32 → gW → Option (Unit × gW) := zfx (fun _ _ _ _ => none) (f_Co_admit_b10_s) zFU
def f_Co_admit (a1 : Int32) (w : gW) : Option (Unit × gW) :=
zb (f_An_allSworn w) (fun v1 w2 =>
f_Co_admit_b10 a1 v1 (0 : Int32) w2)
theorem g_Co_admit_b10_s {l : Launch} {Q : Option Value → gW → Prop} (k10 : Int32 → Int32 → Int32 → gW → Option (Unit × gW)) (hk10 : ∀ (x1 : Int32) (x2 : Int32) (x3 : Int32) (w : gW), zok eV (k10 x1 x2 x3 w) Q → Gz l m_Co_admit 4 10 [(0, .ref 73), (1, .int x1), (2, .int x2), (3, .int x3)] [] w Q) (x1 : Int32) (x2 : Int32) (x3 : Int32) (w : gW) (h : zok eV (f_Co_admit_b10_s k10 x1 x2 x3 w) Q) : Gz l m_Co_admit 4 10 [(0, .ref 73), (1, .int x1), (2, .int x2), (3, .int x3)] [] w Q := by
  unfold f_Co_admit_b10_s at h
  refine Gz.iload_n (q := 1) (pc' := 11) (by decide +kernel) rfl 1 rfl ?_
  refine Gz.if_lt (off := 78) (tgt := 89) (pc' := 14) (by decide +kernel) (by decide) rfl (fun c1 => ?_) (fun c1 => ?_)
  · have h := zok_t c1 h
    exact Gz.return_ (by decide +kernel) rfl (zok_sV h)
  · have h := zok_f c1 h
    refine Gz.iload_n (q := 1) (pc' := 15) (by decide +kernel) rfl 1 rfl ?_
    refine Gz.bipush (n := 10) (v := (10 : Int32)) (pc' := 17) (by decide +kernel) rfl rfl ?_
    refine Gz.icmp_ge (off := 72) (tgt := 89) (pc' := 20) (by decide +kernel) (by decide) rfl (fun c2 => ?_) (fun c2 => ?_)
    · have h := zok_t c2 h
      exact Gz.return_ (by decide +kernel) rfl (zok_sV h)
    · have h := zok_f c2 h
      refine Gz.iload_n (q := 3) (pc' := 21) (by decide +kernel) rfl 3 rfl ?_
      refine Gz.aload_n (q := 0) (pc' := 22) (by decide +kernel) rfl 0 rfl ?_
      refine Gz.getR (pc' := 25) (j := 0) 19 fd_Co_26 sh_73 rfl (by decide +kernel) rfl ?_
      refine Gz.callVI (st := [.int x3]) (b := 19) (pc' := 28) [] (g_La_words w) h ok_m_La_words lk_Co_107 sh_19 rfl rfl rfl (Nat.le_of_ble_eq_true rfl) (Nat.le_of_ble_eq_true rfl) (Nat.le_of_ble_eq_true rfl) (by decide +kernel) rfl (fun v3 w4 h => ?_)
      refine Gz.icmp_ge (off := 61) (tgt := 89) (pc' := 31) (by decide +kernel) (by decide) rfl (fun c5 => ?_) (fun c5 => ?_)
      · have h := zok_t c5 h
        exact Gz.return_ (by decide +kernel) rfl (zok_sV h)
      · have h := zok_f c5 h
        refine Gz.iload_n (q := 3) (pc' := 32) (by decide +kernel) rfl 3 rfl ?_
        refine Gz.sipush (n := 263) (v := (263 : Int32)) (pc' := 35) (by decide +kernel) rfl rfl ?_
        refine Gz.icmp_ge (off := 54) (tgt := 89) (pc' := 38) (by decide +kernel) (by decide) rfl (fun c6 => ?_) (fun c6 => ?_)
        · have h := zok_t c6 h
          exact Gz.return_ (by decide +kernel) rfl (zok_sV h)
        · have h := zok_f c6 h
          refine Gz.aload_n (q := 0) (pc' := 39) (by decide +kernel) rfl 0 rfl ?_
          refine Gz.aload_n (q := 0) (pc' := 40) (by decide +kernel) rfl 0 rfl ?_
          refine Gz.getR (pc' := 43) (j := 2) 59 fd_Co_34 sh_73 rfl (by decide +kernel) rfl ?_
          refine Gz.iload_n (q := 1) (pc' := 44) (by decide +kernel) rfl 1 rfl ?_
          refine Gz.callVI (st := [.ref 73]) (b := 59) (pc' := 47) [.int x1] (g_An_oathOf x1 w4) h ok_m_An_oathOf lk_Co_85 sh_59 rfl rfl rfl (Nat.le_of_ble_eq_true rfl) (Nat.le_of_ble_eq_true rfl) (Nat.le_of_ble_eq_true rfl) (by decide +kernel) rfl (fun v7 w8 h => ?_)
          refine Gz.aload_n (q := 0) (pc' := 48) (by decide +kernel) rfl 0 rfl ?_
          refine Gz.getR (pc' := 51) (j := 2) 59 fd_Co_34 sh_73 rfl (by decide +kernel) rfl ?_
          refine Gz.iload_n (q := 1) (pc' := 52) (by decide +kernel) rfl 1 rfl ?_
          refine Gz.callVI (st := [.int v7, .ref 73]) (b := 59) (pc' := 55) [.int x1] (g_An_dayOf x1 w8) h ok_m_An_dayOf lk_Co_100 sh_59 rfl rfl rfl (Nat.le_of_ble_eq_true rfl) (Nat.le_of_ble_eq_true rfl) (Nat.le_of_ble_eq_true rfl) (by decide +kernel) rfl (fun v9 w10 h => ?_)
          refine Gz.iload_n (q := 2) (pc' := 56) (by decide +kernel) rfl 2 rfl ?_
          refine Gz.iload_n (q := 3) (pc' := 57) (by decide +kernel) rfl 3 rfl ?_
          refine Gz.callVJ (st := []) (b := 73) (pc' := 60) [.int v7, .int v9, .int x2, .int x3] (g_Co_wordOf v7 v9 x2 x3 w10) h ok_m_Co_wordOf lk_Co_103 sh_73 rfl rfl rfl (Nat.le_of_ble_eq_true rfl) (Nat.le_of_ble_eq_true rfl) (Nat.le_of_ble_eq_true rfl) (by decide +kernel) rfl (fun v11 w12 h => ?_)
          refine Gz.lstore (i := 4) (pc' := 62) (L' := [(4, .long v11), (0, .ref 73), (1, .int x1), (2, .int x2), (3, .int x3)]) (by decide +kernel) rfl (Nat.le_of_ble_eq_true rfl) rfl ?_
          refine Gz.aload_n (q := 0) (pc' := 63) (by decide +kernel) rfl 1 rfl ?_
          refine Gz.getR (pc' := 66) (j := 6) 77 fd_Co_23 sh_73 rfl (by decide +kernel) rfl ?_
          refine Gz.iload_n (q := 1) (pc' := 67) (by decide +kernel) rfl 2 rfl ?_
          obtain ⟨c13, h⟩ := zok_c h
          refine Gz.aald (pc' := 68) (n := 10) (by decide +kernel) rfl (Or.inr rfl) rfl c13 ?_
          refine Gz.iload_n (q := 3) (pc' := 69) (by decide +kernel) rfl 4 rfl ?_
          refine Gz.lload (i := 4) (pc' := 71) (by decide +kernel) rfl 0 rfl ?_
          obtain ⟨c14, h⟩ := zok_c h
          refine Gz.last (pc' := 72) (n := (g_len 2 (77 + 1 + ix x1))) (by decide +kernel) rfl rfl c14 ?_
          refine Gz.nmW (fun w15 e16 => ?_)
          have h := zok_l e16 h
          refine Gz.aload_n (q := 0) (pc' := 73) (by decide +kernel) rfl 1 rfl ?_
          refine Gz.getR (pc' := 76) (j := 5) 76 fd_Co_18 sh_73 rfl (by decide +kernel) rfl ?_
          refine Gz.iload_n (q := 3) (pc' := 77) (by decide +kernel) rfl 4 rfl ?_
          refine Gz.dup2 (pc' := 78) (by decide +kernel) rfl rfl rfl ?_
          obtain ⟨c17, h⟩ := zok_c h
          refine Gz.lald (pc' := 79) (n := 263) (by decide +kernel) rfl rfl c17 ?_
          refine Gz.lload (i := 4) (pc' := 81) (by decide +kernel) rfl 0 rfl ?_
          refine Gz.land (pc' := 82) (by decide +kernel) rfl ?_
          obtain ⟨c18, h⟩ := zok_c h
          refine Gz.last (pc' := 83) (n := 263) (by decide +kernel) rfl rfl c18 ?_
          refine Gz.nmW (fun w19 e20 => ?_)
          have h := zok_l e20 h
          obtain ⟨v21, e22⟩ : ∃ y : Int32, y = x3 + (1 : Int32) := ⟨_, rfl⟩
          have h := zok_l e22 h
          refine Gz.iinc (i := 3) (n := 1) (pc' := 86) (L' := [(3, .int v21), (4, .long v11), (0, .ref 73), (1, .int x1), (2, .int x2)]) v21 (by decide +kernel) rfl 4 rfl (by rw [e22]; rfl) (Nat.le_of_ble_eq_true rfl) rfl ?_
          refine Gz.goto (off := -76) (tgt := 10) (by decide +kernel) (by decide) ?_
          refine Gz.sub (L' := [(0, .ref 73), (1, .int x1), (2, .int x2), (3, .int v21)]) [2, 3, 4, 0] rfl ?_
          exact hk10 x1 x2 v21 w19 h
theorem g_Co_admit_b10 {l : Launch} {Q : Option Value → gW → Prop} (x1 : Int32) (x2 : Int32) (x3 : Int32) (w : gW) (h : zok eV (f_Co_admit_b10 x1 x2 x3 w) Q) : Gz l m_Co_admit 4 10 [(0, .ref 73), (1, .int x1), (2, .int x2), (3, .int x3)] [] w Q := by
  have key : ∀ (n : Nat) (x1 : Int32) (x2 : Int32) (x3 : Int32) (w : gW), zok eV (zfx (fun _ _ _ _ => none) (f_Co_admit_b10_s) n x1 x2 x3 w) Q → Gz l m_Co_admit 4 10 [(0, .ref 73), (1, .int x1), (2, .int x2), (3, .int x3)] [] w Q := by
    intro n
    induction n with
    | zero => intro x1 x2 x3 w h; exact zok_n h
    | succ n ih => intro x1 x2 x3 w h; exact g_Co_admit_b10_s _ ih x1 x2 x3 w h
  exact key zFU x1 x2 x3 w h
theorem g_Co_admit {l : Launch} (a1 : Int32) (w : gW) : gCt l m_Co_admit 4 [.ref 73, .int a1] w eV (f_Co_admit a1 w) := by
  intro Q h
  unfold f_Co_admit at h
  show Gz l m_Co_admit 4 0 [(0, .ref 73), (1, .int a1)] [] w Q
  refine Gz.aload_n (q := 0) (pc' := 1) (by decide +kernel) rfl 0 rfl ?_
  refine Gz.getR (pc' := 4) (j := 2) 59 fd_Co_34 sh_73 rfl (by decide +kernel) rfl ?_
  refine Gz.callVI (st := []) (b := 59) (pc' := 7) [] (g_An_allSworn w) h ok_m_An_allSworn lk_Co_93 sh_59 rfl rfl rfl (Nat.le_of_ble_eq_true rfl) (Nat.le_of_ble_eq_true rfl) (Nat.le_of_ble_eq_true rfl) (by decide +kernel) rfl (fun v1 w2 h => ?_)
  refine Gz.istore_n (q := 2) (pc' := 8) (L' := [(2, .int v1), (0, .ref 73), (1, .int a1)]) (by decide +kernel) rfl (Nat.le_of_ble_eq_true rfl) rfl ?_
  refine Gz.iconst (n := 0) (v := (0 : Int32)) (pc' := 9) (by decide +kernel) rfl rfl ?_
  refine Gz.istore_n (q := 3) (pc' := 10) (L' := [(3, .int (0 : Int32)), (2, .int v1), (0, .ref 73), (1, .int a1)]) (by decide +kernel) rfl (Nat.le_of_ble_eq_true rfl) rfl ?_
  refine Gz.sub (L' := [(0, .ref 73), (1, .int a1), (2, .int v1), (3, .int (0 : Int32))]) [2, 3, 1, 0] rfl ?_
  exact g_Co_admit_b10 a1 v1 (0 : Int32) w2 h
def f_Co_review_b86_s (k86 : Int32 → gW → Option (Unit × gW)) (x1 : Int32) (w : gW) : Option (Unit × gW) :=
zb (f_An_swornCount w) (fun v1 w2 =>
if v1 ≤ x1 then
(some ((), w2))
else
(zb (f_Co_admit x1 w2) (fun _ w4 =>
zl (x1 + (1 : Int32)) (fun v5 =>
k86 v5 w4))))
def f_Co_review_b86 : Int32 → gW → Option (Unit × gW) := zfx (fun _ _ => none) (f_Co_review_b86_s) zFU
def f_Co_review_b24_s (k24 : Int32 → gW → Option (Unit × gW)) (x1 : Int32) (w : gW) : Option (Unit × gW) :=
zb (f_An_factCount w) (fun v1 w2 =>
if v1 ≤ x1 then
(zb (f_Ro_copy 75 76 w2) (fun _ w4 =>
f_Co_review_b86 (0 : Int32) w4))
else
(zb (f_An_factDeed x1 w2) (fun v5 w6 =>
zb (f_An_factDay x1 w6) (fun v7 w8 =>
zb (f_An_factTruth x1 w8) (fun v9 w10 =>
zb (f_Co_narrow 75 v5 v7 v9 w10) (fun _ w11 =>
zl (x1 + (1 : Int32)) (fun v12 =>
k24 v12 w11)))))))
def f_Co_review_b24 : Int32 → gW → Option (Unit × gW) := zfx (fun _ _ => none) (f_Co_review_b24_s) zFU
def f_Co_review (w : gW) : Option (Unit × gW) :=
zb (f_Ro_clear 75 w) (fun _ w1 =>
zb (f_La_total w1) (fun v2 w3 =>
zb (f_Ro_fill 75 (0 : Int32) v2 w3) (fun _ w4 =>
f_Co_review_b24 (0 : Int32) w4)))
theorem g_Co_review_b86_s {l : Launch} {Q : Option Value → gW → Prop} (k86 : Int32 → gW → Option (Unit × gW)) (hk86 : ∀ (x1 : Int32) (w : gW), zok eV (k86 x1 w) Q → Gz l m_Co_review 5 86 [(0, .ref 73), (1, .int x1)] [] w Q) (x1 : Int32) (w : gW) (h : zok eV (f_Co_review_b86_s k86 x1 w) Q) : Gz l m_Co_review 5 86 [(0, .ref 73), (1, .int x1)] [] w Q := by
  unfold f_Co_review_b86_s at h
  refine Gz.iload_n (q := 1) (pc' := 87) (by decide +kernel) rfl 1 rfl ?_
  refine Gz.aload_n (q := 0) (pc' := 88) (by decide +kernel) rfl 0 rfl ?_
  refine Gz.getR (pc' := 91) (j := 2) 59 fd_Co_34 sh_73 rfl (by decide +kernel) rfl ?_
  refine Gz.callVI (st := [.int x1]) (b := 59) (pc' := 94) [] (g_An_swornCount w) h ok_m_An_swornCount lk_Co_78 sh_59 rfl rfl rfl (Nat.le_of_ble_eq_true rfl) (Nat.le_of_ble_eq_true rfl) (Nat.le_of_ble_eq_true rfl) (by decide +kernel) rfl (fun v1 w2 h => ?_)
  refine Gz.icmp_ge (off := 14) (tgt := 108) (pc' := 97) (by decide +kernel) (by decide) rfl (fun c3 => ?_) (fun c3 => ?_)
  · have h := zok_t c3 h
    exact Gz.return_ (by decide +kernel) rfl (zok_sV h)
  · have h := zok_f c3 h
    refine Gz.aload_n (q := 0) (pc' := 98) (by decide +kernel) rfl 0 rfl ?_
    refine Gz.iload_n (q := 1) (pc' := 99) (by decide +kernel) rfl 1 rfl ?_
    refine Gz.callVV (st := []) (b := 73) (pc' := 102) [.int x1] (g_Co_admit x1 w2) h ok_m_Co_admit lk_Co_81 sh_73 rfl rfl rfl (Nat.le_of_ble_eq_true rfl) (Nat.le_of_ble_eq_true rfl) (Nat.le_of_ble_eq_true rfl) (by decide +kernel) rfl (fun _ w4 h => ?_)
    obtain ⟨v5, e6⟩ : ∃ y : Int32, y = x1 + (1 : Int32) := ⟨_, rfl⟩
    have h := zok_l e6 h
    refine Gz.iinc (i := 1) (n := 1) (pc' := 105) (L' := [(1, .int v5), (0, .ref 73)]) v5 (by decide +kernel) rfl 1 rfl (by rw [e6]; rfl) (Nat.le_of_ble_eq_true rfl) rfl ?_
    refine Gz.goto (off := -19) (tgt := 86) (by decide +kernel) (by decide) ?_
    refine Gz.sub (L' := [(0, .ref 73), (1, .int v5)]) [1, 0] rfl ?_
    exact hk86 v5 w4 h
theorem g_Co_review_b86 {l : Launch} {Q : Option Value → gW → Prop} (x1 : Int32) (w : gW) (h : zok eV (f_Co_review_b86 x1 w) Q) : Gz l m_Co_review 5 86 [(0, .ref 73), (1, .int x1)] [] w Q := by
  have key : ∀ (n : Nat) (x1 : Int32) (w : gW), zok eV (zfx (fun _ _ => none) (f_Co_review_b86_s) n x1 w) Q → Gz l m_Co_review 5 86 [(0, .ref 73), (1, .int x1)] [] w Q := by
    intro n
    induction n with
    | zero => intro x1 w h; exact zok_n h
    | succ n ih => intro x1 w h; exact g_Co_review_b86_s _ ih x1 w h
  exact key zFU x1 w h
theorem g_Co_review_b24_s {l : Launch} {Q : Option Value → gW → Prop} (k24 : Int32 → gW → Option (Unit × gW)) (hk24 : ∀ (x1 : Int32) (w : gW), zok eV (k24 x1 w) Q → Gz l m_Co_review 5 24 [(0, .ref 73), (1, .int x1)] [] w Q) (x1 : Int32) (w : gW) (h : zok eV (f_Co_review_b24_s k24 x1 w) Q) : Gz l m_Co_review 5 24 [(0, .ref 73), (1, .int x1)] [] w Q := by
  unfold f_Co_review_b24_s at h
  refine Gz.iload_n (q := 1) (pc' := 25) (by decide +kernel) rfl 1 rfl ?_
  refine Gz.aload_n (q := 0) (pc' := 26) (by decide +kernel) rfl 0 rfl ?_
  refine Gz.getR (pc' := 29) (j := 2) 59 fd_Co_34 sh_73 rfl (by decide +kernel) rfl ?_
  refine Gz.callVI (st := [.int x1]) (b := 59) (pc' := 32) [] (g_An_factCount w) h ok_m_An_factCount lk_Co_54 sh_59 rfl rfl rfl (Nat.le_of_ble_eq_true rfl) (Nat.le_of_ble_eq_true rfl) (Nat.le_of_ble_eq_true rfl) (by decide +kernel) rfl (fun v1 w2 h => ?_)
  refine Gz.icmp_ge (off := 41) (tgt := 73) (pc' := 35) (by decide +kernel) (by decide) rfl (fun c3 => ?_) (fun c3 => ?_)
  · have h := zok_t c3 h
    refine Gz.aload_n (q := 0) (pc' := 74) (by decide +kernel) rfl 0 rfl ?_
    refine Gz.getR (pc' := 77) (j := 4) 75 fd_Co_15 sh_73 rfl (by decide +kernel) rfl ?_
    refine Gz.aload_n (q := 0) (pc' := 78) (by decide +kernel) rfl 0 rfl ?_
    refine Gz.getR (pc' := 81) (j := 5) 76 fd_Co_18 sh_73 rfl (by decide +kernel) rfl ?_
    refine Gz.callSV (st := []) (pc' := 84) [.ref 75, .ref 76] (g_Ro_copy 75 76 w2) h ok_m_Ro_copy lk_Co_74 rfl (Nat.le_of_ble_eq_true rfl) (Nat.le_of_ble_eq_true rfl) (Nat.le_of_ble_eq_true rfl) (by decide +kernel) rfl (fun _ w4 h => ?_)
    refine Gz.iconst (n := 0) (v := (0 : Int32)) (pc' := 85) (by decide +kernel) rfl rfl ?_
    refine Gz.istore_n (q := 1) (pc' := 86) (L' := [(1, .int (0 : Int32)), (0, .ref 73)]) (by decide +kernel) rfl (Nat.le_of_ble_eq_true rfl) rfl ?_
    refine Gz.sub (L' := [(0, .ref 73), (1, .int (0 : Int32))]) [1, 0] rfl ?_
    exact g_Co_review_b86 (0 : Int32) w4 h
  · have h := zok_f c3 h
    refine Gz.aload_n (q := 0) (pc' := 36) (by decide +kernel) rfl 0 rfl ?_
    refine Gz.aload_n (q := 0) (pc' := 37) (by decide +kernel) rfl 0 rfl ?_
    refine Gz.getR (pc' := 40) (j := 4) 75 fd_Co_15 sh_73 rfl (by decide +kernel) rfl ?_
    refine Gz.aload_n (q := 0) (pc' := 41) (by decide +kernel) rfl 0 rfl ?_
    refine Gz.getR (pc' := 44) (j := 2) 59 fd_Co_34 sh_73 rfl (by decide +kernel) rfl ?_
    refine Gz.iload_n (q := 1) (pc' := 45) (by decide +kernel) rfl 1 rfl ?_
    refine Gz.callVI (st := [.ref 75, .ref 73]) (b := 59) (pc' := 48) [.int x1] (g_An_factDeed x1 w2) h ok_m_An_factDeed lk_Co_59 sh_59 rfl rfl rfl (Nat.le_of_ble_eq_true rfl) (Nat.le_of_ble_eq_true rfl) (Nat.le_of_ble_eq_true rfl) (by decide +kernel) rfl (fun v5 w6 h => ?_)
    refine Gz.aload_n (q := 0) (pc' := 49) (by decide +kernel) rfl 0 rfl ?_
    refine Gz.getR (pc' := 52) (j := 2) 59 fd_Co_34 sh_73 rfl (by decide +kernel) rfl ?_
    refine Gz.iload_n (q := 1) (pc' := 53) (by decide +kernel) rfl 1 rfl ?_
    refine Gz.callVI (st := [.int v5, .ref 75, .ref 73]) (b := 59) (pc' := 56) [.int x1] (g_An_factDay x1 w6) h ok_m_An_factDay lk_Co_63 sh_59 rfl rfl rfl (Nat.le_of_ble_eq_true rfl) (Nat.le_of_ble_eq_true rfl) (Nat.le_of_ble_eq_true rfl) (by decide +kernel) rfl (fun v7 w8 h => ?_)
    refine Gz.aload_n (q := 0) (pc' := 57) (by decide +kernel) rfl 0 rfl ?_
    refine Gz.getR (pc' := 60) (j := 2) 59 fd_Co_34 sh_73 rfl (by decide +kernel) rfl ?_
    refine Gz.iload_n (q := 1) (pc' := 61) (by decide +kernel) rfl 1 rfl ?_
    refine Gz.callVI (st := [.int v7, .int v5, .ref 75, .ref 73]) (b := 59) (pc' := 64) [.int x1] (g_An_factTruth x1 w8) h ok_m_An_factTruth lk_Co_66 sh_59 rfl rfl rfl (Nat.le_of_ble_eq_true rfl) (Nat.le_of_ble_eq_true rfl) (Nat.le_of_ble_eq_true rfl) (by decide +kernel) rfl (fun v9 w10 h => ?_)
    refine Gz.callVV (st := []) (b := 73) (pc' := 67) [.ref 75, .int v5, .int v7, .int v9] (g_Co_narrow 75 v5 v7 v9 w10) h ok_m_Co_narrow lk_Co_70 sh_73 rfl rfl rfl (Nat.le_of_ble_eq_true rfl) (Nat.le_of_ble_eq_true rfl) (Nat.le_of_ble_eq_true rfl) (by decide +kernel) rfl (fun _ w11 h => ?_)
    obtain ⟨v12, e13⟩ : ∃ y : Int32, y = x1 + (1 : Int32) := ⟨_, rfl⟩
    have h := zok_l e13 h
    refine Gz.iinc (i := 1) (n := 1) (pc' := 70) (L' := [(1, .int v12), (0, .ref 73)]) v12 (by decide +kernel) rfl 1 rfl (by rw [e13]; rfl) (Nat.le_of_ble_eq_true rfl) rfl ?_
    refine Gz.goto (off := -46) (tgt := 24) (by decide +kernel) (by decide) ?_
    refine Gz.sub (L' := [(0, .ref 73), (1, .int v12)]) [1, 0] rfl ?_
    exact hk24 v12 w11 h
theorem g_Co_review_b24 {l : Launch} {Q : Option Value → gW → Prop} (x1 : Int32) (w : gW) (h : zok eV (f_Co_review_b24 x1 w) Q) : Gz l m_Co_review 5 24 [(0, .ref 73), (1, .int x1)] [] w Q := by
  have key : ∀ (n : Nat) (x1 : Int32) (w : gW), zok eV (zfx (fun _ _ => none) (f_Co_review_b24_s) n x1 w) Q → Gz l m_Co_review 5 24 [(0, .ref 73), (1, .int x1)] [] w Q := by
    intro n
    induction n with
    | zero => intro x1 w h; exact zok_n h
    | succ n ih => intro x1 w h; exact g_Co_review_b24_s _ ih x1 w h
  exact key zFU x1 w h
theorem g_Co_review {l : Launch} (w : gW) : gCt l m_Co_review 5 [.ref 73] w eV (f_Co_review w) := by
  intro Q h
  unfold f_Co_review at h
  show Gz l m_Co_review 5 0 [(0, .ref 73)] [] w Q
  refine Gz.aload_n (q := 0) (pc' := 1) (by decide +kernel) rfl 0 rfl ?_
  refine Gz.getR (pc' := 4) (j := 4) 75 fd_Co_15 sh_73 rfl (by decide +kernel) rfl ?_
  refine Gz.callSV (st := []) (pc' := 7) [.ref 75] (g_Ro_clear 75 w) h ok_m_Ro_clear lk_Co_38 rfl (Nat.le_of_ble_eq_true rfl) (Nat.le_of_ble_eq_true rfl) (Nat.le_of_ble_eq_true rfl) (by decide +kernel) rfl (fun _ w1 h => ?_)
  refine Gz.aload_n (q := 0) (pc' := 8) (by decide +kernel) rfl 0 rfl ?_
  refine Gz.getR (pc' := 11) (j := 4) 75 fd_Co_15 sh_73 rfl (by decide +kernel) rfl ?_
  refine Gz.iconst (n := 0) (v := (0 : Int32)) (pc' := 12) (by decide +kernel) rfl rfl ?_
  refine Gz.aload_n (q := 0) (pc' := 13) (by decide +kernel) rfl 0 rfl ?_
  refine Gz.getR (pc' := 16) (j := 0) 19 fd_Co_26 sh_73 rfl (by decide +kernel) rfl ?_
  refine Gz.callVI (st := [.int (0 : Int32), .ref 75]) (b := 19) (pc' := 19) [] (g_La_total w1) h ok_m_La_total lk_Co_44 sh_19 rfl rfl rfl (Nat.le_of_ble_eq_true rfl) (Nat.le_of_ble_eq_true rfl) (Nat.le_of_ble_eq_true rfl) (by decide +kernel) rfl (fun v2 w3 h => ?_)
  refine Gz.callSV (st := []) (pc' := 22) [.ref 75, .int (0 : Int32), .int v2] (g_Ro_fill 75 (0 : Int32) v2 w3) h ok_m_Ro_fill lk_Co_50 rfl (Nat.le_of_ble_eq_true rfl) (Nat.le_of_ble_eq_true rfl) (Nat.le_of_ble_eq_true rfl) (by decide +kernel) rfl (fun _ w4 h => ?_)
  refine Gz.iconst (n := 0) (v := (0 : Int32)) (pc' := 23) (by decide +kernel) rfl rfl ?_
  refine Gz.istore_n (q := 1) (pc' := 24) (L' := [(1, .int (0 : Int32)), (0, .ref 73)]) (by decide +kernel) rfl (Nat.le_of_ble_eq_true rfl) rfl ?_
  refine Gz.sub (L' := [(0, .ref 73), (1, .int (0 : Int32))]) [1, 0] rfl ?_
  exact g_Co_review_b24 (0 : Int32) w4 h
def f_La_deedCount (w : gW) : Option (Int32 × gW) :=
some (w.1 19 5, w)
theorem g_La_deedCount {l : Launch} (w : gW) : gCt l m_La_deedCount 1 [.ref 19] w eI (f_La_deedCount w) := by
  intro Q h
  unfold f_La_deedCount at h
  show Gz l m_La_deedCount 1 0 [(0, .ref 19)] [] w Q
  refine Gz.aload_n (q := 0) (pc' := 1) (by decide +kernel) rfl 0 rfl ?_
  refine Gz.getI (pc' := 4) (j := 5) fd_La_28 sh_19 rfl (by decide +kernel) rfl ?_
  exact Gz.ireturn (by decide +kernel) rfl (zok_sI h)
def f_Oa_size (w : gW) : Option (Int32 × gW) :=
some (w.1 5 4, w)
theorem g_Oa_size {l : Launch} (w : gW) : gCt l m_Oa_size 1 [.ref 5] w eI (f_Oa_size w) := by
  intro Q h
  unfold f_Oa_size at h
  show Gz l m_Oa_size 1 0 [(0, .ref 5)] [] w Q
  refine Gz.aload_n (q := 0) (pc' := 1) (by decide +kernel) rfl 0 rfl ?_
  refine Gz.getI (pc' := 4) (j := 4) fd_Oa_26 sh_5 rfl (by decide +kernel) rfl ?_
  exact Gz.ireturn (by decide +kernel) rfl (zok_sI h)
def f_Oa_keepDraft (w : gW) : Option (Int32 × gW) :=
if (w.1 5 4) < (8 : Int32) then
(zl (zsI w 5 4 ((w.1 5 4) + (1 : Int32))) (fun w2 =>
some ((w2.1 5 4) - (1 : Int32), w2)))
else
(some ((-1 : Int32), w))
theorem g_Oa_keepDraft {l : Launch} (w : gW) : gCt l m_Oa_keepDraft 1 [.ref 5] w eI (f_Oa_keepDraft w) := by
  intro Q h
  unfold f_Oa_keepDraft at h
  show Gz l m_Oa_keepDraft 1 0 [(0, .ref 5)] [] w Q
  refine Gz.aload_n (q := 0) (pc' := 1) (by decide +kernel) rfl 0 rfl ?_
  refine Gz.getI (pc' := 4) (j := 4) fd_Oa_26 sh_5 rfl (by decide +kernel) rfl ?_
  refine Gz.bipush (n := 8) (v := (8 : Int32)) (pc' := 6) (by decide +kernel) rfl rfl ?_
  refine Gz.icmp_lt (off := 5) (tgt := 11) (pc' := 9) (by decide +kernel) (by decide) rfl (fun c1 => ?_) (fun c1 => ?_)
  · have h := zok_t c1 h
    refine Gz.aload_n (q := 0) (pc' := 12) (by decide +kernel) rfl 0 rfl ?_
    refine Gz.dup (pc' := 13) (by decide +kernel) rfl rfl ?_
    refine Gz.getI (pc' := 16) (j := 4) fd_Oa_26 sh_5 rfl (by decide +kernel) rfl ?_
    refine Gz.iconst (n := 1) (v := (1 : Int32)) (pc' := 17) (by decide +kernel) rfl rfl ?_
    refine Gz.iadd (pc' := 18) (by decide +kernel) rfl ?_
    refine Gz.putI (pc' := 21) (j := 4) fd_Oa_26 sh_5 rfl (by decide +kernel) rfl ?_
    refine Gz.nmW (fun w2 e3 => ?_)
    have h := zok_l e3 h
    refine Gz.aload_n (q := 0) (pc' := 22) (by decide +kernel) rfl 0 rfl ?_
    refine Gz.getI (pc' := 25) (j := 4) fd_Oa_26 sh_5 rfl (by decide +kernel) rfl ?_
    refine Gz.iconst (n := 1) (v := (1 : Int32)) (pc' := 26) (by decide +kernel) rfl rfl ?_
    refine Gz.isub (pc' := 27) (by decide +kernel) rfl ?_
    exact Gz.ireturn (by decide +kernel) rfl (zok_sI h)
  · have h := zok_f c1 h
    refine Gz.iconst (n := -1) (v := (-1 : Int32)) (pc' := 10) (by decide +kernel) rfl rfl ?_
    exact Gz.ireturn (by decide +kernel) rfl (zok_sI h)
def f_X_text_b66 (x1 : Int32) (w : gW) : Option (Int32 × gW) :=
if x1 = (1 : Int32) then
(zb (f_Oa_size w) (fun v2 w3 =>
if (8 : Int32) ≤ v2 then
(some ((-1 : Int32), w3))
else
(zb (f_Oa_read w3) (fun v5 w6 =>
if v5 = (-1 : Int32) then
(zb (f_Tp_cut (0 : Int32) w6) (fun v8 w9 =>
zb (f_Oa_keepDraft w9) (fun v10 w11 =>
some (v10, w11))))
else
(some ((-1 : Int32), w6))))))
else
(some ((-1 : Int32), w))
def f_X_text (a1 : Int32) (w : gW) : Option (Int32 × gW) :=
if a1 = 0 then
(zb (f_Rd_read w) (fun v2 w3 =>
if v2 = (-1 : Int32) then
(zb (f_La_settle w3) (fun _ w5 =>
zb (f_An_clear w5) (fun _ w6 =>
zl (zsI w6 0 11 (0 : Int32)) (fun w7 =>
zb (f_Co_review w7) (fun _ w9 =>
zb (f_Tp_cut (0 : Int32) w9) (fun v10 w11 =>
zb (f_La_deedCount w11) (fun v12 w13 =>
some (v12, w13))))))))
else
(f_X_text_b66 a1 w3)))
else
(f_X_text_b66 a1 w)
theorem g_X_text_b66 {l : Launch} {Q : Option Value → gW → Prop} (x1 : Int32) (w : gW) (h : zok eI (f_X_text_b66 x1 w) Q) : Gz l m_X_text 55 66 [(0, .ref 0), (1, .int x1)] [] w Q := by
  unfold f_X_text_b66 at h
  refine Gz.iload_n (q := 1) (pc' := 67) (by decide +kernel) rfl 1 rfl ?_
  refine Gz.iconst (n := 1) (v := (1 : Int32)) (pc' := 68) (by decide +kernel) rfl rfl ?_
  refine Gz.icmp_ne (off := 47) (tgt := 115) (pc' := 71) (by decide +kernel) (by decide) rfl (fun c1 => ?_) (fun c1 => ?_)
  · have h := zok_f c1 h
    refine Gz.iconst (n := -1) (v := (-1 : Int32)) (pc' := 116) (by decide +kernel) rfl rfl ?_
    exact Gz.ireturn (by decide +kernel) rfl (zok_sI h)
  · have h := zok_t c1 h
    refine Gz.aload_n (q := 0) (pc' := 72) (by decide +kernel) rfl 0 rfl ?_
    refine Gz.getR (pc' := 75) (j := 2) 5 fd_X_26 sh_0 rfl (by decide +kernel) rfl ?_
    refine Gz.callVI (st := []) (b := 5) (pc' := 78) [] (g_Oa_size w) h ok_m_Oa_size lk_X_123 sh_5 rfl rfl rfl (Nat.le_of_ble_eq_true rfl) (Nat.le_of_ble_eq_true rfl) (Nat.le_of_ble_eq_true rfl) (by decide +kernel) rfl (fun v2 w3 h => ?_)
    refine Gz.bipush (n := 8) (v := (8 : Int32)) (pc' := 80) (by decide +kernel) rfl rfl ?_
    refine Gz.icmp_ge (off := 35) (tgt := 115) (pc' := 83) (by decide +kernel) (by decide) rfl (fun c4 => ?_) (fun c4 => ?_)
    · have h := zok_t c4 h
      refine Gz.iconst (n := -1) (v := (-1 : Int32)) (pc' := 116) (by decide +kernel) rfl rfl ?_
      exact Gz.ireturn (by decide +kernel) rfl (zok_sI h)
    · have h := zok_f c4 h
      refine Gz.aload_n (q := 0) (pc' := 84) (by decide +kernel) rfl 0 rfl ?_
      refine Gz.getR (pc' := 87) (j := 2) 5 fd_X_26 sh_0 rfl (by decide +kernel) rfl ?_
      refine Gz.aload_n (q := 0) (pc' := 88) (by decide +kernel) rfl 0 rfl ?_
      refine Gz.getR (pc' := 91) (j := 0) 1 fd_X_12 sh_0 rfl (by decide +kernel) rfl ?_
      refine Gz.callVI (st := []) (b := 5) (pc' := 94) [.ref 1] (g_Oa_read w3) h ok_m_Oa_read lk_X_108 sh_5 rfl rfl rfl (Nat.le_of_ble_eq_true rfl) (Nat.le_of_ble_eq_true rfl) (Nat.le_of_ble_eq_true rfl) (by decide +kernel) rfl (fun v5 w6 h => ?_)
      refine Gz.iconst (n := -1) (v := (-1 : Int32)) (pc' := 95) (by decide +kernel) rfl rfl ?_
      refine Gz.icmp_ne (off := 20) (tgt := 115) (pc' := 98) (by decide +kernel) (by decide) rfl (fun c7 => ?_) (fun c7 => ?_)
      · have h := zok_f c7 h
        refine Gz.iconst (n := -1) (v := (-1 : Int32)) (pc' := 116) (by decide +kernel) rfl rfl ?_
        exact Gz.ireturn (by decide +kernel) rfl (zok_sI h)
      · have h := zok_t c7 h
        refine Gz.aload_n (q := 0) (pc' := 99) (by decide +kernel) rfl 0 rfl ?_
        refine Gz.getR (pc' := 102) (j := 0) 1 fd_X_12 sh_0 rfl (by decide +kernel) rfl ?_
        refine Gz.iconst (n := 0) (v := (0 : Int32)) (pc' := 103) (by decide +kernel) rfl rfl ?_
        refine Gz.callVI (st := []) (b := 1) (pc' := 106) [.int (0 : Int32)] (g_Tp_cut (0 : Int32) w6) h ok_m_Tp_cut lk_X_100 sh_1 rfl rfl rfl (Nat.le_of_ble_eq_true rfl) (Nat.le_of_ble_eq_true rfl) (Nat.le_of_ble_eq_true rfl) (by decide +kernel) rfl (fun v8 w9 h => ?_)
        refine Gz.pop (pc' := 107) (by decide +kernel) rfl rfl ?_
        refine Gz.aload_n (q := 0) (pc' := 108) (by decide +kernel) rfl 0 rfl ?_
        refine Gz.getR (pc' := 111) (j := 2) 5 fd_X_26 sh_0 rfl (by decide +kernel) rfl ?_
        refine Gz.callVI (st := []) (b := 5) (pc' := 114) [] (g_Oa_keepDraft w9) h ok_m_Oa_keepDraft lk_X_126 sh_5 rfl rfl rfl (Nat.le_of_ble_eq_true rfl) (Nat.le_of_ble_eq_true rfl) (Nat.le_of_ble_eq_true rfl) (by decide +kernel) rfl (fun v10 w11 h => ?_)
        exact Gz.ireturn (by decide +kernel) rfl (zok_sI h)
theorem g_X_text {l : Launch} (a1 : Int32) (w : gW) : gCt l m_X_text 55 [.ref 0, .int a1] w eI (f_X_text a1 w) := by
  intro Q h
  unfold f_X_text at h
  show Gz l m_X_text 55 0 [(0, .ref 0), (1, .int a1)] [] w Q
  refine Gz.iload_n (q := 1) (pc' := 1) (by decide +kernel) rfl 1 rfl ?_
  refine Gz.if_ne (off := 65) (tgt := 66) (pc' := 4) (by decide +kernel) (by decide) rfl (fun c1 => ?_) (fun c1 => ?_)
  · have h := zok_f c1 h
    exact g_X_text_b66 a1 w h
  · have h := zok_t c1 h
    refine Gz.aload_n (q := 0) (pc' := 5) (by decide +kernel) rfl 0 rfl ?_
    refine Gz.getR (pc' := 8) (j := 1) 3 fd_X_19 sh_0 rfl (by decide +kernel) rfl ?_
    refine Gz.aload_n (q := 0) (pc' := 9) (by decide +kernel) rfl 0 rfl ?_
    refine Gz.getR (pc' := 12) (j := 0) 1 fd_X_12 sh_0 rfl (by decide +kernel) rfl ?_
    refine Gz.callVI (st := []) (b := 3) (pc' := 15) [.ref 1] (g_Rd_read w) h ok_m_Rd_read lk_X_104 sh_3 rfl rfl rfl (Nat.le_of_ble_eq_true rfl) (Nat.le_of_ble_eq_true rfl) (Nat.le_of_ble_eq_true rfl) (by decide +kernel) rfl (fun v2 w3 h => ?_)
    refine Gz.iconst (n := -1) (v := (-1 : Int32)) (pc' := 16) (by decide +kernel) rfl rfl ?_
    refine Gz.icmp_ne (off := 50) (tgt := 66) (pc' := 19) (by decide +kernel) (by decide) rfl (fun c4 => ?_) (fun c4 => ?_)
    · have h := zok_f c4 h
      exact g_X_text_b66 a1 w3 h
    · have h := zok_t c4 h
      refine Gz.aload_n (q := 0) (pc' := 20) (by decide +kernel) rfl 0 rfl ?_
      refine Gz.getR (pc' := 23) (j := 3) 19 fd_X_33 sh_0 rfl (by decide +kernel) rfl ?_
      refine Gz.aload_n (q := 0) (pc' := 24) (by decide +kernel) rfl 0 rfl ?_
      refine Gz.getR (pc' := 27) (j := 1) 3 fd_X_19 sh_0 rfl (by decide +kernel) rfl ?_
      refine Gz.callVV (st := []) (b := 19) (pc' := 30) [.ref 3] (g_La_settle w3) h ok_m_La_settle lk_X_109 sh_19 rfl rfl rfl (Nat.le_of_ble_eq_true rfl) (Nat.le_of_ble_eq_true rfl) (Nat.le_of_ble_eq_true rfl) (by decide +kernel) rfl (fun _ w5 h => ?_)
      refine Gz.aload_n (q := 0) (pc' := 31) (by decide +kernel) rfl 0 rfl ?_
      refine Gz.getR (pc' := 34) (j := 4) 59 fd_X_40 sh_0 rfl (by decide +kernel) rfl ?_
      refine Gz.callVV (st := []) (b := 59) (pc' := 37) [] (g_An_clear w5) h ok_m_An_clear lk_X_113 sh_59 rfl rfl rfl (Nat.le_of_ble_eq_true rfl) (Nat.le_of_ble_eq_true rfl) (Nat.le_of_ble_eq_true rfl) (by decide +kernel) rfl (fun _ w6 h => ?_)
      refine Gz.aload_n (q := 0) (pc' := 38) (by decide +kernel) rfl 0 rfl ?_
      refine Gz.iconst (n := 0) (v := (0 : Int32)) (pc' := 39) (by decide +kernel) rfl rfl ?_
      refine Gz.putZ (pc' := 42) (j := 11) fd_X_92 sh_0 rfl (by decide +kernel) rfl (by decide) ?_
      refine Gz.nmW (fun w7 e8 => ?_)
      have h := zok_l e8 h
      refine Gz.aload_n (q := 0) (pc' := 43) (by decide +kernel) rfl 0 rfl ?_
      refine Gz.getR (pc' := 46) (j := 6) 73 fd_X_52 sh_0 rfl (by decide +kernel) rfl ?_
      refine Gz.callVV (st := []) (b := 73) (pc' := 49) [] (g_Co_review w7) h ok_m_Co_review lk_X_116 sh_73 rfl rfl rfl (Nat.le_of_ble_eq_true rfl) (Nat.le_of_ble_eq_true rfl) (Nat.le_of_ble_eq_true rfl) (by decide +kernel) rfl (fun _ w9 h => ?_)
      refine Gz.aload_n (q := 0) (pc' := 50) (by decide +kernel) rfl 0 rfl ?_
      refine Gz.getR (pc' := 53) (j := 0) 1 fd_X_12 sh_0 rfl (by decide +kernel) rfl ?_
      refine Gz.iconst (n := 0) (v := (0 : Int32)) (pc' := 54) (by decide +kernel) rfl rfl ?_
      refine Gz.callVI (st := []) (b := 1) (pc' := 57) [.int (0 : Int32)] (g_Tp_cut (0 : Int32) w9) h ok_m_Tp_cut lk_X_100 sh_1 rfl rfl rfl (Nat.le_of_ble_eq_true rfl) (Nat.le_of_ble_eq_true rfl) (Nat.le_of_ble_eq_true rfl) (by decide +kernel) rfl (fun v10 w11 h => ?_)
      refine Gz.pop (pc' := 58) (by decide +kernel) rfl rfl ?_
      refine Gz.aload_n (q := 0) (pc' := 59) (by decide +kernel) rfl 0 rfl ?_
      refine Gz.getR (pc' := 62) (j := 3) 19 fd_X_33 sh_0 rfl (by decide +kernel) rfl ?_
      refine Gz.callVI (st := []) (b := 19) (pc' := 65) [] (g_La_deedCount w11) h ok_m_La_deedCount lk_X_119 sh_19 rfl rfl rfl (Nat.le_of_ble_eq_true rfl) (Nat.le_of_ble_eq_true rfl) (Nat.le_of_ble_eq_true rfl) (by decide +kernel) rfl (fun v12 w13 h => ?_)
      exact Gz.ireturn (by decide +kernel) rfl (zok_sI h)
def f_X_isPerson (a0 : Int32) (w : gW) : Option (Int32 × gW) :=
if a0 < 0 then
(some ((0 : Int32), w))
else
(if (6 : Int32) ≤ a0 then
(some ((0 : Int32), w))
else
(some ((1 : Int32), w)))
theorem g_X_isPerson {l : Launch} (a0 : Int32) (w : gW) : gCt l m_X_isPerson 1 [.int a0] w eI (f_X_isPerson a0 w) := by
  intro Q h
  unfold f_X_isPerson at h
  show Gz l m_X_isPerson 1 0 [(0, .int a0)] [] w Q
  refine Gz.iload_n (q := 0) (pc' := 1) (by decide +kernel) rfl 0 rfl ?_
  refine Gz.if_lt (off := 13) (tgt := 14) (pc' := 4) (by decide +kernel) (by decide) rfl (fun c1 => ?_) (fun c1 => ?_)
  · have h := zok_t c1 h
    refine Gz.iconst (n := 0) (v := (0 : Int32)) (pc' := 15) (by decide +kernel) rfl rfl ?_
    exact Gz.zreturn (by decide +kernel) rfl (by decide) (zok_sI h)
  · have h := zok_f c1 h
    refine Gz.iload_n (q := 0) (pc' := 5) (by decide +kernel) rfl 0 rfl ?_
    refine Gz.bipush (n := 6) (v := (6 : Int32)) (pc' := 7) (by decide +kernel) rfl rfl ?_
    refine Gz.icmp_ge (off := 7) (tgt := 14) (pc' := 10) (by decide +kernel) (by decide) rfl (fun c2 => ?_) (fun c2 => ?_)
    · have h := zok_t c2 h
      refine Gz.iconst (n := 0) (v := (0 : Int32)) (pc' := 15) (by decide +kernel) rfl rfl ?_
      exact Gz.zreturn (by decide +kernel) rfl (by decide) (zok_sI h)
    · have h := zok_f c2 h
      refine Gz.iconst (n := 1) (v := (1 : Int32)) (pc' := 11) (by decide +kernel) rfl rfl ?_
      refine Gz.goto (off := 4) (tgt := 15) (by decide +kernel) (by decide) ?_
      exact Gz.zreturn (by decide +kernel) rfl (by decide) (zok_sI h)
def f_La_isDay (a1 : Int32) (w : gW) : Option (Int32 × gW) :=
if (w.1 19 5) ≤ 0 then
(some ((0 : Int32), w))
else
(if a1 < 0 then
(some ((0 : Int32), w))
else
(if (w.1 19 4) < a1 then
(some ((0 : Int32), w))
else
(some ((1 : Int32), w))))
theorem g_La_isDay {l : Launch} (a1 : Int32) (w : gW) : gCt l m_La_isDay 1 [.ref 19, .int a1] w eI (f_La_isDay a1 w) := by
  intro Q h
  unfold f_La_isDay at h
  show Gz l m_La_isDay 1 0 [(0, .ref 19), (1, .int a1)] [] w Q
  refine Gz.aload_n (q := 0) (pc' := 1) (by decide +kernel) rfl 0 rfl ?_
  refine Gz.getI (pc' := 4) (j := 5) fd_La_28 sh_19 rfl (by decide +kernel) rfl ?_
  refine Gz.if_le (off := 19) (tgt := 23) (pc' := 7) (by decide +kernel) (by decide) rfl (fun c1 => ?_) (fun c1 => ?_)
  · have h := zok_t c1 h
    refine Gz.iconst (n := 0) (v := (0 : Int32)) (pc' := 24) (by decide +kernel) rfl rfl ?_
    exact Gz.zreturn (by decide +kernel) rfl (by decide) (zok_sI h)
  · have h := zok_f c1 h
    refine Gz.iload_n (q := 1) (pc' := 8) (by decide +kernel) rfl 1 rfl ?_
    refine Gz.if_lt (off := 15) (tgt := 23) (pc' := 11) (by decide +kernel) (by decide) rfl (fun c2 => ?_) (fun c2 => ?_)
    · have h := zok_t c2 h
      refine Gz.iconst (n := 0) (v := (0 : Int32)) (pc' := 24) (by decide +kernel) rfl rfl ?_
      exact Gz.zreturn (by decide +kernel) rfl (by decide) (zok_sI h)
    · have h := zok_f c2 h
      refine Gz.iload_n (q := 1) (pc' := 12) (by decide +kernel) rfl 1 rfl ?_
      refine Gz.aload_n (q := 0) (pc' := 13) (by decide +kernel) rfl 0 rfl ?_
      refine Gz.getI (pc' := 16) (j := 4) fd_La_32 sh_19 rfl (by decide +kernel) rfl ?_
      refine Gz.icmp_gt (off := 7) (tgt := 23) (pc' := 19) (by decide +kernel) (by decide) rfl (fun c3 => ?_) (fun c3 => ?_)
      · have h := zok_t c3 h
        refine Gz.iconst (n := 0) (v := (0 : Int32)) (pc' := 24) (by decide +kernel) rfl rfl ?_
        exact Gz.zreturn (by decide +kernel) rfl (by decide) (zok_sI h)
      · have h := zok_f c3 h
        refine Gz.iconst (n := 1) (v := (1 : Int32)) (pc' := 20) (by decide +kernel) rfl rfl ?_
        refine Gz.goto (off := 4) (tgt := 24) (by decide +kernel) (by decide) ?_
        exact Gz.zreturn (by decide +kernel) rfl (by decide) (zok_sI h)
def f_X_isSuch (a1 : Int32) (a2 : Int32) (w : gW) : Option (Int32 × gW) :=
zb (f_Oa_has a1 w) (fun v1 w2 =>
if v1 = 0 then
(some ((0 : Int32), w2))
else
(zb (f_La_isDay a2 w2) (fun v4 w5 =>
if v4 = 0 then
(some ((0 : Int32), w5))
else
(some ((1 : Int32), w5)))))
theorem g_X_isSuch {l : Launch} (a1 : Int32) (a2 : Int32) (w : gW) : gCt l m_X_isSuch 2 [.ref 0, .int a1, .int a2] w eI (f_X_isSuch a1 a2 w) := by
  intro Q h
  unfold f_X_isSuch at h
  show Gz l m_X_isSuch 2 0 [(0, .ref 0), (1, .int a1), (2, .int a2)] [] w Q
  refine Gz.aload_n (q := 0) (pc' := 1) (by decide +kernel) rfl 0 rfl ?_
  refine Gz.getR (pc' := 4) (j := 2) 5 fd_X_26 sh_0 rfl (by decide +kernel) rfl ?_
  refine Gz.iload_n (q := 1) (pc' := 5) (by decide +kernel) rfl 1 rfl ?_
  refine Gz.callVI (st := []) (b := 5) (pc' := 8) [.int a1] (g_Oa_has a1 w) h ok_m_Oa_has lk_X_285 sh_5 rfl rfl rfl (Nat.le_of_ble_eq_true rfl) (Nat.le_of_ble_eq_true rfl) (Nat.le_of_ble_eq_true rfl) (by decide +kernel) rfl (fun v1 w2 h => ?_)
  refine Gz.if_eq (off := 18) (tgt := 26) (pc' := 11) (by decide +kernel) (by decide) rfl (fun c3 => ?_) (fun c3 => ?_)
  · have h := zok_t c3 h
    refine Gz.iconst (n := 0) (v := (0 : Int32)) (pc' := 27) (by decide +kernel) rfl rfl ?_
    exact Gz.zreturn (by decide +kernel) rfl (by decide) (zok_sI h)
  · have h := zok_f c3 h
    refine Gz.aload_n (q := 0) (pc' := 12) (by decide +kernel) rfl 0 rfl ?_
    refine Gz.getR (pc' := 15) (j := 3) 19 fd_X_33 sh_0 rfl (by decide +kernel) rfl ?_
    refine Gz.iload_n (q := 2) (pc' := 16) (by decide +kernel) rfl 2 rfl ?_
    refine Gz.callVI (st := []) (b := 19) (pc' := 19) [.int a2] (g_La_isDay a2 w2) h ok_m_La_isDay lk_X_222 sh_19 rfl rfl rfl (Nat.le_of_ble_eq_true rfl) (Nat.le_of_ble_eq_true rfl) (Nat.le_of_ble_eq_true rfl) (by decide +kernel) rfl (fun v4 w5 h => ?_)
    refine Gz.if_eq (off := 7) (tgt := 26) (pc' := 22) (by decide +kernel) (by decide) rfl (fun c6 => ?_) (fun c6 => ?_)
    · have h := zok_t c6 h
      refine Gz.iconst (n := 0) (v := (0 : Int32)) (pc' := 27) (by decide +kernel) rfl rfl ?_
      exact Gz.zreturn (by decide +kernel) rfl (by decide) (zok_sI h)
    · have h := zok_f c6 h
      refine Gz.iconst (n := 1) (v := (1 : Int32)) (pc' := 23) (by decide +kernel) rfl rfl ?_
      refine Gz.goto (off := 4) (tgt := 27) (by decide +kernel) (by decide) ?_
      exact Gz.zreturn (by decide +kernel) rfl (by decide) (zok_sI h)
def f_An_actCount (w : gW) : Option (Int32 × gW) :=
some ((w.1 59 6) + (w.1 59 7), w)
theorem g_An_actCount {l : Launch} (w : gW) : gCt l m_An_actCount 1 [.ref 59] w eI (f_An_actCount w) := by
  intro Q h
  unfold f_An_actCount at h
  show Gz l m_An_actCount 1 0 [(0, .ref 59)] [] w Q
  refine Gz.aload_n (q := 0) (pc' := 1) (by decide +kernel) rfl 0 rfl ?_
  refine Gz.getI (pc' := 4) (j := 6) fd_An_37 sh_59 rfl (by decide +kernel) rfl ?_
  refine Gz.aload_n (q := 0) (pc' := 5) (by decide +kernel) rfl 0 rfl ?_
  refine Gz.getI (pc' := 8) (j := 7) fd_An_41 sh_59 rfl (by decide +kernel) rfl ?_
  refine Gz.iadd (pc' := 9) (by decide +kernel) rfl ?_
  exact Gz.ireturn (by decide +kernel) rfl (zok_sI h)
def f_An_addAct (a1 : Int32) (w : gW) : Option (Int32 × gW) :=
zb (f_An_actCount w) (fun v1 w2 =>
if v1 < 0 then
(some ((0 : Int32), w2))
else
(if v1 < (nI 30) then
(if inb v1 30 then
zl (zsI w2 64 (ix v1) a1) (fun w6 =>
some ((1 : Int32), w6))
else none)
else
(some ((0 : Int32), w2))))
theorem g_An_addAct {l : Launch} (a1 : Int32) (w : gW) : gCt l m_An_addAct 2 [.ref 59, .int a1] w eI (f_An_addAct a1 w) := by
  intro Q h
  unfold f_An_addAct at h
  show Gz l m_An_addAct 2 0 [(0, .ref 59), (1, .int a1)] [] w Q
  refine Gz.aload_n (q := 0) (pc' := 1) (by decide +kernel) rfl 0 rfl ?_
  refine Gz.callVI (st := []) (b := 59) (pc' := 4) [] (g_An_actCount w) h ok_m_An_actCount lk_An_54 sh_59 rfl rfl rfl (Nat.le_of_ble_eq_true rfl) (Nat.le_of_ble_eq_true rfl) (Nat.le_of_ble_eq_true rfl) (by decide +kernel) rfl (fun v1 w2 h => ?_)
  refine Gz.istore_n (q := 2) (pc' := 5) (L' := [(2, .int v1), (0, .ref 59), (1, .int a1)]) (by decide +kernel) rfl (Nat.le_of_ble_eq_true rfl) rfl ?_
  refine Gz.iload_n (q := 2) (pc' := 6) (by decide +kernel) rfl 0 rfl ?_
  refine Gz.if_lt (off := 12) (tgt := 18) (pc' := 9) (by decide +kernel) (by decide) rfl (fun c3 => ?_) (fun c3 => ?_)
  · have h := zok_t c3 h
    refine Gz.iconst (n := 0) (v := (0 : Int32)) (pc' := 19) (by decide +kernel) rfl rfl ?_
    exact Gz.zreturn (by decide +kernel) rfl (by decide) (zok_sI h)
  · have h := zok_f c3 h
    refine Gz.iload_n (q := 2) (pc' := 10) (by decide +kernel) rfl 0 rfl ?_
    refine Gz.aload_n (q := 0) (pc' := 11) (by decide +kernel) rfl 1 rfl ?_
    refine Gz.getR (pc' := 14) (j := 4) 64 fd_An_25 sh_59 rfl (by decide +kernel) rfl ?_
    refine Gz.alen (pc' := 15) (n := 30) (kd := 1) (by decide +kernel) rfl (Or.inl rfl) rfl rfl ?_
    refine Gz.icmp_lt (off := 5) (tgt := 20) (pc' := 18) (by decide +kernel) (by decide) rfl (fun c4 => ?_) (fun c4 => ?_)
    · have h := zok_t c4 h
      refine Gz.aload_n (q := 0) (pc' := 21) (by decide +kernel) rfl 1 rfl ?_
      refine Gz.getR (pc' := 24) (j := 4) 64 fd_An_25 sh_59 rfl (by decide +kernel) rfl ?_
      refine Gz.iload_n (q := 2) (pc' := 25) (by decide +kernel) rfl 0 rfl ?_
      refine Gz.iload_n (q := 1) (pc' := 26) (by decide +kernel) rfl 2 rfl ?_
      obtain ⟨c5, h⟩ := zok_c h
      refine Gz.iast (pc' := 27) (n := 30) (by decide +kernel) rfl rfl c5 ?_
      refine Gz.nmW (fun w6 e7 => ?_)
      have h := zok_l e7 h
      refine Gz.iconst (n := 1) (v := (1 : Int32)) (pc' := 28) (by decide +kernel) rfl rfl ?_
      exact Gz.zreturn (by decide +kernel) rfl (by decide) (zok_sI h)
    · have h := zok_f c4 h
      refine Gz.iconst (n := 0) (v := (0 : Int32)) (pc' := 19) (by decide +kernel) rfl rfl ?_
      exact Gz.zreturn (by decide +kernel) rfl (by decide) (zok_sI h)
def f_An_addSworn (a1 : Int32) (a2 : Int32) (a3 : Int32) (a4 : Int32) (w : gW) : Option (Unit × gW) :=
zl ((w.1 59 6) * (4 : Int32)) (fun v1 =>
if v1 < 0 then
(some ((), w))
else
(if (nI 40) < (v1 + (4 : Int32)) then
(some ((), w))
else
(zb (f_An_addAct (1 : Int32) w) (fun v5 w6 =>
if v5 = 0 then
(some ((), w6))
else
(if inb v1 40 then
zl (zsI w6 60 (ix v1) a1) (fun w9 =>
if inb (v1 + (1 : Int32)) 40 then
zl (zsI w9 60 (ix (v1 + (1 : Int32))) a2) (fun w12 =>
if inb (v1 + (2 : Int32)) 40 then
zl (zsI w12 60 (ix (v1 + (2 : Int32))) a3) (fun w15 =>
if inb (v1 + (3 : Int32)) 40 then
zl (zsI w15 60 (ix (v1 + (3 : Int32))) a4) (fun w18 =>
zl (zsI w18 59 6 ((w18.1 59 6) + (1 : Int32))) (fun w20 =>
some ((), w20)))
else none)
else none)
else none)
else none)))))
theorem g_An_addSworn {l : Launch} (a1 : Int32) (a2 : Int32) (a3 : Int32) (a4 : Int32) (w : gW) : gCt l m_An_addSworn 3 [.ref 59, .int a1, .int a2, .int a3, .int a4] w eV (f_An_addSworn a1 a2 a3 a4 w) := by
  intro Q h
  unfold f_An_addSworn at h
  show Gz l m_An_addSworn 3 0 [(0, .ref 59), (1, .int a1), (2, .int a2), (3, .int a3), (4, .int a4)] [] w Q
  refine Gz.aload_n (q := 0) (pc' := 1) (by decide +kernel) rfl 0 rfl ?_
  refine Gz.getI (pc' := 4) (j := 6) fd_An_37 sh_59 rfl (by decide +kernel) rfl ?_
  refine Gz.iconst (n := 4) (v := (4 : Int32)) (pc' := 5) (by decide +kernel) rfl rfl ?_
  refine Gz.imul (pc' := 6) (by decide +kernel) rfl ?_
  refine Gz.nmI (fun v1 e2 => ?_)
  have h := zok_l e2 h
  refine Gz.istore (i := 5) (pc' := 8) (L' := [(5, .int v1), (0, .ref 59), (1, .int a1), (2, .int a2), (3, .int a3), (4, .int a4)]) (by decide +kernel) rfl (Nat.le_of_ble_eq_true rfl) rfl ?_
  refine Gz.iload (i := 5) (pc' := 10) (by decide +kernel) rfl 0 rfl ?_
  refine Gz.if_lt (off := 72) (tgt := 82) (pc' := 13) (by decide +kernel) (by decide) rfl (fun c3 => ?_) (fun c3 => ?_)
  · have h := zok_t c3 h
    exact Gz.return_ (by decide +kernel) rfl (zok_sV h)
  · have h := zok_f c3 h
    refine Gz.iload (i := 5) (pc' := 15) (by decide +kernel) rfl 0 rfl ?_
    refine Gz.iconst (n := 4) (v := (4 : Int32)) (pc' := 16) (by decide +kernel) rfl rfl ?_
    refine Gz.iadd (pc' := 17) (by decide +kernel) rfl ?_
    refine Gz.aload_n (q := 0) (pc' := 18) (by decide +kernel) rfl 1 rfl ?_
    refine Gz.getR (pc' := 21) (j := 0) 60 fd_An_11 sh_59 rfl (by decide +kernel) rfl ?_
    refine Gz.alen (pc' := 22) (n := 40) (kd := 1) (by decide +kernel) rfl (Or.inl rfl) rfl rfl ?_
    refine Gz.icmp_gt (off := 60) (tgt := 82) (pc' := 25) (by decide +kernel) (by decide) rfl (fun c4 => ?_) (fun c4 => ?_)
    · have h := zok_t c4 h
      exact Gz.return_ (by decide +kernel) rfl (zok_sV h)
    · have h := zok_f c4 h
      refine Gz.aload_n (q := 0) (pc' := 26) (by decide +kernel) rfl 1 rfl ?_
      refine Gz.iconst (n := 1) (v := (1 : Int32)) (pc' := 27) (by decide +kernel) rfl rfl ?_
      refine Gz.callVI (st := []) (b := 59) (pc' := 30) [.int (1 : Int32)] (g_An_addAct (1 : Int32) w) h ok_m_An_addAct lk_An_50 sh_59 rfl rfl rfl (Nat.le_of_ble_eq_true rfl) (Nat.le_of_ble_eq_true rfl) (Nat.le_of_ble_eq_true rfl) (by decide +kernel) rfl (fun v5 w6 h => ?_)
      refine Gz.if_eq (off := 52) (tgt := 82) (pc' := 33) (by decide +kernel) (by decide) rfl (fun c7 => ?_) (fun c7 => ?_)
      · have h := zok_t c7 h
        exact Gz.return_ (by decide +kernel) rfl (zok_sV h)
      · have h := zok_f c7 h
        refine Gz.aload_n (q := 0) (pc' := 34) (by decide +kernel) rfl 1 rfl ?_
        refine Gz.getR (pc' := 37) (j := 0) 60 fd_An_11 sh_59 rfl (by decide +kernel) rfl ?_
        refine Gz.iload (i := 5) (pc' := 39) (by decide +kernel) rfl 0 rfl ?_
        refine Gz.iload_n (q := 1) (pc' := 40) (by decide +kernel) rfl 2 rfl ?_
        obtain ⟨c8, h⟩ := zok_c h
        refine Gz.iast (pc' := 41) (n := 40) (by decide +kernel) rfl rfl c8 ?_
        refine Gz.nmW (fun w9 e10 => ?_)
        have h := zok_l e10 h
        refine Gz.aload_n (q := 0) (pc' := 42) (by decide +kernel) rfl 1 rfl ?_
        refine Gz.getR (pc' := 45) (j := 0) 60 fd_An_11 sh_59 rfl (by decide +kernel) rfl ?_
        refine Gz.iload (i := 5) (pc' := 47) (by decide +kernel) rfl 0 rfl ?_
        refine Gz.iconst (n := 1) (v := (1 : Int32)) (pc' := 48) (by decide +kernel) rfl rfl ?_
        refine Gz.iadd (pc' := 49) (by decide +kernel) rfl ?_
        refine Gz.iload_n (q := 2) (pc' := 50) (by decide +kernel) rfl 3 rfl ?_
        obtain ⟨c11, h⟩ := zok_c h
        refine Gz.iast (pc' := 51) (n := 40) (by decide +kernel) rfl rfl c11 ?_
        refine Gz.nmW (fun w12 e13 => ?_)
        have h := zok_l e13 h
        refine Gz.aload_n (q := 0) (pc' := 52) (by decide +kernel) rfl 1 rfl ?_
        refine Gz.getR (pc' := 55) (j := 0) 60 fd_An_11 sh_59 rfl (by decide +kernel) rfl ?_
        refine Gz.iload (i := 5) (pc' := 57) (by decide +kernel) rfl 0 rfl ?_
        refine Gz.iconst (n := 2) (v := (2 : Int32)) (pc' := 58) (by decide +kernel) rfl rfl ?_
        refine Gz.iadd (pc' := 59) (by decide +kernel) rfl ?_
        refine Gz.iload_n (q := 3) (pc' := 60) (by decide +kernel) rfl 4 rfl ?_
        obtain ⟨c14, h⟩ := zok_c h
        refine Gz.iast (pc' := 61) (n := 40) (by decide +kernel) rfl rfl c14 ?_
        refine Gz.nmW (fun w15 e16 => ?_)
        have h := zok_l e16 h
        refine Gz.aload_n (q := 0) (pc' := 62) (by decide +kernel) rfl 1 rfl ?_
        refine Gz.getR (pc' := 65) (j := 0) 60 fd_An_11 sh_59 rfl (by decide +kernel) rfl ?_
        refine Gz.iload (i := 5) (pc' := 67) (by decide +kernel) rfl 0 rfl ?_
        refine Gz.iconst (n := 3) (v := (3 : Int32)) (pc' := 68) (by decide +kernel) rfl rfl ?_
        refine Gz.iadd (pc' := 69) (by decide +kernel) rfl ?_
        refine Gz.iload (i := 4) (pc' := 71) (by decide +kernel) rfl 5 rfl ?_
        obtain ⟨c17, h⟩ := zok_c h
        refine Gz.iast (pc' := 72) (n := 40) (by decide +kernel) rfl rfl c17 ?_
        refine Gz.nmW (fun w18 e19 => ?_)
        have h := zok_l e19 h
        refine Gz.aload_n (q := 0) (pc' := 73) (by decide +kernel) rfl 1 rfl ?_
        refine Gz.dup (pc' := 74) (by decide +kernel) rfl rfl ?_
        refine Gz.getI (pc' := 77) (j := 6) fd_An_37 sh_59 rfl (by decide +kernel) rfl ?_
        refine Gz.iconst (n := 1) (v := (1 : Int32)) (pc' := 78) (by decide +kernel) rfl rfl ?_
        refine Gz.iadd (pc' := 79) (by decide +kernel) rfl ?_
        refine Gz.putI (pc' := 82) (j := 6) fd_An_37 sh_59 rfl (by decide +kernel) rfl ?_
        refine Gz.nmW (fun w20 e21 => ?_)
        have h := zok_l e21 h
        exact Gz.return_ (by decide +kernel) rfl (zok_sV h)
def f_X_swear_b33 (x1 : Int32) (x2 : Int32) (x3 : Int32) (x4 : Int32) (s0 : Int32) (w : gW) : Option (Int32 × gW) :=
if s0 = 0 then
(some ((-1 : Int32), w))
else
(zb (f_An_swornCount w) (fun v2 w3 =>
if v2 < (10 : Int32) then
(zb (f_An_addSworn x1 x2 x3 x4 w3) (fun _ w5 =>
zb (f_Co_review w5) (fun _ w6 =>
zb (f_An_swornCount w6) (fun v7 w8 =>
some (v7, w8)))))
else
(some ((-1 : Int32), w3))))
def f_X_swear_b32 (x1 : Int32) (x2 : Int32) (x3 : Int32) (x4 : Int32) (w : gW) : Option (Int32 × gW) :=
f_X_swear_b33 x1 x2 x3 x4 (0 : Int32) w
def f_X_swear (a1 : Int32) (a2 : Int32) (a3 : Int32) (a4 : Int32) (w : gW) : Option (Int32 × gW) :=
zb (f_X_isPerson a1 w) (fun v1 w2 =>
if v1 = 0 then
(f_X_swear_b32 a1 a2 a3 a4 w2)
else
(zb (f_X_isSuch a2 a3 w2) (fun v4 w5 =>
if v4 = 0 then
(f_X_swear_b32 a1 a2 a3 a4 w5)
else
(if a4 < 0 then
(f_X_swear_b32 a1 a2 a3 a4 w5)
else
(if (99 : Int32) < a4 then
(f_X_swear_b32 a1 a2 a3 a4 w5)
else
(f_X_swear_b33 a1 a2 a3 a4 (1 : Int32) w5))))))
theorem g_X_swear_b33 {l : Launch} {Q : Option Value → gW → Prop} (x1 : Int32) (x2 : Int32) (x3 : Int32) (x4 : Int32) (s0 : Int32) (w : gW) (h : zok eI (f_X_swear_b33 x1 x2 x3 x4 s0 w) Q) : Gz l m_X_swear 6 33 [(0, .ref 0), (1, .int x1), (2, .int x2), (3, .int x3), (4, .int x4)] [.int s0] w Q := by
  unfold f_X_swear_b33 at h
  refine Gz.istore (i := 5) (pc' := 35) (L' := [(5, .int s0), (0, .ref 0), (1, .int x1), (2, .int x2), (3, .int x3), (4, .int x4)]) (by decide +kernel) rfl (Nat.le_of_ble_eq_true rfl) rfl ?_
  refine Gz.iload (i := 5) (pc' := 37) (by decide +kernel) rfl 0 rfl ?_
  refine Gz.if_eq (off := 15) (tgt := 52) (pc' := 40) (by decide +kernel) (by decide) rfl (fun c1 => ?_) (fun c1 => ?_)
  · have h := zok_t c1 h
    refine Gz.iconst (n := -1) (v := (-1 : Int32)) (pc' := 53) (by decide +kernel) rfl rfl ?_
    exact Gz.ireturn (by decide +kernel) rfl (zok_sI h)
  · have h := zok_f c1 h
    refine Gz.aload_n (q := 0) (pc' := 41) (by decide +kernel) rfl 1 rfl ?_
    refine Gz.getR (pc' := 44) (j := 4) 59 fd_X_40 sh_0 rfl (by decide +kernel) rfl ?_
    refine Gz.callVI (st := []) (b := 59) (pc' := 47) [] (g_An_swornCount w) h ok_m_An_swornCount lk_X_150 sh_59 rfl rfl rfl (Nat.le_of_ble_eq_true rfl) (Nat.le_of_ble_eq_true rfl) (Nat.le_of_ble_eq_true rfl) (by decide +kernel) rfl (fun v2 w3 h => ?_)
    refine Gz.bipush (n := 10) (v := (10 : Int32)) (pc' := 49) (by decide +kernel) rfl rfl ?_
    refine Gz.icmp_lt (off := 5) (tgt := 54) (pc' := 52) (by decide +kernel) (by decide) rfl (fun c4 => ?_) (fun c4 => ?_)
    · have h := zok_t c4 h
      refine Gz.aload_n (q := 0) (pc' := 55) (by decide +kernel) rfl 1 rfl ?_
      refine Gz.getR (pc' := 58) (j := 4) 59 fd_X_40 sh_0 rfl (by decide +kernel) rfl ?_
      refine Gz.iload_n (q := 1) (pc' := 59) (by decide +kernel) rfl 2 rfl ?_
      refine Gz.iload_n (q := 2) (pc' := 60) (by decide +kernel) rfl 3 rfl ?_
      refine Gz.iload_n (q := 3) (pc' := 61) (by decide +kernel) rfl 4 rfl ?_
      refine Gz.iload (i := 4) (pc' := 63) (by decide +kernel) rfl 5 rfl ?_
      refine Gz.callVV (st := []) (b := 59) (pc' := 66) [.int x1, .int x2, .int x3, .int x4] (g_An_addSworn x1 x2 x3 x4 w3) h ok_m_An_addSworn lk_X_153 sh_59 rfl rfl rfl (Nat.le_of_ble_eq_true rfl) (Nat.le_of_ble_eq_true rfl) (Nat.le_of_ble_eq_true rfl) (by decide +kernel) rfl (fun _ w5 h => ?_)
      refine Gz.aload_n (q := 0) (pc' := 67) (by decide +kernel) rfl 1 rfl ?_
      refine Gz.getR (pc' := 70) (j := 6) 73 fd_X_52 sh_0 rfl (by decide +kernel) rfl ?_
      refine Gz.callVV (st := []) (b := 73) (pc' := 73) [] (g_Co_review w5) h ok_m_Co_review lk_X_116 sh_73 rfl rfl rfl (Nat.le_of_ble_eq_true rfl) (Nat.le_of_ble_eq_true rfl) (Nat.le_of_ble_eq_true rfl) (by decide +kernel) rfl (fun _ w6 h => ?_)
      refine Gz.aload_n (q := 0) (pc' := 74) (by decide +kernel) rfl 1 rfl ?_
      refine Gz.getR (pc' := 77) (j := 4) 59 fd_X_40 sh_0 rfl (by decide +kernel) rfl ?_
      refine Gz.callVI (st := []) (b := 59) (pc' := 80) [] (g_An_swornCount w6) h ok_m_An_swornCount lk_X_150 sh_59 rfl rfl rfl (Nat.le_of_ble_eq_true rfl) (Nat.le_of_ble_eq_true rfl) (Nat.le_of_ble_eq_true rfl) (by decide +kernel) rfl (fun v7 w8 h => ?_)
      exact Gz.ireturn (by decide +kernel) rfl (zok_sI h)
    · have h := zok_f c4 h
      refine Gz.iconst (n := -1) (v := (-1 : Int32)) (pc' := 53) (by decide +kernel) rfl rfl ?_
      exact Gz.ireturn (by decide +kernel) rfl (zok_sI h)
theorem g_X_swear_b32 {l : Launch} {Q : Option Value → gW → Prop} (x1 : Int32) (x2 : Int32) (x3 : Int32) (x4 : Int32) (w : gW) (h : zok eI (f_X_swear_b32 x1 x2 x3 x4 w) Q) : Gz l m_X_swear 6 32 [(0, .ref 0), (1, .int x1), (2, .int x2), (3, .int x3), (4, .int x4)] [] w Q := by
  unfold f_X_swear_b32 at h
  refine Gz.iconst (n := 0) (v := (0 : Int32)) (pc' := 33) (by decide +kernel) rfl rfl ?_
  exact g_X_swear_b33 x1 x2 x3 x4 (0 : Int32) w h
theorem g_X_swear {l : Launch} (a1 : Int32) (a2 : Int32) (a3 : Int32) (a4 : Int32) (w : gW) : gCt l m_X_swear 6 [.ref 0, .int a1, .int a2, .int a3, .int a4] w eI (f_X_swear a1 a2 a3 a4 w) := by
  intro Q h
  unfold f_X_swear at h
  show Gz l m_X_swear 6 0 [(0, .ref 0), (1, .int a1), (2, .int a2), (3, .int a3), (4, .int a4)] [] w Q
  refine Gz.iload_n (q := 1) (pc' := 1) (by decide +kernel) rfl 1 rfl ?_
  refine Gz.callSI (st := []) (pc' := 4) [.int a1] (g_X_isPerson a1 w) h ok_m_X_isPerson lk_X_143 rfl (Nat.le_of_ble_eq_true rfl) (Nat.le_of_ble_eq_true rfl) (Nat.le_of_ble_eq_true rfl) (by decide +kernel) rfl (fun v1 w2 h => ?_)
  refine Gz.if_eq (off := 28) (tgt := 32) (pc' := 7) (by decide +kernel) (by decide) rfl (fun c3 => ?_) (fun c3 => ?_)
  · have h := zok_t c3 h
    exact g_X_swear_b32 a1 a2 a3 a4 w2 h
  · have h := zok_f c3 h
    refine Gz.aload_n (q := 0) (pc' := 8) (by decide +kernel) rfl 0 rfl ?_
    refine Gz.iload_n (q := 2) (pc' := 9) (by decide +kernel) rfl 2 rfl ?_
    refine Gz.iload_n (q := 3) (pc' := 10) (by decide +kernel) rfl 3 rfl ?_
    refine Gz.callVI (st := []) (b := 0) (pc' := 13) [.int a2, .int a3] (g_X_isSuch a2 a3 w2) h ok_m_X_isSuch lk_X_146 sh_0 rfl rfl rfl (Nat.le_of_ble_eq_true rfl) (Nat.le_of_ble_eq_true rfl) (Nat.le_of_ble_eq_true rfl) (by decide +kernel) rfl (fun v4 w5 h => ?_)
    refine Gz.if_eq (off := 19) (tgt := 32) (pc' := 16) (by decide +kernel) (by decide) rfl (fun c6 => ?_) (fun c6 => ?_)
    · have h := zok_t c6 h
      exact g_X_swear_b32 a1 a2 a3 a4 w5 h
    · have h := zok_f c6 h
      refine Gz.iload (i := 4) (pc' := 18) (by decide +kernel) rfl 4 rfl ?_
      refine Gz.if_lt (off := 14) (tgt := 32) (pc' := 21) (by decide +kernel) (by decide) rfl (fun c7 => ?_) (fun c7 => ?_)
      · have h := zok_t c7 h
        exact g_X_swear_b32 a1 a2 a3 a4 w5 h
      · have h := zok_f c7 h
        refine Gz.iload (i := 4) (pc' := 23) (by decide +kernel) rfl 4 rfl ?_
        refine Gz.bipush (n := 99) (v := (99 : Int32)) (pc' := 25) (by decide +kernel) rfl rfl ?_
        refine Gz.icmp_gt (off := 7) (tgt := 32) (pc' := 28) (by decide +kernel) (by decide) rfl (fun c8 => ?_) (fun c8 => ?_)
        · have h := zok_t c8 h
          exact g_X_swear_b32 a1 a2 a3 a4 w5 h
        · have h := zok_f c8 h
          refine Gz.iconst (n := 1) (v := (1 : Int32)) (pc' := 29) (by decide +kernel) rfl rfl ?_
          refine Gz.goto (off := 4) (tgt := 33) (by decide +kernel) (by decide) ?_
          exact g_X_swear_b33 a1 a2 a3 a4 (1 : Int32) w5 h
def f_X_sworn (a1 : Int32) (a2 : Int32) (w : gW) : Option (Int32 × gW) :=
zb (f_An_swornPart a1 a2 w) (fun v1 w2 =>
some (v1, w2))
theorem g_X_sworn {l : Launch} (a1 : Int32) (a2 : Int32) (w : gW) : gCt l m_X_sworn 2 [.ref 0, .int a1, .int a2] w eI (f_X_sworn a1 a2 w) := by
  intro Q h
  unfold f_X_sworn at h
  show Gz l m_X_sworn 2 0 [(0, .ref 0), (1, .int a1), (2, .int a2)] [] w Q
  refine Gz.aload_n (q := 0) (pc' := 1) (by decide +kernel) rfl 0 rfl ?_
  refine Gz.getR (pc' := 4) (j := 4) 59 fd_X_40 sh_0 rfl (by decide +kernel) rfl ?_
  refine Gz.iload_n (q := 1) (pc' := 5) (by decide +kernel) rfl 1 rfl ?_
  refine Gz.iload_n (q := 2) (pc' := 6) (by decide +kernel) rfl 2 rfl ?_
  refine Gz.callVI (st := []) (b := 59) (pc' := 9) [.int a1, .int a2] (g_An_swornPart a1 a2 w) h ok_m_An_swornPart lk_X_157 sh_59 rfl rfl rfl (Nat.le_of_ble_eq_true rfl) (Nat.le_of_ble_eq_true rfl) (Nat.le_of_ble_eq_true rfl) (by decide +kernel) rfl (fun v1 w2 h => ?_)
  exact Gz.ireturn (by decide +kernel) rfl (zok_sI h)
def f_La_hasDate_b26 (w : gW) : Option (Int32 × gW) :=
some ((1 : Int32), w)
def f_La_hasDate (a1 : Int32) (a2 : Int32) (w : gW) : Option (Int32 × gW) :=
zb (f_La_hasDeed a1 w) (fun v1 w2 =>
if v1 = 0 then
(some ((0 : Int32), w2))
else
(if a2 = (9 : Int32) then
(f_La_hasDate_b26 w2)
else
(if a2 < 0 then
(some ((0 : Int32), w2))
else
(if (w2.1 19 4) ≤ a2 then
(some ((0 : Int32), w2))
else
(f_La_hasDate_b26 w2)))))
theorem g_La_hasDate_b26 {l : Launch} {Q : Option Value → gW → Prop} (w : gW) (h : zok eI (f_La_hasDate_b26 w) Q) : Gz l m_La_hasDate 2 26 [] [] w Q := by
  unfold f_La_hasDate_b26 at h
  refine Gz.iconst (n := 1) (v := (1 : Int32)) (pc' := 27) (by decide +kernel) rfl rfl ?_
  refine Gz.goto (off := 4) (tgt := 31) (by decide +kernel) (by decide) ?_
  exact Gz.zreturn (by decide +kernel) rfl (by decide) (zok_sI h)
theorem g_La_hasDate {l : Launch} (a1 : Int32) (a2 : Int32) (w : gW) : gCt l m_La_hasDate 2 [.ref 19, .int a1, .int a2] w eI (f_La_hasDate a1 a2 w) := by
  intro Q h
  unfold f_La_hasDate at h
  show Gz l m_La_hasDate 2 0 [(0, .ref 19), (1, .int a1), (2, .int a2)] [] w Q
  refine Gz.aload_n (q := 0) (pc' := 1) (by decide +kernel) rfl 0 rfl ?_
  refine Gz.iload_n (q := 1) (pc' := 2) (by decide +kernel) rfl 1 rfl ?_
  refine Gz.callVI (st := []) (b := 19) (pc' := 5) [.int a1] (g_La_hasDeed a1 w) h ok_m_La_hasDeed lk_La_38 sh_19 rfl rfl rfl (Nat.le_of_ble_eq_true rfl) (Nat.le_of_ble_eq_true rfl) (Nat.le_of_ble_eq_true rfl) (by decide +kernel) rfl (fun v1 w2 h => ?_)
  refine Gz.if_eq (off := 25) (tgt := 30) (pc' := 8) (by decide +kernel) (by decide) rfl (fun c3 => ?_) (fun c3 => ?_)
  · have h := zok_t c3 h
    refine Gz.iconst (n := 0) (v := (0 : Int32)) (pc' := 31) (by decide +kernel) rfl rfl ?_
    exact Gz.zreturn (by decide +kernel) rfl (by decide) (zok_sI h)
  · have h := zok_f c3 h
    refine Gz.iload_n (q := 2) (pc' := 9) (by decide +kernel) rfl 2 rfl ?_
    refine Gz.bipush (n := 9) (v := (9 : Int32)) (pc' := 11) (by decide +kernel) rfl rfl ?_
    refine Gz.icmp_eq (off := 15) (tgt := 26) (pc' := 14) (by decide +kernel) (by decide) rfl (fun c4 => ?_) (fun c4 => ?_)
    · have h := zok_t c4 h
      refine Gz.sub (L' := []) [] rfl ?_
      exact g_La_hasDate_b26 w2 h
    · have h := zok_f c4 h
      refine Gz.iload_n (q := 2) (pc' := 15) (by decide +kernel) rfl 2 rfl ?_
      refine Gz.if_lt (off := 15) (tgt := 30) (pc' := 18) (by decide +kernel) (by decide) rfl (fun c5 => ?_) (fun c5 => ?_)
      · have h := zok_t c5 h
        refine Gz.iconst (n := 0) (v := (0 : Int32)) (pc' := 31) (by decide +kernel) rfl rfl ?_
        exact Gz.zreturn (by decide +kernel) rfl (by decide) (zok_sI h)
      · have h := zok_f c5 h
        refine Gz.iload_n (q := 2) (pc' := 19) (by decide +kernel) rfl 2 rfl ?_
        refine Gz.aload_n (q := 0) (pc' := 20) (by decide +kernel) rfl 0 rfl ?_
        refine Gz.getI (pc' := 23) (j := 4) fd_La_32 sh_19 rfl (by decide +kernel) rfl ?_
        refine Gz.icmp_ge (off := 7) (tgt := 30) (pc' := 26) (by decide +kernel) (by decide) rfl (fun c6 => ?_) (fun c6 => ?_)
        · have h := zok_t c6 h
          refine Gz.iconst (n := 0) (v := (0 : Int32)) (pc' := 31) (by decide +kernel) rfl rfl ?_
          exact Gz.zreturn (by decide +kernel) rfl (by decide) (zok_sI h)
        · have h := zok_f c6 h
          refine Gz.sub (L' := []) [] rfl ?_
          exact g_La_hasDate_b26 w2 h
