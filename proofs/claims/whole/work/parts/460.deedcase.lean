/-! DEED, third part: the law's case -/
theorem lkL_43 : Cond.methodLink R_law 43 ⟨"OathYesterdayModel", "deed", "(II)I"⟩ ∈ g_TB := g_in7 229 (by decide +kernel) (by decide +kernel)
theorem lkL_44 : Cond.methodLink R_law 44 ⟨"OathYesterdayModel", "thrown", "()I"⟩ ∈ g_TB := g_in7 127 (by decide +kernel) (by decide +kernel)
theorem Gl.lald {p : Program} {l : Launch} {e : Env} {s : State} {m : MethodId} {below : List Frame} {meth : Method} {c : Code} {b o LL : Nat} {xs : Nat → Int32} {D : va_G} {yy : Nat → ClassId} {cells slots pc pc' : Nat} {Lc : List (Nat × Value)} {st : List Value} {w : gW} (X : gC p s m meth c b LL xs o D yy) {k n : Nat} {i : Int32} (hd : decode code pc = .ok (.laload, 1)) (hp : pc + 1 = pc') (hn : g_len 2 k = n) (h : inb i n) (kk : Gl p l e s m below meth c b o D yy cells slots pc' Lc (.long (w.2 k (ix i)) :: st) w) : Gl p l e s m below meth c b o D yy cells slots pc Lc (.int i :: .ref (o + k) :: st) w := by
  subst hp
  intro H locs ls hP hS hl
  obtain ⟨-, ha, hv⟩ := g_arrL (yy := yy) (o := o) (w := w) (by rw [hn]; exact h) hn
  exact va_lald X.1.1 X.1.2.1 X.2.2 hP k 1 ha rfl hv hd (kk H locs ls hP hS hl)
def zSt_deed (I : gW → Prop) : Prop := ∀ (x y : Int32) (w : gW), I w → ∃ (out : Option Int32) (w1 : gW) (v : Int32) (w2 w3 : gW), f_X_deed x y w = some (out, w1) ∧ f_M_deed x y (ddO out w1) = some (v, w2) ∧ f_M_thrown w2 = some (ddR out, w3) ∧ (ddR out = 0 → w3.2 135 (ix (0 : Int32)) = v.toInt64) ∧ I w3
theorem law_deed {p : Program} {l : Launch} {e : Env} {s : State} {m : MethodId} {below : List Frame} {meth : Method} {c : Code} {b o LL : Nat} {xs : Nat → Int32} {D : va_G} {yy : Nat → ClassId} {sa : Nat} (X : gC p s m meth c b LL xs o D yy) (hl : l.stackTraces = false) (hs : ddS s sa) {I : gW → Prop} (hstep : zSt_deed I) : zDeed p l e s m below meth c b o LL D yy I := by
  intro k cells slots x4 hk e4 hcs hcont w hw
  obtain ⟨out, w1, v, w2, w3, hr1, hr2, hr3, hr4, hw3⟩ := hstep (xs (6 * k + 1)) (xs (6 * k + 2)) w hw
  refine Gl.aload_n X (q := 1) (pc' := 393) (by decide +kernel) rfl 2 rfl ?_
  refine Gl.aload_n X (q := 0) (pc' := 394) (by decide +kernel) rfl 1 rfl ?_
  refine Gl.iload X (i := 4) (pc' := 396) (by decide +kernel) rfl 0 rfl ?_
  refine Gl.iconst X (n := 1) (v := (1 : Int32)) (pc' := 397) (by decide +kernel) rfl rfl ?_
  refine Gl.iadd X (pc' := 398) (by decide +kernel) rfl ?_
  refine Gl.sld X (i := x4 + (1 : Int32)) (gl_in hk e4 X.1 (j := 1) ⟨by decide, rfl⟩) (pc' := 399) (by decide +kernel) rfl ?_
  rw [gl_cl hk e4 X.1 (j := 1) (v := (1 : Int32)) ⟨by decide, rfl⟩]
  refine Gl.aload_n X (q := 0) (pc' := 400) (by decide +kernel) rfl 1 rfl ?_
  refine Gl.iload X (i := 4) (pc' := 402) (by decide +kernel) rfl 0 rfl ?_
  refine Gl.iconst X (n := 2) (v := (2 : Int32)) (pc' := 403) (by decide +kernel) rfl rfl ?_
  refine Gl.iadd X (pc' := 404) (by decide +kernel) rfl ?_
  refine Gl.sld X (i := x4 + (2 : Int32)) (gl_in hk e4 X.1 (j := 2) ⟨by decide, rfl⟩) (pc' := 405) (by decide +kernel) rfl ?_
  rw [gl_cl hk e4 X.1 (j := 2) (v := (2 : Int32)) ⟨by decide, rfl⟩]
  refine Gl.aload_n X (q := 3) (pc' := 406) (by decide +kernel) rfl 4 rfl ?_
  refine Gl.deed X hl hs hr1 hcs (by decide +kernel) (pc' := 409) rfl ?_
  refine Gl.istore X (i := 5) (pc' := 411) (by decide +kernel) rfl (by decide) rfl ?_
  refine Gl.aload_n X (q := 2) (pc' := 412) (by decide +kernel) rfl 4 rfl ?_
  refine Gl.aload_n X (q := 0) (pc' := 413) (by decide +kernel) rfl 2 rfl ?_
  refine Gl.iload X (i := 4) (pc' := 415) (by decide +kernel) rfl 1 rfl ?_
  refine Gl.iconst X (n := 1) (v := (1 : Int32)) (pc' := 416) (by decide +kernel) rfl rfl ?_
  refine Gl.iadd X (pc' := 417) (by decide +kernel) rfl ?_
  refine Gl.sld X (i := x4 + (1 : Int32)) (gl_in hk e4 X.1 (j := 1) ⟨by decide, rfl⟩) (pc' := 418) (by decide +kernel) rfl ?_
  rw [gl_cl hk e4 X.1 (j := 1) (v := (1 : Int32)) ⟨by decide, rfl⟩]
  refine Gl.aload_n X (q := 0) (pc' := 419) (by decide +kernel) rfl 2 rfl ?_
  refine Gl.iload X (i := 4) (pc' := 421) (by decide +kernel) rfl 1 rfl ?_
  refine Gl.iconst X (n := 2) (v := (2 : Int32)) (pc' := 422) (by decide +kernel) rfl rfl ?_
  refine Gl.iadd X (pc' := 423) (by decide +kernel) rfl ?_
  refine Gl.sld X (i := x4 + (2 : Int32)) (gl_in hk e4 X.1 (j := 2) ⟨by decide, rfl⟩) (pc' := 424) (by decide +kernel) rfl ?_
  rw [gl_cl hk e4 X.1 (j := 2) (v := (2 : Int32)) ⟨by decide, rfl⟩]
  refine Gl.callVI (z := m_M_deed) (st := []) (bb := 107) (pc' := 427) [.int (xs (6 * k + 1)), .int (xs (6 * k + 2))] X (g_M_deed (xs (6 * k + 1)) (xs (6 * k + 2)) (ddO out w1)) hr2 ok_m_M_deed lkL_43 sh_107 rfl rfl rfl (Nat.le_of_ble_eq_true rfl) (Nat.le_of_ble_eq_true rfl) (Nat.le_of_ble_eq_true rfl) ⟨hcs.1, hcs.2⟩ rfl (by decide +kernel) rfl ?_
  refine Gl.istore X (i := 6) (pc' := 429) (by decide +kernel) rfl (by decide) rfl ?_
  refine Gl.aload_n X (q := 2) (pc' := 430) (by decide +kernel) rfl 5 rfl ?_
  refine Gl.callVI (z := m_M_thrown) (st := []) (bb := 107) (pc' := 433) [] X (g_M_thrown w2) hr3 ok_m_M_thrown lkL_44 sh_107 rfl rfl rfl (Nat.le_of_ble_eq_true rfl) (Nat.le_of_ble_eq_true rfl) (Nat.le_of_ble_eq_true rfl) ⟨hcs.1, hcs.2⟩ rfl (by decide +kernel) rfl ?_
  refine Gl.iload X (i := 5) (pc' := 435) (by decide +kernel) rfl 1 rfl ?_
  refine Gl.icmp_eq X (off := 5) (tgt := 440) (pc' := 438) (by decide +kernel) (by decide) rfl (fun _ => ?_) (fun c1 => absurd rfl c1)
  refine Gl.iload X (i := 5) (pc' := 442) (by decide +kernel) rfl 1 rfl ?_
  have hend : Gl p l e s m below meth c b o D yy (cells + 1) (slots + 64) 457 [(6, .int v), (5, .int (ddR out)), (4, .int x4), (0, .ref b), (1, .ref (o + 0)), (2, .ref (o + 107)), (3, .ref (o + 135))] [] w3 :=
    Gl.goto X (off := 1459) (tgt := 1916) (by decide +kernel) (by decide) (Gl.sub [2, 3, 4, 5, 6] rfl (hcont w3 hw3))
  refine Gl.if_ne X (off := 15) (tgt := 457) (pc' := 445) (by decide +kernel) (by decide) rfl (fun _ => hend) (fun c1 => ?_)
  refine Gl.aload_n X (q := 3) (pc' := 446) (by decide +kernel) rfl 6 rfl ?_
  refine Gl.iconst X (n := 0) (v := (0 : Int32)) (pc' := 447) (by decide +kernel) rfl rfl ?_
  refine Gl.lald X (k := 135) (n := 1) (pc' := 448) (by decide +kernel) rfl (by decide +kernel) (by decide +kernel) ?_
  refine Gl.iload X (i := 6) (pc' := 450) (by decide +kernel) rfl 0 rfl ?_
  refine Gl.i2l X (pc' := 451) (by decide +kernel) rfl ?_
  rw [hr4 c1]
  refine Gl.lcmp X (pc' := 452) (by decide +kernel) rfl ?_
  refine Gl.if_eq X (off := 5) (tgt := 457) (pc' := 455) (by decide +kernel) (by decide) rfl (fun c1 => hend) (fun c1 => absurd (gl_cmp v.toInt64) c1)
