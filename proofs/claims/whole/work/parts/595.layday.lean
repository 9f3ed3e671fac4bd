/-! PURE: the model's holding and layDay; how a question is closed -/
def zPL (a b : Nat) : Bool := zPM a b || a == 111
def zML (u w : gW) : Prop := zAg zPL (fun _ => false) u w
theorem zMe.ml {u w : gW} (h : zMe u w) : zML u w := zAg.wk h (fun a b q => by unfold zPL; rw [q]; rfl) (fun _ q => q)
theorem zLv.ml {u w : gW} (h : zLv u w) : zML u w := zAg.wk h (fun a b q => by unfold zPL; rw [show (a == 111) = true from q, Bool.or_true]) (fun _ q => q)
theorem zML.tr {u w v : gW} (h : zML u w) (k : zML w v) : zML u v := zAg.tr h k
theorem zML.rf (w : gW) : zML w w := zAg.rf _ _ _
theorem zPL_scr {a b : Nat} (q : zPL a b = true) : zScrI a b = true := by
  unfold zPL at q
  rw [Bool.or_eq_true, beq_iff_eq] at q
  rcases q with q | q
  · exact zPM_scr q
  · subst q; rfl
theorem zML.e {u w v : gW} (h : zE u w) (k : zML w v) : zE u v := zAg.tr (show zAg zScrI zScrL u w from h) (zAg.wk k (fun _ _ q => zPL_scr q) (fun _ q => by cases q))
theorem zPL_107 (b : Nat) (_ : b < 60) (h1 : b ≠ 4) (h2 : b ≠ 7) (h3 : b ≠ 8) (h4 : b ≠ 9) (h5 : b ≠ 10) (h6 : b ≠ 11) (h7 : b ≠ 13) (h8 : b ≠ 14) : zPL 107 b = false := by
  unfold zPL zPM
  rw [Bool.or_eq_false_iff]
  refine ⟨?_, rfl⟩
  show (true && [4, 7, 8, 9, 10, 11, 13, 14].contains b) = false
  rw [Bool.true_and, List.contains_eq_mem, decide_eq_false_iff_not]
  simp only [List.mem_cons, List.not_mem_nil, or_false]
  omega
theorem zML.s {u w : gW} (h : zML u w) {b : Nat} (q : zPL 107 b = false) : w.1 107 b = u.1 107 b := h.1 107 b q
theorem zML.o {u w : gW} (h : zML u w) {a b : Nat} (q : a ≠ 107) (q2 : a ≠ 111) : w.1 a b = u.1 a b := h.1 a b (by unfold zPL zPM; rw [beq_eq_false_iff_ne.mpr q, beq_eq_false_iff_ne.mpr q2]; rfl)
/-- the invariant over scratch -/
def zI (w : gW) : Prop := zJ (zPV w)
theorem zPV_E (w : gW) : zE (zPV w) w := by
  refine ⟨fun a b q => ?_, fun a b q => ?_⟩
  · show w.1 a b = if zScrI a b = true then 0 else w.1 a b
    rw [if_neg (by rw [q]; decide)]
  · show w.2 a b = if zScrL a = true then 0 else w.2 a b
    rw [if_neg (by rw [q]; decide)]
theorem zPV_PV (w : gW) : zPV (zPV w) = zPV w := (zPV_E w).pv.symm
theorem zI.to {w v : gW} (h : zI w) (k : zE (zPV w) v) : zI v := by
  unfold zI
  rw [k.pv, zPV_PV]
  exact h
theorem zI.fin {α : Type} {w : gW} (h : zI w) {X M : gW → Option (α × gW)} {r : α} (hx : ∀ v, zE (zPV w) v → ∃ v' : gW, X v = some (r, v') ∧ zE (zPV w) v') (hm : ∀ v, zE (zPV w) v → ∃ v' : gW, M v = some (r, v') ∧ zE (zPV w) v') : ∃ (r : α) (w1 w2 : gW), X w = some (r, w1) ∧ M w1 = some (r, w2) ∧ zI w2 := by
  obtain ⟨w1, e1, k1⟩ := hx w (zPV_E w)
  obtain ⟨w2, e2, k2⟩ := hm w1 k1
  exact ⟨r, w1, w2, e1, e2, h.to k2⟩
/-- alike answers of both -/
def zQ {α : Type} (u : gW) (X M : gW → Option (α × gW)) : Prop := ∃ r : α, (∀ v, zE u v → ∃ v' : gW, X v = some (r, v') ∧ zE u v') ∧ ∀ v, zE u v → ∃ v' : gW, M v = some (r, v') ∧ zE u v'
theorem zI.q {α : Type} {w : gW} (h : zI w) {X M : gW → Option (α × gW)} (k : zQ (zPV w) X M) : ∃ (r : α) (w1 w2 : gW), X w = some (r, w1) ∧ M w1 = some (r, w2) ∧ zI w2 := by
  obtain ⟨r, hx, hm⟩ := k
  exact h.fin hx hm
/-- bits of the oaths that hold -/
def yhb (u : gW) (s k : Nat) : Nat → Nat
  | 0 => 0
  | n + 1 => yhb u s k n ||| (if yH u n s (yal u) k = true then 2 ^ n else 0)
def yhB (u : gW) (s k : Nat) : Nat := yhb u s k (yO u)
theorem yhb_B (u : gW) (s k : Nat) : ∀ n, isB n (fun i => yH u i s (yal u) k = true) (yhb u s k n)
  | 0 => isB.z _
  | n + 1 => (yhb_B u s k n).s _ Iff.rfl
def ysm (u : gW) (s : Nat) : Nat → Nat
  | 0 => 0
  | k + 1 => if yfi u k = true then ysm u s k ||| yhB u s k else ysm u s k
def yea (u : gW) (s : Nat) : Nat → Nat
  | 0 => 2 ^ yO u - 1
  | k + 1 => if yfi u k = true then yea u s k &&& yhB u s k else yea u s k
def ypc (b : Nat) : Nat := fb_ct b.testBit 10
def yms (u : gW) (s : Nat) : Nat → Option (Nat × Nat)
  | 0 => none
  | k + 1 => if yfi u k = true then (match yms u s k with
      | none => some (ypc (yhB u s k), yhB u s k)
      | some q => if ypc (yhB u s k) < q.1 then some q else if ypc (yhB u s k) = q.1 then (if yhB u s k ≤ q.2 then some (ypc (yhB u s k), yhB u s k) else some q) else some (ypc (yhB u s k), yhB u s k)) else yms u s k
def LM (q : Option (Nat × Nat)) (w : gW) : Prop := match q with
  | none => w.1 107 43 = -1
  | some q => w.1 107 42 = nI q.1 ∧ w.1 107 43 = nI q.2
/-- what layDay leaves, after k lives -/
def LD (u : gW) (s k : Nat) (w : gW) : Prop := w.1 107 40 = nI (ysm u s k) ∧ w.1 107 41 = nI (yea u s k) ∧ w.1 107 44 = nI (fb_ct (yfi u) k) ∧ (∀ j, j < k → yfi u j = true → w.1 128 (fb_ct (yfi u) j) = nI (yhB u s j)) ∧ LM (yms u s k) w
section
variable {u : gW}
theorem yhB_lt (K : zK u) (s k : Nat) : yhB u s k < 256 := by
  have a := (yhb_B u s k (yO u)).1
  have b : 2 ^ yO u ≤ 2 ^ 8 := Nat.pow_le_pow_right (by decide) K.O8
  unfold yhB
  omega
theorem ysm_lt (K : zK u) (s : Nat) : ∀ k, ysm u s k < 256
  | 0 => by show 0 < 256; decide
  | k + 1 => by
    unfold ysm
    have a := ysm_lt K s k
    split
    · exact Nat.or_lt_two_pow (n := 8) a (yhB_lt K s k)
    · exact a
theorem yea_lt (K : zK u) (s : Nat) : ∀ k, yea u s k < 256
  | 0 => by
    have b : 2 ^ yO u ≤ 2 ^ 8 := Nat.pow_le_pow_right (by decide) K.O8
    have := Nat.two_pow_pos (yO u)
    show 2 ^ yO u - 1 < 256
    omega
  | k + 1 => by
    unfold yea
    have a := yea_lt K s k
    split
    · exact Nat.lt_of_le_of_lt Nat.and_le_left a
    · exact a
theorem ypc_le (b : Nat) : ypc b ≤ 10 := fb_ct_le _ 10
theorem yms_lt (K : zK u) (s : Nat) : ∀ k q, yms u s k = some q → q.1 ≤ 10 ∧ q.2 < 256
  | 0, q, h => by cases h
  | k + 1, q, h => by
    have new : (ypc (yhB u s k), yhB u s k).1 ≤ 10 ∧ (ypc (yhB u s k), yhB u s k).2 < 256 := ⟨ypc_le _, yhB_lt K s k⟩
    unfold yms at h
    by_cases hf : yfi u k = true
    · rw [if_pos hf] at h
      cases hq : yms u s k with
      | none => rw [hq] at h; cases h; exact new
      | some q2 =>
        have old := yms_lt K s k q2 hq
        rw [hq] at h
        dsimp only at h
        split at h
        · cases h; exact old
        · split at h
          · split at h
            · cases h; exact new
            · cases h; exact old
          · cases h; exact new
    · rw [if_neg hf] at h
      exact yms_lt K s k q h
theorem M_holding (K : zK u) {w : gW} (h : zEk u w) {s k : Nat} (hl : lvL u k w) (hs : s < 7) : ∃ w' : gW, f_M_holding (nI s) w = some (nI (yhB u s k), w') ∧ zMe w w' := by
  have h8 := K.O8
  have key := zfx_ind (fun _ _ _ _ => none) f_M_holding_b4_s (fun m kk => ∀ i v, i + m = yO u → zMe w v → ∃ w' : gW, kk (nI s) (nI (yhb u s k i)) (nI i) v = some (nI (yhB u s k), w') ∧ zMe w w') (fun m kk ih i v hi hv => by
    have hE := hv.k h
    unfold f_M_holding_b4_s
    rw [hE.i rfl, K.C.2.2.2.1.2]
    cases m with
    | zero =>
      rw [if_pos (by rw [n_le (by omega) (by omega)]; omega)]
      refine ⟨v, ?_, hv⟩
      rw [show i = yO u by omega]
      rfl
    | succ m =>
      rw [if_neg (by rw [n_le (by omega) (by omega)]; omega), M_all K hE, zb_s]
      obtain ⟨v', e1, e2⟩ := M_keeps K hE (hl.m hv) (o := i) (s := s) (th := yal u) (by omega) hs (by have := yal_lt K; omega)
      rw [e1, zb_s]
      have st : ∀ b : Nat, yhb u s k i ||| b = yhb u s k (i + 1) → ∃ w' : gW, f_M_holding_b33 kk (nI s) (nI i) (nI (yhb u s k i)) (nI b) v' = some (nI (yhB u s k), w') ∧ zMe w w' := by
        intro b hb
        unfold f_M_holding_b33
        rw [n_or, hb, zl_s, zl_s, n_1]
        exact ih m (by omega) (i + 1) v' (by omega) (hv.tr e2)
      cases hb : yH u i s (yal u) k with
      | false =>
        rw [if_pos (show bI false = 0 from rfl)]
        exact st 0 (by show _ = _ ||| (if yH u i s (yal u) k = true then 2 ^ i else 0); rw [hb]; rfl)
      | true =>
        rw [if_neg (show ¬ bI true = 0 by decide), n_1sh (by omega)]
        exact st (2 ^ i) (by show _ = _ ||| (if yH u i s (yal u) k = true then 2 ^ i else 0); rw [hb]; rfl)) zFU (yO u) (zfu (by omega))
  exact key 0 w (by omega) (zMe.rf w)
/-- a life is laid out, and whether it fits -/
theorem M_lf (K : zK u) (R : jRec u) {w : gW} (h : zE u w) {k : Nat} (hk : k < yT u) : ∃ w3 : gW, lvL u k w3 ∧ zML w w3 ∧ zE u w3 ∧ ∀ {α : Type} (F : Int32 → gW → Option (α × gW)), zb (f_M_live (w.1 118 (ix (nI k))) w) (fun _ w2 => zb (f_M_fits w2) F) = F (bI (yfi u k)) w3 := by
  have ht := K.T7
  obtain ⟨w1, e1, l1, m1⟩ := M_live K h.k k
  obtain ⟨w3, e3, m3⟩ := M_fits K R (m1.k h.k) l1
  refine ⟨w3, l1.m m3, m1.ml.tr m3.ml, m3.e (m1.e h), fun F => ?_⟩
  rw [z_ix (by omega), h.k.i rfl, K.L.2.2.2.2.2.1 k hk, e1, zb_s, e3, zb_s]
theorem ct_le (k : Nat) : fb_ct (yfi u) k ≤ k := fb_ct_le _ _
theorem zE.sI2 {w v : gW} (h : zE u w) (k : zAg zScrI (fun _ => false) w v) : zE u v := zAg.tr (show zAg zScrI zScrL u w from h) (zAg.wk k (fun _ _ q => q) (fun _ q => by cases q))
theorem M_layDay (K : zK u) (R : jRec u) {w : gW} (h : zE u w) {s : Nat} (hs : s < 7) : ∃ w' : gW, f_M_layDay (nI s) w = some ((), w') ∧ zE u w' ∧ LD u s (yT u) w' := by
  have ht := K.T7
  have h8 := K.O8
  unfold f_M_layDay
  simp only [zl_s]
  have e6 : (zsI w 107 40 (0 : Int32)).1 107 6 = nI (yO u) := by
    rw [z7 _ _ _ _ (by decide), h.k.i rfl]
    exact K.C.2.2.2.1.2
  rw [e6, n_1sh (by omega), show (1 : Int32) = nI 1 from rfl, n_sub (Nat.two_pow_pos _)]
  have key := zfx_ind (fun _ _ _ => none) f_M_layDay_b29_s (fun m kk => ∀ k v, k + m = yT u → zE u v → LD u s k v → ∃ w' : gW, kk (nI s) (nI k) v = some ((), w') ∧ zE u w' ∧ LD u s (yT u) w') (fun m kk ih k v hk hv hL => by
    unfold f_M_layDay_b29_s
    rw [hv.k.i rfl, K.L.2.2.2.2.1]
    cases m with
    | zero =>
      rw [if_pos (by rw [n_le (by omega) (by omega)]; omega)]
      exact ⟨v, rfl, hv, by rw [show yT u = k by omega]; exact hL⟩
    | succ m =>
      rw [if_neg (by rw [n_le (by omega) (by omega)]; omega), if_pos (z_inbn (by omega) (by decide))]
      obtain ⟨w3, l3, m3, h3, F3⟩ := M_lf K R hv (k := k) (by omega)
      rw [F3]
      have go : ∀ v2, zE u v2 → LD u s (k + 1) v2 → ∃ w' : gW, f_M_layDay_b157 kk (nI s) (nI k) v2 = some ((), w') ∧ zE u w' ∧ LD u s (yT u) w' := by
        intro v2 a1 a2
        unfold f_M_layDay_b157
        rw [zl_s, n_1]
        exact ih m (by omega) (k + 1) v2 (by omega) a1 a2
      obtain ⟨L1, L2, L3, L4, L5⟩ := hL
      have p40 := zPL_107 40 (by decide) (by decide) (by decide) (by decide) (by decide) (by decide) (by decide) (by decide) (by decide)
      have p41 := zPL_107 41 (by decide) (by decide) (by decide) (by decide) (by decide) (by decide) (by decide) (by decide) (by decide)
      have p42 := zPL_107 42 (by decide) (by decide) (by decide) (by decide) (by decide) (by decide) (by decide) (by decide) (by decide)
      have p43 := zPL_107 43 (by decide) (by decide) (by decide) (by decide) (by decide) (by decide) (by decide) (by decide) (by decide)
      have p44 := zPL_107 44 (by decide) (by decide) (by decide) (by decide) (by decide) (by decide) (by decide) (by decide) (by decide)
      cases hf : yfi u k with
      | false =>
        rw [if_pos (show bI false = 0 from rfl)]
        have hf' : ¬ yfi u k = true := by rw [hf]; decide
        have s1 : ysm u s (k + 1) = ysm u s k := if_neg hf'
        have s2 : yea u s (k + 1) = yea u s k := if_neg hf'
        have s3 : yms u s (k + 1) = yms u s k := if_neg hf'
        have s4 : fb_ct (yfi u) (k + 1) = fb_ct (yfi u) k := by rw [fb_ct_succ, if_neg hf']; rfl
        refine go w3 h3 ⟨?_, ?_, ?_, fun j hj hfj => ?_, ?_⟩
        · rw [m3.s p40, s1]; exact L1
        · rw [m3.s p41, s2]; exact L2
        · rw [m3.s p44, s4]; exact L3
        · rw [m3.o (by decide) (by decide)]
          by_cases q : j = k
          · subst q; exact absurd hfj hf'
          · exact L4 j (by omega) hfj
        · rw [s3]
          cases e : yms u s k with
          | none => rw [e] at L5; show w3.1 107 43 = -1; rw [m3.s p43]; exact L5
          | some q => rw [e] at L5; exact ⟨(m3.s p42).trans L5.1, (m3.s p43).trans L5.2⟩
      | true =>
        rw [if_neg (show ¬ bI true = 0 by decide)]
        obtain ⟨w8, e8, m8⟩ := M_holding K h3.k l3 hs
        rw [e8, zb_s]
        have m38 : zML v w8 := m3.tr m8.ml
        have h8E : zE u w8 := m8.e h3
        have hB := yhB_lt K s k
        have hS := ysm_lt K s k
        have hEa := yea_lt K s k
        have hct := ct_le (u := u) k
        rw [m38.s p44, L3, if_pos (z_inbn (by omega) (by decide)), z_ix (by omega)]
        simp only [zl_s]
        generalize hv9 : zsI w8 128 (fb_ct (yfi u) k) (nI (yhB u s k)) = v9
        have a44 : v9.1 107 44 = nI (fb_ct (yfi u) k) := by rw [← hv9, z_o _ _ _ _ _ _ (by decide), m38.s p44, L3]
        rw [a44, n_1]
        generalize hv10 : zsI v9 107 44 (nI (fb_ct (yfi u) k + 1)) = v10
        have a40 : v10.1 107 40 = nI (ysm u s k) := by rw [← hv10, z7 _ _ _ _ (by decide), ← hv9, z_o _ _ _ _ _ _ (by decide), m38.s p40, L1]
        rw [a40, n_or]
        generalize hv11 : zsI v10 107 40 (nI (ysm u s k ||| yhB u s k)) = v11
        have a41 : v11.1 107 41 = nI (yea u s k) := by rw [← hv11, z7 _ _ _ _ (by decide), ← hv10, z7 _ _ _ _ (by decide), ← hv9, z_o _ _ _ _ _ _ (by decide), m38.s p41, L2]
        rw [a41, n_and]
        generalize hv12 : zsI v11 107 41 (nI (yea u s k &&& yhB u s k)) = v12
        rw [Int_bitCount (by omega), zb_s]
        show ∃ w', (if v12.1 107 43 = -1 then f_M_layDay_b146 kk (nI s) (nI k) (nI (yhB u s k)) (nI (ypc (yhB u s k))) v12 else if nI (ypc (yhB u s k)) < v12.1 107 42 then f_M_layDay_b157 kk (nI s) (nI k) v12 else if nI (ypc (yhB u s k)) = v12.1 107 42 then (if nI (yhB u s k) ≤ v12.1 107 43 then f_M_layDay_b146 kk (nI s) (nI k) (nI (yhB u s k)) (nI (ypc (yhB u s k))) v12 else f_M_layDay_b157 kk (nI s) (nI k) v12) else f_M_layDay_b146 kk (nI s) (nI k) (nI (yhB u s k)) (nI (ypc (yhB u s k))) v12) = _ ∧ _
        have b12 : zE u v12 := by
          rw [← hv12, ← hv11, ← hv10, ← hv9]
          exact (((h8E.sI _ rfl).sI _ rfl).sI _ rfl).sI _ rfl
        have b42 : v12.1 107 42 = v.1 107 42 := by rw [← hv12, z7 _ _ _ _ (by decide), ← hv11, z7 _ _ _ _ (by decide), ← hv10, z7 _ _ _ _ (by decide), ← hv9, z_o _ _ _ _ _ _ (by decide), m38.s p42]
        have b43 : v12.1 107 43 = v.1 107 43 := by rw [← hv12, z7 _ _ _ _ (by decide), ← hv11, z7 _ _ _ _ (by decide), ← hv10, z7 _ _ _ _ (by decide), ← hv9, z_o _ _ _ _ _ _ (by decide), m38.s p43]
        have c40 : v12.1 107 40 = nI (ysm u s (k + 1)) := by
          rw [← hv12, z7 _ _ _ _ (by decide), ← hv11, zsI_g, if_pos ⟨rfl, rfl⟩]
          show _ = nI (if yfi u k = true then ysm u s k ||| yhB u s k else ysm u s k)
          rw [if_pos hf]
        have c41 : v12.1 107 41 = nI (yea u s (k + 1)) := by
          rw [← hv12, zsI_g, if_pos ⟨rfl, rfl⟩]
          show _ = nI (if yfi u k = true then yea u s k &&& yhB u s k else yea u s k)
          rw [if_pos hf]
        have s4 : fb_ct (yfi u) (k + 1) = fb_ct (yfi u) k + 1 := by rw [fb_ct_succ, if_pos hf]
        have c44 : v12.1 107 44 = nI (fb_ct (yfi u) (k + 1)) := by
          rw [← hv12, z7 _ _ _ _ (by decide), ← hv11, z7 _ _ _ _ (by decide), ← hv10, zsI_g, if_pos ⟨rfl, rfl⟩, s4]
        have c128 : ∀ j, j < k + 1 → yfi u j = true → v12.1 128 (fb_ct (yfi u) j) = nI (yhB u s j) := by
          intro j hj hfj
          rw [← hv12, z_o _ _ _ _ _ _ (by decide), ← hv11, z_o _ _ _ _ _ _ (by decide), ← hv10, z_o _ _ _ _ _ _ (by decide), ← hv9, zsI_g]
          by_cases q : j = k
          · subst q; rw [if_pos ⟨rfl, rfl⟩]
          · have := fb_ct_lt (p := yfi u) (show j < k by omega) hfj
            rw [if_neg (fun z => by omega), m38.o (by decide) (by decide)]
            exact L4 j (by omega) hfj
        have keep : yms u s (k + 1) = yms u s k → LM (yms u s k) v12 → ∃ w', f_M_layDay_b157 kk (nI s) (nI k) v12 = some ((), w') ∧ zE u w' ∧ LD u s (yT u) w' := fun e1 e2 => go v12 b12 ⟨c40, c41, c44, c128, by rw [e1]; exact e2⟩
        have take : yms u s (k + 1) = some (ypc (yhB u s k), yhB u s k) → ∃ w', f_M_layDay_b146 kk (nI s) (nI k) (nI (yhB u s k)) (nI (ypc (yhB u s k))) v12 = some ((), w') ∧ zE u w' ∧ LD u s (yT u) w' := by
          intro e1
          unfold f_M_layDay_b146
          simp only [zl_s]
          refine go _ ((b12.sI _ rfl).sI _ rfl) ⟨?_, ?_, ?_, fun j hj hfj => ?_, ?_⟩
          · rw [z7 _ _ _ _ (by decide), z7 _ _ _ _ (by decide)]; exact c40
          · rw [z7 _ _ _ _ (by decide), z7 _ _ _ _ (by decide)]; exact c41
          · rw [z7 _ _ _ _ (by decide), z7 _ _ _ _ (by decide)]; exact c44
          · rw [z_o _ _ _ _ _ _ (by decide), z_o _ _ _ _ _ _ (by decide)]; exact c128 j hj hfj
          · rw [e1]
            exact ⟨by rw [z7 _ _ _ _ (by decide), zsI_g, if_pos ⟨rfl, rfl⟩], by rw [zsI_g, if_pos ⟨rfl, rfl⟩]⟩
        have hpc := ypc_le (yhB u s k)
        have em : yms u s (k + 1) = (match yms u s k with
          | none => some (ypc (yhB u s k), yhB u s k)
          | some q => if ypc (yhB u s k) < q.1 then some q else if ypc (yhB u s k) = q.1 then (if yhB u s k ≤ q.2 then some (ypc (yhB u s k), yhB u s k) else some q) else some (ypc (yhB u s k), yhB u s k)) := if_pos hf
        cases eq : yms u s k with
        | none =>
          rw [eq] at L5 em
          rw [if_pos (by rw [b43]; exact L5)]
          exact take em
        | some q =>
          have hq := yms_lt K s k q eq
          rw [eq] at L5 em
          have keep2 : yms u s (k + 1) = some q → ∃ w', f_M_layDay_b157 kk (nI s) (nI k) v12 = some ((), w') ∧ zE u w' ∧ LD u s (yT u) w' := fun e1 => keep (e1.trans eq.symm) (by rw [eq]; exact ⟨b42.trans L5.1, b43.trans L5.2⟩)
          rw [b42, b43, L5.1, L5.2, if_neg (show ¬ nI q.2 = (-1 : Int32) by rw [n_m1 (by omega)]; exact id)]
          dsimp only at em
          by_cases q1 : ypc (yhB u s k) < q.1
          · rw [if_pos ((n_lt (by omega) (by omega)).mpr q1)]
            exact keep2 (by rw [em, if_pos q1])
          · rw [if_neg (fun z => q1 ((n_lt (by omega) (by omega)).mp z))]
            by_cases q2 : ypc (yhB u s k) = q.1
            · rw [if_pos ((n_eq (by omega) (by omega)).mpr q2)]
              by_cases q3 : yhB u s k ≤ q.2
              · rw [if_pos ((n_le (by omega) (by omega)).mpr q3)]
                exact take (by rw [em, if_neg q1, if_pos q2, if_pos q3])
              · rw [if_neg (fun z => q3 ((n_le (by omega) (by omega)).mp z))]
                exact keep2 (by rw [em, if_neg q1, if_pos q2, if_neg q3])
            · rw [if_neg (fun z => q2 ((n_eq (by omega) (by omega)).mp z))]
              exact take (by rw [em, if_neg q1, if_neg q2])) zFU (yT u) (zfu (by omega))
  refine key 0 _ (by omega) ((((h.sI _ rfl).sI _ rfl).sI _ rfl).sI _ rfl) ⟨?_, ?_, ?_, fun j hj => absurd hj (Nat.not_lt_zero j), ?_⟩
  · rw [z7 _ _ _ _ (by decide), z7 _ _ _ _ (by decide), z7 _ _ _ _ (by decide), zsI_g, if_pos ⟨rfl, rfl⟩]; rfl
  · rw [z7 _ _ _ _ (by decide), z7 _ _ _ _ (by decide), zsI_g, if_pos ⟨rfl, rfl⟩]; rfl
  · rw [z7 _ _ _ _ (by decide), zsI_g, if_pos ⟨rfl, rfl⟩]; rfl
  · show (zsI _ 107 43 (-1)).1 107 43 = -1
    rw [zsI_g, if_pos ⟨rfl, rfl⟩]
end
