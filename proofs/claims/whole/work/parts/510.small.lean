/-! PURE: weigh, sworn, deed -/
theorem z_nIx {a : Int32} {n : Nat} (h : 0 ≤ a.toInt ∧ a.toInt < (n : Int)) : a = nI (ix a) ∧ ix a < n := ⟨i_nIx h.1, by have := i_ix a; rw [if_pos h.1] at this; omega⟩
theorem z_ix {n : Nat} (h : n < 2 ^ 31) : ix (nI n) = n := by
  have := i_ix (nI n)
  rw [i_nI h, if_pos (by omega)] at this
  omega
theorem z_inbn {n m : Nat} (h : n < m) (hm : m < 2 ^ 31) : inb (nI n) m := ⟨by rw [i_nI (by omega)]; omega, by rw [i_nI (by omega)]; omega⟩
/-- the weights, alike in both -/
def jW (w : gW) : Prop := ∀ j, j < 50 → w.1 65 j = w.1 129 j
theorem s_weigh (a1 a2 a3 : Int32) (w : gW) {nd ny : Nat} (h1 : w.1 19 5 = nI nd) (h1' : w.1 107 21 = nI nd) (h2 : nd ≤ 5) (h3 : w.1 19 4 = nI ny) (h3' : w.1 107 22 = nI ny) (h4 : ny ≤ 9) : ∃ (r : Int32) (w1 w2 : gW), f_X_weigh a1 a2 a3 w = some (r, w1) ∧ f_M_weigh a1 a2 a3 w1 = some (r, w2) ∧ (w2 = zsI w 107 0 0 ∨ ∃ k, k < 50 ∧ w2 = zsI (zsI (zsI w 65 k a3) 107 0 0) 129 k a3) := by
  unfold f_X_weigh f_M_weigh
  simp only [zl_s, La_hasDate a1 a2 w h1 h2 h3 h4, zb_s]
  rw [z_rng (m := 10) rfl]
  have hd0 := M_isDeed a1 (zsI w 107 0 0) ((z107 _ _ _ (by decide)).trans h1') h2
  have hf0 := M_factDay a2 (zsI w 107 0 0) ((z107 _ _ _ (by decide)).trans h3') h4
  by_cases c1 : zbl a1 nd = 0
  · rw [if_pos c1, if_pos rfl]
    refine ⟨_, _, _, rfl, ?_, Or.inl rfl⟩
    rw [hd0]
    simp only [zb_s]
    rw [if_pos c1]
  rw [if_neg c1]
  by_cases c2 : (if a2 = 9 then (1 : Int32) else zbl a2 ny) = 0
  · rw [if_pos c2]
    refine ⟨_, _, _, rfl, ?_, Or.inl rfl⟩
    rw [hd0]
    simp only [zb_s]
    rw [if_neg c1, hf0]
    simp only [zb_s]
    rw [if_pos c2]
  rw [if_neg c2]
  by_cases c3 : zbl a3 10 = 0
  · rw [if_pos c3]
    refine ⟨_, _, _, rfl, ?_, Or.inl rfl⟩
    rw [hd0]
    simp only [zb_s]
    rw [if_neg c1, hf0]
    simp only [zb_s]
    rw [if_neg c2, M_in a3 (c := 9) 10 rfl]
    simp only [zb_s]
    rw [if_pos c3]
  rw [if_neg c3]
  have p1 : 0 ≤ a1.toInt ∧ a1.toInt < (nd : Int) := Classical.byContradiction (fun q => c1 (zbl_0 q))
  have p2 : 0 ≤ a2.toInt ∧ a2.toInt < (10 : Nat) := by
    by_cases q : a2 = 9
    · subst q; exact ⟨by decide, by decide⟩
    · rw [if_neg q] at c2
      have := Classical.byContradiction (fun q => c2 (zbl_0 q))
      exact ⟨this.1, by omega⟩
  obtain ⟨e1, l1⟩ := z_nIx p1
  obtain ⟨e2, l2⟩ := z_nIx p2
  generalize ix a1 = i at e1 l1
  generalize ix a2 = j at e2 l2
  have v1 : a1 * (10 : Int32) + a2 = nI (10 * i + j) := by
    rw [e1, e2, show (10 : Int32) = nI 10 from rfl, pk_mul, nI_add, Nat.mul_comm]
  have v2 : (10 : Int32) * a1 + a2 = nI (10 * i + j) := by
    rw [e1, e2, show (10 : Int32) = nI 10 from rfl, pk_mul, nI_add]
  have hin : inb (nI (10 * i + j)) 50 := z_inbn (by omega) (by decide)
  have hset : f_An_setWeight a1 a2 a3 w = some ((), zsI w 65 (10 * i + j) a3) := by
    unfold f_An_setWeight
    simp only [zl_s]
    rw [v1, if_neg (by rw [i_lt, i_0, i_nI (by omega)]; omega), if_neg (by rw [i_le, i_nI (by omega), i_nI (by omega)]; omega), if_pos hin, z_ix (by omega)]
  simp only [hset, zb_s]
  have hd1 := M_isDeed a1 (zsI (zsI w 65 (10 * i + j) a3) 107 0 0) (by rw [z107 _ _ 21 (by decide), z_o w 65 (10 * i + j) a3 107 21 (by decide)]; exact h1') h2
  have hf1 := M_factDay a2 (zsI (zsI w 65 (10 * i + j) a3) 107 0 0) (by rw [z107 _ _ 22 (by decide), z_o w 65 (10 * i + j) a3 107 22 (by decide)]; exact h3') h4
  refine ⟨_, _, _, rfl, ?_, Or.inr ⟨10 * i + j, by omega, rfl⟩⟩
  rw [hd1]
  simp only [zb_s]
  rw [if_neg c1, hf1]
  simp only [zb_s]
  rw [if_neg c2, M_in a3 (c := 9) 10 rfl]
  simp only [zb_s]
  rw [if_neg c3, v2, if_pos hin, z_ix (by omega)]
/-- what is sworn, alike in both: a row of four, four arrays -/
def jS (ns : Nat) (w : gW) : Prop := ∀ j, j < ns → w.1 60 (4 * j) = w.1 119 j ∧ w.1 60 (4 * j + 1) = w.1 120 j ∧ w.1 60 (4 * j + 2) = w.1 121 j ∧ w.1 60 (4 * j + 3) = w.1 122 j
theorem s_sworn (a1 a2 : Int32) (w : gW) {ns : Nat} (h1 : w.1 59 6 = nI ns) (h1' : w.1 107 35 = nI ns) (h2 : ns ≤ 10) (hS : jS ns w) : ∃ r : Int32, f_X_sworn a1 a2 w = some (r, w) ∧ f_M_sworn a1 a2 w = some (r, zsI w 107 0 0) := by
  unfold f_X_sworn f_M_sworn f_An_swornPart
  simp only [zl_s]
  have hm := M_in a1 (c := (((zsI w 107 0 0).1 107 35) - (1 : Int32)).toInt64) ns (by rw [i_l, z107 _ _ 35 (by decide), h1', show (1 : Int32) = nI 1 from rfl, pk_sub_toInt (by omega) (by omega)]; omega) (zsI w 107 0 0)
  rw [hm]
  simp only [zb_s]
  have e : ∀ (α : Type) (x y : α), (if a1 < 0 then x else if w.1 59 6 ≤ a1 then x else if (10 : Int32) ≤ a1 then x else y) = if zbl a1 ns = 0 then x else y := fun α x y => z_has (m := 10) h1 h2 (by decide) x y
  rw [e]
  by_cases c1 : zbl a1 ns = 0
  · rw [if_pos c1, if_pos c1]
    exact ⟨_, rfl, rfl⟩
  rw [if_neg c1, if_neg c1]
  have hm2 := M_in a2 (c := 3) 4 rfl (zsI w 107 0 0)
  rw [hm2]
  simp only [zb_s]
  by_cases c2 : zbl a2 4 = 0
  · rw [if_pos c2]
    refine ⟨_, ?_, rfl⟩
    by_cases q : a2 < 0
    · rw [if_pos q]; rfl
    · rw [if_neg q, if_neg (fun q2 => zbl_c.mp c2 (by rw [i_lt, show (4 : Int32).toInt = 4 from rfl] at q2; rw [i_lt, i_0] at q; omega))]; rfl
  rw [if_neg c2]
  have p1 : 0 ≤ a1.toInt ∧ a1.toInt < (ns : Int) := Classical.byContradiction (fun q => c1 (zbl_0 q))
  have p2 : 0 ≤ a2.toInt ∧ a2.toInt < (4 : Nat) := Classical.byContradiction (fun q => c2 (zbl_0 q))
  rw [if_neg (by rw [i_lt, i_0]; omega), if_pos (by rw [i_lt, show (4 : Int32).toInt = 4 from rfl]; omega)]
  obtain ⟨e1, l1⟩ := z_nIx p1
  obtain ⟨e2, l2⟩ := z_nIx p2
  rw [e1]
  generalize ix a1 = i at l1
  generalize ix a2 = j at e2 l2
  obtain ⟨s0, s1, s2, s3⟩ := hS i l1
  have v1 : nI i * (4 : Int32) + a2 = nI (4 * i + j) := by
    rw [e2, show (4 : Int32) = nI 4 from rfl, pk_mul, nI_add, Nat.mul_comm]
  have hin : inb (nI i) 10 := z_inbn (by omega) (by decide)
  rw [v1, if_pos (z_inbn (by omega) (by decide)), z_ix (by omega), z_ix (by omega)]
  simp only [if_pos hin]
  subst e2
  have h4 : j = 0 ∨ j = 1 ∨ j = 2 ∨ j = 3 := by omega
  rcases h4 with rfl | rfl | rfl | rfl
  · refine ⟨w.1 60 (4 * i), rfl, ?_⟩
    rw [if_pos (show nI 0 = (0 : Int32) from rfl), s0]; rfl
  · refine ⟨w.1 60 (4 * i + 1), rfl, ?_⟩
    rw [if_neg (by decide), if_pos (show nI 1 = (1 : Int32) from rfl), s1]; rfl
  · refine ⟨w.1 60 (4 * i + 2), rfl, ?_⟩
    rw [if_neg (by decide), if_neg (by decide), if_pos (show nI 2 = (2 : Int32) from rfl), s2]; rfl
  · refine ⟨w.1 60 (4 * i + 3), rfl, ?_⟩
    rw [if_neg (by decide), if_neg (by decide), if_neg (by decide), s3]; rfl
/-- the land's deeds: a row of three, three arrays -/
def jL (nd : Nat) (w : gW) : Prop := ∀ j, j < nd → w.1 20 (3 * j) = w.1 112 j ∧ w.1 20 (3 * j + 1) = w.1 113 j ∧ w.1 20 (3 * j + 2) = w.1 114 j
theorem s_deed (a1 a2 : Int32) (w : gW) {nd : Nat} (h1 : w.1 19 5 = nI nd) (h1' : w.1 107 21 = nI nd) (h2 : nd ≤ 5) (hL : jL nd w) : ∃ (out : Option Int32) (v : Int32), f_X_deed a1 a2 w = some (out, w) ∧ f_M_deed a1 a2 (ddO out w) = some (v, zsI (ddO out w) 107 0 (ddR out)) ∧ (∀ r, out = some r → r = v) := by
  unfold f_X_deed f_M_deed f_M_deed_b25 f_M_deed_b26
  simp only [zl_s, La_hasDeed a1 w h1 h2, zb_s]
  have hno : ∀ w0 : gW, (if (zsI w0 107 0 1).1 107 0 ≤ 0 then (if a2 = 0 then (if inb a1 5 then some ((zsI w0 107 0 1).1 112 (ix a1), zsI w0 107 0 1) else none) else (if a2 = (1 : Int32) then (if inb a1 5 then some ((zsI w0 107 0 1).1 113 (ix a1), zsI w0 107 0 1) else none) else (if inb a1 5 then some ((zsI w0 107 0 1).1 114 (ix a1), zsI w0 107 0 1) else none))) else some ((0 : Int32), zsI w0 107 0 1)) = some (0, zsI w0 107 0 1) := by
    intro w0
    have h0 : (zsI w0 107 0 1).1 107 0 = 1 := rfl
    rw [h0, if_neg (by decide)]
  by_cases c1 : zbl a1 nd = 0
  · rw [if_pos c1]
    refine ⟨none, 0, rfl, ?_, fun r q => by cases q⟩
    rw [M_isDeed a1 (ddO none w) h1' h2]
    simp only [zb_s]
    rw [if_pos c1]
    exact hno _
  rw [if_neg c1]
  have e : ∀ (α : Type) (x y : α), (if a2 < 0 then x else if a2 < (3 : Int32) then y else x) = if zbl a2 3 = 0 then x else y := by
    intro α x y
    by_cases q : a2 < 0
    · rw [if_pos q, if_pos (zbl_c.mpr (by rw [i_lt, i_0] at q; omega))]
    · rw [if_neg q]
      by_cases q2 : a2 < (3 : Int32)
      · rw [if_pos q2, if_neg (fun z => zbl_c.mp z (by rw [i_lt, show (3 : Int32).toInt = 3 from rfl] at q2; rw [i_lt, i_0] at q; omega))]
      · rw [if_neg q2, if_pos (zbl_c.mpr (by rw [i_lt, show (3 : Int32).toInt = 3 from rfl] at q2; omega))]
  rw [e]
  by_cases c2 : zbl a2 3 = 0
  · rw [if_pos c2]
    refine ⟨none, 0, rfl, ?_, fun r q => by cases q⟩
    rw [M_isDeed a1 (ddO none w) h1' h2]
    simp only [zb_s]
    rw [if_neg c1, M_in a2 (c := 2) 3 rfl]
    simp only [zb_s]
    rw [if_pos c2]
    exact hno _
  rw [if_neg c2]
  have p1 : 0 ≤ a1.toInt ∧ a1.toInt < (nd : Int) := Classical.byContradiction (fun q => c1 (zbl_0 q))
  have p2 : 0 ≤ a2.toInt ∧ a2.toInt < (3 : Nat) := Classical.byContradiction (fun q => c2 (zbl_0 q))
  obtain ⟨e1, l1⟩ := z_nIx p1
  obtain ⟨e2, l2⟩ := z_nIx p2
  generalize hi : ix a1 = i at e1 l1
  generalize ix a2 = j at e2 l2
  have ht : f_La_trait a1 a2 w = some (w.1 20 (3 * i + j), w) := by
    unfold f_La_trait
    simp only [zl_s]
    have v1 : a1 * (3 : Int32) + a2 = nI (3 * i + j) := by
      rw [e1, e2, show (3 : Int32) = nI 3 from rfl, pk_mul, nI_add, Nat.mul_comm]
    rw [v1, if_neg (by rw [i_lt, i_0, i_nI (by omega)]; omega), if_neg (by rw [i_le, i_nI (by omega), i_nI (by omega)]; omega), if_pos (z_inbn (by omega) (by decide)), z_ix (by omega)]
  rw [ht]
  simp only [zb_s]
  refine ⟨some (w.1 20 (3 * i + j)), w.1 20 (3 * i + j), rfl, ?_, fun r q => by cases q; rfl⟩
  rw [M_isDeed a1 (ddO (some (w.1 20 (3 * i + j))) w) h1' h2]
  simp only [zb_s]
  rw [if_neg c1, M_in a2 (c := 2) 3 rfl]
  simp only [zb_s]
  have hin : inb a1 5 := z_inb p1 h2
  have h0 : (zsI (ddO (some (w.1 20 (3 * i + j))) w) 107 0 0).1 107 0 = 0 := rfl
  rw [if_neg c2, h0, if_pos (by decide)]
  simp only [if_pos hin]
  obtain ⟨s0, s1, s2⟩ := hL i l1
  subst e2
  have h4 : j = 0 ∨ j = 1 ∨ j = 2 := by omega
  rcases h4 with rfl | rfl | rfl
  · rw [if_pos (show nI 0 = (0 : Int32) from rfl)]
    show some (w.1 112 i, _) = _
    rw [← s0]; rfl
  · rw [if_neg (by decide), if_pos (show nI 1 = (1 : Int32) from rfl)]
    show some (w.1 113 i, _) = _
    rw [← s1]; rfl
  · rw [if_neg (by decide), if_neg (by decide)]
    show some (w.1 114 i, _) = _
    rw [← s2]; rfl
