/-! PURE: the numbers of both systems; count, stake, weigh, sworn, deed -/
def jC (nd ny no ns nf : Nat) (w : gW) : Prop := (nd ≤ 5 ∧ ny ≤ 9 ∧ no ≤ 8 ∧ ns ≤ 10 ∧ nf ≤ 20) ∧ (w.1 19 5 = nI nd ∧ w.1 107 21 = nI nd) ∧ (w.1 19 4 = nI ny ∧ w.1 107 22 = nI ny) ∧ (w.1 5 4 = nI no ∧ w.1 107 6 = nI no) ∧ (w.1 59 6 = nI ns ∧ w.1 107 35 = nI ns) ∧ (w.1 59 7 = nI nf ∧ w.1 107 36 = nI nf) ∧ w.1 107 37 = nI ns + nI nf
theorem z107 (w : gW) (v : Int32) (j : Nat) (h : j ≠ 0) : (zsI w 107 0 v).1 107 j = w.1 107 j := by rw [zsI_g, if_neg (fun q => h q.2)]
theorem z_o (w : gW) (k j : Nat) (v : Int32) (a b : Nat) (h : a ≠ k) : (zsI w k j v).1 a b = w.1 a b := by rw [zsI_g, if_neg (fun q => h q.1)]
theorem s_count (a1 : Int32) (w : gW) {nd ny no ns nf n : Nat} (h : jC nd ny no ns nf w) (hn : w.1 1 1 = nI n ∧ w.1 107 5 = nI n) : ∃ r : Int32, f_X_count a1 w = some (r, w) ∧ f_M_count a1 w = some (r, zsI w 107 0 0) := by
  obtain ⟨-, ⟨d1, d2⟩, ⟨y1, y2⟩, ⟨o1, o2⟩, ⟨s1, s2⟩, ⟨f1, f2⟩, g⟩ := h
  unfold f_X_count f_M_count f_La_deedCount f_La_dayCount f_Oa_size f_Tp_length f_An_swornCount f_An_factCount f_An_actCount
  simp only [zb_s, zl_s]
  by_cases c0 : a1 = nI 0
  · simp only [if_pos c0]
    exact ⟨nI nd, by rw [d1], by rw [z107 _ _ _ (by decide), d2]⟩
  simp only [if_neg c0]
  by_cases c1 : a1 = nI 1
  · simp only [if_pos c1]
    exact ⟨nI ny, by rw [y1], by rw [z107 _ _ _ (by decide), y2]⟩
  simp only [if_neg c1]
  by_cases c2 : a1 = nI 2
  · simp only [if_pos c2]
    exact ⟨nI no, by rw [o1], by rw [z107 _ _ _ (by decide), o2]⟩
  simp only [if_neg c2]
  by_cases c3 : a1 = nI 3
  · simp only [if_pos c3]
    exact ⟨nI n, by rw [hn.1], by rw [z107 _ _ _ (by decide), hn.2]⟩
  simp only [if_neg c3]
  by_cases c4 : a1 = nI 4
  · simp only [if_pos c4]
    exact ⟨nI ns, by rw [s1], by rw [z107 _ _ _ (by decide), s2]⟩
  simp only [if_neg c4]
  by_cases c5 : a1 = nI 5
  · simp only [if_pos c5]
    exact ⟨nI nf, by rw [f1], by rw [z107 _ _ _ (by decide), f2]⟩
  simp only [if_neg c5]
  by_cases c6 : a1 = nI 6
  · simp only [if_pos c6]
    exact ⟨nI ns + nI nf, by rw [s1, f1], by rw [z107 _ _ _ (by decide), g]⟩
  simp only [if_neg c6]
  exact ⟨_, rfl, rfl⟩
/-- 1 when it lies below n, 0 else -/
def zbl (a : Int32) (n : Nat) : Int32 := if 0 ≤ a.toInt ∧ a.toInt < (n : Int) then 1 else 0
theorem zbl_1 {a : Int32} {n : Nat} (h : 0 ≤ a.toInt ∧ a.toInt < (n : Int)) : zbl a n = 1 := if_pos h
theorem zbl_0 {a : Int32} {n : Nat} (h : ¬ (0 ≤ a.toInt ∧ a.toInt < (n : Int))) : zbl a n = 0 := if_neg h
theorem zbl_c {a : Int32} {n : Nat} : (zbl a n = 0) ↔ ¬ (0 ≤ a.toInt ∧ a.toInt < (n : Int)) := by
  by_cases h : 0 ≤ a.toInt ∧ a.toInt < (n : Int)
  · rw [zbl_1 h]; exact ⟨fun q => absurd q (by decide), fun q => absurd h q⟩
  · rw [zbl_0 h]; exact ⟨fun _ => h, fun _ => rfl⟩
theorem z_has {a b : Int32} {n m : Nat} (hb : b = nI n) (hn : n ≤ m) (hm : m < 100) {α : Type} (x y : α) : (if a < 0 then x else if b ≤ a then x else if nI m ≤ a then x else y) = if zbl a n = 0 then x else y := by
  subst hb
  by_cases h1 : a < 0
  · rw [if_pos h1, if_pos (zbl_c.mpr (by rw [i_lt, i_0] at h1; omega))]
  · rw [if_neg h1]
    by_cases h2 : nI n ≤ a
    · rw [if_pos h2, if_pos (zbl_c.mpr (by rw [i_le, i_nI (by omega)] at h2; omega))]
    · rw [if_neg h2, if_neg (fun q => h2 (by rw [i_le, i_nI (by omega)] at q ⊢; omega)), if_neg (fun q => zbl_c.mp q (by rw [i_le, i_nI (by omega)] at h2; rw [i_lt, i_0] at h1; omega))]
theorem z_isd {a b : Int32} {n : Nat} (hb : b = nI n) (hn : n < 100) {α : Type} (x y : α) : (if a < 0 then x else if b ≤ a then x else y) = if zbl a n = 0 then x else y := by
  subst hb
  by_cases h1 : a < 0
  · rw [if_pos h1, if_pos (zbl_c.mpr (by rw [i_lt, i_0] at h1; omega))]
  · rw [if_neg h1]
    by_cases h2 : nI n ≤ a
    · rw [if_pos h2, if_pos (zbl_c.mpr (by rw [i_le, i_nI (by omega)] at h2; omega))]
    · rw [if_neg h2, if_neg (fun q => zbl_c.mp q (by rw [i_le, i_nI (by omega)] at h2; rw [i_lt, i_0] at h1; omega))]
theorem z_bl {a : Int32} {n : Nat} {w : gW} : (if zbl a n = 0 then some ((0 : Int32), w) else some ((1 : Int32), w)) = some (zbl a n, w) := by
  by_cases h : 0 ≤ a.toInt ∧ a.toInt < (n : Int)
  · rw [zbl_1 h, if_neg (by decide)]
  · rw [zbl_0 h, if_pos rfl]
theorem Oa_has (a : Int32) (w : gW) {n : Nat} (h : w.1 5 4 = nI n) (hn : n ≤ 8) : f_Oa_has a w = some (zbl a n, w) := by
  unfold f_Oa_has
  rw [← z_bl]
  exact z_has (m := 8) h hn (by decide) _ _
theorem M_isOath (a : Int32) (w : gW) {n : Nat} (h : w.1 107 6 = nI n) (hn : n ≤ 8) : f_M_isOath a w = some (zbl a n, w) := by
  unfold f_M_isOath
  rw [← z_bl]
  exact z_isd h (by omega) _ _
theorem La_hasDeed (a : Int32) (w : gW) {n : Nat} (h : w.1 19 5 = nI n) (hn : n ≤ 5) : f_La_hasDeed a w = some (zbl a n, w) := by
  unfold f_La_hasDeed
  rw [← z_bl]
  exact z_has (m := 5) h hn (by decide) _ _
theorem M_isDeed (a : Int32) (w : gW) {n : Nat} (h : w.1 107 21 = nI n) (hn : n ≤ 5) : f_M_isDeed a w = some (zbl a n, w) := by
  unfold f_M_isDeed
  rw [← z_bl]
  exact z_isd h (by omega) _ _
theorem z_inb {a : Int32} {n m : Nat} (h : 0 ≤ a.toInt ∧ a.toInt < (n : Int)) (hn : n ≤ m) : inb a m := ⟨h.1, by omega⟩
theorem M_in (a : Int32) {c : Int64} (m : Nat) (hc : c.toInt + 1 = (m : Int)) (w : gW) : f_M_isIn a.toInt64 0 c w = some (zbl a m, w) := by
  rw [M_isIn, i_l]
  have e0 : (0 : Int64).toInt = 0 := rfl
  by_cases h : 0 ≤ a.toInt ∧ a.toInt < (m : Int)
  · rw [zbl_1 h, if_pos (by rw [e0]; omega)]
  · rw [zbl_0 h, if_neg (by rw [e0]; omega)]
theorem z_rng {a c : Int32} {m : Nat} (hc : c.toInt + 1 = (m : Int)) {α : Type} (x y : α) : (if a < 0 then x else if a ≤ c then y else x) = if zbl a m = 0 then x else y := by
  by_cases h1 : a < 0
  · rw [if_pos h1, if_pos (zbl_c.mpr (by rw [i_lt, i_0] at h1; omega))]
  · rw [if_neg h1]
    by_cases h2 : a ≤ c
    · rw [if_pos h2, if_neg (fun q => zbl_c.mp q (by rw [i_le] at h2; rw [i_lt, i_0] at h1; omega))]
    · rw [if_neg h2, if_pos (zbl_c.mpr (by rw [i_le] at h2; omega))]
/-- the gains, alike in both -/
def jG (w : gW) : Prop := ∀ j, j < 8 → w.1 18 j = w.1 131 j
theorem s_stake (a1 a2 : Int32) (w : gW) {no : Nat} (h1 : w.1 5 4 = nI no) (h2 : w.1 107 6 = nI no) (hn : no ≤ 8) : ∃ (r : Int32) (w1 w2 : gW), f_X_stake a1 a2 w = some (r, w1) ∧ f_M_stake a1 a2 w1 = some (r, w2) ∧ (w2 = zsI w 107 0 0 ∨ (ix a1 < no ∧ w2 = zsI (zsI (zsI w 18 (ix a1) a2) 107 0 0) 131 (ix a1) a2)) := by
  unfold f_X_stake f_M_stake f_Oa_setGain
  simp only [zl_s, Oa_has a1 w h1 hn, zb_s]
  rw [z_rng (m := 100) rfl]
  by_cases hc : 0 ≤ a1.toInt ∧ a1.toInt < (no : Int)
  · have e := zbl_1 hc
    simp only [e]
    rw [if_neg (by decide)]
    by_cases h3 : zbl a2 100 = 0
    · rw [if_pos h3]
      refine ⟨_, _, _, rfl, ?_, Or.inl rfl⟩
      simp only [M_isOath a1 _ ((z107 _ _ _ (by decide)).trans h2) hn, zb_s, e, M_in a2 (c := 99) 100 rfl]
      rw [if_neg (by decide), if_pos h3]
    · rw [if_neg h3, if_neg (by decide), if_pos (z_inb hc hn)]
      simp only [zb_s]
      refine ⟨_, _, _, rfl, ?_, Or.inr ⟨by have := i_ix a1; rw [if_pos hc.1] at this; omega, rfl⟩⟩
      have hM := M_isOath a1 (zsI (zsI w 18 (ix a1) a2) 107 0 0) (n := no) (by rw [z107 _ _ 6 (by decide), z_o w 18 (ix a1) a2 107 6 (by decide)]; exact h2) hn
      simp only [hM, zb_s, e, M_in a2 (c := 99) 100 rfl]
      rw [if_neg (by decide), if_neg h3, if_pos (z_inb hc hn)]
  · have e := zbl_0 hc
    simp only [e]
    rw [if_pos trivial]
    refine ⟨_, _, _, rfl, ?_, Or.inl rfl⟩
    simp only [M_isOath a1 _ ((z107 _ _ _ (by decide)).trans h2) hn, zb_s, e]
    rw [if_pos trivial]
theorem La_hasDate (a1 a2 : Int32) (w : gW) {nd ny : Nat} (h1 : w.1 19 5 = nI nd) (h2 : nd ≤ 5) (h3 : w.1 19 4 = nI ny) (h4 : ny ≤ 9) : f_La_hasDate a1 a2 w = some (if zbl a1 nd = 0 then 0 else if a2 = 9 then 1 else zbl a2 ny, w) := by
  unfold f_La_hasDate f_La_hasDate_b26
  rw [La_hasDeed a1 w h1 h2]
  simp only [zb_s]
  by_cases c1 : zbl a1 nd = 0
  · rw [if_pos c1, if_pos c1]
  · rw [if_neg c1, if_neg c1]
    by_cases c2 : a2 = 9
    · rw [if_pos c2, if_pos c2]
    · rw [if_neg c2, if_neg c2, z_isd h3 (by omega)]
      exact z_bl
theorem M_factDay (a2 : Int32) (w : gW) {ny : Nat} (h3 : w.1 107 22 = nI ny) (h4 : ny ≤ 9) : f_M_isFactDay a2 w = some (if a2 = 9 then 1 else zbl a2 ny, w) := by
  unfold f_M_isFactDay f_M_isFactDay_b22
  have hm := M_in a2 (c := ((w.1 107 22) - (1 : Int32)).toInt64) ny (by rw [i_l, h3, show (1 : Int32) = nI 1 from rfl, pk_sub_toInt (by omega) (by omega)]; omega) w
  rw [hm]
  simp only [zb_s]
  by_cases c2 : a2 = 9
  · rw [if_pos c2, if_pos c2]
    by_cases c3 : zbl a2 ny = 0
    · rw [if_pos c3]
    · rw [if_neg c3]
  · rw [if_neg c2, if_neg c2]
    by_cases c3 : zbl a2 ny = 0
    · rw [if_pos c3, c3]
    · rw [if_neg c3]
      have h : 0 ≤ a2.toInt ∧ a2.toInt < (ny : Int) := Classical.byContradiction (fun q => c3 (zbl_0 q))
      rw [zbl_1 h]
