/-! PURE: what the land means does not hang on oaths either (wip/whole/mka.py writes the first rows out of 732) -/
def lam (a b : Nat) : Bool := recm a b || (decide (5 ≤ a ∧ a ≤ 17) || (a == 109 || (a == 110 || (a == 107 && b == 6))))
def zLa (u w : gW) : Prop := zAg lam zKL u w
theorem zLa.tr {u w v : gW} (h : zLa u w) (k : zLa w v) : zLa u v := zAg.tr h k
theorem zLa.rf (w : gW) : zLa w w := zAg.rf _ _ _
section
variable {u w : gW}
theorem yD_a (h : zLa u w) : yD w = yD u := by unfold yD; rw [h.1 107 21 rfl]
theorem yY_a (h : zLa u w) : yY w = yY u := by unfold yY; rw [h.1 107 22 rfl]
theorem yr_a (h : zLa u w) (d : Nat) : yr w d = yr u d := by unfold yr; rw [h.1 112 d rfl]
theorem yf_a (h : zLa u w) (d : Nat) : yf w d = yf u d := by unfold yf; rw [h.1 113 d rfl]
theorem yl_a (h : zLa u w) (d : Nat) : yl w d = yl u d := by unfold yl; rw [h.1 114 d rfl]
theorem yo_a (h : zLa u w) (d : Nat) : yo w d = yo u d := by unfold yo; rw [yf_a h, yl_a h]
theorem yZ_a (h : zLa u w) : ∀ n d, yZ w n d = yZ u n d
  | 0, _ => rfl
  | n + 1, d => by
    show yo w d * yZ w n (d + 1) = yo u d * yZ u n (d + 1)
    rw [yo_a h, yZ_a h n (d + 1)]
theorem yT_a (h : zLa u w) : yT w = yT u := by unfold yT; rw [yD_a h, yZ_a h]
theorem yst_a (h : zLa u w) (d : Nat) : yst w d = yst u d := by unfold yst; rw [yD_a h, yZ_a h]
theorem yg_a (h : zLa u w) (d o : Nat) : yg w d o = yg u d o := by unfold yg; rw [yo_a h, yf_a h]
theorem yop_a (h : zLa u w) (k d : Nat) : yop w k d = yop u k d := by unfold yop; rw [yst_a h, yo_a h]
theorem yd_a (h : zLa u w) (k d : Nat) : yd w k d = yd u k d := by unfold yd; rw [yop_a h, yg_a h]
theorem yn_a (h : zLa u w) (k : Nat) : ∀ d, yn w k d = yn u k d
  | 0 => rfl
  | d + 1 => by
    show yn w k d * 10 + yd w k d = yn u k d * 10 + yd u k d
    rw [yn_a h k d, yd_a h]
theorem yN_a (h : zLa u w) (k : Nat) : yN w k = yN u k := by unfold yN; rw [yD_a h, yn_a h]
theorem jLnd_a (h : zLa u w) (h5 : yD u ≤ 5) (L : jLnd u) : jLnd w := by
  obtain ⟨l1, l2, l3, l4, l5, l6, l7⟩ := L
  refine ⟨?_, ?_, ?_, ?_, ?_, ?_, ?_⟩
  · intro j hj
    rw [yD_a h] at hj
    rw [h.1 20 (3 * j) rfl, h.1 20 (3 * j + 1) rfl, h.1 20 (3 * j + 2) rfl, h.1 112 j rfl, h.1 113 j rfl, h.1 114 j rfl]
    exact l1 j hj
  · intro d hd
    rw [yD_a h] at hd
    rw [h.1 112 d rfl, h.1 113 d rfl, h.1 114 d rfl, yr_a h, yf_a h, yl_a h, yY_a h]
    exact l2 d hd
  · intro d hd
    rw [yD_a h] at hd
    rw [h.1 21 d rfl, h.1 22 d rfl, yo_a h, yst_a h]
    exact l3 d hd
  · rw [h.1 19 6 rfl, yT_a h]; exact l4
  · rw [h.1 107 26 rfl, yT_a h]; exact l5
  · intro k hk
    rw [yT_a h] at hk
    rw [h.1 118 k rfl, yN_a h]
    exact l6 k hk
  · intro d hd s hs k hk
    have hd2 := hd
    rw [yD_a h] at hd
    rw [yT_a h] at hk
    rw [yd_a h]
    have := l7 d hd s hs k hk
    show bL (w.2 (24 + (7 * d + s)) (k / 64)) (k % 64) = _
    rw [h.2 (24 + (7 * d + s)) (k / 64) (by have := kl_see (7 * d + s) (by omega); rw [show 23 + 1 + (7 * d + s) = 24 + (7 * d + s) by omega] at this; exact this)]
    exact this
theorem ypo_a (h : zLa u w) (a : zRa u w) (k : Nat) : ypo w k = ypo u k := by
  unfold ypo
  rw [yF_l a, a.2.2.2.2.1, a.2.2.2.2.2.1, a.2.2.2.2.2.2.1]
  rw [Bool.eq_iff_iff, decide_eq_true_eq, decide_eq_true_eq]
  constructor
  · intro z i hi
    rw [← yd_a h]
    exact z i hi
  · intro z i hi
    rw [yd_a h]
    exact z i hi
theorem yHs_a (h : zLa u w) (a : zRa u w) {i th k : Nat} (hc : ycs w (ix (u.1 120 i)) = ycs u (ix (u.1 120 i))) : yHs w i th k = yHs u i th k := by
  unfold yHs yH
  rw [a.2.1, a.2.2.1, hc, yD_a h, show yd w k = yd u k from funext (yd_a h k)]
theorem yfi_a (h : zLa u w) (a : zRa u w) (hi : ∀ i, i < yS u → ycs w (ix (u.1 120 i)) = ycs u (ix (u.1 120 i))) (k : Nat) : yfi w k = yfi u k := by
  unfold yfi
  rw [ypo_a h a, yS_l a, yal_l a]
  congr 1
  rw [Bool.eq_iff_iff, decide_eq_true_eq, decide_eq_true_eq]
  constructor
  · intro z i hi2
    rw [← yHs_a h a (hi i hi2)]
    exact z i hi2
  · intro z i hi2
    rw [yHs_a h a (hi i hi2)]
    exact z i hi2
theorem jCou_a (h : zLa u w) (a : zRa u w) (hi : ∀ i, i < yS u → ycs w (ix (u.1 120 i)) = ycs u (ix (u.1 120 i))) (C : cRw u w) : jCou w := by
  obtain ⟨c1, c2, c3⟩ := C
  refine ⟨fun k hk => ?_, fun k hk => ?_, fun i hi2 k hk => ?_⟩
  · rw [yT_a h, ypo_a h a]; exact c1 k hk
  · rw [yT_a h, yfi_a h a hi]; exact c2 k hk
  · rw [yS_l a] at hi2
    rw [yT_a h] at hk
    rw [yal_l a, yHs_a h a (hi i hi2)]
    exact c3 i hi2 k hk
end
