/-! PURE: what land and oaths mean does not hang on records; the invariant does not hang on scratch -/
def recm (a b : Nat) : Bool := zScrI a b || (a == 0 || (a == 1 || (a == 2 || (decide (59 ≤ a ∧ a ≤ 72) || (a == 108 || ((a == 107 && [5, 35, 36, 37, 55, 56, 57, 58].contains b) || (decide (119 ≤ a ∧ a ≤ 134) || a == 18)))))))
def zLO (u w : gW) : Prop := zAg recm zKL u w
theorem recm_s {a b : Nat} (h : zScrI a b = true) : recm a b = true := by unfold recm; rw [h]; rfl
theorem recm_cod : ∀ o, o < 9 → ∀ i, recm (7 + o) i = false := by
  intro o ho i
  unfold recm
  rw [scr_cod o ho i]
  have e1 : (7 + o == 0) = false := beq_eq_false_iff_ne.mpr (by omega)
  have e2 : (7 + o == 1) = false := beq_eq_false_iff_ne.mpr (by omega)
  have e3 : (7 + o == 2) = false := beq_eq_false_iff_ne.mpr (by omega)
  have e4 : decide (59 ≤ 7 + o ∧ 7 + o ≤ 72) = false := decide_eq_false (by omega)
  have e5 : (7 + o == 108) = false := beq_eq_false_iff_ne.mpr (by omega)
  have e6 : (7 + o == 107) = false := beq_eq_false_iff_ne.mpr (by omega)
  have e7 : decide (119 ≤ 7 + o ∧ 7 + o ≤ 134) = false := decide_eq_false (by omega)
  have e8 : (7 + o == 18) = false := beq_eq_false_iff_ne.mpr (by omega)
  rw [e1, e2, e3, e4, e5, e6, e7, e8]
  rfl
theorem zLO.tr {u w v : gW} (h : zLO u w) (k : zLO w v) : zLO u v := zAg.tr h k
theorem zLO.rf (w : gW) : zLO w w := zAg.rf _ _ _
theorem zE.lo {u w : gW} (h : zE u w) : zLO u w := ⟨fun a b q => h.1 a b (by
  cases e : zScrI a b with
  | false => rfl
  | true => rw [recm_s e] at q; cases q), fun a b q => h.2 a b (by
  unfold zKL at q
  rw [Bool.or_eq_false_iff] at q
  exact q.1)⟩
section
variable {u w : gW}
theorem yD_l (h : zLO u w) : yD w = yD u := by unfold yD; rw [h.1 107 21 rfl]
theorem yY_l (h : zLO u w) : yY w = yY u := by unfold yY; rw [h.1 107 22 rfl]
theorem yO_l (h : zLO u w) : yO w = yO u := by unfold yO; rw [h.1 107 6 rfl]
theorem yr_l (h : zLO u w) (d : Nat) : yr w d = yr u d := by unfold yr; rw [h.1 112 d rfl]
theorem yf_l (h : zLO u w) (d : Nat) : yf w d = yf u d := by unfold yf; rw [h.1 113 d rfl]
theorem yl_l (h : zLO u w) (d : Nat) : yl w d = yl u d := by unfold yl; rw [h.1 114 d rfl]
theorem yo_l (h : zLO u w) (d : Nat) : yo w d = yo u d := by unfold yo; rw [yf_l h, yl_l h]
theorem yZ_l (h : zLO u w) : ∀ n d, yZ w n d = yZ u n d
  | 0, _ => rfl
  | n + 1, d => by
    show yo w d * yZ w n (d + 1) = yo u d * yZ u n (d + 1)
    rw [yo_l h, yZ_l h n (d + 1)]
theorem yT_l (h : zLO u w) : yT w = yT u := by unfold yT; rw [yD_l h, yZ_l h]
theorem yst_l (h : zLO u w) (d : Nat) : yst w d = yst u d := by unfold yst; rw [yD_l h, yZ_l h]
theorem yg_l (h : zLO u w) (d o : Nat) : yg w d o = yg u d o := by unfold yg; rw [yo_l h, yf_l h]
theorem yop_l (h : zLO u w) (k d : Nat) : yop w k d = yop u k d := by unfold yop; rw [yst_l h, yo_l h]
theorem yd_l (h : zLO u w) (k d : Nat) : yd w k d = yd u k d := by unfold yd; rw [yop_l h, yg_l h]
theorem yn_l (h : zLO u w) (k : Nat) : ∀ d, yn w k d = yn u k d
  | 0 => rfl
  | d + 1 => by
    show yn w k d * 10 + yd w k d = yn u k d * 10 + yd u k d
    rw [yn_l h k d, yd_l h]
theorem yN_l (h : zLO u w) (k : Nat) : yN w k = yN u k := by unfold yN; rw [yD_l h, yn_l h]
theorem ycs_l (h : zLO u w) {o : Nat} (ho : o < 9) : ycs w o = ycs u o := by
  unfold ycs
  rw [h.1 16 o rfl]
  congr 1
  funext i
  rw [h.1 (7 + o) i (recm_cod o ho i)]
theorem yH_l (h : zLO u w) {o s th k : Nat} (ho : o < 9) : yH w o s th k = yH u o s th k := by
  unfold yH
  rw [ycs_l h ho, yD_l h, show yd w k = yd u k from funext (yd_l h k)]
theorem jLnd_l (h : zLO u w) (h5 : yD u ≤ 5) (L : jLnd u) : jLnd w := by
  obtain ⟨l1, l2, l3, l4, l5, l6, l7⟩ := L
  refine ⟨?_, ?_, ?_, ?_, ?_, ?_, ?_⟩
  · intro j hj
    rw [yD_l h] at hj
    rw [h.1 20 (3 * j) rfl, h.1 20 (3 * j + 1) rfl, h.1 20 (3 * j + 2) rfl, h.1 112 j rfl, h.1 113 j rfl, h.1 114 j rfl]
    exact l1 j hj
  · intro d hd
    rw [yD_l h] at hd
    rw [h.1 112 d rfl, h.1 113 d rfl, h.1 114 d rfl, yr_l h, yf_l h, yl_l h, yY_l h]
    exact l2 d hd
  · intro d hd
    rw [yD_l h] at hd
    rw [h.1 21 d rfl, h.1 22 d rfl, yo_l h, yst_l h]
    exact l3 d hd
  · rw [h.1 19 6 rfl, yT_l h]; exact l4
  · rw [h.1 107 26 rfl, yT_l h]; exact l5
  · intro k hk
    rw [yT_l h] at hk
    rw [h.1 118 k rfl, yN_l h]
    exact l6 k hk
  · intro d hd s hs k hk
    have hd2 := hd
    rw [yD_l h] at hd
    rw [yT_l h] at hk
    rw [yd_l h]
    have := l7 d hd s hs k hk
    show bL (w.2 (24 + (7 * d + s)) (k / 64)) (k % 64) = _
    rw [h.2 (24 + (7 * d + s)) (k / 64) (by have := kl_see (7 * d + s) (by omega); rw [show 23 + 1 + (7 * d + s) = 24 + (7 * d + s) by omega] at this; exact this)]
    exact this
theorem jOat_l (h : zLO u w) (h8 : yO u ≤ 8) (O : jOat u) : jOat w := by
  intro o ho
  rw [yO_l h] at ho
  obtain ⟨n, f, ⟨n1, n2, n3⟩, p1, p2, c1, c2, c3⟩ := O o ho
  refine ⟨n, f, ⟨n1, ?_, fun j hj => ⟨(n3 j hj).1, (n3 j hj).2.1, ?_⟩⟩, p1, ?_, ?_, fun i hi => ?_, ?_⟩
  · rw [h.1 110 o rfl]; exact n2
  · rw [h.1 109 (120 * o + j) rfl]; exact (n3 j hj).2.2
  · rw [ycs_l h (by omega)]; exact p2
  · rw [h.1 16 o rfl, ycs_l h (by omega)]; exact c1
  · rw [ycs_l h (by omega)] at hi ⊢
    rw [h.1 (7 + o) i (recm_cod o (by omega) i)]
    exact c2 i hi
  · rw [h.1 17 o rfl, ycs_l h (by omega)]; exact c3
theorem zK_l (K : zK u) (h : zLO u w) (N : jNum w) : zK w := ⟨N, jLnd_l h K.D5 K.2.1, jOat_l h K.O8 K.2.2⟩
/-- records alike -/
def zRa (u w : gW) : Prop := w.1 119 = u.1 119 ∧ w.1 120 = u.1 120 ∧ w.1 121 = u.1 121 ∧ w.1 122 = u.1 122 ∧ w.1 123 = u.1 123 ∧ w.1 124 = u.1 124 ∧ w.1 125 = u.1 125 ∧ w.1 107 35 = u.1 107 35 ∧ w.1 107 36 = u.1 107 36
theorem yS_l (a : zRa u w) : yS w = yS u := by unfold yS; rw [a.2.2.2.2.2.2.2.1]
theorem yF_l (a : zRa u w) : yF w = yF u := by unfold yF; rw [a.2.2.2.2.2.2.2.2]
theorem yal_l (a : zRa u w) : yal w = yal u := by unfold yal; rw [yS_l a]
theorem ypo_l (h : zLO u w) (a : zRa u w) (k : Nat) : ypo w k = ypo u k := by
  unfold ypo
  rw [yF_l a, a.2.2.2.2.1, a.2.2.2.2.2.1, a.2.2.2.2.2.2.1]
  rw [Bool.eq_iff_iff, decide_eq_true_eq, decide_eq_true_eq]
  constructor
  · intro z i hi
    rw [← yd_l h]
    exact z i hi
  · intro z i hi
    rw [yd_l h]
    exact z i hi
theorem yHs_l (h : zLO u w) (a : zRa u w) {i th k : Nat} (hi : ix (u.1 120 i) < 9) : yHs w i th k = yHs u i th k := by
  unfold yHs
  rw [a.2.1, a.2.2.1]
  exact yH_l h hi
theorem yfi_l (h : zLO u w) (a : zRa u w) (hi : ∀ i, i < yS u → ix (u.1 120 i) < 9) (k : Nat) : yfi w k = yfi u k := by
  unfold yfi
  rw [ypo_l h a, yS_l a, yal_l a]
  congr 1
  rw [Bool.eq_iff_iff, decide_eq_true_eq, decide_eq_true_eq]
  constructor
  · intro z i hi2
    rw [← yHs_l h a (hi i hi2)]
    exact z i hi2
  · intro z i hi2
    rw [yHs_l h a (hi i hi2)]
    exact z i hi2
theorem jCou_l (h : zLO u w) (a : zRa u w) (hi : ∀ i, i < yS u → ix (u.1 120 i) < 9) (C : cRw u w) : jCou w := by
  obtain ⟨c1, c2, c3⟩ := C
  refine ⟨fun k hk => ?_, fun k hk => ?_, fun i hi2 k hk => ?_⟩
  · rw [yT_l h, ypo_l h a]; exact c1 k hk
  · rw [yT_l h, yfi_l h a hi]; exact c2 k hk
  · rw [yS_l a] at hi2
    rw [yT_l h] at hk
    rw [yal_l a, yHs_l h a (hi i hi2)]
    exact c3 i hi2 k hk
theorem cRw_same {v : gW} (h : ∀ a, a = 75 ∨ a = 76 ∨ (78 ≤ a ∧ a ≤ 87) → w.2 a = v.2 a) (h10 : yS u ≤ 10) (C : cRw u v) : cRw u w := by
  obtain ⟨c1, c2, c3⟩ := C
  refine ⟨fun k hk => ?_, fun k hk => ?_, fun i hi k hk => ?_⟩
  · show bL (w.2 75 (k / 64)) (k % 64) = _
    rw [h 75 (Or.inl rfl)]; exact c1 k hk
  · show bL (w.2 76 (k / 64)) (k % 64) = _
    rw [h 76 (Or.inr (Or.inl rfl))]; exact c2 k hk
  · show bL (w.2 (78 + i) (k / 64)) (k % 64) = _
    rw [h (78 + i) (Or.inr (Or.inr ⟨by omega, by omega⟩))]; exact c3 i hi k hk
theorem sc_row : ∀ a, a = 75 ∨ a = 76 ∨ (78 ≤ a ∧ a ≤ 87) → zScrL a = false := by
  intro a h
  have : a = 75 ∨ a = 76 ∨ a = 78 ∨ a = 79 ∨ a = 80 ∨ a = 81 ∨ a = 82 ∨ a = 83 ∨ a = 84 ∨ a = 85 ∨ a = 86 ∨ a = 87 := by omega
  rcases this with z | z | z | z | z | z | z | z | z | z | z | z <;> subst z <;> rfl
/-- a cell that is no scratch at all -/
theorem zE.fn (h : zE u w) (a : Nat) (q : ∀ b, zScrI a b = false) : w.1 a = u.1 a := funext (fun b => h.1 a b (q b))
theorem zE.ra (h : zE u w) : zRa u w := ⟨h.fn 119 (fun _ => rfl), h.fn 120 (fun _ => rfl), h.fn 121 (fun _ => rfl), h.fn 122 (fun _ => rfl), h.fn 123 (fun _ => rfl), h.fn 124 (fun _ => rfl), h.fn 125 (fun _ => rfl), h.1 107 35 rfl, h.1 107 36 rfl⟩
theorem jNum_E (h : zE u w) (N : jNum u) : jNum w := by
  have l := h.lo
  have a := h.ra
  unfold jNum jC
  rw [yD_l l, yY_l l, yO_l l, yS_l a, yF_l a, h.1 19 5 rfl, h.1 107 21 rfl, h.1 19 4 rfl, h.1 107 22 rfl, h.1 5 4 rfl, h.1 107 6 rfl, h.1 59 6 rfl, h.1 107 35 rfl, h.1 59 7 rfl, h.1 107 36 rfl, h.1 107 37 rfl]
  exact N
theorem jRec_E (h : zE u w) (R : jRec u) : jRec w := by
  have l := h.lo
  have a := h.ra
  unfold jRec
  rw [yD_l l, yY_l l, yO_l l, yS_l a, yF_l a, h.fn 60 (fun _ => rfl), h.fn 61 (fun _ => rfl), h.fn 62 (fun _ => rfl), h.fn 63 (fun _ => rfl), h.fn 64 (fun _ => rfl), h.fn 65 (fun _ => rfl), h.fn 119 (fun _ => rfl), h.fn 120 (fun _ => rfl), h.fn 121 (fun _ => rfl), h.fn 122 (fun _ => rfl), h.fn 123 (fun _ => rfl), h.fn 124 (fun _ => rfl), h.fn 125 (fun _ => rfl), h.fn 126 (fun _ => rfl), h.fn 129 (fun _ => rfl)]
  exact R
theorem jTap_E (h : zE u w) (T : jTap u) : jTap w := by
  obtain ⟨n, f, t1, t2, t3, t4⟩ := T
  refine ⟨n, f, t1, (h.1 1 1 rfl).trans t2, (h.1 107 5 rfl).trans t3, fun j hj => ?_⟩
  rw [h.1 2 j rfl, h.1 108 j rfl]
  exact t4 j hj
theorem jGai_E (h : zE u w) (G : jGai u) : jGai w := by
  unfold jGai
  rw [h.fn 18 (fun _ => rfl), h.fn 131 (fun _ => rfl)]
  exact G
theorem jIma_E (h : zE u w) (M : jIma u) : jIma w := by
  have l := h.lo
  unfold jIma
  rw [yD_l l, yY_l l, yO_l l, h.1 0 11 rfl, h.1 107 58 rfl, h.1 66 6 rfl, h.1 66 7 rfl, h.1 107 55 rfl, h.1 107 56 rfl, h.1 107 57 rfl, h.fn 67 (fun _ => rfl), h.fn 68 (fun _ => rfl), h.fn 69 (fun _ => rfl), h.fn 70 (fun _ => rfl), h.fn 71 (fun _ => rfl), h.fn 72 (fun _ => rfl), h.fn 132 (fun _ => rfl), h.fn 133 (fun _ => rfl), h.fn 134 (fun _ => rfl)]
  exact M
theorem jOt (K : zK u) (R : jRec u) : ∀ i, i < yS u → ix (u.1 120 i) < 9 := fun i hi => by
  have := (R.1 i hi).2.2.1.2
  have := K.O8
  omega
theorem zJ_E (h : zE u w) (J : zJ u) : zJ w := by
  obtain ⟨K, R, C, T, G, M⟩ := J
  refine ⟨zK_l K h.lo (jNum_E h K.1), jRec_E h R, jCou_l h.lo h.ra (jOt K R) (cRw_same (fun a ha => funext (fun b => h.2 a b (sc_row a ha))) K.S10 C), jTap_E h T, jGai_E h G, jIma_E h M⟩
theorem zI_J : zI w ↔ zJ w := by
  unfold zI
  exact ⟨fun z => zJ_E (zPV_E w) z, fun z => zJ_E (u := w) ⟨fun a b q => ((zPV_E w).1 a b q).symm, fun a b q => ((zPV_E w).2 a b q).symm⟩ z⟩
/-- the review of a world whose class side is the new one -/
theorem rev_step {w1 : gW} {i2 : Nat → Nat → Int32} (K : zK (i2, w1.2)) (R : jRec (i2, w1.2)) (hc : ∀ a b, (zScrI a b || decide (107 ≤ a)) = false → w1.1 a b = i2 a b) : ∃ x : Nat → Nat → Int64, f_Co_review w1 = some ((), (w1.1, x)) ∧ zK (i2, x) ∧ jRec (i2, x) ∧ jCou (i2, x) ∧ ∀ a, zCr a = false → x a = w1.2 a := by
  have hE : zEc (i2, w1.2) w1 := ⟨hc, fun a b _ => rfl⟩
  obtain ⟨v, e1, t1, c1⟩ := Co_review' K R hE
  have ei : v.1 = w1.1 := by funext a b; exact t1.1 a b rfl
  have l : zLO (i2, w1.2) (i2, v.2) := ⟨fun _ _ _ => rfl, fun a b q => t1.2 a b (by
    cases e : zCr a with
    | false => rfl
    | true => rw [zCr_kl e] at q; cases q)⟩
  have a : zRa (i2, w1.2) (i2, v.2) := ⟨rfl, rfl, rfl, rfl, rfl, rfl, rfl, rfl, rfl⟩
  refine ⟨v.2, ?_, zK_l K l ?_, R, jCou_l l a (jOt K R) c1, fun a q => funext (fun b => t1.2 a b q)⟩
  · rw [e1, ← ei]
  · exact K.1
end
