/-! PURE: the table of a duel -/
def zG (w v : gW) : Prop := zAg (fun a _ => a == 106) (fun _ => false) w v
theorem zG.rf (w : gW) : zG w w := zAg.rf _ _ _
theorem zG.tr {u w v : gW} (h : zG u w) (k : zG w v) : zG u v := zAg.tr h k
theorem sc106 (b : Nat) : zScrI 106 b = true := rfl
theorem zG.e {u w v : gW} (h : zE u w) (k : zG w v) : zE u v := zAg.tr (show zAg zScrI zScrL u w from h) (zAg.wk k (fun a b q => by
  rw [show a = 106 from by simpa using q]; exact sc106 b) (fun _ q => by cases q))
theorem zG.l {w v : gW} (k : zG w v) (a b : Nat) : v.2 a b = w.2 a b := k.2 a b rfl
theorem zG.i {w v : gW} (k : zG w v) {a : Nat} (ha : a ≠ 106) (b : Nat) : v.1 a b = w.1 a b := k.1 a b (by simpa using ha)
theorem zG.s {w v : gW} (k : zG w v) (j : Nat) (x : Int32) : zG w (zsI v 106 j x) := zAg.sI k x (by simp)
theorem g106 : (g_sh 106).1 = 1 ∧ g_len 1 106 = 9 := by decide +kernel
theorem g_fill (w : gW) : ∃ v : gW, f_Arr_fill_AII 106 (0 : Int32) w = some ((), v) ∧ zG w v ∧ ∀ i, i < 9 → v.1 106 i = 0 := by
  have key := zfx_ind (fun _ _ _ _ _ => none) f_Arr_fill_AII_b5_s (fun m kk => ∀ i v, i + m = 9 → zG w v → (∀ l, l < i → v.1 106 l = 0) → ∃ v' : gW, kk 106 0 (nI i) (nI 9) v = some ((), v') ∧ zG w v' ∧ ∀ l, l < 9 → v'.1 106 l = 0) (fun m kk ih i v hi hv hp => by
    unfold f_Arr_fill_AII_b5_s
    cases m with
    | zero =>
      rw [if_pos (by rw [n_le (by omega) (by omega)]; omega)]
      exact ⟨v, rfl, hv, fun l hl => hp l (by omega)⟩
    | succ m =>
      rw [if_neg (by rw [n_le (by omega) (by omega)]; omega), g106.2, if_pos (z_inbn (by omega) (by omega)), z_ix (by omega), zl_s, zl_s, n_1]
      refine ih m (by omega) (i + 1) _ (by omega) (hv.s i 0) (fun l hl => ?_)
      rw [zsI_g]
      by_cases q : l = i
      · rw [if_pos ⟨rfl, q⟩]
      · rw [if_neg (fun z => q z.2)]; exact hp l (by omega)) zFU 9 (zfu (by omega))
  unfold f_Arr_fill_AII
  rw [if_pos g106.1, zl_s, g106.2]
  exact key 0 w (by omega) (zG.rf w) (fun l hl => absurd hl (Nat.not_lt_zero l))
section
variable {u : gW}
/-- together, or alone at the last place -/
def yTg (u : gW) (s i j : Nat) : Prop := if j = yO u then yCB u s i i else yCB u s i j
def gRow (u : gW) (s i : Nat) (w : gW) : Prop := ∃ B, w.1 106 i = nI B ∧ isB (yO u + 1) (yTg u s i) B
def GT (u : gW) (s : Nat) (w : gW) : Prop := ∀ i, i < yO u → gRow u s i w
theorem hAl.g {s : Nat} {w v : gW} (h : hAl u s w) (k : zG w v) : hAl u s v := fun o ho x hx => by
  have := h o ho x hx
  unfold zbt at this ⊢
  rw [k.l]
  exact this
theorem Ga_prep (K : zK u) (C : jCou u) {w : gW} (h : zE u w) {s : Nat} (hA : hAl u s w) (hz : ∀ i, i < 9 → w.1 106 i = 0) : ∃ v : gW, f_Ga_prepare_b32 (nI (yO u)) (0 : Int32) w = some ((), v) ∧ zG w v ∧ GT u s v := by
  have h8 := K.O8
  have key := zfx_ind (fun _ _ _ => none) f_Ga_prepare_b32_s (fun m kk => ∀ i v, i + m = yO u → zG w v → (∀ l, l < i → gRow u s l v) → (∀ l, i ≤ l → l < 9 → v.1 106 l = 0) → ∃ v' : gW, kk (nI (yO u)) (nI i) v = some ((), v') ∧ zG w v' ∧ GT u s v') (fun m kk ih i v hi hv hp h0 => by
    unfold f_Ga_prepare_b32_s
    cases m with
    | zero =>
      rw [if_pos (by rw [n_le (by omega) (by omega)]; omega)]
      exact ⟨v, rfl, hv, fun l hl => hp l (by omega)⟩
    | succ m =>
      have hi2 : i < yO u := by omega
      have i9 : inb (nI i) 9 := z_inbn (by omega) (by omega)
      rw [if_neg (by rw [n_le (by omega) (by omega)]; omega), if_neg (show ¬ (8 : Int32) ≤ nI i by rw [show (8 : Int32) = nI 8 from rfl, n_le (by omega) (by omega)]; omega)]
      have inner := zfx_ind (fun _ _ _ _ => none) (f_Ga_prepare_b48_s kk) (fun m2 k2 => ∀ j v B, j + m2 = yO u → zG w v → (∀ l, l < i → gRow u s l v) → (∀ l, i < l → l < 9 → v.1 106 l = 0) → v.1 106 i = nI B → isB j (yTg u s i) B → ∃ v' : gW, k2 (nI (yO u)) (nI i) (nI j) v = some ((), v') ∧ zG w v' ∧ GT u s v') (fun m2 k2 ih2 j v B hj hv hp h0 eB hB => by
        have hE := hv.e h
        have hAv := hA.g hv
        unfold f_Ga_prepare_b48_s
        have oth : ∀ (B2 : Nat) (l : Nat), l ≠ i → (zsI v 106 i (nI B2)).1 106 l = v.1 106 l := fun B2 l hl => by rw [zsI_g, if_neg (fun z => hl z.2)]
        have own : ∀ (B2 : Nat), (zsI v 106 i (nI B2)).1 106 i = nI B2 := fun B2 => by rw [zsI_g, if_pos ⟨rfl, rfl⟩]
        cases m2 with
        | zero =>
          have ej : j = yO u := by omega
          subst ej
          rw [if_pos (by rw [n_le (by omega) (by omega)]; omega), if_pos i9, z_ix (by omega), eB]
          obtain ⟨bb, e1, e2⟩ := Cs_canBe' K C hE (s := s) hi2 (hAv i hi2)
          rw [e1, zb_s]
          have hs := hB.s bb (by rw [e2]; unfold yTg; rw [if_pos rfl])
          have st : ∀ x : Nat, x = (if bb = true then 2 ^ yO u else 0) → ∃ v' : gW, f_Ga_prepare_b119 kk (nI (yO u)) (nI i) (nI i) (nI B) (nI x) v = some ((), v') ∧ zG w v' ∧ GT u s v' := by
            intro x hx
            subst hx
            unfold f_Ga_prepare_b119
            rw [if_pos i9, z_ix (by omega), n_or, zl_s, zl_s, n_1]
            refine ih m (by omega) (i + 1) _ (by omega) (hv.s _ _) (fun l hl => ?_) (fun l h1 h2 => ?_)
            · by_cases q : l = i
              · rw [q]; exact ⟨_, own _, hs⟩
              · obtain ⟨B2, b1, b2⟩ := hp l (by omega)
                exact ⟨B2, by rw [oth _ l q]; exact b1, b2⟩
            · rw [oth _ l (by omega)]; exact h0 l (by omega) h2
          cases bb with
          | false => rw [if_pos bf0]; exact st 0 rfl
          | true => rw [if_neg bt0, n_1sh (by omega)]; exact st _ rfl
        | succ m2 =>
          have hj2 : j < yO u := by omega
          rw [if_neg (by rw [n_le (by omega) (by omega)]; omega), if_pos i9, z_ix (by omega), eB]
          obtain ⟨bb, e1, e2⟩ := Cs_canBoth' K C hE (s := s) hi2 hj2 (hAv i hi2) (hAv j hj2)
          rw [e1, zb_s]
          have hs := hB.s bb (by rw [e2]; unfold yTg; rw [if_neg (by omega)])
          have st : ∀ x : Nat, x = (if bb = true then 2 ^ j else 0) → ∃ v' : gW, f_Ga_prepare_b84 kk k2 (nI (yO u)) (nI i) (nI j) (nI i) (nI B) (nI x) v = some ((), v') ∧ zG w v' ∧ GT u s v' := by
            intro x hx
            subst hx
            unfold f_Ga_prepare_b84
            rw [if_pos i9, z_ix (by omega), n_or, zl_s, zl_s, n_1]
            refine ih2 m2 (by omega) (j + 1) _ _ (by omega) (hv.s _ _) (fun l hl => ?_) (fun l h1 h2 => ?_) (own _) hs
            · obtain ⟨B2, b1, b2⟩ := hp l (by omega)
              exact ⟨B2, by rw [oth _ l (by omega)]; exact b1, b2⟩
            · rw [oth _ l (by omega)]; exact h0 l h1 h2
          cases bb with
          | false => rw [if_pos bf0]; exact st 0 rfl
          | true => rw [if_neg bt0, n_1sh (by omega)]; exact st _ rfl) zFU (yO u) (zfu (by omega))
      exact inner 0 v 0 (by omega) hv hp (fun l h1 h2 => h0 l (by omega) h2) (h0 i (Nat.le_refl _) (by omega)) (isB.z _)) zFU (yO u) (zfu (by omega))
  exact key 0 w (by omega) (zG.rf w) (fun l hl => absurd hl (Nat.not_lt_zero l)) (fun l _ h2 => hz l h2)
theorem Ga_prepare' (K : zK u) (C : jCou u) {w : gW} (h : zE u w) {s : Nat} (hs : s < 7) (pr : Int32) : ∃ v : gW, f_Ga_prepare (nI s) pr w = some ((), v) ∧ zE u v ∧ GT u s v ∧ v.1 105 3 = pr := by
  unfold f_Ga_prepare
  rw [zl_s]
  have h1 : zE u (zsI w 105 3 pr) := h.sI _ rfl
  have p1 : (zsI w 105 3 pr).1 105 3 = pr := by rw [zsI_g, if_pos ⟨rfl, rfl⟩]
  generalize zsI w 105 3 pr = w1 at h1 p1 ⊢
  obtain ⟨v2, e2, k2, A2⟩ := Cs_hearAll' K C h1 hs
  have h2 := zRw.h h1 k2
  obtain ⟨v3, e3, k3, z3⟩ := g_fill v2
  have h3 := k3.e h2
  obtain ⟨v4, e4, k4, T4⟩ := Ga_prep K C h3 (A2.g k3) z3
  refine ⟨v4, ?_, k4.e h3, T4, ?_⟩
  · rw [e2, zb_s, e3, zb_s, Oa_size' K h3.k, zb_s, e4]
  · rw [k4.i (by decide), k3.i (by decide), k2.1 105 3 rfl, p1]
end
