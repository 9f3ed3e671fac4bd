/-! PURE: image, back over the invariant -/
section
variable {w : gW}
theorem zcI_g (w : gW) (k : Nat) (f : Nat → Int32) (a b : Nat) : (zcI w k f).1 a b = if a = k then f b else w.1 a b := rfl
theorem zim_o {a b : Nat} (h : ¬ (66 ≤ a ∧ a ≤ 72)) : (zim w).1 a b = w.1 a b := by
  unfold zim zcp1E
  simp only [zsI_g, zcI_g, zcp1_g]
  rw [if_neg (by omega), if_neg (by omega), if_neg (by omega), if_neg (by omega), if_neg (by omega), if_neg (by omega), if_neg (by omega), if_neg (by omega)]
theorem zim_66 : (zim w).1 66 6 = w.1 59 6 ∧ (zim w).1 66 7 = w.1 59 7 := by
  unfold zim zcp1E
  constructor <;> simp [zsI_g, zcI_g, zcp1_g]
theorem zim_67 {j : Nat} (h : j < 40) : (zim w).1 67 j = w.1 60 j := by
  unfold zim zcp1E
  simp [zsI_g, zcI_g, zcp1_g]
  rw [pk_cpy_in (Nat.zero_le _) (by omega), Nat.zero_add, Nat.sub_zero]
theorem zim_68 {j : Nat} (h : j < 20) : (zim w).1 68 j = w.1 61 j := by
  unfold zim zcp1E
  simp [zsI_g, zcI_g, zcp1_g]
  rw [pk_cpy_in (Nat.zero_le _) (by omega), Nat.zero_add, Nat.sub_zero]
theorem zim_69 {j : Nat} (h : j < 20) : (zim w).1 69 j = w.1 62 j := by
  unfold zim zcp1E
  simp [zsI_g, zcI_g, zcp1_g]
  rw [pk_cpy_in (Nat.zero_le _) (by omega), Nat.zero_add, Nat.sub_zero]
theorem zim_70 {j : Nat} (h : j < 20) : (zim w).1 70 j = (w.1 63 j) &&& 1 := by
  unfold zim zcp1E
  simp [zsI_g, zcI_g, zcp1_g, h]
theorem zim_71 {j : Nat} (h : j < 30) : (zim w).1 71 j = w.1 64 j := by
  unfold zim zcp1E
  simp [zsI_g, zcI_g, zcp1_g]
  rw [pk_cpy_in (Nat.zero_le _) (by omega), Nat.zero_add, Nat.sub_zero]
  rw [zcp1_g, if_neg (by omega), zcI_g, if_neg (by omega), zcI_g, if_neg (by omega), zcI_g, if_neg (by omega)]
theorem zim_72 {j : Nat} (h : j < 50) : (zim w).1 72 j = w.1 65 j := by
  unfold zim zcp1E
  simp [zsI_g, zcI_g, zcp1_g]
  rw [pk_cpy_in (Nat.zero_le _) (by omega), Nat.zero_add, Nat.sub_zero]
  rw [zcp1_g, if_neg (by omega), zcI_g, if_neg (by omega), zcI_g, if_neg (by omega), zcI_g, if_neg (by omega)]
theorem zmi_o {a b : Nat} (h : ¬ (132 ≤ a ∧ a ≤ 134)) : (zmi w).1 a b = w.1 a b := by
  unfold zmi
  rw [zmi4_g, if_neg (by omega), zmi3_g, if_neg (by omega), zmi2_g, if_neg (by omega), if_neg (by omega), zmi1_g, if_neg (by omega)]
theorem zmi_132 {i c : Nat} (hi : i < 10) (hc : c < 4) : (zmi w).1 132 (4 * i + c) = w.1 (119 + c) i := by
  unfold zmi
  rw [zmi4_g, if_neg (by omega), zmi3_g, if_neg (by omega), zmi2_g, if_neg (by omega), if_neg (by omega), zmi1_g, if_pos ⟨rfl, by omega⟩, show (4 * i + c) % 4 = c by omega, show (4 * i + c) / 4 = i by omega]
theorem zmi_140 {i c : Nat} (hi : i < 20) (hc : c < 2) : (zmi w).1 132 (40 + 2 * i + c) = w.1 (123 + c) i := by
  unfold zmi
  rw [zmi4_g, if_neg (by omega), zmi3_g, if_neg (by omega), zmi2_g, if_pos ⟨rfl, by omega, by omega⟩, show (40 + 2 * i + c) % 2 = c by omega, show (40 + 2 * i + c - 40) / 2 = i by omega, zmi1_g, if_neg (by omega)]
theorem zmi_180 {j : Nat} (hj : j < 50) : (zmi w).1 132 (80 + j) = w.1 129 j := by
  unfold zmi
  rw [zmi4_g, if_neg (by omega), zmi3_g, if_pos ⟨rfl, by omega, by omega⟩, show 80 + j - 80 = j by omega, zmi2_g, if_neg (by omega), if_neg (by omega), zmi1_g, if_neg (by omega)]
theorem zmi_133 {j : Nat} (hj : j < 20) : (zmi w).1 133 j = (w.1 125 j) &&& 1 := by
  unfold zmi
  rw [zmi4_g, if_neg (by omega), zmi3_g, if_neg (by omega), zmi2_g, if_neg (by omega), if_pos ⟨rfl, hj⟩, zmi1_g, if_neg (by omega)]
theorem zmi_134 {j : Nat} (hj : j < 30) : (zmi w).1 134 j = (w.1 126 j) &&& 1 := by
  unfold zmi
  rw [zmi4_g, if_pos ⟨rfl, hj⟩, zmi3_g, if_neg (by omega), zmi2_g, if_neg (by omega), if_neg (by omega), zmi1_g, if_neg (by omega)]
theorem zit_2 (T : Nat → gW → gW) (hT : ∀ j u, (T j u).2 = u.2) : ∀ (n j : Nat) (u : gW), (zit T j n u).2 = u.2
  | 0, _, _ => rfl
  | n + 1, j, u => by
    show (zit T (j + 1) n (T j u)).2 = u.2
    rw [zit_2 T hT n (j + 1), hT]
theorem zim_2 : (zim w).2 = w.2 := by
  unfold zim zcp1E
  generalize hX : zcI (zcI (zcI w 67 (va_cpy (w.1 60) (w.1 67) 0 0 40)) 68 (va_cpy (w.1 61) (w.1 68) 0 0 20)) 69 (va_cpy (w.1 62) (w.1 69) 0 0 20) = X
  have e := zit_2 zcp1T (fun _ _ => rfl) 20 0 X
  have e2 : X.2 = w.2 := by rw [← hX]; rfl
  rw [← e2, ← e]
  rfl
theorem zmi_2 : (zmi w).2 = w.2 := by
  unfold zmi
  rw [zit_2 zmi4 (fun _ _ => rfl), zit_2 zmi3 (fun _ _ => rfl), zit_2 zmi2 (fun _ _ => rfl), zit_2 zmi1 (fun _ _ => rfl)]
theorem zmiE_2 (X : gW) : (zmiE X).2 = X.2 := rfl
theorem zmiE_55 (X : gW) : (zmiE X).1 107 55 = X.1 107 35 ∧ (zmiE X).1 107 56 = X.1 107 36 ∧ (zmiE X).1 107 57 = X.1 107 37 ∧ (zmiE X).1 107 58 = 1 := ⟨rfl, rfl, rfl, rfl⟩
/-- the world after an image -/
def imW (w : gW) : gW := zmiE (zmi (zsI (zsI (zim w) 0 11 1) 107 0 0))
theorem imW_o {a b : Nat} (h1 : ¬ (66 ≤ a ∧ a ≤ 72)) (h2 : ¬ (132 ≤ a ∧ a ≤ 134)) (h3 : ¬ (a = 107 ∧ (b = 0 ∨ b = 55 ∨ b = 56 ∨ b = 57 ∨ b = 58))) (h4 : ¬ (a = 0 ∧ b = 11)) : (imW w).1 a b = w.1 a b := by
  unfold imW zmiE
  simp only [zsI_g]
  rw [if_neg (by omega), if_neg (by omega), if_neg (by omega), if_neg (by omega), zmi_o h2, zsI_g, if_neg (by omega), zsI_g, if_neg (by omega), zim_o h1]
theorem imW_c {a b : Nat} (h1 : 66 ≤ a ∧ a ≤ 72) : (imW w).1 a b = (zim w).1 a b := by
  unfold imW zmiE
  simp only [zsI_g]
  rw [if_neg (by omega), if_neg (by omega), if_neg (by omega), if_neg (by omega), zmi_o (by omega), zsI_g, if_neg (by omega), zsI_g, if_neg (by omega)]
theorem imW_m {a b : Nat} (h1 : 132 ≤ a ∧ a ≤ 134) : (imW w).1 a b = (zmi (zsI (zsI (zim w) 0 11 1) 107 0 0)).1 a b := by
  unfold imW zmiE
  simp only [zsI_g]
  rw [if_neg (by omega), if_neg (by omega), if_neg (by omega), if_neg (by omega)]
theorem imW_pre {a b : Nat} (h1 : ¬ (66 ≤ a ∧ a ≤ 72)) (h3 : ¬ (a = 107 ∧ b = 0)) (h4 : ¬ (a = 0 ∧ b = 11)) : (zsI (zsI (zim w) 0 11 1) 107 0 0).1 a b = w.1 a b := by
  rw [zsI_g, if_neg h3, zsI_g, if_neg h4, zim_o h1]
theorem imW_2 : (imW w).2 = w.2 := by
  unfold imW
  rw [zmiE_2, zmi_2, zsI_l, zsI_l, zim_2]
theorem jIma_im (J : zJ w) (h0 : 0 < yD w) (l : zLO w (imW w)) : jIma (imW w) := by
  have K := J.K
  have h10 := K.S10
  have h20 := K.F20
  obtain ⟨r1, r2, r3, r4⟩ := J.R
  right
  have e0 : (imW w).1 0 11 = 1 := by
    unfold imW zmiE
    simp only [zsI_g]
    rw [if_neg (by omega), if_neg (by omega), if_neg (by omega), if_neg (by omega), zmi_o (by omega)]
    rfl
  have c : ∀ c, c < 4 → ∀ i, i < 10 → (imW w).1 132 (4 * i + c) = w.1 (119 + c) i := fun c hc i hi => by
    rw [imW_m (by omega), zmi_132 hi hc, imW_pre (by omega) (by omega) (by omega)]
  have d : ∀ c, c < 2 → ∀ i, i < 20 → (imW w).1 132 (40 + 2 * i + c) = w.1 (123 + c) i := fun c hc i hi => by
    rw [imW_m (by omega), zmi_140 hi hc, imW_pre (by omega) (by omega) (by omega)]
  rw [yD_l l, yY_l l, yO_l l]
  have e58 : (imW w).1 107 58 = 1 := by
    unfold imW
    exact (zmiE_55 _).2.2.2
  refine ⟨⟨e0, e58⟩, h0, yS w, yF w, ⟨h10, h20⟩, ⟨?_, ?_⟩, ⟨?_, ?_, ?_⟩, fun i hi => ?_, fun i hi => ?_, ⟨fun i hi => ?_, ?_⟩, fun h j hj => ?_⟩
  · rw [imW_c (by omega), zim_66.1]; exact K.C.2.2.2.2.1.1
  · rw [imW_c (by omega), zim_66.2]; exact K.C.2.2.2.2.2.1.1
  · unfold imW
    rw [(zmiE_55 _).1, zmi_o (by omega), imW_pre (by omega) (by omega) (by omega)]
    exact K.C.2.2.2.2.1.2
  · unfold imW
    rw [(zmiE_55 _).2.1, zmi_o (by omega), imW_pre (by omega) (by omega) (by omega)]
    exact K.C.2.2.2.2.2.1.2
  · unfold imW
    rw [(zmiE_55 _).2.2.1, zmi_o (by omega), imW_pre (by omega) (by omega) (by omega)]
    exact K.C.2.2.2.2.2.2
  · rw [imW_c (by omega), imW_c (by omega), imW_c (by omega), imW_c (by omega), zim_67 (by omega), zim_67 (by omega), zim_67 (by omega), zim_67 (by omega)]
    have c0 := c 0 (by decide) i (by omega)
    have c1 := c 1 (by decide) i (by omega)
    have c2 := c 2 (by decide) i (by omega)
    have c3 := c 3 (by decide) i (by omega)
    rw [Nat.add_zero] at c0
    dsimp only
    rw [c0, c1, c2, c3]
    exact r1 i hi
  · rw [imW_c (by omega), imW_c (by omega), imW_c (by omega), zim_68 (by omega), zim_69 (by omega), zim_70 (by omega)]
    have d0 := d 0 (by decide) i (by omega)
    have d1 := d 1 (by decide) i (by omega)
    rw [Nat.add_zero] at d0
    have d2 : (imW w).1 133 i = w.1 125 i := by
      rw [imW_m (by omega), zmi_133 (by omega), imW_pre (by omega) (by omega) (by omega), b1_and (r2 i hi).2.2.2]
    dsimp only
    rw [d0, d1, d2]
    have o := r2 i hi
    refine ⟨⟨o.1.1, o.1.2.1, ?_⟩, o.2⟩
    rw [o.1.2.2, b1_and o.2.2.2]
  · rw [imW_c (by omega), zim_71 (by omega), imW_m (by omega), zmi_134 (by omega), imW_pre (by omega) (by omega) (by omega)]
    rcases r3.1 i hi with z | z
    · left; exact ⟨z.1, by rw [z.2]; decide⟩
    · right; exact ⟨z.1, by rw [z.2]; decide⟩
  · refine (fb_ct_cong (q := fun a => decide (w.1 64 a = 1)) (fun k hk => ?_)).trans r3.2
    rw [imW_c (by omega), zim_71 (by omega)]
  · dsimp only
    rw [imW_c (by omega), zim_72 hj, imW_m (by omega), zmi_180 hj, imW_pre (by omega) (by omega) (by omega)]
    exact r4 h j hj
theorem t_image (J : zJ w) : ∃ (r : Int32) (w1 w2 : gW), f_X_image w = some (r, w1) ∧ f_M_image w1 = some (r, w2) ∧ zJ w2 := by
  have K := J.K
  have h5 := K.D5
  have hk : zEk w w := (zE.rf w).k
  by_cases q : 0 < yD w
  · have l : zLO w (imW w) := by
      refine ⟨fun a b h => ?_, fun a b _ => by rw [imW_2]⟩
      have n1 : ¬ (66 ≤ a ∧ a ≤ 72) := fun z => by
        have e : decide (59 ≤ a ∧ a ≤ 72) = true := decide_eq_true (by omega)
        unfold recm at h
        rw [e] at h
        simp at h
      have n2 : ¬ (132 ≤ a ∧ a ≤ 134) := fun z => by
        have e : decide (119 ≤ a ∧ a ≤ 134) = true := decide_eq_true (by omega)
        unfold recm at h
        rw [e] at h
        simp at h
      have n3 : ¬ (a = 107 ∧ (b = 0 ∨ b = 55 ∨ b = 56 ∨ b = 57 ∨ b = 58)) := fun z => by
        obtain ⟨rfl, z⟩ := z
        rcases z with z | z | z | z | z <;> subst z <;> cases h
      have n4 : ¬ (a = 0 ∧ b = 11) := fun z => by
        obtain ⟨rfl, rfl⟩ := z
        cases h
      exact imW_o n1 n2 n3 n4
    have o : ∀ a, (119 ≤ a ∧ a ≤ 131 ∨ 59 ≤ a ∧ a ≤ 65 ∨ a = 1 ∨ a = 2 ∨ a = 108 ∨ a = 18) → (imW w).1 a = w.1 a := fun a ha => funext (fun b => imW_o (by omega) (by omega) (by omega) (by omega))
    have a : zRa w (imW w) := ⟨o 119 (by omega), o 120 (by omega), o 121 (by omega), o 122 (by omega), o 123 (by omega), o 124 (by omega), o 125 (by omega), imW_o (by omega) (by omega) (by omega) (by omega), imW_o (by omega) (by omega) (by omega) (by omega)⟩
    have hj : zJ (imW w) := by
      refine zJ_rec J l a (fun x _ => by rw [imW_2]) (jNum_c l a ?_ ?_ ?_ K.1) (jRec_c l a ⟨o 60 (by omega), o 61 (by omega), o 62 (by omega), o 63 (by omega), o 64 (by omega), o 126 (by omega)⟩ ?_ J.R) (jTap_c J.2.2.2.1 ?_ ?_ (o 2 (by omega)) (o 108 (by omega))) (jGai_c J.2.2.2.2.1 (o 18 (by omega)) (o 131 (by omega))) (jIma_im J q l)
      · rw [o 59 (by omega)]
      · rw [o 59 (by omega)]
      · exact imW_o (by omega) (by omega) (by omega) (by omega)
      · rw [o 65 (by omega), o 129 (by omega)]; exact J.R.2.2.2
      · rw [o 1 (by omega)]
      · exact imW_o (by omega) (by omega) (by omega) (by omega)
    refine ⟨nI (yS w) + nI (yF w), zsI (zim w) 0 11 1, imW w, ?_, ?_, hj⟩
    · unfold f_X_image f_An_actCount
      rw [La_isThere' K hk, zb_s, decide_eq_true q, if_neg bt0, An_copy, zb_s, zl_s, zb_s]
      have e1 : (zsI (zim w) 0 11 1).1 59 6 = nI (yS w) := by rw [zsI_g, if_neg (by omega), zim_o (by omega)]; exact K.C.2.2.2.2.1.1
      have e2 : (zsI (zim w) 0 11 1).1 59 7 = nI (yF w) := by rw [zsI_g, if_neg (by omega), zim_o (by omega)]; exact K.C.2.2.2.2.2.1.1
      rw [e1, e2]
    · rw [M_image]
      have e1 : (zsI (zim w) 0 11 1).1 107 21 = nI (yD w) := by rw [zsI_g, if_neg (by omega), zim_o (by omega)]; exact K.C.2.1.2
      have e2 : (zmi (zsI (zsI (zim w) 0 11 1) 107 0 0)).1 107 37 = nI (yS w) + nI (yF w) := by
        rw [zmi_o (by omega), imW_pre (by omega) (by omega) (by omega)]
        exact K.C.2.2.2.2.2.2
      rw [e1, if_neg (nI_ne0 q (by omega)), e2]
      rfl
  · refine ⟨-1, w, zsI w 107 0 0, ?_, ?_, zJ_E (zE.rf w).m0 J⟩
    · unfold f_X_image
      rw [La_isThere' K hk, zb_s, decide_eq_false q, if_pos bf0]
    · rw [M_image, K.C.2.1.2, if_pos (by rw [show yD w = 0 by omega]; rfl)]
end
