/-! PURE: what changes records alone; the tape's calls, weigh, stake, sworn, count, deed over the invariant -/
section
variable {u w : gW}
theorem jNum_c (l : zLO u w) (a : zRa u w) (h1 : w.1 59 6 = u.1 59 6) (h2 : w.1 59 7 = u.1 59 7) (h3 : w.1 107 37 = u.1 107 37) (N : jNum u) : jNum w := by
  unfold jNum jC
  rw [yD_l l, yY_l l, yO_l l, yS_l a, yF_l a, l.1 19 5 rfl, l.1 107 21 rfl, l.1 19 4 rfl, l.1 107 22 rfl, l.1 5 4 rfl, l.1 107 6 rfl, h1, a.2.2.2.2.2.2.2.1, h2, a.2.2.2.2.2.2.2.2, h3]
  exact N
def zRb (u w : gW) : Prop := w.1 60 = u.1 60 ∧ w.1 61 = u.1 61 ∧ w.1 62 = u.1 62 ∧ w.1 63 = u.1 63 ∧ w.1 64 = u.1 64 ∧ w.1 126 = u.1 126
theorem jRec_c (l : zLO u w) (a : zRa u w) (b : zRb u w) (hw : pWt (w.1 65) (w.1 129) (yD u)) (R : jRec u) : jRec w := by
  obtain ⟨r1, r2, r3, r4⟩ := R
  unfold jRec
  rw [yD_l l, yY_l l, yO_l l, yS_l a, yF_l a, a.1, a.2.1, a.2.2.1, a.2.2.2.1, a.2.2.2.2.1, a.2.2.2.2.2.1, a.2.2.2.2.2.2.1, b.1, b.2.1, b.2.2.1, b.2.2.2.1, b.2.2.2.2.1, b.2.2.2.2.2]
  exact ⟨r1, r2, r3, hw⟩
/-- court rows as they were -/
def zCo (u w : gW) : Prop := ∀ a, a = 75 ∨ a = 76 ∨ (78 ≤ a ∧ a ≤ 87) → w.2 a = u.2 a
theorem zJ_rec (J : zJ u) (l : zLO u w) (a : zRa u w) (c : zCo u w) (N : jNum w) (R : jRec w) (T : jTap w) (G : jGai w) (M : jIma w) : zJ w := by
  obtain ⟨K, R0, C, -⟩ := J
  exact ⟨zK_l K l N, R, jCou_l l a (jOt K R0) (cRw_same c K.S10 C), T, G, M⟩
theorem zPT_rec {a b : Nat} (h : zPT a b = true) : recm a b = true := by
  unfold zPT at h
  simp only [Bool.or_eq_true, Bool.and_eq_true, beq_iff_eq] at h
  rcases h with (((h | h) | h) | h) | h
  · exact recm_s h
  · obtain ⟨rfl, rfl⟩ := h; rfl
  · subst h; rfl
  · subst h; rfl
  · obtain ⟨rfl, rfl⟩ := h; rfl
theorem zJ_tape (J : zJ u) (h : zAg zPT (fun _ => false) u w) (T : jTap w) : zJ w := by
  have l : zLO u w := zAg.wk h (fun a b q => zPT_rec q) (fun _ q => by cases q)
  have fn : ∀ a, (∀ b, zPT a b = false) → w.1 a = u.1 a := fun a q => funext (fun b => h.1 a b (q b))
  have a : zRa u w := ⟨fn 119 (fun _ => rfl), fn 120 (fun _ => rfl), fn 121 (fun _ => rfl), fn 122 (fun _ => rfl), fn 123 (fun _ => rfl), fn 124 (fun _ => rfl), fn 125 (fun _ => rfl), h.1 107 35 rfl, h.1 107 36 rfl⟩
  have r : w.2 = u.2 := by funext x y; exact h.2 x y rfl
  refine zJ_rec J l a (fun x _ => by rw [r]) (jNum_c l a (h.1 59 6 rfl) (h.1 59 7 rfl) (h.1 107 37 rfl) J.K.1) (jRec_c l a ⟨fn 60 (fun _ => rfl), fn 61 (fun _ => rfl), fn 62 (fun _ => rfl), fn 63 (fun _ => rfl), fn 64 (fun _ => rfl), fn 126 (fun _ => rfl)⟩ ?_ J.R) T (jGai_c J.2.2.2.2.1 (fn 18 (fun _ => rfl)) (fn 131 (fun _ => rfl))) (jIma_c J.2.2.2.2.2 l ⟨⟨h.1 0 11 rfl, h.1 107 58 rfl⟩, ⟨h.1 66 6 rfl, h.1 66 7 rfl⟩, ⟨h.1 107 55 rfl, h.1 107 56 rfl, h.1 107 57 rfl⟩, ⟨fn 67 (fun _ => rfl), fn 68 (fun _ => rfl), fn 69 (fun _ => rfl), fn 70 (fun _ => rfl), fn 71 (fun _ => rfl), fn 72 (fun _ => rfl)⟩, fn 132 (fun _ => rfl), fn 133 (fun _ => rfl), fn 134 (fun _ => rfl)⟩)
  rw [fn 65 (fun _ => rfl), fn 129 (fun _ => rfl)]
  exact J.R.2.2.2
theorem t_feed (J : zJ w) (a b c d e : Int32) : ∃ (r : Int32) (w1 w2 : gW), f_X_feed a b c d e w = some (r, w1) ∧ f_M_feed a b c d e w1 = some (r, w2) ∧ zJ w2 := by
  obtain ⟨n, f, T⟩ := J.2.2.2.1
  obtain ⟨r, w1, w2, e1, e2, t, ag⟩ := s_feed a b c d e w T
  exact ⟨r, w1, w2, e1, e2, zJ_tape J ag t⟩
theorem t_end (J : zJ w) (a : Int32) : ∃ (r : Int32) (w1 w2 : gW), f_X_end a w = some (r, w1) ∧ f_M_end a w1 = some (r, w2) ∧ zJ w2 := by
  obtain ⟨n, f, T⟩ := J.2.2.2.1
  obtain ⟨r, w1, w2, e1, e2, t, ag⟩ := s_end a w T
  exact ⟨r, w1, w2, e1, e2, zJ_tape J ag t⟩
theorem t_count (J : zJ w) (a : Int32) : ∃ (r : Int32) (w1 w2 : gW), f_X_count a w = some (r, w1) ∧ f_M_count a w1 = some (r, w2) ∧ zJ w2 := by
  obtain ⟨n, f, T⟩ := J.2.2.2.1
  obtain ⟨r, e1, e2⟩ := s_count a w J.K.C ⟨T.2.1, T.2.2.1⟩
  exact ⟨r, w, _, e1, e2, zJ_E (zE.rf w).m0 J⟩
theorem t_sworn (J : zJ w) (a b : Int32) : ∃ (r : Int32) (w1 w2 : gW), f_X_sworn a b w = some (r, w1) ∧ f_M_sworn a b w1 = some (r, w2) ∧ zJ w2 := by
  have K := J.K
  obtain ⟨r, e1, e2⟩ := s_sworn a b w K.C.2.2.2.2.1.1 K.C.2.2.2.2.1.2 K.S10 (fun j hj => (J.R.1 j hj).1)
  exact ⟨r, w, _, e1, e2, zJ_E (zE.rf w).m0 J⟩
theorem t_deed (J : zJ w) (a b : Int32) : ∃ (out : Option Int32) (w1 : gW) (v : Int32) (w2 w3 : gW), f_X_deed a b w = some (out, w1) ∧ f_M_deed a b (ddO out w1) = some (v, w2) ∧ f_M_thrown w2 = some (ddR out, w3) ∧ (ddR out = 0 → w3.2 135 (ix (0 : Int32)) = v.toInt64) ∧ zJ w3 := by
  have K := J.K
  obtain ⟨out, v, e1, e2, e3⟩ := s_deed a b w K.C.2.1.1 K.C.2.1.2 K.D5 K.L.1
  refine ⟨out, w, v, _, zsI (ddO out w) 107 0 (ddR out), e1, e2, rfl, fun h => ?_, ?_⟩
  · cases out with
    | none => exact absurd h (by decide)
    | some r =>
      rw [← e3 r rfl]
      show (zsL w 135 (ix (0 : Int32)) r.toInt64).2 135 (ix (0 : Int32)) = _
      rw [rw_g, if_pos ⟨rfl, rfl⟩]
  · refine zJ_E (zE.sI ?_ _ rfl) J
    cases out with
    | none => exact zE.rf w
    | some r => exact (zE.rf w).sL _ rfl
theorem t_weigh (J : zJ w) (a b c : Int32) : ∃ (r : Int32) (w1 w2 : gW), f_X_weigh a b c w = some (r, w1) ∧ f_M_weigh a b c w1 = some (r, w2) ∧ zJ w2 := by
  have K := J.K
  have h6 := K.Y6
  by_cases q : 0 ≤ c.toInt ∧ c.toInt < (10 : Nat)
  · obtain ⟨ec, lc⟩ := z_nIx q
    obtain ⟨r, w1, w2, e1, e2, e3⟩ := s_weigh a b c w K.C.2.1.1 K.C.2.1.2 K.D5 K.C.2.2.1.1 K.C.2.2.1.2 (by omega)
    refine ⟨r, w1, w2, e1, e2, ?_⟩
    rcases e3 with e3 | ⟨k, hk, e3⟩
    · rw [e3]; exact zJ_E (zE.rf w).m0 J
    · have l : zLO w w2 := by
        rw [e3]
        exact (((zLO.rf w).sI _ rfl).sI _ rfl).sI _ rfl
      have a : zRa w w2 := by
        rw [e3]
        exact ⟨rfl, rfl, rfl, rfl, rfl, rfl, rfl, rfl, rfl⟩
      refine zJ_rec J l a ?_ (jNum_c l a ?_ ?_ ?_ K.1) (jRec_c l a ?_ ?_ J.R) (jTap_c J.2.2.2.1 ?_ ?_ ?_ ?_) (jGai_c J.2.2.2.2.1 ?_ ?_) (jIma_c J.2.2.2.2.2 l ?_)
      · rw [e3]; exact fun _ _ => rfl
      · rw [e3]; rfl
      · rw [e3]; rfl
      · rw [e3]; rfl
      · rw [e3]; exact ⟨rfl, rfl, rfl, rfl, rfl, rfl⟩
      · intro h0 j hj
        have o := J.R.2.2.2 h0 j hj
        have e65 : w2.1 65 j = if j = k then c else w.1 65 j := by rw [e3]; simp [zsI_g]
        have e129 : w2.1 129 j = if j = k then c else w.1 129 j := by rw [e3]; simp [zsI_g]
        rw [e65, e129]
        by_cases z : j = k
        · rw [if_pos z, if_pos z]
          exact ⟨rfl, ec, by omega⟩
        · rw [if_neg z, if_neg z]
          exact o
      · rw [e3]; rfl
      · rw [e3]; rfl
      · rw [e3]; rfl
      · rw [e3]; rfl
      · rw [e3]; rfl
      · rw [e3]; rfl
      · rw [e3]; exact ⟨⟨rfl, rfl⟩, ⟨rfl, rfl⟩, ⟨rfl, rfl, rfl⟩, ⟨rfl, rfl, rfl, rfl, rfl, rfl⟩, rfl, rfl, rfl⟩
  · have hE := (zE.rf w).m0
    refine ⟨0, w, zsI w 107 0 0, ?_, ?_, zJ_E hE J⟩
    · unfold f_X_weigh
      rw [La_hasDateB K (zE.rf w).k, zb_s]
      cases (gE w a && gT w b) with
      | false => rw [if_pos bf0]
      | true =>
        rw [if_neg bt0, z_rng (m := 10) rfl, if_pos (zbl_0 q)]
    · unfold f_M_weigh
      rw [zl_s, M_isDeedB K hE.k, zb_s]
      cases gE w a with
      | false => rw [if_pos bf0]
      | true =>
        rw [if_neg bt0, M_factDayB K hE.k, zb_s]
        cases gT w b with
        | false => rw [if_pos bf0]
        | true => rw [if_neg bt0, isIn_lit c 10 rfl, zb_s, decide_eq_false q, if_pos bf0]
theorem t_stake (J : zJ w) (a b : Int32) : ∃ (r : Int32) (w1 w2 : gW), f_X_stake a b w = some (r, w1) ∧ f_M_stake a b w1 = some (r, w2) ∧ zJ w2 := by
  have K := J.K
  have h8 := K.O8
  by_cases q : 0 ≤ b.toInt ∧ b.toInt < (100 : Nat)
  · obtain ⟨ec, lc⟩ := z_nIx q
    obtain ⟨r, w1, w2, e1, e2, e3⟩ := s_stake a b w K.C.2.2.2.1.1 K.C.2.2.2.1.2 h8
    refine ⟨r, w1, w2, e1, e2, ?_⟩
    rcases e3 with e3 | ⟨hk, e3⟩
    · rw [e3]; exact zJ_E (zE.rf w).m0 J
    · have l : zLO w w2 := by
        rw [e3]
        exact (((zLO.rf w).sI _ rfl).sI _ rfl).sI _ rfl
      have a2 : zRa w w2 := by
        rw [e3]
        exact ⟨rfl, rfl, rfl, rfl, rfl, rfl, rfl, rfl, rfl⟩
      refine zJ_rec J l a2 ?_ (jNum_c l a2 ?_ ?_ ?_ K.1) (jRec_c l a2 ?_ ?_ J.R) (jTap_c J.2.2.2.1 ?_ ?_ ?_ ?_) ?_ (jIma_c J.2.2.2.2.2 l ?_)
      · rw [e3]; exact fun _ _ => rfl
      · rw [e3]; rfl
      · rw [e3]; rfl
      · rw [e3]; rfl
      · rw [e3]; exact ⟨rfl, rfl, rfl, rfl, rfl, rfl⟩
      · rw [e3]; exact J.R.2.2.2
      · rw [e3]; rfl
      · rw [e3]; rfl
      · rw [e3]; rfl
      · rw [e3]; rfl
      · intro j hj
        have o := J.2.2.2.2.1 j hj
        have e18 : w2.1 18 j = if j = ix a then b else w.1 18 j := by rw [e3]; simp [zsI_g]
        have e131 : w2.1 131 j = if j = ix a then b else w.1 131 j := by rw [e3]; simp [zsI_g]
        rw [e18, e131]
        by_cases z : j = ix a
        · rw [if_pos z, if_pos z]
          exact ⟨rfl, ec, by omega⟩
        · rw [if_neg z, if_neg z]
          exact o
      · rw [e3]; exact ⟨⟨rfl, rfl⟩, ⟨rfl, rfl⟩, ⟨rfl, rfl, rfl⟩, ⟨rfl, rfl, rfl, rfl, rfl, rfl⟩, rfl, rfl, rfl⟩
  · have hE := (zE.rf w).m0
    refine ⟨0, w, zsI w 107 0 0, ?_, ?_, zJ_E hE J⟩
    · unfold f_X_stake
      rw [Oa_hasB K (zE.rf w).k, zb_s]
      cases gO w a with
      | false => rw [if_pos bf0]
      | true => rw [if_neg bt0, z_rng (m := 100) rfl, if_pos (zbl_0 q)]
    · unfold f_M_stake
      rw [zl_s, M_isOathB K hE.k, zb_s]
      cases gO w a with
      | false => rw [if_pos bf0]
      | true => rw [if_neg bt0, isIn_lit b 100 rfl, zb_s, decide_eq_false q, if_pos bf0]
end
