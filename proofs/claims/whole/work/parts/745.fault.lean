/-! PURE: fault; an oath's draft changes nothing -/
theorem pSw_no {S P O Y C : Nat → Int32} {ns no no' ny : Nat} (h : pSw S P O Y C ns no ny) (k : no ≤ no') : pSw S P O Y C ns no' ny := fun i hi => by
  obtain ⟨a, b, c, d, e⟩ := h i hi
  exact ⟨a, b, ⟨c.1, by omega⟩, d, e⟩
theorem cW_g {w : gW} {o p : Nat} {em : List Nat} {a b : Nat} (h1 : ¬ (a = 1 ∧ b = 2)) (h2 : ¬ (a = 16 ∧ b = o)) (h3 : ¬ (a = 17 ∧ b = o)) (h4 : a ≠ 7 + o) : (cW w o p em).1 a b = w.1 a b := by
  show (if a = 1 ∧ b = 2 then nI p else if a = 16 ∧ b = o then nI em.length else if a = 17 ∧ b = o then nI (nmO em) else if a = 7 + o ∧ b < em.length then nI (em.getD b 0) else w.1 a b) = _
  rw [if_neg h1, if_neg h2, if_neg h3, if_neg (fun z => h4 z.1)]
theorem lam_cod {a b : Nat} (h : lam a b = false) : recm a b = false ∧ ¬ (5 ≤ a ∧ a ≤ 17) ∧ a ≠ 109 ∧ a ≠ 110 := by
  unfold lam at h
  rw [Bool.or_eq_false_iff, Bool.or_eq_false_iff, Bool.or_eq_false_iff, Bool.or_eq_false_iff, decide_eq_false_iff_not, beq_eq_false_iff_ne, beq_eq_false_iff_ne] at h
  exact ⟨h.1, h.2.1, h.2.2.1, h.2.2.2.1⟩
section
variable {w v : gW}
theorem zJ_oa (J : zJ w) (l : zLa w v) (a : zRa w v) (c : zCo w v) (hO : yO w ≤ yO v) (hcs : ∀ o, o < yO w → ycs v o = ycs w o) (N : jNum v) (O : jOat v) (b : zRb w v) (hw : v.1 65 = w.1 65 ∧ v.1 129 = w.1 129) (T : jTap v) (G : jGai v) (I : zIm w v) : zJ v := by
  obtain ⟨K, R, C, -, -, M⟩ := J
  refine ⟨⟨N, jLnd_a l K.D5 K.2.1, O⟩, ?_, jCou_a l a (fun i hi => hcs _ (R.1 i hi).2.2.1.2) (cRw_same c K.S10 C), T, G, ?_⟩
  · obtain ⟨r1, r2, r3, r4⟩ := R
    unfold jRec
    rw [yD_a l, yY_a l, yS_l a, yF_l a, a.1, a.2.1, a.2.2.1, a.2.2.2.1, a.2.2.2.2.1, a.2.2.2.2.2.1, a.2.2.2.2.2.2.1, b.1, b.2.1, b.2.2.1, b.2.2.2.1, b.2.2.2.2.1, b.2.2.2.2.2, hw.1, hw.2]
    exact ⟨pSw_no r1 hO, r2, r3, r4⟩
  · obtain ⟨⟨a1, a2⟩, ⟨b1, b2⟩, ⟨c1, c2, c3⟩, ⟨d1, d2, d3, d4, d5, d6⟩, e1, e2, e3⟩ := I
    unfold jIma
    rw [yD_a l, yY_a l, a1, a2, b1, b2, c1, c2, c3, d1, d2, d3, d4, d5, d6, e1, e2, e3]
    rcases M with M | ⟨m1, m2, ns, nf, m3, m4, m5, m6, m7⟩
    · exact Or.inl M
    · exact Or.inr ⟨m1, m2, ns, nf, m3, m4, m5, pSw_no m6 hO, m7⟩
theorem cW_la (w : gW) {o : Nat} (ho : o ≤ 8) (p : Nat) (em : List Nat) : zLa w (cW w o p em) := by
  refine ⟨fun a b h => ?_, fun _ _ _ => rfl⟩
  obtain ⟨h1, h2, h3, h4⟩ := lam_cod h
  refine cW_g (fun z => ?_) (by omega) (by omega) (by omega)
  obtain ⟨rfl, rfl⟩ := z
  cases h1
theorem cW_fn (w : gW) {o a : Nat} (ho : o ≤ 8) (h : a = 0 ∨ a = 2 ∨ a = 5 ∨ a = 6 ∨ 18 ≤ a) (p : Nat) (em : List Nat) : (cW w o p em).1 a = w.1 a := funext (fun b => cW_g (by omega) (by omega) (by omega) (by omega))
theorem cW_ycs (w : gW) {o o' : Nat} (ho : o ≤ 8) (h : o' < o) (p : Nat) (em : List Nat) : ycs (cW w o p em) o' = ycs w o' := by
  unfold ycs
  rw [cW_g (by omega) (by omega) (by omega) (by omega)]
  congr 1
  funext i
  rw [cW_g (by omega) (by omega) (by omega) (by omega)]
theorem zJ_cW (J : zJ w) (p : Nat) (em : List Nat) : zJ (cW w (yO w) p em) := by
  have K := J.K
  have h8 := K.O8
  have l := cW_la w h8 p em
  have fn : ∀ a, 18 ≤ a → (cW w (yO w) p em).1 a = w.1 a := fun a h => cW_fn w h8 (by omega) p em
  have a : zRa w (cW w (yO w) p em) := ⟨fn 119 (by omega), fn 120 (by omega), fn 121 (by omega), fn 122 (by omega), fn 123 (by omega), fn 124 (by omega), fn 125 (by omega), congrFun (fn 107 (by omega)) 35, congrFun (fn 107 (by omega)) 36⟩
  have eO : yO (cW w (yO w) p em) = yO w := congrArg ix (congrFun (fn 107 (by omega)) 6)
  have hcs : ∀ o, o < yO w → ycs (cW w (yO w) p em) o = ycs w o := fun o ho => cW_ycs w h8 ho p em
  refine zJ_oa J l a (fun _ _ => rfl) (by omega) hcs ?_ ?_ ⟨fn 60 (by omega), fn 61 (by omega), fn 62 (by omega), fn 63 (by omega), fn 64 (by omega), fn 126 (by omega)⟩ ⟨fn 65 (by omega), fn 129 (by omega)⟩ (jTap_c J.2.2.2.1 ?_ (congrFun (fn 107 (by omega)) 5) (cW_fn w h8 (by omega) p em) (fn 108 (by omega))) (jGai_c J.2.2.2.2.1 (fn 18 (by omega)) (fn 131 (by omega))) ⟨⟨congrFun (cW_fn w h8 (by omega) p em) 11, congrFun (fn 107 (by omega)) 58⟩, ⟨congrFun (fn 66 (by omega)) 6, congrFun (fn 66 (by omega)) 7⟩, ⟨congrFun (fn 107 (by omega)) 55, congrFun (fn 107 (by omega)) 56, congrFun (fn 107 (by omega)) 57⟩, ⟨fn 67 (by omega), fn 68 (by omega), fn 69 (by omega), fn 70 (by omega), fn 71 (by omega), fn 72 (by omega)⟩, fn 132 (by omega), fn 133 (by omega), fn 134 (by omega)⟩
  · have N := K.1
    unfold jNum jC at N ⊢
    rw [yD_a l, yY_a l, eO, yS_l a, yF_l a, fn 19 (by omega), fn 107 (by omega), fn 59 (by omega), cW_fn w h8 (a := 5) (by omega) p em]
    exact N
  · intro o ho
    rw [eO] at ho
    obtain ⟨n, f, ⟨n1, n2, n3⟩, p1, p2, c1, c2, c3⟩ := K.2.2 o ho
    refine ⟨n, f, ⟨n1, ?_, fun j hj => ⟨(n3 j hj).1, (n3 j hj).2.1, ?_⟩⟩, p1, ?_, ?_, fun i hi => ?_, ?_⟩
    · rw [fn 110 (by omega)]; exact n2
    · rw [fn 109 (by omega)]; exact (n3 j hj).2.2
    · rw [hcs o ho]; exact p2
    · rw [hcs o ho, cW_g (by omega) (by omega) (by omega) (by omega)]; exact c1
    · rw [hcs o ho] at hi ⊢
      rw [cW_g (by omega) (by omega) (by omega) (by omega)]; exact c2 i hi
    · rw [hcs o ho, cW_g (by omega) (by omega) (by omega) (by omega)]; exact c3
  · exact cW_g (by omega) (by omega) (by omega) (by omega)
theorem TX_of {n : Nat} {f : Nat → Nat} (hn : n ≤ 120) (h : ∀ j, j < n → 0 < f j ∧ f j < 256 ∧ w.1 108 j = (nI (f j)).toInt8.toInt32) : TX 108 0 n f (mO w 108 0 n) := by
  have gl : g_len 3 108 = 120 := by decide +kernel
  refine ⟨⟨by decide, hn, by rw [gl]; omega, by rw [gl]; decide⟩, ⟨?_, ?_, rfl⟩, fun j hj => ⟨(h j hj).1, (h j hj).2.1, ?_⟩⟩
  · unfold mO
    rw [z7 _ _ _ _ (by decide), z7 _ _ _ _ (by decide), zsI_g, if_pos ⟨rfl, rfl⟩]
    exact z_ix (by decide)
  · unfold mO
    rw [z7 _ _ _ _ (by decide), zsI_g, if_pos ⟨rfl, rfl⟩]
  · unfold mO
    rw [z_o _ _ _ _ _ _ (by decide), z_o _ _ _ _ _ _ (by decide), z_o _ _ _ _ _ _ (by decide), Nat.zero_add]
    exact (h j hj).2.2
theorem jT_tpe {n : Nat} {f : Nat → Nat} (T : jT n f w) : tpe n f w := ⟨T.1, T.2.1, fun j hj => ⟨(T.2.2.2 j hj).1, (T.2.2.2 j hj).2.1, (T.2.2.2 j hj).2.2.1⟩⟩
theorem jT_TX {n : Nat} {f : Nat → Nat} (T : jT n f w) : TX 108 0 n f (mO w 108 0 n) := TX_of T.1 (fun j hj => ⟨(T.2.2.2 j hj).1, (T.2.2.2 j hj).2.1, (T.2.2.2 j hj).2.2.2⟩)
theorem jT_E {n : Nat} {f : Nat → Nat} (T : jT n f w) (h : zE w v) : jT n f v := ⟨T.1, (h.1 1 1 rfl).trans T.2.1, (h.1 107 5 rfl).trans T.2.2.1, fun j hj => by
  rw [h.1 2 j rfl, h.1 108 j rfl]
  exact T.2.2.2 j hj⟩
/-- the fault of an oath in the model -/
theorem M_readOath' {n : Nat} {f : Nat → Nat} (hn : w.1 107 5 = nI n) (ht : TX 108 0 n f (mO w 108 0 n)) : ∃ v : gW, f_M_readOath w = some ((), v) ∧ zMr w v ∧ v.1 107 10 = (if (pAll f n).1 = true then -1 else nI (pAll f n).2.1) := by
  unfold f_M_readOath
  rw [hn]
  obtain ⟨g1, g2⟩ := M_goThrough ht (by decide)
  by_cases q : (pAll f n).1 = true
  · obtain ⟨b, e1, -⟩ := g1 q
    rw [show f_M_goThrough 108 (0 : Int32) (nI n) w = _ from e1, zb_s, if_pos q]
    exact ⟨_, rfl, zMr_of (zMd.rf _), rfl⟩
  · have q' : (pAll f n).1 = false := by
      cases e : (pAll f n).1 with
      | false => rfl
      | true => exact absurd e q
    obtain ⟨b, d, e1⟩ := g2 q'
    rw [show f_M_goThrough 108 (0 : Int32) (nI n) w = _ from e1, zb_s, if_neg q]
    exact ⟨_, rfl, zMr_of (zMd.rf _), rfl⟩
theorem X_readOath {n : Nat} {f : Nat → Nat} (K : zK w) (T : jT n f w) : ∃ (p : Nat) (em : List Nat), f_Oa_read w = some ((if (pAll f n).1 = true then -1 else nI (pAll f n).2.1), cW w (yO w) p em) ∧ ((pAll f n).1 = true → em = (pAll f n).2.2) := by
  obtain ⟨g1, g2⟩ := Oa_read (jT_tpe T) K.C.2.2.2.1.1 K.O8
  by_cases q : (pAll f n).1 = true
  · rw [g1 q, if_pos q]
    exact ⟨n, _, rfl, fun _ => rfl⟩
  · have q' : (pAll f n).1 = false := by
      cases e : (pAll f n).1 with
      | false => rfl
      | true => exact absurd e q
    obtain ⟨p2, em2, e1⟩ := g2 q'
    rw [e1, if_neg q]
    exact ⟨p2, em2, rfl, fun z => absurd z q⟩
theorem M_fault0 {n : Nat} {f : Nat → Nat} (T : jT n f w) : ∃ v : gW, f_M_fault (0 : Int32) w = some ((if (pLd f n).1 = true then -1 else nI (pLd f n).2.1), v) ∧ zE w v ∧ ((pLd f n).1 = true → v.1 107 24 = nI (pLd f n).2.2.1 ∧ v.1 107 23 = nI (pLd f n).2.2.2.1 ∧ dftM v (pLd f n).2.2.2.1 (pLd f n).2.2.2.2) := by
  have T2 : jT n f (zsI w 107 0 0) := jT_E T (zE.rf w).m0
  obtain ⟨v, e1, e2, e3, e4⟩ := rd_land T2.2.2.1 (jT_TX T2)
  unfold f_M_fault f_M_fault_b33
  rw [zl_s, isIn_lit (0 : Int32) 2 rfl, zb_s, decide_eq_true (show 0 ≤ (0 : Int32).toInt ∧ (0 : Int32).toInt < ((2 : Nat) : Int) from ⟨by decide, by decide⟩), if_neg bt0, if_pos z00, e1, zb_s, e3]
  exact ⟨v, rfl, zMr.e (zE.rf w).m0 e2, e4⟩
theorem M_fault1 {n : Nat} {f : Nat → Nat} (T : jT n f w) : ∃ v : gW, f_M_fault (1 : Int32) w = some ((if (pAll f n).1 = true then -1 else nI (pAll f n).2.1), v) ∧ zE w v := by
  have T2 : jT n f (zsI w 107 0 0) := jT_E T (zE.rf w).m0
  obtain ⟨v, e1, e2, e3⟩ := M_readOath' T2.2.2.1 (jT_TX T2)
  unfold f_M_fault f_M_fault_b33
  rw [zl_s, isIn_lit (1 : Int32) 2 rfl, zb_s, decide_eq_true (show 0 ≤ (1 : Int32).toInt ∧ (1 : Int32).toInt < ((2 : Nat) : Int) from ⟨by decide, by decide⟩), if_neg bt0, if_neg z10, e1, zb_s, e3]
  exact ⟨v, rfl, zMr.e (zE.rf w).m0 e2⟩
theorem jT_cW {n : Nat} {f : Nat → Nat} (T : jT n f w) {o : Nat} (ho : o ≤ 8) (p : Nat) (em : List Nat) : jT n f (cW w o p em) := by
  refine ⟨T.1, ?_, ?_, fun j hj => ?_⟩
  · rw [cW_g (by omega) (by omega) (by omega) (by omega)]; exact T.2.1
  · rw [cW_g (by omega) (by omega) (by omega) (by omega)]; exact T.2.2.1
  · rw [cW_fn w ho (a := 2) (by omega) p em, cW_fn w ho (a := 108) (by omega) p em]
    exact T.2.2.2 j hj
theorem t_fault (J : zJ w) (a : Int32) : ∃ (r : Int32) (w1 w2 : gW), f_X_fault a w = some (r, w1) ∧ f_M_fault a w1 = some (r, w2) ∧ zJ w2 := by
  have K := J.K
  obtain ⟨n, f, T⟩ := J.2.2.2.1
  by_cases q0 : a = 0
  · subst q0
    obtain ⟨v', e1, e2, -⟩ := Rd_read' (jT_tpe T)
    have hE : zE w v' := e2.e (zE.rf w)
    obtain ⟨v2, m1, m2, -⟩ := M_fault0 (jT_E T hE)
    refine ⟨_, v', v2, ?_, m1, zJ_E m2 (zJ_E hE J)⟩
    unfold f_X_fault
    rw [if_pos z00, e1, zb_s]
  · by_cases q1 : a = 1
    · subst q1
      obtain ⟨p, em, e1, -⟩ := X_readOath K T
      obtain ⟨v2, m1, m2⟩ := M_fault1 (jT_cW T K.O8 p em)
      refine ⟨_, cW w (yO w) p em, v2, ?_, m1, zJ_E m2 (zJ_cW J p em)⟩
      unfold f_X_fault
      rw [if_neg z10, if_pos (show (1 : Int32) = 1 from rfl), e1, zb_s]
    · refine ⟨-2, w, zsI w 107 0 0, ?_, ?_, zJ_E (zE.rf w).m0 J⟩
      · unfold f_X_fault
        rw [if_neg q0, if_neg q1]
      · have ng : ¬ (0 ≤ a.toInt ∧ a.toInt < ((2 : Nat) : Int)) := fun z => by
          obtain ⟨e, l⟩ := z_nIx z
          have : ix a = 0 ∨ ix a = 1 := by omega
          rcases this with h | h
          · rw [h] at e; exact q0 e
          · rw [h] at e; exact q1 e
        unfold f_M_fault
        rw [zl_s, isIn_lit a 2 rfl, zb_s, decide_eq_false ng, if_pos bf0]
end
