/-! PURE: the class reads an oath as pAll says -/
/-- what a reader of the class does at each place: as u says -/
def CR (w : gW) (o n : Nat) (f : Nat → Nat) (k : gW → Option (Int32 × gW)) (u : Nat → pR) : Prop := ∀ (p : Nat) (em : List Nat), p ≤ n → em.length ≤ p → ((u p).1 = true → k (cW w o p em) = some (1, cW w o (u p).2.1 (em ++ (u p).2.2))) ∧ ((u p).1 = false → ∃ (p2 : Nat) (em2 : List Nat), p2 ≤ n ∧ em2.length + p ≤ p2 + em.length ∧ sk f n p2 = (u p).2.1 ∧ k (cW w o p em) = some (0, cW w o p2 em2))
theorem z10 : ¬ (1 : Int32) = 0 := by decide
theorem z00 : (0 : Int32) = 0 := rfl
theorem zm1 : (-1 : Int32) = -1 := rfl
theorem z1a : (1 : Int32) &&& 1 = 1 := by decide
theorem z0a : (0 : Int32) &&& 1 = 0 := by decide
theorem CR_rest {w : gW} {o n d : Nat} {f : Nat → Nat} (ht : tpe n f w) (h : w.1 5 4 = nI o) (ho : o ≤ 8) (hd : d < 5) (p : Nat) (em : List Nat) (hp : p ≤ n) (hl : em.length < p) : ((pRe f n d p).1 = true → f_Oa_readRest (nI d) (cW w o p em) = some (1, cW w o (pRe f n d p).2.1 (em ++ (pRe f n d p).2.2))) ∧ ((pRe f n d p).1 = false → ∃ (p2 : Nat) (em2 : List Nat), p2 ≤ n ∧ em2.length + p ≤ p2 + em.length ∧ sk f n p2 = (pRe f n d p).2.1 ∧ f_Oa_readRest (nI d) (cW w o p em) = some (0, cW w o p2 em2)) := by
  have h120 := ht.1
  have hs := ht.sgl p
  have g1 := sk_ge f n p
  have g2 := sk_le (f := f) hp
  have hT : ∀ q e, tpe n f (cW w o q e) := fun q e => cW_tp ht ho
  have e1 := Tp_sign (hT p em) (cW_p w o p em) hp
  rw [cW_pl] at e1
  have hpl : ∀ x k a b, k < 8 → k ≠ 3 → a < 16 → b < 16 → x ≤ n → f_Oa_put (nI k) (nI a) (nI b) (cW w o x em) = some (1, cW w o x (em ++ [k * 256 + a * 16 + b])) := fun x k a b hk hk3 ha hb hx => cW_Put h ho (by omega) hk hk3 ha hb
  unfold f_Oa_readRest pRe
  rw [e1]
  simp only [zb_s]
  have e17 : sg f n p = 60 ∨ sg f n p = 61 → f_Oa_readRest_b17 (nI d) (nI (sg f n p)) (cW w o (sk f n p) em) = if (pLt f n (sk f n p + 1)).1 = true then some (1, cW w o (pLt f n (sk f n p + 1)).2.1 (em ++ [(if sg f n p = 60 then 256 else 512) + d * 16 + (pLt f n (sk f n p + 1)).2.2])) else some (0, cW w o (sk f n (sk f n p + 1)) em) := by
    intro hc
    have hlt := sg_lt (f := f) (n := n) (p := p) (by omega)
    unfold f_Oa_readRest_b17
    rw [Tp_step (hT _ _) (cW_p _ _ _ _) hlt.1]
    simp only [zb_s]
    rw [cW_pl, Tp_letter (hT _ _) (cW_p _ _ _ _) hlt.1]
    simp only [zb_s]
    rw [cW_pl]
    by_cases c : (pLt f n (sk f n p + 1)).1 = true
    · obtain ⟨l1, l2, l3, l4, -⟩ := pLt_ok c
      rw [if_pos c, if_pos c, l4]
      have hy : f (sk f n (sk f n p + 1)) - 97 < 5 := by omega
      show (if nI (f (sk f n (sk f n p + 1)) - 97) = (-1 : Int32) then some ((0 : Int32), cW w o (sk f n (sk f n p + 1) + 1) em) else if nI (sg f n p) = (60 : Int32) then f_Oa_readRest_b45 (nI d) (nI (f (sk f n (sk f n p + 1)) - 97)) (1 : Int32) (cW w o (sk f n (sk f n p + 1) + 1) em) else f_Oa_readRest_b45 (nI d) (nI (f (sk f n (sk f n p + 1)) - 97)) (2 : Int32) (cW w o (sk f n (sk f n p + 1) + 1) em)) = some (1, cW w o (sk f n (sk f n p + 1) + 1) (em ++ [(if sg f n p = 60 then 256 else 512) + d * 16 + (f (sk f n (sk f n p + 1)) - 97)]))
      generalize f (sk f n (sk f n p + 1)) - 97 = y at hy
      have hm1 : ¬ nI y = (-1 : Int32) := by rw [n_m1 (by omega)]; exact id
      rw [if_neg hm1]
      unfold f_Oa_readRest_b45
      rcases hc with q | q
      · rw [q, if_pos (show nI 60 = (60 : Int32) from rfl), if_pos (show 60 = 60 from rfl), show f_Oa_put (1 : Int32) (nI d) (nI y) (cW w o (sk f n (sk f n p + 1) + 1) em) = _ from hpl _ 1 d y (by decide) (by decide) (by omega) (by omega) (by omega)]
        simp only [zb_s]
        rw [if_neg z10]
      · rw [q, if_neg (show ¬ nI 61 = (60 : Int32) by decide), if_neg (show ¬ 61 = 60 by decide), show f_Oa_put (2 : Int32) (nI d) (nI y) (cW w o (sk f n (sk f n p + 1) + 1) em) = _ from hpl _ 2 d y (by decide) (by decide) (by omega) (by omega) (by omega)]
        simp only [zb_s]
        rw [if_neg z10]
    · rw [if_neg c, if_neg c, if_pos zm1, pLt_no c]
  have g4 : sg f n p = 60 ∨ sg f n p = 61 → sk f n (sk f n p + 1) ≤ n := fun hc => sk_le (by have := sg_lt (f := f) (n := n) (p := p) (by omega); omega)
  by_cases c1 : sg f n p = 60 ∨ sg f n p = 61
  · rw [if_pos c1]
    have hres : (if nI (sg f n p) = (60 : Int32) then f_Oa_readRest_b17 (nI d) (nI (sg f n p)) (cW w o (sk f n p) em) else if nI (sg f n p) = (61 : Int32) then f_Oa_readRest_b17 (nI d) (nI (sg f n p)) (cW w o (sk f n p) em) else if nI (sg f n p) < (48 : Int32) then f_Oa_readRest_b72 (nI d) (cW w o (sk f n p) em) else if nI (sg f n p) ≤ (57 : Int32) then zb (f_Tp_digit (0 : Int32) (5 : Int32) (cW w o (sk f n p) em)) (fun v7 w8 => if v7 = (-1 : Int32) then some ((0 : Int32), w8) else zb (f_Oa_put (0 : Int32) (nI d) v7 w8) (fun v10 w11 => if v10 = 0 then some ((0 : Int32), w11) else some ((1 : Int32), w11))) else f_Oa_readRest_b72 (nI d) (cW w o (sk f n p) em)) = f_Oa_readRest_b17 (nI d) (nI (sg f n p)) (cW w o (sk f n p) em) := by
      rcases c1 with q | q
      · rw [if_pos (by rw [q]; rfl)]
      · rw [if_neg (by rw [q]; decide), if_pos (by rw [q]; rfl)]
    rw [hres, e17 c1]
    by_cases c2 : (pLt f n (sk f n p + 1)).1 = true
    · rw [if_pos c2, if_pos c2]
      exact ⟨fun _ => rfl, fun h => (by cases h)⟩
    · rw [if_neg c2, if_neg c2]
      have g3 := sk_ge f n (sk f n p + 1)
      exact ⟨fun h => (by cases h), fun _ => ⟨_, em, g4 c1, by omega, by rw [sk_sk, pLt_no c2], rfl⟩⟩
  · have q60 : ¬ nI (sg f n p) = (60 : Int32) := by rw [show (60 : Int32) = nI 60 from rfl, n_eq (by omega) (by omega)]; omega
    have q61 : ¬ nI (sg f n p) = (61 : Int32) := by rw [show (61 : Int32) = nI 61 from rfl, n_eq (by omega) (by omega)]; omega
    rw [if_neg c1, if_neg q60, if_neg q61]
    have e72 : f_Oa_readRest_b72 (nI d) (cW w o (sk f n p) em) = some (1, cW w o (sk f n p) (em ++ [d * 16 + 5])) := by
      unfold f_Oa_readRest_b72
      rw [show (0 : Int32) = nI 0 from rfl, show (5 : Int32) = nI 5 from rfl, hpl _ 0 d 5 (by decide) (by decide) (by omega) (by decide) g2]
      simp only [zb_s]
      rw [if_pos (by decide), show 0 * 256 + d * 16 + 5 = d * 16 + 5 by omega]
    rw [e72]
    by_cases c2 : 48 ≤ sg f n p ∧ sg f n p ≤ 57
    · have q48 : ¬ nI (sg f n p) < (48 : Int32) := by rw [show (48 : Int32) = nI 48 from rfl, n_lt (by omega) (by omega)]; omega
      have q57 : nI (sg f n p) ≤ (57 : Int32) := by rw [show (57 : Int32) = nI 57 from rfl, n_le (by omega) (by omega)]; omega
      rw [if_pos c2, if_neg q48, if_pos q57, show f_Tp_digit (0 : Int32) (5 : Int32) (cW w o (sk f n p) em) = _ from Tp_digit (lo := 0) (hi := 5) (hT _ _) (cW_p _ _ _ _) g2 (by decide) (by decide)]
      simp only [zb_s]
      have epd : pD f n 0 5 (sk f n p) = pD f n 0 5 p := by unfold pD; rw [sg_sk, sk_sk]
      rw [cW_pl, epd]
      by_cases c3 : (pD f n 0 5 p).1 = true
      · obtain ⟨l1, l2, l3, l4, -⟩ := pD_ok hp c3
        have hy : (pD f n 0 5 p).2.2 < 6 := by rw [l4]; show f (sk f n p) - 48 < 6; omega
        have hz : (pD f n 0 5 p).2.1 ≤ n := by rw [l4]; exact l1
        have hm1 : ¬ nI (pD f n 0 5 p).2.2 = (-1 : Int32) := by rw [n_m1 (by omega)]; exact id
        rw [if_pos c3, if_pos c3, if_neg hm1, show f_Oa_put (0 : Int32) (nI d) (nI (pD f n 0 5 p).2.2) (cW w o (pD f n 0 5 p).2.1 em) = _ from hpl _ 0 d _ (by decide) (by decide) (by omega) (by omega) hz]
        simp only [zb_s]
        rw [if_neg z10, show 0 * 256 + d * 16 + (pD f n 0 5 p).2.2 = d * 16 + (pD f n 0 5 p).2.2 by omega]
        exact ⟨fun _ => rfl, fun h => (by cases h)⟩
      · rw [if_neg c3, if_neg c3, if_pos zm1, pD_no c3]
        exact ⟨fun h => (by cases h), fun _ => ⟨_, em, g2, by omega, sk_sk _ _ _, rfl⟩⟩
    · rw [if_neg c2]
      have hres : ∀ X : Option (Int32 × gW), (if nI (sg f n p) < (48 : Int32) then some ((1 : Int32), cW w o (sk f n p) (em ++ [d * 16 + 5])) else if nI (sg f n p) ≤ (57 : Int32) then X else some ((1 : Int32), cW w o (sk f n p) (em ++ [d * 16 + 5]))) = some ((1 : Int32), cW w o (sk f n p) (em ++ [d * 16 + 5])) := by
        intro X
        by_cases q : nI (sg f n p) < (48 : Int32)
        · rw [if_pos q]
        · rw [if_neg q, if_neg (by rw [show (57 : Int32) = nI 57 from rfl, n_le (by omega) (by omega)]; rw [show (48 : Int32) = nI 48 from rfl, n_lt (by omega) (by omega)] at q; omega)]
      rw [hres]
      exact ⟨fun _ => rfl, fun h => (by cases h)⟩
/-- a chain of the class: both loops have one form -/
theorem CR_loop {w : gW} {o n sep op kd : Nat} {f : Nat → Nat} {d : Int32} {r : gW → Option (Int32 × gW)} {u : Nat → pR} {S : (Int32 → Int32 → Int32 → gW → Option (Int32 × gW)) → Int32 → Int32 → Int32 → gW → Option (Int32 × gW)} {bot : Int32 → Int32 → Int32 → gW → Option (Int32 × gW)}
    (hS : ∀ k x3 x4 w, S k d x3 x4 w = if x3 = 0 then (if x3 &&& 1 = x3 then some (x3, w) else none) else if (120 : Int32) ≤ x4 then (if x3 &&& 1 = x3 then some (x3, w) else none) else zb (f_Tp_passes (nI sep) w) (fun v3 w4 => if v3 = 0 then (if x3 &&& 1 = x3 then some (x3, w4) else none) else zb (r w4) (fun v6 w7 => zb (f_Oa_put (nI kd) (0 : Int32) (0 : Int32) w7) (fun v8 w9 => zl (x4 + (1 : Int32)) (fun v10 => k d v6 v10 w9)))))
    (ht : tpe n f w) (h : w.1 5 4 = nI o) (ho : o ≤ 8) (hs : 0 < sep ∧ sep < 256) (hkd : kd < 8 ∧ kd ≠ 3) (hop : op = kd * 256) (m : Nat) (hu : ∀ p, p ≤ n → pG f n m p (u p)) (hr : CR w o n f r u) :
    ∀ (fu j : Nat), j < fu → (∀ v x4, zfx bot S fu d 0 x4 v = some (0, v)) ∧ ∀ (p : Nat) (em0 em : List Nat) (x : Nat), x + j = 120 → p ≤ n → (em0 ++ em).length ≤ p →
      ((pLp f n sep op u j p em).1 = true → zfx bot S fu d 1 (nI x) (cW w o p (em0 ++ em)) = some (1, cW w o (pLp f n sep op u j p em).2.1 (em0 ++ (pLp f n sep op u j p em).2.2))) ∧ ((pLp f n sep op u j p em).1 = false → ∃ (p2 : Nat) (em2 : List Nat), p2 ≤ n ∧ em2.length + p ≤ p2 + (em0 ++ em).length ∧ sk f n p2 = (pLp f n sep op u j p em).2.1 ∧ zfx bot S fu d 1 (nI x) (cW w o p (em0 ++ em)) = some (0, cW w o p2 em2))
  | 0, j, hj => absurd hj (Nat.not_lt_zero j)
  | fu + 1, j, hj => by
    have h120 := ht.1
    refine ⟨fun v x4 => by rw [zfx_s, hS, if_pos rfl, if_pos (by decide)], fun p em0 em x hx hp hl => ?_⟩
    rw [zfx_s, hS, if_neg (by decide)]
    have hT : ∀ q e, tpe n f (cW w o q e) := fun q e => cW_tp ht ho
    cases j with
    | zero =>
      rw [if_pos (by rw [show (120 : Int32) = nI 120 from rfl, n_le (by omega) (by omega)]; omega), if_pos (by decide)]
      exact ⟨fun _ => rfl, fun h => (by cases h)⟩
    | succ j =>
      rw [if_neg (by rw [show (120 : Int32) = nI 120 from rfl, n_le (by omega) (by omega)]; omega), Tp_passes (hT _ _) (cW_p _ _ _ _) hp hs.1 hs.2, cW_pl, cW_pl]
      unfold pLp
      by_cases c : sg f n p = sep
      · have hlt := sg_lt (f := f) (n := n) (p := p) (by omega)
        have g1 := sk_ge f n p
        rw [if_pos c, if_pos c]
        simp only [zb_s]
        rw [if_neg z10]
        have ih := CR_loop (bot := bot) hS ht h ho hs hkd hop m hu hr fu j (by omega)
        have hG := hu (sk f n p + 1) (by omega)
        have hR := hr (sk f n p + 1) (em0 ++ em) (by omega) (by omega)
        by_cases c2 : (u (sk f n p + 1)).1 = true
        · rw [if_pos c2, hR.1 c2]
          simp only [zb_s]
          obtain ⟨a1, a2, a3, a4, a5⟩ := hG.1 c2
          have hl2 : ((em0 ++ em) ++ (u (sk f n p + 1)).2.2).length < (u (sk f n p + 1)).2.1 := by rw [List.length_append]; omega
          rw [show f_Oa_put (nI kd) (0 : Int32) (0 : Int32) (cW w o (u (sk f n p + 1)).2.1 ((em0 ++ em) ++ (u (sk f n p + 1)).2.2)) = _ from cW_Put (a := 0) (b := 0) h ho (by omega) hkd.1 hkd.2 (by decide) (by decide)]
          simp only [zb_s, zl_s]
          rw [n_1, show kd * 256 + 0 * 16 + 0 = op by omega, show em0 ++ em ++ (u (sk f n p + 1)).2.2 ++ [op] = em0 ++ (em ++ (u (sk f n p + 1)).2.2 ++ [op]) by simp only [List.append_assoc]]
          have hle : (em0 ++ (em ++ (u (sk f n p + 1)).2.2 ++ [op])).length = (em0 ++ em).length + (u (sk f n p + 1)).2.2.length + 1 := by
            simp only [List.length_append, List.length_singleton]
            omega
          have X := ih.2 (u (sk f n p + 1)).2.1 em0 (em ++ (u (sk f n p + 1)).2.2 ++ [op]) (x + 1) (by omega) a2 (by omega)
          refine ⟨X.1, fun hf => ?_⟩
          obtain ⟨p2, em2, b1, b2, b3, b4⟩ := X.2 hf
          exact ⟨p2, em2, b1, by omega, b3, b4⟩
        · rw [if_neg c2]
          obtain ⟨p2, em2, b1, b2, b3, b4⟩ := hR.2 (by simpa using c2)
          rw [b4]
          simp only [zb_s]
          rw [show f_Oa_put (nI kd) (0 : Int32) (0 : Int32) (cW w o p2 em2) = _ from cW_Put (a := 0) (b := 0) h ho (by omega) hkd.1 hkd.2 (by decide) (by decide)]
          simp only [zb_s, zl_s]
          refine ⟨fun h => (by cases h), fun _ => ⟨p2, _, b1, ?_, b3, ih.1 _ _⟩⟩
          rw [List.length_append (as := em2)]
          simp only [List.length_singleton]
          omega
      · rw [if_neg c, if_neg c]
        simp only [zb_s]
        rw [if_pos trivial, if_pos z1a]
        exact ⟨fun _ => rfl, fun h => (by cases h)⟩
/-- one level of the class's reader -/
theorem CR_choice {w : gW} {o n b : Nat} {f : Nat → Nat} {rK : Int32 → gW → Option (Int32 × gW)} {d : Int32} {u : Nat → pR} (ht : tpe n f w) (h : w.1 5 4 = nI o) (ho : o ≤ 8) (hu : ∀ p, p ≤ n → pG f n b p (u p)) (hr : CR w o n f (rK d) u) : CR w o n f (f_Oa_readChoice_rec rK d) (pCh f n u) := by
  intro p em hp hl
  have hR := hr p em hp hl
  have hG := hu p hp
  unfold f_Oa_readChoice_rec pCh
  have hloop := CR_loop (S := f_Oa_readChoice_b10_s rK) (bot := fun _ _ _ _ => none) (d := d) (r := rK d) (sep := 38) (op := 1280) (kd := 5) (u := u) (fun k x3 x4 w => by unfold f_Oa_readChoice_b10_s f_Oa_readChoice_b51; rfl) ht h ho ⟨by decide, by decide⟩ ⟨by decide, by decide⟩ rfl b hu hr zFU 120 (zfu (by decide))
  by_cases c : (u p).1 = true
  · rw [if_pos c, hR.1 c]
    simp only [zb_s]
    obtain ⟨a1, a2, a3, a4, a5⟩ := hG.1 c
    have := hloop.2 (u p).2.1 em (u p).2.2 0 rfl a2 (by rw [List.length_append]; omega)
    refine ⟨this.1, fun hf => ?_⟩
    obtain ⟨p2, em2, b1, b2, b3, b4⟩ := this.2 hf
    rw [List.length_append] at b2
    exact ⟨p2, em2, b1, by omega, b3, b4⟩
  · rw [if_neg c]
    obtain ⟨p2, em2, b1, b2, b3, b4⟩ := hR.2 (by simpa using c)
    rw [b4]
    simp only [zb_s]
    exact ⟨fun h => (by cases h), fun _ => ⟨p2, em2, b1, b2, b3, hloop.1 _ _⟩⟩
theorem CR_choices {w : gW} {o n b : Nat} {f : Nat → Nat} {rK : Int32 → gW → Option (Int32 × gW)} {d : Int32} {u : Nat → pR} (ht : tpe n f w) (h : w.1 5 4 = nI o) (ho : o ≤ 8) (hu : ∀ p, p ≤ n → pG f n b p (u p)) (hr : CR w o n f (rK d) u) : CR w o n f (f_Oa_readChoices_rec rK d) (pOa f n u) := by
  have hr2 := CR_choice ht h ho hu hr
  have hu2 := pCh_G hu
  intro p em hp hl
  have hR := hr2 p em hp hl
  have hG := hu2 p hp
  unfold f_Oa_readChoices_rec pOa
  have hloop := CR_loop (S := f_Oa_readChoices_b10_s rK) (bot := fun _ _ _ _ => none) (d := d) (r := f_Oa_readChoice_rec rK d) (sep := 124) (op := 1536) (kd := 6) (u := pCh f n u) (fun k x3 x4 w => by unfold f_Oa_readChoices_b10_s f_Oa_readChoices_b52; rfl) ht h ho ⟨by decide, by decide⟩ ⟨by decide, by decide⟩ rfl (b + 1) hu2 hr2 zFU 120 (zfu (by decide))
  by_cases c : (pCh f n u p).1 = true
  · rw [if_pos c, hR.1 c]
    simp only [zb_s]
    obtain ⟨a1, a2, a3, a4, a5⟩ := hG.1 c
    have := hloop.2 (pCh f n u p).2.1 em (pCh f n u p).2.2 0 rfl a2 (by rw [List.length_append]; omega)
    refine ⟨this.1, fun hf => ?_⟩
    obtain ⟨p2, em2, b1, b2, b3, b4⟩ := this.2 hf
    rw [List.length_append] at b2
    exact ⟨p2, em2, b1, by omega, b3, b4⟩
  · rw [if_neg c]
    obtain ⟨p2, em2, b1, b2, b3, b4⟩ := hR.2 (by simpa using c)
    rw [b4]
    simp only [zb_s]
    exact ⟨fun h => (by cases h), fun _ => ⟨p2, em2, b1, b2, b3, hloop.1 _ _⟩⟩
/-- a unit, with levels left (d below 6) or without (d = 6) -/
theorem CR_unit {w : gW} {o n m d : Nat} {f : Nat → Nat} {rK : Int32 → gW → Option (Int32 × gW)} {has : Bool} {u : Nat → pR} (ht : tpe n f w) (h : w.1 5 4 = nI o) (ho : o ≤ 8) (hd : d ≤ 6) (hh : has = true ↔ d < 6) (hu : has = true → ∀ p, p ≤ n → pG f n m p (u p)) (hr : has = true → CR w o n f (rK (nI (d + 1))) u) : CR w o n f (f_Oa_readUnit_rec rK (nI d)) (pUs f n has u) := by
  intro p em hp hl
  have h120 := ht.1
  have hs := ht.sgl p
  have g1 := sk_ge f n p
  have g2 := sk_le (f := f) hp
  have hT : ∀ q e, tpe n f (cW w o q e) := fun q e => cW_tp ht ho
  have e1 := Tp_sign (hT p em) (cW_p w o p em) hp
  rw [cW_pl] at e1
  unfold f_Oa_readUnit_rec
  rw [e1]
  simp only [zb_s]
  have hno : ∀ X : Prop, has = true → ¬ has = true → X := fun X a b => absurd a b
  have e17 : ∀ x3, f_Oa_readUnit_b17 rK (nI d) x3 (cW w o (sk f n p) em) = if d < 6 then zb (f_Tp_step (cW w o (sk f n p) em)) (fun _ w2 => if x3 = (40 : Int32) then zb (f_Oa_readChoices_rec rK (nI (d + 1)) w2) (fun v9 w10 => if v9 = 0 then some ((0 : Int32), w10) else zb (f_Tp_passes (41 : Int32) w10) (fun v12 w13 => if v12 = 0 then some ((0 : Int32), w13) else some ((1 : Int32), w13))) else zb (rK (nI (d + 1)) w2) (fun v4 w5 => zb (f_Oa_put (4 : Int32) (0 : Int32) (0 : Int32) w5) (fun v6 w7 => if v4 &&& 1 = v4 then some (v4, w7) else none))) else some ((0 : Int32), cW w o (sk f n p) em) := by
    intro x3
    unfold f_Oa_readUnit_b17
    rw [n_1]
    by_cases q : d < 6
    · rw [if_pos (by rw [show (6 : Int32) = nI 6 from rfl, n_lt (by omega) (by omega)]; exact q), if_pos q]
    · rw [if_neg (by rw [show (6 : Int32) = nI 6 from rfl, n_lt (by omega) (by omega)]; exact q), if_neg q]
  have enL : ∀ c, c < 256 → (nI (sg f n p) = nI c ↔ sg f n p = c) := fun c hc => n_eq (by omega) (by omega)
  unfold pUs
  by_cases c1 : sg f n p = 33
  · have hlt := sg_lt (f := f) (n := n) (p := p) (by omega)
    rw [if_pos c1, if_pos (show nI (sg f n p) = (33 : Int32) by rw [c1]; rfl), e17]
    by_cases ch : has = true
    · rw [if_pos ch, if_pos (hh.mp ch), Tp_step (hT _ _) (cW_p _ _ _ _) hlt.1, cW_pl]
      simp only [zb_s]
      rw [if_neg (show ¬ nI (sg f n p) = (40 : Int32) by rw [c1]; decide)]
      have hR := hr ch (sk f n p + 1) em hlt.1 (by omega)
      by_cases c2 : (u (sk f n p + 1)).1 = true
      · rw [if_pos c2, hR.1 c2]
        simp only [zb_s]
        obtain ⟨a1, a2, a3, a4, a5⟩ := (hu ch (sk f n p + 1) hlt.1).1 c2
        rw [show f_Oa_put (4 : Int32) (0 : Int32) (0 : Int32) (cW w o (u (sk f n p + 1)).2.1 (em ++ (u (sk f n p + 1)).2.2)) = _ from cW_Put (k := 4) (a := 0) (b := 0) h ho (by rw [List.length_append]; omega) (by decide) (by decide) (by decide) (by decide)]
        simp only [zb_s]
        rw [if_pos z1a, List.append_assoc]
        exact ⟨fun _ => rfl, fun h => (by cases h)⟩
      · rw [if_neg c2]
        obtain ⟨p2, em2, b1, b2, b3, b4⟩ := hR.2 (by simpa using c2)
        rw [b4]
        simp only [zb_s]
        rw [show f_Oa_put (4 : Int32) (0 : Int32) (0 : Int32) (cW w o p2 em2) = _ from cW_Put (k := 4) (a := 0) (b := 0) h ho (by omega) (by decide) (by decide) (by decide) (by decide)]
        simp only [zb_s]
        rw [if_pos z0a]
        refine ⟨fun h => (by cases h), fun _ => ⟨p2, _, b1, ?_, b3, rfl⟩⟩
        rw [List.length_append]
        simp only [List.length_singleton]
        omega
    · rw [if_neg ch, if_neg (fun q => ch (hh.mpr q))]
      exact ⟨fun h => (by cases h), fun _ => ⟨_, em, g2, by omega, sk_sk _ _ _, rfl⟩⟩
  rw [if_neg c1, if_neg (show ¬ nI (sg f n p) = (33 : Int32) from fun z => c1 ((enL 33 (by decide)).mp z))]
  by_cases c2 : sg f n p = 40
  · have hlt := sg_lt (f := f) (n := n) (p := p) (by omega)
    rw [if_pos c2, if_pos (show nI (sg f n p) = (40 : Int32) by rw [c2]; rfl), e17]
    by_cases ch : has = true
    · rw [if_pos ch, if_pos (hh.mp ch), Tp_step (hT _ _) (cW_p _ _ _ _) hlt.1, cW_pl]
      simp only [zb_s]
      rw [if_pos (show nI (sg f n p) = (40 : Int32) by rw [c2]; rfl)]
      have hR := CR_choices ht h ho (hu ch) (hr ch) (sk f n p + 1) em hlt.1 (by omega)
      have hG := pOa_G (hu ch) (sk f n p + 1) hlt.1
      by_cases c3 : (pOa f n u (sk f n p + 1)).1 = true
      · rw [if_pos c3, hR.1 c3]
        simp only [zb_s]
        obtain ⟨a1, a2, a3, a4, a5⟩ := hG.1 c3
        rw [if_neg z10, show (41 : Int32) = nI 41 from rfl, Tp_passes (hT _ _) (cW_p _ _ _ _) a2 (by decide) (by decide), cW_pl, cW_pl]
        have g3 := sk_ge f n (pOa f n u (sk f n p + 1)).2.1
        by_cases c4 : sg f n (pOa f n u (sk f n p + 1)).2.1 = 41
        · rw [if_pos c4, if_pos c4]
          simp only [zb_s]
          rw [if_neg z10]
          exact ⟨fun _ => rfl, fun h => (by cases h)⟩
        · rw [if_neg c4, if_neg c4]
          simp only [zb_s]
          rw [if_pos trivial]
          exact ⟨fun h => (by cases h), fun _ => ⟨_, _, sk_le a2, by rw [List.length_append]; omega, sk_sk _ _ _, rfl⟩⟩
      · rw [if_neg c3]
        obtain ⟨p2, em2, b1, b2, b3, b4⟩ := hR.2 (by simpa using c3)
        rw [b4]
        simp only [zb_s]
        rw [if_pos trivial]
        exact ⟨fun h => (by cases h), fun _ => ⟨p2, em2, b1, by omega, b3, rfl⟩⟩
    · rw [if_neg ch, if_neg (fun q => ch (hh.mpr q))]
      exact ⟨fun h => (by cases h), fun _ => ⟨_, em, g2, by omega, sk_sk _ _ _, rfl⟩⟩
  rw [if_neg c2, if_neg (show ¬ nI (sg f n p) = (40 : Int32) from fun z => c2 ((enL 40 (by decide)).mp z))]
  by_cases c3 : sg f n p = 35
  · have hlt := sg_lt (f := f) (n := n) (p := p) (by omega)
    rw [if_pos c3, if_pos (show nI (sg f n p) = (35 : Int32) by rw [c3]; rfl), Tp_step (hT _ _) (cW_p _ _ _ _) hlt.1, cW_pl]
    simp only [zb_s]
    rw [show f_Tp_digit (0 : Int32) (9 : Int32) (cW w o (sk f n p + 1) em) = _ from Tp_digit (lo := 0) (hi := 9) (hT _ _) (cW_p _ _ _ _) hlt.1 (by decide) (by decide), cW_pl]
    simp only [zb_s]
    by_cases c4 : (pD f n 0 9 (sk f n p + 1)).1 = true
    · obtain ⟨l1, l2, l3, l4, -⟩ := pD_ok (p := sk f n p + 1) hlt.1 c4
      have g3 := sk_ge f n (sk f n p + 1)
      rw [if_pos c4, if_pos c4, l4]
      rw [if_neg (show ¬ nI (f (sk f n (sk f n p + 1)) - 48) = (-1 : Int32) by rw [n_m1 (by omega)]; exact id)]
      rw [cW_There h ho (by omega) (by show f (sk f n (sk f n p + 1)) - 48 < 10; omega)]
      simp only [zb_s]
      rw [if_neg z10]
      exact ⟨fun _ => rfl, fun h => (by cases h)⟩
    · have g3 := sk_ge f n (sk f n p + 1)
      rw [if_neg c4, if_neg c4, pD_no c4, if_pos zm1]
      exact ⟨fun h => (by cases h), fun _ => ⟨_, em, sk_le (p := sk f n p + 1) hlt.1, by omega, sk_sk _ _ _, rfl⟩⟩
  rw [if_neg c3, if_neg (show ¬ nI (sg f n p) = (35 : Int32) from fun z => c3 ((enL 35 (by decide)).mp z))]
  rw [Tp_letter (hT _ _) (cW_p _ _ _ _) g2, cW_pl]
  simp only [zb_s]
  have epl : pLt f n (sk f n p) = pLt f n p := by unfold pLt; rw [sg_sk, sk_sk]
  rw [epl]
  by_cases c4 : (pLt f n p).1 = true
  · obtain ⟨l1, l2, l3, l4, -⟩ := pLt_ok c4
    rw [if_pos c4, if_pos c4, l4]
    rw [if_neg (show ¬ nI (f (sk f n p) - 97) = (-1 : Int32) by rw [n_m1 (by omega)]; exact id)]
    have hR := CR_rest (d := f (sk f n p) - 97) ht h ho (by omega) (sk f n p + 1) em l1 (by omega)
    by_cases c5 : (pRe f n (f (sk f n p) - 97) (sk f n p + 1)).1 = true
    · refine ⟨fun _ => ?_, fun hf => ?_⟩
      · show zb (f_Oa_readRest (nI (f (sk f n p) - 97)) (cW w o (sk f n p + 1) em)) _ = _
        rw [hR.1 c5]
        simp only [zb_s]
        rw [if_neg z10]
      · rw [show (pRe f n (f (sk f n p) - 97) (sk f n p + 1)).1 = false from hf] at c5
        cases c5
    · refine ⟨fun hf => absurd hf c5, fun hf => ?_⟩
      obtain ⟨p2, em2, b1, b2, b3, b4⟩ := hR.2 (by simpa using c5)
      refine ⟨p2, em2, b1, by omega, b3, ?_⟩
      show zb (f_Oa_readRest (nI (f (sk f n p) - 97)) (cW w o (sk f n p + 1) em)) _ = _
      rw [b4]
      simp only [zb_s]
      rw [if_pos trivial]
  · rw [if_neg c4, if_neg c4, pLt_no c4, if_pos zm1]
    exact ⟨fun h => (by cases h), fun _ => ⟨_, em, g2, by omega, sk_sk _ _ _, rfl⟩⟩
theorem CR_U {w : gW} {o n : Nat} {f : Nat → Nat} (ht : tpe n f w) (h : w.1 5 4 = nI o) (ho : o ≤ 8) : ∀ (b fu : Nat), b ≤ 6 → b < fu → CR w o n f (fun v => zfx (fun _ _ => none) f_Oa_readUnit_rec fu (nI (6 - b)) v) (pU f n b)
  | b, 0, _, hf => absurd hf (Nat.not_lt_zero b)
  | 0, fu + 1, _, _ => CR_unit (rK := zfx (fun _ _ => none) f_Oa_readUnit_rec fu) (d := 6) (m := 0) (has := false) (u := fun p => (false, p, [])) ht h ho (by omega) ⟨fun h => (by cases h), fun h => absurd h (by decide)⟩ (fun h => by cases h) (fun h => by cases h)
  | b + 1, fu + 1, hb, hf => by
    have ih := CR_U ht h ho b fu (by omega) (by omega)
    have e : 6 - (b + 1) + 1 = 6 - b := by omega
    exact CR_unit (rK := zfx (fun _ _ => none) f_Oa_readUnit_rec fu) (d := 6 - (b + 1)) (m := 2 * b + 1) (has := true) (u := pU f n b) ht h ho (by omega) ⟨fun _ => by omega, fun _ => rfl⟩ (fun _ => pU_G f n b) (fun _ => by rw [e]; exact ih)
/-- the whole: the fault or -1; the codes stand in row o -/
theorem Oa_read {w : gW} {o n : Nat} {f : Nat → Nat} (ht : tpe n f w) (h : w.1 5 4 = nI o) (ho : o ≤ 8) : ((pAll f n).1 = true → f_Oa_read w = some (-1, cW w o n (pAll f n).2.2)) ∧ ((pAll f n).1 = false → ∃ (p2 : Nat) (em2 : List Nat), f_Oa_read w = some (nI (pAll f n).2.1, cW w o p2 em2)) := by
  have h120 := ht.1
  have hT : ∀ q e, tpe n f (cW w o q e) := fun q e => cW_tp ht ho
  unfold f_Oa_read f_Tp_rewind
  simp only [zl_s, zb_s]
  have hd0 : f_Oa_draft (zsI w 1 2 (0 : Int32)) = some (nI o, zsI w 1 2 (0 : Int32)) := Oa_draft h ho
  rw [hd0]
  simp only [zb_s]
  have hin : inb (nI o) 9 := z_inbn (by omega) (by decide)
  rw [if_pos hin, z_ix (by omega)]
  have hd1 : f_Oa_draft (zsI (zsI w 1 2 (0 : Int32)) 16 o (0 : Int32)) = some (nI o, zsI (zsI w 1 2 (0 : Int32)) 16 o (0 : Int32)) := Oa_draft (by rw [z_o _ _ _ _ _ _ (by decide)]; exact h) ho
  rw [hd1]
  simp only [zb_s]
  rw [if_pos hin, z_ix (by omega)]
  have e0 : zsI (zsI (zsI w 1 2 (0 : Int32)) 16 o (0 : Int32)) 17 o (0 : Int32) = cW w o 0 [] := by
    unfold zsI cW
    congr 1
    funext a b
    show (if a = 17 ∧ b = o then (0 : Int32) else if a = 16 ∧ b = o then (0 : Int32) else if a = 1 ∧ b = 2 then (0 : Int32) else w.1 a b) = (if a = 1 ∧ b = 2 then nI 0 else if a = 16 ∧ b = o then nI 0 else if a = 17 ∧ b = o then nI 0 else if a = 7 + o ∧ b < 0 then nI 0 else w.1 a b)
    by_cases h1 : a = 1 ∧ b = 2
    · rw [if_neg (by omega), if_neg (by omega), if_pos h1, if_pos h1]; rfl
    · by_cases h2 : a = 16 ∧ b = o
      · rw [if_neg (by omega), if_pos h2, if_neg h1, if_pos h2]; rfl
      · by_cases h3 : a = 17 ∧ b = o
        · rw [if_pos h3, if_neg h1, if_neg h2, if_pos h3]; rfl
        · rw [if_neg h3, if_neg h2, if_neg h1, if_neg h1, if_neg h2, if_neg h3, if_neg (fun q => Nat.not_lt_zero _ q.2)]
  rw [e0]
  have hR := CR_choices (rK := f_Oa_readUnit) (d := nI 0) (b := 13) (u := pU f n 6) ht h ho (fun p hp => pU_G f n 6 p hp) (CR_U ht h ho 6 16 (by decide) (by decide)) 0 [] (Nat.zero_le _) (Nat.le_refl _)
  have hG := pOa_G (m := 13) (fun p hp => pU_G f n 6 p hp) 0 (Nat.zero_le n)
  unfold pAll
  show ((if (pOa f n (pU f n 6) 0).1 = true then _ else _ : pR).1 = true → zb (f_Oa_readChoices_rec f_Oa_readUnit (nI 0) (cW w o 0 [])) _ = _) ∧ (_ → ∃ p2 em2, zb (f_Oa_readChoices_rec f_Oa_readUnit (nI 0) (cW w o 0 [])) _ = _)
  by_cases c : (pOa f n (pU f n 6) 0).1 = true
  · obtain ⟨a1, a2, a3, a4, a5⟩ := hG.1 c
    rw [if_pos c, hR.1 c]
    simp only [zb_s]
    rw [if_neg z10, Tp_atEnd (hT _ _) (cW_p _ _ _ _) a2, cW_pl]
    simp only [zb_s]
    by_cases c2 : sg f n (pOa f n (pU f n 6) 0).2.1 = 0
    · rw [if_pos c2, if_neg (by rw [bI_0, decide_eq_true c2]; decide), (sg_z ht.pos a2).mp c2]
      exact ⟨fun _ => rfl, fun h => (by cases h)⟩
    · rw [if_neg c2, if_pos (by rw [bI_0, decide_eq_false c2])]
      refine ⟨fun h => (by cases h), fun _ => ⟨sk f n (pOa f n (pU f n 6) 0).2.1, (pOa f n (pU f n 6) 0).2.2, ?_⟩⟩
      unfold f_Oa_read_b40
      rw [Tp_spot (hT _ _) (cW_p _ _ _ _) (sk_le a2), sk_sk, cW_pl]
      rfl
  · rw [if_neg c]
    obtain ⟨p2, em2, b1, b2, b3, b4⟩ := hR.2 (by simpa using c)
    rw [b4]
    simp only [zb_s]
    rw [if_pos trivial]
    refine ⟨fun h => (by cases h), fun _ => ⟨(pOa f n (pU f n 6) 0).2.1, em2, ?_⟩⟩
    unfold f_Oa_read_b40
    rw [Tp_spot (hT _ _) (cW_p _ _ _ _) b1, b3, cW_pl]
    rfl
