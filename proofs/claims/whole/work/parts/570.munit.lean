/-! PURE: the model's unit; the whole of a text -/
theorem eV_k {k a b : Nat} (hk : k < 4) (ha : a < 16) (hb : b < 16) (E : Nat → Nat → Nat → Bool) : eVl E [k * 256 + a * 16 + b] = E k a b := by
  rw [eV_1 (by omega), show (k * 256 + a * 16 + b) / 256 = k by omega, show (k * 256 + a * 16 + b) / 16 % 16 = a by omega, show (k * 256 + a * 16 + b) % 16 = b by omega]
/-- what stands behind a letter -/
def mRe (rK : gW → Option (Int32 × gW)) (v6 : Int32) (w7 : gW) : Option (Int32 × gW) :=
  zb (f_M_look w7) (fun v9 w10 =>
    zb (f_M_isDigit w10) (fun v11 w12 =>
      if v11 = 0 then
        (if v9 = (60 : Int32) then (f_M_unit_b220 rK v9 v6 w12)
        else (if v9 = (61 : Int32) then (f_M_unit_b220 rK v9 v6 w12)
          else (zb (f_M_isSeen v6 w12) (fun v16 w17 => if v16 &&& 1 = v16 then some (v16, w17) else none))))
      else
        (zb (f_M_digit (0 : Int32) (5 : Int32) w12) (fun v19 w20 =>
          if v19 = (-1 : Int32) then (some ((0 : Int32), w20))
          else
            (zb (f_M_isSeen v6 w20) (fun v22 w23 =>
              if v22 = 0 then (some ((0 : Int32), w23))
              else
                (if inb v6 5 then
                  if v19 < (w23.1 111 (ix v6)) then (some ((0 : Int32), w23))
                  else (some ((1 : Int32), w23))
                else none)))))))
theorem MR_rest {w : gW} {n t b0 x : Nat} {f : Nat → Nat} {rK : gW → Option (Int32 × gW)} {d : Int32} (h : TX t b0 n f w) (hx : x < 5) : MR w n f d (mRe rK (nI x)) (pRe f n x) := by
  intro p hp
  have h120 := h.1.2.1
  have hs := h.sgl p
  have g1 := sk_ge f n p
  have g2 := sk_le (f := f) hp
  unfold mRe
  rw [M_look h hp]
  simp only [zb_s]
  rw [M_isDigit h hp]
  simp only [zb_s]
  have hlk : ∀ c, 0 < c → c < 256 → ((lkv f n p = nI c) ↔ sg f n p = c) := fun c hc hc2 => lkv_c h hc hc2
  unfold pRe
  by_cases c1 : sg f n p = 60 ∨ sg f n p = 61
  · have hlt := sg_lt (f := f) (n := n) (p := p) (by omega)
    rw [if_pos c1, if_pos (show bI (decide (48 ≤ sg f n p ∧ sg f n p ≤ 57)) = 0 by rw [bI_0, decide_eq_false (by omega)])]
    have e220 : f_M_unit_b220 rK (lkv f n p) (nI x) (mW w (sk f n p) (-1) d) = if (pLt f n (sk f n p + 1)).1 = true then some (bI (mE w (if sg f n p = 60 then 1 else 2) x (pLt f n (sk f n p + 1)).2.2), mW w (pLt f n (sk f n p + 1)).2.1 (-1) d) else some (0, mW w (sk f n (sk f n p + 1)) (nI (sk f n (sk f n p + 1))) d) := by
      unfold f_M_unit_b220
      simp only [zl_s]
      rw [mW_9, n_1, mW_s9, M_letter h hlt.1]
      by_cases c : (pLt f n (sk f n p + 1)).1 = true
      · obtain ⟨l1, l2, l3, l4, -⟩ := pLt_ok c
        rw [if_pos c, if_pos c, l4]
        simp only [zb_s]
        have hy : f (sk f n (sk f n p + 1)) - 97 < 5 := by omega
        generalize f (sk f n (sk f n p + 1)) - 97 = y at hy
        rw [if_neg (show ¬ nI y = (-1 : Int32) by rw [n_m1 (by omega)]; exact id), M_seen hx]
        simp only [zb_s]
        have e1 : ∀ k, (k = 1 ∨ k = 2) → snM w x = false → mE w k x y = false := by
          intro k hk hf
          rcases hk with z | z <;> subst z
          · show (snM w x && _) = false; rw [hf]; rfl
          · show (snM w x && _) = false; rw [hf]; rfl
        have hk12 : (if sg f n p = 60 then 1 else 2) = 1 ∨ (if sg f n p = 60 then 1 else 2) = 2 := by split <;> simp
        cases hsx : snM w x with
        | false => rw [if_pos (by decide), e1 _ hk12 hsx]; rfl
        | true =>
          rw [if_neg (by decide), M_seen hy]
          simp only [zb_s]
          have e2 : ∀ k, (k = 1 ∨ k = 2) → snM w y = false → mE w k x y = false := by
            intro k hk hf
            rcases hk with z | z <;> subst z
            · show (snM w x && (snM w y && _)) = false; rw [hf, hsx]; rfl
            · show (snM w x && (snM w y && _)) = false; rw [hf, hsx]; rfl
          cases hsy : snM w y with
          | false => rw [if_pos (by decide), e2 _ hk12 hsy]; rfl
          | true =>
            rw [if_neg (by decide)]
            rw [z_ix (show x < 2 ^ 31 by omega), z_ix (show y < 2 ^ 31 by omega), mW_o (by omega), mW_o (by omega), if_pos (z_inbn hx (by decide)), if_pos (z_inbn hy (by decide)), if_pos (z_inbn hx (by decide)), if_pos (z_inbn hy (by decide))]
            unfold f_M_unit_b295
            by_cases q : sg f n p = 60
            · rw [if_pos (show lkv f n p = (60 : Int32) from (hlk 60 (by decide) (by decide)).mpr q), if_pos q]
              by_cases q2 : w.1 111 y ≤ w.1 111 x
              · rw [if_pos q2]
                show _ = some (bI (snM w x && (snM w y && !decide (w.1 111 y ≤ w.1 111 x))), _)
                rw [hsx, hsy, decide_eq_true q2]; rfl
              · rw [if_neg q2]
                show _ = some (bI (snM w x && (snM w y && !decide (w.1 111 y ≤ w.1 111 x))), _)
                rw [hsx, hsy, decide_eq_false q2]; rfl
            · rw [if_neg (show ¬ lkv f n p = (60 : Int32) from fun z => q ((hlk 60 (by decide) (by decide)).mp z)), if_neg q]
              by_cases q2 : w.1 111 x = w.1 111 y
              · rw [if_pos q2]
                show _ = some (bI (snM w x && (snM w y && decide (w.1 111 x = w.1 111 y))), _)
                rw [hsx, hsy, decide_eq_true q2]; rfl
              · rw [if_neg q2]
                show _ = some (bI (snM w x && (snM w y && decide (w.1 111 x = w.1 111 y))), _)
                rw [hsx, hsy, decide_eq_false q2]; rfl
      · rw [if_neg c, if_neg c]
        simp only [zb_s]
        rw [if_pos trivial]
    have hsel : (if lkv f n p = (60 : Int32) then f_M_unit_b220 rK (lkv f n p) (nI x) (mW w (sk f n p) (-1) d) else if lkv f n p = (61 : Int32) then f_M_unit_b220 rK (lkv f n p) (nI x) (mW w (sk f n p) (-1) d) else zb (f_M_isSeen (nI x) (mW w (sk f n p) (-1) d)) (fun v16 w17 => if v16 &&& 1 = v16 then some (v16, w17) else none)) = f_M_unit_b220 rK (lkv f n p) (nI x) (mW w (sk f n p) (-1) d) := by
      rcases c1 with q | q
      · rw [if_pos (show lkv f n p = (60 : Int32) from (hlk 60 (by decide) (by decide)).mpr q)]
      · rw [if_neg (show ¬ lkv f n p = (60 : Int32) from fun z => by have := (hlk 60 (by decide) (by decide)).mp z; omega), if_pos (show lkv f n p = (61 : Int32) from (hlk 61 (by decide) (by decide)).mpr q)]
    rw [hsel, e220]
    by_cases c2 : (pLt f n (sk f n p + 1)).1 = true
    · obtain ⟨l1, l2, l3, l4, -⟩ := pLt_ok c2
      rw [if_pos c2, if_pos c2]
      refine ⟨fun _ => ⟨_, rfl, fun _ => ?_⟩, fun h => (by cases h)⟩
      rw [l4]
      show _ = eVl (mE w) [(if sg f n p = 60 then 256 else 512) + x * 16 + (f (sk f n (sk f n p + 1)) - 97)]
      by_cases q : sg f n p = 60
      · rw [if_pos q, if_pos q]
        exact (eV_k (k := 1) (a := x) (b := f (sk f n (sk f n p + 1)) - 97) (by decide) (by omega) (by omega) (mE w)).symm
      · rw [if_neg q, if_neg q]
        exact (eV_k (k := 2) (a := x) (b := f (sk f n (sk f n p + 1)) - 97) (by decide) (by omega) (by omega) (mE w)).symm
    · rw [if_neg c2, if_neg c2, pLt_no c2]
      exact ⟨fun h => (by cases h), fun _ => ⟨false, d, rfl⟩⟩
  rw [if_neg c1]
  by_cases c2 : 48 ≤ sg f n p ∧ sg f n p ≤ 57
  · rw [if_pos c2, if_neg (show ¬ bI (decide (48 ≤ sg f n p ∧ sg f n p ≤ 57)) = 0 by rw [bI_0, decide_eq_true c2]; decide), show f_M_digit (0 : Int32) (5 : Int32) (mW w (sk f n p) (-1) d) = _ from M_digit (lo := 0) (hi := 5) h g2 d (by decide) (by decide)]
    have epd : pD f n 0 5 (sk f n p) = pD f n 0 5 p := by unfold pD; rw [sg_sk, sk_sk]
    rw [epd, sk_sk]
    by_cases c3 : (pD f n 0 5 p).1 = true
    · obtain ⟨l1, l2, l3, l4, -⟩ := pD_ok hp c3
      rw [if_pos c3, if_pos c3, l4]
      simp only [zb_s]
      refine ⟨fun _ => ?_, fun h => (by cases h)⟩
      have hy : f (sk f n p) - 48 < 6 := by omega
      show ∃ v, _ ∧ (_ → v = eVl (mE w) [x * 16 + (f (sk f n p) - 48)])
      generalize f (sk f n p) - 48 = y at hy
      have ev := eV_k (k := 0) (a := x) (b := y) (by decide) (by omega) (by omega) (mE w)
      rw [show 0 * 256 + x * 16 + y = x * 16 + y by omega] at ev
      rw [if_neg (show ¬ nI y = (-1 : Int32) by rw [n_m1 (by omega)]; exact id), M_seen hx, ev]
      simp only [zb_s]
      cases hsx : snM w x with
      | false =>
        rw [if_pos (by decide)]
        exact ⟨false, rfl, fun _ => by show _ = (snM w x && _); rw [hsx]; rfl⟩
      | true =>
        rw [if_neg (by decide), if_pos (z_inbn hx (by decide)), z_ix (by omega), mW_o (by omega)]
        by_cases q : nI y < w.1 111 x
        · rw [if_pos q]
          exact ⟨false, rfl, fun _ => by show _ = (snM w x && !decide (nI y < w.1 111 x)); rw [decide_eq_true q, hsx]; rfl⟩
        · rw [if_neg q]
          exact ⟨true, rfl, fun _ => by show _ = (snM w x && !decide (nI y < w.1 111 x)); rw [decide_eq_false q, hsx]; rfl⟩
    · rw [if_neg c3, if_neg c3, pD_no c3]
      simp only [zb_s]
      rw [if_pos trivial]
      exact ⟨fun h => (by cases h), fun _ => ⟨false, d, rfl⟩⟩
  · rw [if_neg c2, if_pos (show bI (decide (48 ≤ sg f n p ∧ sg f n p ≤ 57)) = 0 by rw [bI_0, decide_eq_false c2]), if_neg (show ¬ lkv f n p = (60 : Int32) from fun z => c1 (Or.inl ((hlk 60 (by decide) (by decide)).mp z))), if_neg (show ¬ lkv f n p = (61 : Int32) from fun z => c1 (Or.inr ((hlk 61 (by decide) (by decide)).mp z))), M_seen hx]
    simp only [zb_s]
    rw [if_pos (bI_a _)]
    refine ⟨fun _ => ⟨_, rfl, fun hB => ?_⟩, fun h => (by cases h)⟩
    have ev := eV_k (k := 0) (a := x) (b := 5) (by decide) (by omega) (by decide) (mE w)
    rw [show 0 * 256 + x * 16 + 5 = x * 16 + 5 by omega] at ev
    show snM w x = eVl (mE w) [x * 16 + 5]
    rw [ev]
    show snM w x = (snM w x && !decide (nI 5 < w.1 111 x))
    cases hsx : snM w x with
    | false => rfl
    | true => rw [decide_eq_false (hB x hx hsx)]; rfl
theorem MR_unit {w : gW} {n m d t b0 : Nat} {f : Nat → Nat} {rK : gW → Option (Int32 × gW)} {has : Bool} {u : Nat → pR} (h : TX t b0 n f w) (hd : d ≤ 6) (hh : has = true ↔ d < 6) (hu : has = true → ∀ p, p ≤ n → pG f n m p (u p)) (hr : has = true → MR w n f (nI (d + 1)) rK u) : MR w n f (nI d) (f_M_unit_rec rK) (pUs f n has u) := by
  intro p hp
  have h120 := h.1.2.1
  have hs := h.sgl p
  have g1 := sk_ge f n p
  have g2 := sk_le (f := f) hp
  have hlk : ∀ c, 0 < c → c < 256 → ((lkv f n p = nI c) ↔ sg f n p = c) := fun c hc hc2 => lkv_c h hc hc2
  have hm1 : nI (d + 1) - (1 : Int32) = nI d := by rw [show (1 : Int32) = nI 1 from rfl, n_sub (by omega)]; rfl
  unfold f_M_unit_rec
  rw [M_look h hp]
  simp only [zb_s]
  unfold pUs
  by_cases c1 : sg f n p = 33
  · have hlt := sg_lt (f := f) (n := n) (p := p) (by omega)
    rw [if_pos c1, if_pos (show lkv f n p = (33 : Int32) from (hlk 33 (by decide) (by decide)).mpr c1), M_goesIn hd]
    by_cases ch : has = true
    · rw [if_pos ch, if_pos (hh.mp ch)]
      simp only [zb_s]
      rw [if_neg z10]
      have hR := hr ch (sk f n p + 1) hlt.1
      have hG := hu ch (sk f n p + 1) hlt.1
      by_cases c2 : (u (sk f n p + 1)).1 = true
      · rw [if_pos c2]
        obtain ⟨v, e1, k1⟩ := hR.1 c2
        obtain ⟨a1, a2, a3, a4, a5⟩ := hG.1 c2
        rw [e1]
        simp only [zb_s, zl_s]
        rw [mW_11, hm1, mW_s11]
        refine ⟨fun _ => ⟨!v, ?_, fun hB => by rw [k1 hB, eV_not a4]⟩, fun h => (by cases h)⟩
        cases v
        · rw [if_pos (by decide)]; rfl
        · rw [if_neg (by decide)]; rfl
      · rw [if_neg c2]
        obtain ⟨v, d', e1⟩ := hR.2 (by simpa using c2)
        rw [e1]
        simp only [zb_s, zl_s]
        rw [mW_s11, mW_11]
        refine ⟨fun h => (by cases h), fun _ => ⟨!v, d' - 1, ?_⟩⟩
        cases v
        · rw [if_pos (by decide)]; rfl
        · rw [if_neg (by decide)]; rfl
    · rw [if_neg ch, if_neg (fun q => ch (hh.mpr q))]
      simp only [zb_s]
      rw [if_pos trivial]
      exact ⟨fun h => (by cases h), fun _ => ⟨false, nI d, rfl⟩⟩
  rw [if_neg c1, if_neg (show ¬ lkv f n p = (33 : Int32) from fun z => c1 ((hlk 33 (by decide) (by decide)).mp z))]
  by_cases c2 : sg f n p = 40
  · have hlt := sg_lt (f := f) (n := n) (p := p) (by omega)
    rw [if_pos c2, if_pos (show lkv f n p = (40 : Int32) from (hlk 40 (by decide) (by decide)).mpr c2), M_goesIn hd]
    by_cases ch : has = true
    · rw [if_pos ch, if_pos (hh.mp ch)]
      simp only [zb_s]
      rw [if_neg z10]
      have hR := MR_oath h (hu ch) (hr ch) (sk f n p + 1) hlt.1
      have hG := pOa_G (hu ch) (sk f n p + 1) hlt.1
      by_cases c3 : (pOa f n u (sk f n p + 1)).1 = true
      · rw [if_pos c3]
        obtain ⟨v, e1, k1⟩ := hR.1 c3
        obtain ⟨a1, a2, a3, a4, a5⟩ := hG.1 c3
        rw [e1]
        simp only [zb_s]
        rw [mW_10, if_pos rfl, show (41 : Int32) = nI 41 from rfl, M_takes h a2 _ (by decide) (by decide)]
        by_cases c4 : sg f n (pOa f n u (sk f n p + 1)).2.1 = 41
        · rw [if_pos c4, if_pos c4]
          simp only [zb_s, zl_s]
          rw [if_neg (by decide), mW_11, hm1, mW_s11, if_pos (bI_a _)]
          exact ⟨fun _ => ⟨v, rfl, k1⟩, fun h => (by cases h)⟩
        · rw [if_neg c4, if_neg c4]
          simp only [zb_s]
          rw [if_pos trivial]
          exact ⟨fun h => (by cases h), fun _ => ⟨false, _, rfl⟩⟩
      · rw [if_neg c3]
        obtain ⟨v, d', e1⟩ := hR.2 (by simpa using c3)
        have a2 := (hG.2 (by simpa using c3)).2.1
        rw [e1]
        simp only [zb_s]
        rw [mW_10, if_neg (by rw [n_m1 (by omega)]; exact id)]
        exact ⟨fun h => (by cases h), fun _ => ⟨false, _, rfl⟩⟩
    · rw [if_neg ch, if_neg (fun q => ch (hh.mpr q))]
      simp only [zb_s]
      rw [if_pos trivial]
      exact ⟨fun h => (by cases h), fun _ => ⟨false, nI d, rfl⟩⟩
  rw [if_neg c2, if_neg (show ¬ lkv f n p = (40 : Int32) from fun z => c2 ((hlk 40 (by decide) (by decide)).mp z))]
  by_cases c3 : sg f n p = 35
  · have hlt := sg_lt (f := f) (n := n) (p := p) (by omega)
    rw [if_pos c3, if_pos (show lkv f n p = (35 : Int32) from (hlk 35 (by decide) (by decide)).mpr c3), mW_9]
    simp only [zl_s]
    rw [n_1, mW_s9, show f_M_digit (0 : Int32) (9 : Int32) (mW w (sk f n p + 1) (-1) (nI d)) = _ from M_digit (lo := 0) (hi := 9) h hlt.1 (nI d) (by decide) (by decide)]
    by_cases c4 : (pD f n 0 9 (sk f n p + 1)).1 = true
    · obtain ⟨l1, l2, l3, l4, -⟩ := pD_ok (p := sk f n p + 1) hlt.1 c4
      rw [if_pos c4, if_pos c4, l4]
      simp only [zb_s]
      have hy : f (sk f n (sk f n p + 1)) - 48 < 10 := by omega
      refine ⟨fun _ => ?_, fun h => (by cases h)⟩
      show ∃ v, _ ∧ (_ → v = eVl (mE w) [768 + (f (sk f n (sk f n p + 1)) - 48) * 16])
      generalize f (sk f n (sk f n p + 1)) - 48 = y at hy
      have ev := eV_k (k := 3) (a := y) (b := 0) (by decide) (by omega) (by decide) (mE w)
      rw [show 3 * 256 + y * 16 + 0 = 768 + y * 16 by omega] at ev
      rw [if_neg (show ¬ nI y = (-1 : Int32) by rw [n_m1 (by omega)]; exact id), ev]
      unfold f_M_has
      rw [mW_o (by omega)]
      by_cases q : ((w.1 107 14) >>> (nI y &&& 31)) &&& (1 : Int32) = 1
      · rw [if_pos q]
        simp only [zb_s]
        rw [if_neg (by decide)]
        exact ⟨true, rfl, fun _ => by show _ = decide _; rw [decide_eq_true q]⟩
      · rw [if_neg q]
        simp only [zb_s]
        rw [if_pos trivial]
        exact ⟨false, rfl, fun _ => by show _ = decide _; rw [decide_eq_false q]⟩
    · rw [if_neg c4, if_neg c4, pD_no c4]
      simp only [zb_s]
      rw [if_pos trivial]
      exact ⟨fun h => (by cases h), fun _ => ⟨false, _, rfl⟩⟩
  rw [if_neg c3, if_neg (show ¬ lkv f n p = (35 : Int32) from fun z => c3 ((hlk 35 (by decide) (by decide)).mp z)), M_letter h g2, sk_sk]
  have epl : pLt f n (sk f n p) = pLt f n p := by unfold pLt; rw [sg_sk, sk_sk]
  rw [epl]
  by_cases c4 : (pLt f n p).1 = true
  · obtain ⟨l1, l2, l3, l4, -⟩ := pLt_ok c4
    rw [if_pos c4, if_pos c4, l4]
    simp only [zb_s]
    rw [if_neg (show ¬ nI (f (sk f n p) - 97) = (-1 : Int32) by rw [n_m1 (by omega)]; exact id)]
    exact MR_rest (rK := rK) (d := nI d) (x := f (sk f n p) - 97) h (by omega) (sk f n p + 1) l1
  · rw [if_neg c4, if_neg c4, pLt_no c4]
    simp only [zb_s]
    rw [if_pos trivial]
    exact ⟨fun h => (by cases h), fun _ => ⟨false, _, rfl⟩⟩
theorem MR_U {w : gW} {n t b0 : Nat} {f : Nat → Nat} (h : TX t b0 n f w) : ∀ (b fu : Nat), b ≤ 6 → b < fu → MR w n f (nI (6 - b)) (fun v => zfx (fun _ => none) f_M_unit_rec fu v) (pU f n b)
  | b, 0, _, hf => absurd hf (Nat.not_lt_zero b)
  | 0, fu + 1, _, _ => MR_unit (rK := zfx (fun _ => none) f_M_unit_rec fu) (d := 6) (m := 0) (has := false) (u := fun p => (false, p, [])) h (by omega) ⟨fun h => (by cases h), fun h => absurd h (by decide)⟩ (fun h => by cases h) (fun h => by cases h)
  | b + 1, fu + 1, hb, hf => by
    have ih := MR_U h b fu (by omega) (by omega)
    have e : 6 - (b + 1) + 1 = 6 - b := by omega
    exact MR_unit (rK := zfx (fun _ => none) f_M_unit_rec fu) (d := 6 - (b + 1)) (m := 2 * b + 1) (has := true) (u := pU f n b) h (by omega) ⟨fun _ => by omega, fun _ => rfl⟩ (fun _ => pU_G f n b) (fun _ => by rw [e]; exact ih)
/-- the world once the model has opened a text -/
def mO (w : gW) (t b n : Nat) : gW := zsI (zsI (zsI w 107 4 (nI t)) 107 7 (nI b)) 107 8 (nI n)
theorem M_opens (w : gW) {t b n : Nat} (ht : t < 2 ^ 31) : f_M_opens t (nI b) (nI n) w = some ((), mW (mO w t b n) 0 (-1) 0) := by
  unfold f_M_opens
  rw [if_pos ht]
  simp only [zl_s]
  congr 2
  unfold zsI mW mO zsI
  congr 1
  funext a c
  dsimp only
  by_cases h1 : a = 107 ∧ c = 9
  · rw [if_neg (by omega), if_neg (by omega), if_pos h1, if_pos h1]; rfl
  · by_cases h2 : a = 107 ∧ c = 10
    · rw [if_neg (by omega), if_pos h2, if_neg h1, if_pos h2]
    · by_cases h3 : a = 107 ∧ c = 11
      · rw [if_pos h3, if_neg h1, if_neg h2, if_pos h3]
      · rw [if_neg h3, if_neg h2, if_neg h1, if_neg h1, if_neg h2, if_neg h3]
theorem M_goThrough {w : gW} {n t b0 : Nat} {f : Nat → Nat} (h : TX t b0 n f (mO w t b0 n)) (ht : t < 2 ^ 31) : ((pAll f n).1 = true → ∃ v : Bool, f_M_goThrough t (nI b0) (nI n) w = some (bI v, mW (mO w t b0 n) n (-1) 0) ∧ (mOK (mO w t b0 n) → v = eVl (mE (mO w t b0 n)) (pAll f n).2.2)) ∧ ((pAll f n).1 = false → ∃ (v : Bool) (d' : Int32), f_M_goThrough t (nI b0) (nI n) w = some (bI v, mW (mO w t b0 n) (pAll f n).2.1 (nI (pAll f n).2.1) d')) := by
  have h120 := h.1.2.1
  unfold f_M_goThrough
  rw [M_opens w ht]
  simp only [zb_s]
  have hR := MR_oath (rK := f_M_unit) (d := nI 0) (b := 13) (u := pU f n 6) h (fun p hp => pU_G f n 6 p hp) (MR_U h 6 16 (by decide) (by decide)) 0 (Nat.zero_le _)
  have hG := pOa_G (m := 13) (fun p hp => pU_G f n 6 p hp) 0 (Nat.zero_le n)
  unfold pAll
  unfold f_M_oath
  by_cases c : (pOa f n (pU f n 6) 0).1 = true
  · obtain ⟨v, e1, k1⟩ := hR.1 c
    obtain ⟨a1, a2, a3, a4, a5⟩ := hG.1 c
    rw [if_pos c, show f_M_oath_rec f_M_unit (mW (mO w t b0 n) 0 (-1) 0) = _ from e1]
    simp only [zb_s]
    rw [mW_10, if_pos rfl, M_look h a2]
    simp only [zb_s]
    by_cases c2 : sg f n (pOa f n (pU f n 6) 0).2.1 = 0
    · have e2 := (sg_z h.pos a2).mp c2
      rw [if_pos c2, if_pos (by unfold lkv; rw [e2, if_neg (Nat.lt_irrefl _)]), e2]
      unfold f_M_goThrough_b34
      rw [if_pos (bI_a _)]
      exact ⟨fun _ => ⟨v, rfl, k1⟩, fun h => (by cases h)⟩
    · have e2 := sg_lt c2
      rw [if_neg c2, if_neg (by unfold lkv; rw [if_pos e2.1, n_m1 (by have := (h.2.2 _ e2.1).2.1; omega)]; exact id), M_fails1]
      simp only [zb_s]
      unfold f_M_goThrough_b34
      rw [if_pos (bI_a _)]
      exact ⟨fun h => (by cases h), fun _ => ⟨v, _, rfl⟩⟩
  · rw [if_neg c]
    obtain ⟨v, d', e1⟩ := hR.2 (by simpa using c)
    have a2 := (hG.2 (by simpa using c)).2.1
    rw [show f_M_oath_rec f_M_unit (mW (mO w t b0 n) 0 (-1) 0) = _ from e1]
    simp only [zb_s]
    rw [mW_10, if_neg (by rw [n_m1 (by omega)]; exact id)]
    unfold f_M_goThrough_b34
    rw [if_pos (bI_a _)]
    exact ⟨fun h => (by cases h), fun _ => ⟨v, d', rfl⟩⟩
