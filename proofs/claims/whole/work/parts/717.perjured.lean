/-! PURE: perjured, guilt, blame -/
def sL (P : Nat → Bool) (f : Nat → Nat) : Nat → Option Nat
  | 0 => none
  | k + 1 => if P k = true then (match sL P f k with
    | none => some k
    | some j => if f k < f j then some k else some j) else sL P f k
theorem sL_M (P : Nat → Bool) (f : Nat → Nat) : ∀ n, isM (fun k => k < n ∧ P k = true) f (sL P f n)
  | 0 => isM.e _ (fun k z => absurd z.1 (Nat.not_lt_zero k))
  | n + 1 => by
    have ih := sL_M P f n
    unfold sL
    by_cases q : P n = true
    · rw [if_pos q]
      cases e : sL P f n with
      | none =>
        rw [e] at ih
        dsimp only
        refine ih.new ⟨by omega, q⟩ (fun j z => (by cases z)) (fun i z => ?_)
        by_cases y : i = n
        · subst y; right; right; exact ⟨rfl, Nat.le_refl _⟩
        · exact Or.inl ⟨by omega, z.2⟩
      | some j =>
        rw [e] at ih
        dsimp only
        by_cases y : f n < f j
        · rw [if_pos y]
          refine ih.new ⟨by omega, q⟩ (fun j2 z => by cases z; exact Or.inl y) (fun i z => ?_)
          by_cases y : i = n
          · subst y; right; right; exact ⟨rfl, Nat.le_refl _⟩
          · exact Or.inl ⟨by omega, z.2⟩
        · rw [if_neg y]
          refine ih.keep (fun i z => ?_) (fun i z => ⟨by omega, z.2⟩)
          by_cases y2 : i = n
          · subst y2
            right
            have := ((ih.2 j rfl).1).1
            exact ⟨j, rfl, by omega⟩
          · exact Or.inl ⟨by omega, z.2⟩
    · rw [if_neg q]
      refine ih.cg (fun i => ⟨fun z => ⟨by omega, z.2⟩, fun z => ⟨?_, z.2⟩⟩)
      apply Nat.lt_of_le_of_ne (by omega)
      intro y
      subst y
      exact q z.2
def bB (P : Nat → Bool) : Nat → Nat
  | 0 => 0
  | n + 1 => bB P n ||| (if P n = true then 2 ^ n else 0)
theorem bB_B (P : Nat → Bool) : ∀ n, isB n (fun i => P i = true) (bB P n)
  | 0 => isB.z _
  | n + 1 => (bB_B P n).s (P n) Iff.rfl
theorem isB.hi {n i : Nat} {P : Nat → Prop} {r : Nat} (h : isB n P r) (hi : n ≤ i) : r.testBit i = false := by
  have a : 2 ^ n ≤ 2 ^ i := Nat.pow_le_pow_right (by decide) hi
  exact Nat.testBit_lt_two_pow (Nat.lt_of_lt_of_le h.1 a)
theorem bB_t {P : Nat → Bool} {n i : Nat} (hi : i < n) : (bB P n).testBit i = P i := by
  rw [Bool.eq_iff_iff]
  exact (bB_B P n).2 i hi
theorem bB_h {P : Nat → Bool} {n i : Nat} (hi : n ≤ i) : (bB P n).testBit i = false := (bB_B P n).hi hi
theorem n_anb {a b c : Nat} (h : ∀ i, i < 32 → c.testBit i = (a.testBit i && !b.testBit i)) : nI a &&& (nI b ^^^ (-1 : Int32)) = nI c := by
  apply b_ext
  intro i h32
  rw [b_and, b_xor, b_m1 i h32, b_nI _ h32, b_nI _ h32, b_nI _ h32, h i h32]
  cases b.testBit i <;> rfl
section
variable {u : gW}
def yLq (u : gW) (S th : Nat) : Option Nat := sL (ypo u) (ypK u S th) (yT u)
theorem yLq_M (S th : Nat) : isM (yPo u) (ypK u S th) (yLq u S th) := (sL_M (ypo u) (ypK u S th) (yT u)).cg (fun _ => Iff.rfl)
def yBp (u : gW) (p : Nat) : Nat := bB (fun i => decide (ix (u.1 119 i) = p)) (yS u)
def yNp (u : gW) (p : Nat) : Nat := bB (fun i => !decide (ix (u.1 119 i) = p)) (yS u)
def yNh (u : gW) (th j : Nat) : Nat := bB (fun i => th.testBit i && !yHs u i th j) (yS u)
theorem yBp_B (p : Nat) : isB (yS u) (yBy u p) (yBp u p) := (bB_B _ _).cg (fun i _ => by rw [decide_eq_true_eq]; exact Iff.rfl)
theorem yNh_B (th j : Nat) : isB (yS u) (fun i => th.testBit i = true ∧ ¬ yHs u i th j = true) (yNh u th j) := (bB_B _ _).cg (fun i _ => by
  rw [Bool.and_eq_true]
  cases yHs u i th j <;> simp)
theorem yNp_al (K : zK u) (p : Nat) : nI (yal u) &&& (nI (yBp u p) ^^^ (-1 : Int32)) = nI (yNp u p) := by
  refine n_anb (fun i h32 => ?_)
  show (bB _ _).testBit i = ((yal u).testBit i && !(bB _ _).testBit i)
  rw [yal_b]
  by_cases q : i < yS u
  · rw [bB_t q, bB_t q, decide_eq_true q, Bool.true_and]
  · rw [bB_h (by omega), decide_eq_false q, Bool.false_and]
/-- what is told of the least -/
def rPj (u : gW) (t : Nat) : Int32 := match yLq u (yal u) (yal u) with
  | none => -1
  | some j => if t = 0 then nI (ypK u (yal u) (yal u) j) else if t = 1 then nI (yN u j) else nI (yNh u (yal u) j)
theorem Le_cheap (K : zK u) (R : jRec u) (C : jCou u) {w : gW} (h : zE u w) {t : Nat} (ht : t < 3) : ∃ v : gW, f_Le_cheapest (nI t) w = some (rPj u t, v) ∧ zE u v := by
  have h10 := K.S10
  have hT := K.T7
  have hal := yal_lt K
  unfold f_Le_cheapest f_Co_possible
  rw [An_all K h.k, zb_s, zb_s]
  obtain ⟨v, q, e1, e2, e3, e4, e5, e6⟩ := Le_findP K R C h (yal_2 u) (yal_2 u)
  rw [e1, zb_s, e4.2]
  have eq := e5.u (yLq_M _ _)
  unfold rPj
  rw [← eq]
  cases q with
  | none => rw [qN_n, if_pos rfl]; exact ⟨v, rfl, e3⟩
  | some j =>
    have hj := (e5.2 j rfl).1
    have hjT : j < yT u := hj.1
    rw [qN_s, if_neg (show ¬ nI j = (-1 : Int32) by rw [n_m1 (by omega)]; exact id)]
    dsimp only
    by_cases t2 : t = 2
    · subst t2
      rw [if_pos (show nI 2 = (2 : Int32) from rfl), if_neg (by decide), if_neg (by decide)]
      obtain ⟨v2, f1, f2⟩ := Le_holdingAt' K R C e3 (k := j) (th := yal u) (a := nI (yal u)) (D := fun i => (yal u).testBit i) hjT (yal_2 u) (fun i hi => n_bit (by omega) (by omega)) (bB_B (fun i => (yal u).testBit i && yHs u i (yal u) j) (yS u) |>.cg (fun i _ => by rw [Bool.and_eq_true]))
      rw [f1, zb_s]
      refine ⟨v2, ?_, zFl.e e3 f2⟩
      congr 2
      refine n_anb (fun i h32 => ?_)
      show (bB _ _).testBit i = ((yal u).testBit i && !(bB _ _).testBit i)
      by_cases z : i < yS u
      · rw [bB_t z, bB_t z, yal_b, decide_eq_true z, Bool.true_and, Bool.true_and, Bool.true_and]
      · rw [bB_h (by omega), yal_b, decide_eq_false z, Bool.false_and]
    · rw [if_neg (show ¬ nI t = (2 : Int32) by rw [show (2 : Int32) = nI 2 from rfl, n_eq (by omega) (by omega)]; exact t2)]
      by_cases t0 : t = 0
      · rw [if_pos (show nI t = 0 by rw [t0]; rfl), if_pos t0, e4.1, qL_s]
        exact ⟨v, rfl, e3⟩
      · rw [if_neg (show ¬ nI t = 0 from nI_ne0 (by omega) (by omega)), if_neg t0, if_pos (by omega), La_numberAt' K e3.k hjT, zb_s]
        exact ⟨v, rfl, e3⟩
theorem MS_B {S th : Nat} {q : Option Nat} {v : gW} (h : MS u S th q v) {j : Nat} (e : q = some j) : v.1 107 48 = nI (yNh u th j) := by
  obtain ⟨B, b1, b2⟩ := (h.2 j e).2
  rw [b1, b2.un (yNh_B th j)]
theorem rg_neg {a c : Int32} {m : Nat} (hc : c.toInt + 1 = (m : Int)) (q : ¬ (0 ≤ a.toInt ∧ a.toInt < (m : Int))) {α : Type} {x y : α} : (if a < 0 then x else if c < a then x else y) = x := by
  by_cases q1 : a < 0
  · rw [if_pos q1]
  · rw [if_neg q1]
    rw [if_pos]
    rw [i_lt, i_0] at q1
    rw [i_lt]
    omega
theorem rg_pos {a c : Int32} {m : Nat} (hc : c.toInt + 1 = (m : Int)) (q : 0 ≤ a.toInt ∧ a.toInt < (m : Int)) {α : Type} {x y : α} : (if a < 0 then x else if c < a then x else y) = y := by
  have q1 : ¬ a < 0 := by rw [i_lt, i_0]; omega
  have q2 : ¬ c < a := by rw [i_lt]; omega
  rw [if_neg q1, if_neg q2]
theorem q_perjured (J : zJ u) (a : Int32) : zQ u (f_X_perjured a) (f_M_perjured a) := by
  have K := J.K
  have h5 := K.D5
  have hT := K.T7
  by_cases q : 0 < yD u
  · by_cases q2 : 0 ≤ a.toInt ∧ a.toInt < (3 : Nat)
    · obtain ⟨ea, ha⟩ := z_nIx q2
      generalize ix a = t at ea ha
      subst ea
      refine ⟨rPj u t, fun v hv => ?_, fun v hv => ?_⟩
      · unfold f_X_perjured
        rw [La_isThere' K hv.k, zb_s, decide_eq_true q, if_neg bt0, rg_pos (m := 3) rfl q2]
        unfold f_X_perjured_b24
        rw [if_neg z10]
        obtain ⟨v1, e1, g1⟩ := Le_cheap K J.R J.C hv ha
        exact ⟨v1, by rw [e1, zb_s], g1⟩
      · unfold f_M_perjured
        have hm := hv.m0
        obtain ⟨v1, qq, e1, g1, l1, m1⟩ := M_layPerj J hm (yal_2 u) (yal_2 u) (fun i z => z)
        have hq3 : (0 : Int) ≤ (nI t).toInt ∧ (nI t).toInt < ((3 : Nat) : Int) := q2
        rw [zl_s, there21 K hm, if_neg (nI_ne0 q (by omega)), isIn_lit (nI t) 3 rfl, zb_s, decide_eq_true hq3, if_neg bt0, M_all K hm.k, zb_s, M_all K hm.k, zb_s, e1, zb_s, l1.1]
        have eq := m1.u (yLq_M _ _)
        unfold rPj
        rw [← eq]
        cases qq with
        | none => rw [qNN_n, if_pos rfl]; exact ⟨v1, rfl, g1⟩
        | some j =>
          rw [qNN_s, if_neg (show ¬ nI (yN u j) = (-1 : Int32) by rw [n_m1 (by have := yN_lt K j; omega)]; exact id), (l1.2 j rfl).1, MS_B l1 rfl]
          dsimp only
          by_cases t0 : t = 0
          · rw [if_pos (show nI t = 0 by rw [t0]; rfl), if_pos t0]
            exact ⟨v1, rfl, g1⟩
          · rw [if_neg (show ¬ nI t = 0 from nI_ne0 (by omega) (by omega)), if_neg t0]
            by_cases t1 : t = 1
            · rw [if_pos (show nI t = 1 by rw [t1]; rfl), if_pos t1]
              exact ⟨v1, rfl, g1⟩
            · rw [if_neg (show ¬ nI t = (1 : Int32) by rw [show (1 : Int32) = nI 1 from rfl, n_eq (by omega) (by omega)]; exact t1), if_neg t1]
              exact ⟨v1, rfl, g1⟩
    · refine ⟨-1, fun v hv => ⟨v, ?_, hv⟩, fun v hv => ⟨_, ?_, hv.m0⟩⟩
      · unfold f_X_perjured
        rw [La_isThere' K hv.k, zb_s, decide_eq_true q, if_neg bt0, rg_neg (m := 3) rfl q2]
        unfold f_X_perjured_b23 f_X_perjured_b24
        rw [if_pos z00]
      · unfold f_M_perjured
        rw [zl_s, there21 K hv.m0, if_neg (nI_ne0 q (by omega)), isIn_lit a 3 rfl, zb_s, decide_eq_false q2, if_pos bf0]
  · refine ⟨-1, fun v hv => ⟨v, ?_, hv⟩, fun v hv => ⟨_, ?_, hv.m0⟩⟩
    · unfold f_X_perjured
      rw [La_isThere' K hv.k, zb_s, decide_eq_false q, if_pos bf0]
      unfold f_X_perjured_b23 f_X_perjured_b24
      rw [if_pos z00]
    · unfold f_M_perjured
      rw [zl_s, there21 K hv.m0, if_pos (by rw [show yD u = 0 by omega]; rfl)]
theorem and_1024 {a b : Nat} (h : b < 1024) : a &&& b < 1024 := Nat.lt_of_le_of_lt Nat.and_le_right h
theorem yBp_lt (K : zK u) (p : Nat) : yBp u p < 2 ^ yS u := (yBp_B p).1
theorem yNp_lt (u : gW) (p : Nat) : yNp u p < 2 ^ yS u := (bB_B (fun i => !decide (ix (u.1 119 i) = p)) (yS u)).1
def rGu (u : gW) (p : Nat) : Int32 := match yLq u (yal u) (yal u) with
  | none => -1
  | some j => nI (ypc (yNh u (yal u) j &&& yBp u p))
theorem q_guilt (J : zJ u) (a : Int32) : zQ u (f_X_guilt a) (f_M_guilt a) := by
  have K := J.K
  have h5 := K.D5
  have hT := K.T7
  have hp := yS_2 K
  by_cases q : 0 < yD u
  · by_cases q2 : 0 ≤ a.toInt ∧ a.toInt < (6 : Nat)
    · obtain ⟨p, rfl, hp6⟩ := gP_t q2
      have hlt := yBp_lt K p
      refine ⟨rGu u p, fun v hv => ?_, fun v hv => ?_⟩
      · unfold f_X_guilt
        rw [La_isThere' K hv.k, zb_s, decide_eq_true q, if_neg bt0, X_isPerson', zb_s, decide_eq_true q2, if_neg bt0]
        obtain ⟨v1, e1, g1⟩ := Le_cheap K J.R J.C hv (t := 2) (by decide)
        rw [show f_Le_cheapest (2 : Int32) v = _ from e1, zb_s]
        have er : rPj u 2 = (match yLq u (yal u) (yal u) with
          | none => (-1 : Int32)
          | some j => nI (yNh u (yal u) j)) := by
          unfold rPj
          cases yLq u (yal u) (yal u) <;> rfl
        unfold f_X_guilt_b29 rGu
        rw [er]
        cases yLq u (yal u) (yal u) with
        | none => exact ⟨v1, if_pos rfl, g1⟩
        | some j =>
          dsimp only
          rw [if_neg (show ¬ nI (yNh u (yal u) j) = (-1 : Int32) by rw [n_m1 (by have := (yNh_B (u := u) (yal u) j).1; omega)]; exact id), An_swornBy' K J.R g1.k hp6 (yBp_B p), zb_s, n_and, Int_bitCount (and_1024 (by omega)), zb_s]
          exact ⟨v1, rfl, g1⟩
      · unfold f_M_guilt
        have hm := hv.m0
        obtain ⟨v1, qq, e1, g1, l1, m1⟩ := M_layPerj J hm (yal_2 u) (yal_2 u) (fun i z => z)
        have hq3 : (0 : Int) ≤ (nI p).toInt ∧ (nI p).toInt < ((6 : Nat) : Int) := q2
        rw [zl_s, there21 K hm, if_neg (nI_ne0 q (by omega)), isIn_lit (nI p) 6 rfl, zb_s, decide_eq_true hq3, if_neg bt0, M_all K hm.k, zb_s, M_all K hm.k, zb_s, e1, zb_s, l1.1]
        have eq := m1.u (yLq_M _ _)
        unfold rGu
        rw [← eq]
        cases qq with
        | none => rw [qNN_n, if_pos rfl]; exact ⟨v1, rfl, g1⟩
        | some j =>
          rw [qNN_s, if_neg (show ¬ nI (yN u j) = (-1 : Int32) by rw [n_m1 (by have := yN_lt K j; omega)]; exact id), M_ofPerson' K J.R g1.k hp6 (yBp_B p), zb_s, MS_B l1 rfl, n_and, Int_bitCount (and_1024 (by omega)), zb_s]
          exact ⟨v1, rfl, g1⟩
    · refine ⟨-1, fun v hv => ⟨v, ?_, hv⟩, fun v hv => ⟨_, ?_, hv.m0⟩⟩
      · unfold f_X_guilt
        rw [La_isThere' K hv.k, zb_s, decide_eq_true q, if_neg bt0, X_isPerson', zb_s, decide_eq_false q2, if_pos bf0]
        unfold f_X_guilt_b28 f_X_guilt_b29
        rw [if_pos rfl]
      · unfold f_M_guilt
        rw [zl_s, there21 K hv.m0, if_neg (nI_ne0 q (by omega)), isIn_lit a 6 rfl, zb_s, decide_eq_false q2, if_pos bf0]
  · refine ⟨-1, fun v hv => ⟨v, ?_, hv⟩, fun v hv => ⟨_, ?_, hv.m0⟩⟩
    · unfold f_X_guilt
      rw [La_isThere' K hv.k, zb_s, decide_eq_false q, if_pos bf0]
      unfold f_X_guilt_b28 f_X_guilt_b29
      rw [if_pos rfl]
    · unfold f_M_guilt
      rw [zl_s, there21 K hv.m0, if_pos (by rw [show yD u = 0 by omega]; rfl)]
/-- who is to blame, after some persons -/
def yCp (u : gW) (p : Nat) : Nat := qL (ypK u (yNp u p) (yal u)) (yLq u (yNp u p) (yal u))
def yBl (u : gW) : Nat → Option (Nat × Nat)
  | 0 => none
  | p + 1 => match yBl u p with
    | none => some (p, yCp u p)
    | some x => if yCp u p < x.2 then some (p, yCp u p) else some x
theorem yBl_s (p : Nat) : yBl u (p + 1) = (match yBl u p with
    | none => some (p, yCp u p)
    | some x => if yCp u p < x.2 then some (p, yCp u p) else some x) := rfl
def bP (q : Option (Nat × Nat)) : Int32 := match q with
  | none => -1
  | some x => nI x.1
def bC (d : Int32) (q : Option (Nat × Nat)) : Int32 := match q with
  | none => d
  | some x => nI x.2
theorem bP_n : bP none = -1 := rfl
theorem bP_s (x : Nat × Nat) : bP (some x) = nI x.1 := rfl
theorem bC_n (d : Int32) : bC d none = d := rfl
theorem bC_s (d : Int32) (x : Nat × Nat) : bC d (some x) = nI x.2 := rfl
theorem yBl_ok (hc : ∀ p, yCp u p ≤ 990) : ∀ p, ∀ x, yBl u p = some x → x.1 < p ∧ x.2 ≤ 990
  | 0, x, h => by cases h
  | p + 1, x, h => by
    rw [yBl_s] at h
    cases e : yBl u p with
    | none =>
      rw [e] at h
      cases h
      exact ⟨Nat.lt_succ_self p, hc p⟩
    | some y =>
      have ih := yBl_ok hc p y e
      rw [e] at h
      dsimp only at h
      split at h
      · cases h; exact ⟨Nat.lt_succ_self p, hc p⟩
      · cases h; exact ⟨by omega, ih.2⟩
theorem yBl_some : ∀ p, ∃ x, yBl u (p + 1) = some x := fun p => by
  rw [yBl_s]
  cases yBl u p with
  | none => exact ⟨_, rfl⟩
  | some y =>
    dsimp only
    split
    · exact ⟨_, rfl⟩
    · exact ⟨_, rfl⟩
theorem yLq_e (hne : ∃ k, yPo u k) (S th : Nat) : ∃ j, yLq u S th = some j := by
  cases e : yLq u S th with
  | none =>
    obtain ⟨k, hk⟩ := hne
    exact absurd hk ((yLq_M S th).1 e k)
  | some j => exact ⟨j, rfl⟩
theorem yCp_le (R : jRec u) (hne : ∃ k, yPo u k) (p : Nat) : yCp u p ≤ 990 ∨ 10 < yS u := by
  obtain ⟨j, e⟩ := yLq_e hne (yNp u p) (yal u)
  unfold yCp
  rw [e, qL_s]
  have := ypk_le R (yNp u p) (yal u) j (yS u) (Nat.le_refl _)
  unfold ypK
  omega
theorem yNp_sub (p i : Nat) (h : (yNp u p).testBit i = true) : (yal u).testBit i = true := by
  rw [yal_b, decide_eq_true (lt2_b (yNp_lt u p) h)]
def rBl (u : gW) (t : Nat) : Int32 := if t = 0 then bP (yBl u 6) else bC (-1) (yBl u 6)
theorem X_blameL (J : zJ u) {w : gW} (h : zE u w) (hne : ∃ k, yPo u k) {t : Nat} (ht : t < 2) : ∃ v : gW, f_Le_toBlame (nI t) w = some (rBl u t, v) ∧ zE u v := by
  have K := J.K
  have h10 := K.S10
  have hc : ∀ p, yCp u p ≤ 990 := fun p => by rcases yCp_le J.R hne p with z | z <;> omega
  unfold f_Le_toBlame
  rw [An_all K h.k, zb_s]
  have key := zfx_ind (fun _ _ _ _ _ _ => none) f_Le_toBlame_b16_s (fun m kk => ∀ p v, p + m = 6 → zE u v → ∃ v' : gW, kk (nI t) (nI (yal u)) (bP (yBl u p)) (bC (-1) (yBl u p)) (nI p) v = some (rBl u t, v') ∧ zE u v') (fun m kk ih p v hp hv => by
    unfold f_Le_toBlame_b16_s
    cases m with
    | zero =>
      have ep : p = 6 := by omega
      subst ep
      rw [if_pos (show (6 : Int32) ≤ nI 6 by decide)]
      unfold rBl
      by_cases t0 : t = 0
      · rw [if_pos (show nI t = 0 by rw [t0]; rfl), if_pos t0]
        exact ⟨v, rfl, hv⟩
      · rw [if_neg (show ¬ nI t = 0 from nI_ne0 (by omega) (by omega)), if_neg t0]
        exact ⟨v, rfl, hv⟩
    | succ m =>
      have q6 : ¬ (6 : Int32) ≤ nI p := by rw [show (6 : Int32) = nI 6 from rfl, n_le (by omega) (by omega)]; omega
      unfold f_Co_possible
      rw [if_neg q6, zb_s, An_swornBy' K J.R hv.k (by omega) (yBp_B p), zb_s, yNp_al K p]
      obtain ⟨v1, qq, e1, e2, e3, e4, e5, e6⟩ := Le_findP K J.R J.C hv (yNp_lt u p) (yal_2 u)
      have eq := e5.u (yLq_M _ _)
      obtain ⟨j, ej⟩ := yLq_e hne (yNp u p) (yal u)
      rw [ej] at eq
      have ec : yCp u p = ypK u (yNp u p) (yal u) j := by unfold yCp; rw [ej, qL_s]
      have hjT : j < yT u := (e5.2 j eq).1.1
      have hT := K.T7
      rw [e1, zb_s, e4.2, eq, qN_s, if_neg (show ¬ nI j = (-1 : Int32) by rw [n_m1 (by omega)]; exact id)]
      have e99 : v1.1 99 6 = nI (yCp u p) := by rw [e4.1, eq, qL_s, ec]
      have take : yBl u (p + 1) = some (p, yCp u p) → ∃ v' : gW, f_Le_toBlame_b70 kk (nI t) (nI (yal u)) (nI p) v1 = some (rBl u t, v') ∧ zE u v' := by
        intro e
        unfold f_Le_toBlame_b70 f_Le_toBlame_b79
        rw [zl_s, zl_s, n_1, e99]
        have := ih m (by omega) (p + 1) v1 (by omega) e3
        rw [e, bP_s, bC_s] at this
        exact this
      cases eb : yBl u p with
      | none =>
        rw [bP_n, if_pos rfl]
        exact take (by rw [yBl_s, eb])
      | some x =>
        have ok := yBl_ok hc p x eb
        have hcp := hc p
        rw [bP_s, bC_s, if_neg (show ¬ nI x.1 = (-1 : Int32) by rw [n_m1 (by omega)]; exact id), e99]
        by_cases q3 : nI x.2 ≤ nI (yCp u p)
        · rw [if_pos q3]
          have q3' := (n_le (by omega) (by omega)).mp q3
          unfold f_Le_toBlame_b79
          rw [zl_s, n_1]
          have := ih m (by omega) (p + 1) v1 (by omega) e3
          have e : yBl u (p + 1) = some x := by
            rw [yBl_s, eb]
            exact if_neg (by omega)
          rw [e, bP_s, bC_s] at this
          exact this
        · rw [if_neg q3]
          have q3' : ¬ x.2 ≤ yCp u p := fun z => q3 ((n_le (by omega) (by omega)).mpr z)
          refine take ?_
          rw [yBl_s, eb]
          exact if_pos (by omega)) zFU 6 (zfu (by omega))
  exact key 0 w (by omega) h
theorem M_blameL (J : zJ u) {w : gW} (h : zE u w) (hne : ∃ k, yPo u k) {t : Nat} (ht : t < 2) : ∃ v : gW, f_M_blame_b31 (nI t) (-1 : Int32) (0 : Int32) (0 : Int32) w = some (rBl u t, v) ∧ zE u v := by
  have K := J.K
  have h10 := K.S10
  have hc : ∀ p, yCp u p ≤ 990 := fun p => by rcases yCp_le J.R hne p with z | z <;> omega
  have key := zfx_ind (fun _ _ _ _ _ => none) f_M_blame_b31_s (fun m kk => ∀ p v, p + m = 6 → zE u v → ∃ v' : gW, kk (nI t) (bP (yBl u p)) (bC 0 (yBl u p)) (nI p) v = some (rBl u t, v') ∧ zE u v') (fun m kk ih p v hp hv => by
    unfold f_M_blame_b31_s
    cases m with
    | zero =>
      have ep : p = 6 := by omega
      subst ep
      rw [if_pos (show (6 : Int32) ≤ nI 6 by decide)]
      unfold rBl
      obtain ⟨x, ex⟩ := yBl_some (u := u) 5
      rw [show yBl u 6 = some x from ex, bP_s, bC_s, bC_s]
      by_cases t0 : t = 0
      · rw [if_pos (show nI t = 0 by rw [t0]; rfl), if_pos t0]
        exact ⟨v, rfl, hv⟩
      · rw [if_neg (show ¬ nI t = 0 from nI_ne0 (by omega) (by omega)), if_neg t0]
        exact ⟨v, rfl, hv⟩
    | succ m =>
      have q6 : ¬ (6 : Int32) ≤ nI p := by rw [show (6 : Int32) = nI 6 from rfl, n_le (by omega) (by omega)]; omega
      rw [if_neg q6, M_all K hv.k, zb_s, M_ofPerson' K J.R hv.k (by omega) (yBp_B p), zb_s, M_all K hv.k, zb_s, yNp_al K p]
      obtain ⟨v1, qq, e1, e3, e4, e5⟩ := M_layPerj J hv (yNp_lt u p) (yal_2 u) (yNp_sub p)
      have eq := e5.u (yLq_M _ _)
      obtain ⟨j, ej⟩ := yLq_e hne (yNp u p) (yal u)
      rw [ej] at eq
      have ec : yCp u p = ypK u (yNp u p) (yal u) j := by unfold yCp; rw [ej, qL_s]
      rw [e1, zb_s, e4.1, eq, qNN_s, if_neg (show ¬ nI (yN u j) = (-1 : Int32) by rw [n_m1 (by have := yN_lt K j; omega)]; exact id)]
      have e99 : v1.1 107 46 = nI (yCp u p) := by rw [(e4.2 j eq).1, ec]
      have take : yBl u (p + 1) = some (p, yCp u p) → ∃ v' : gW, f_M_blame_b85 kk (nI t) (nI p) v1 = some (rBl u t, v') ∧ zE u v' := by
        intro e
        unfold f_M_blame_b85 f_M_blame_b93
        rw [zl_s, zl_s, n_1, e99]
        have := ih m (by omega) (p + 1) v1 (by omega) e3
        rw [e, bP_s, bC_s] at this
        exact this
      cases eb : yBl u p with
      | none =>
        rw [bP_n, if_pos rfl]
        exact take (by rw [yBl_s, eb])
      | some x =>
        have ok := yBl_ok hc p x eb
        have hcp := hc p
        rw [bP_s, bC_s, if_neg (show ¬ nI x.1 = (-1 : Int32) by rw [n_m1 (by omega)]; exact id), e99]
        by_cases q3 : nI (yCp u p) < nI x.2
        · rw [if_pos q3]
          have q3' := (n_lt (by omega) (by omega)).mp q3
          refine take ?_
          rw [yBl_s, eb]
          exact if_pos q3'
        · rw [if_neg q3]
          have q3' : ¬ yCp u p < x.2 := fun z => q3 ((n_lt (by omega) (by omega)).mpr z)
          unfold f_M_blame_b93
          rw [zl_s, n_1]
          have := ih m (by omega) (p + 1) v1 (by omega) e3
          have e : yBl u (p + 1) = some x := by
            rw [yBl_s, eb]
            exact if_neg q3'
          rw [e, bP_s, bC_s] at this
          exact this) zFU 6 (zfu (by omega))
  exact key 0 w (by omega) h
/-- with no possible life both say none -/
theorem X_blame0 (J : zJ u) {w : gW} (h : zE u w) (hne : ¬ ∃ k, yPo u k) {t : Nat} (ht : t < 2) : ∃ v : gW, f_Le_toBlame (nI t) w = some (-1, v) ∧ zE u v := by
  have K := J.K
  unfold f_Le_toBlame
  rw [An_all K h.k, zb_s]
  have key := zfx_ind (fun _ _ _ _ _ _ => none) f_Le_toBlame_b16_s (fun m kk => ∀ p v, p + m = 6 → zE u v → ∃ v' : gW, kk (nI t) (nI (yal u)) (-1) (-1) (nI p) v = some (-1, v') ∧ zE u v') (fun m kk ih p v hp hv => by
    unfold f_Le_toBlame_b16_s
    cases m with
    | zero =>
      have ep : p = 6 := by omega
      subst ep
      rw [if_pos (show (6 : Int32) ≤ nI 6 by decide)]
      by_cases t0 : nI t = 0
      · rw [if_pos t0]; exact ⟨v, rfl, hv⟩
      · rw [if_neg t0]; exact ⟨v, rfl, hv⟩
    | succ m =>
      have q6 : ¬ (6 : Int32) ≤ nI p := by rw [show (6 : Int32) = nI 6 from rfl, n_le (by omega) (by omega)]; omega
      unfold f_Co_possible
      rw [if_neg q6, zb_s, An_swornBy' K J.R hv.k (by omega) (yBp_B p), zb_s, yNp_al K p]
      obtain ⟨v1, qq, e1, e2, e3, e4, e5, e6⟩ := Le_findP K J.R J.C hv (yNp_lt u p) (yal_2 u)
      have eq : qq = none := by
        cases qq with
        | none => rfl
        | some j => exact absurd ⟨j, (e5.2 j rfl).1⟩ hne
      rw [e1, zb_s, e4.2, eq, qN_n, if_pos rfl]
      unfold f_Le_toBlame_b79
      rw [zl_s, n_1]
      exact ih m (by omega) (p + 1) v1 (by omega) e3) zFU 6 (zfu (by omega))
  exact key 0 w (by omega) h
theorem M_blame0 (J : zJ u) {w : gW} (h : zE u w) (hne : ¬ ∃ k, yPo u k) (t : Nat) : ∃ v : gW, f_M_blame_b31 (nI t) (-1 : Int32) (0 : Int32) (0 : Int32) w = some (-1, v) ∧ zE u v := by
  have K := J.K
  unfold f_M_blame_b31
  rw [zfx_F]
  generalize zfx (fun _ _ _ _ _ => none) f_M_blame_b31_s 99999 = Z
  unfold f_M_blame_b31_s
  rw [if_neg (show ¬ (6 : Int32) ≤ 0 by decide), M_all K h.k, zb_s, show f_M_ofPerson (0 : Int32) w = _ from M_ofPerson' K J.R h.k (by decide) (yBp_B 0), zb_s, M_all K h.k, zb_s, yNp_al K 0]
  obtain ⟨v1, qq, e1, e3, e4, e5⟩ := M_layPerj J h (yNp_lt u 0) (yal_2 u) (yNp_sub 0)
  have eq : qq = none := by
    cases qq with
    | none => rfl
    | some j => exact absurd ⟨j, (e5.2 j rfl).1⟩ hne
  rw [e1, zb_s, e4.1, eq, qNN_n, if_pos rfl]
  exact ⟨v1, rfl, e3⟩
theorem q_blame (J : zJ u) (a : Int32) : zQ u (f_X_blame a) (f_M_blame a) := by
  have K := J.K
  have h5 := K.D5
  by_cases q : 0 < yD u
  · by_cases q2 : 0 ≤ a.toInt ∧ a.toInt < (2 : Nat)
    · obtain ⟨ea, ha⟩ := z_nIx q2
      generalize ix a = t at ea ha
      subst ea
      have hq3 : (0 : Int) ≤ (nI t).toInt ∧ (nI t).toInt < ((2 : Nat) : Int) := q2
      by_cases hne : ∃ k, yPo u k
      · refine ⟨rBl u t, fun v hv => ?_, fun v hv => ?_⟩
        · unfold f_X_blame
          rw [La_isThere' K hv.k, zb_s, decide_eq_true q, if_neg bt0, X_is01, zb_s, decide_eq_true q2, if_neg bt0]
          obtain ⟨v1, e1, g1⟩ := X_blameL J hv hne ha
          exact ⟨v1, by rw [e1, zb_s], g1⟩
        · unfold f_M_blame
          rw [zl_s, there21 K hv.m0, if_neg (nI_ne0 q (by omega)), isIn_lit (nI t) 2 rfl, zb_s, decide_eq_true hq3, if_neg bt0]
          exact M_blameL J hv.m0 hne ha
      · refine ⟨-1, fun v hv => ?_, fun v hv => ?_⟩
        · unfold f_X_blame
          rw [La_isThere' K hv.k, zb_s, decide_eq_true q, if_neg bt0, X_is01, zb_s, decide_eq_true q2, if_neg bt0]
          obtain ⟨v1, e1, g1⟩ := X_blame0 J hv hne ha
          exact ⟨v1, by rw [e1, zb_s], g1⟩
        · unfold f_M_blame
          rw [zl_s, there21 K hv.m0, if_neg (nI_ne0 q (by omega)), isIn_lit (nI t) 2 rfl, zb_s, decide_eq_true hq3, if_neg bt0]
          exact M_blame0 J hv.m0 hne t
    · refine ⟨-1, fun v hv => ⟨v, ?_, hv⟩, fun v hv => ⟨_, ?_, hv.m0⟩⟩
      · unfold f_X_blame
        rw [La_isThere' K hv.k, zb_s, decide_eq_true q, if_neg bt0, X_is01, zb_s, decide_eq_false q2, if_pos bf0]
      · unfold f_M_blame
        rw [zl_s, there21 K hv.m0, if_neg (nI_ne0 q (by omega)), isIn_lit a 2 rfl, zb_s, decide_eq_false q2, if_pos bf0]
  · refine ⟨-1, fun v hv => ⟨v, ?_, hv⟩, fun v hv => ⟨_, ?_, hv.m0⟩⟩
    · unfold f_X_blame
      rw [La_isThere' K hv.k, zb_s, decide_eq_false q, if_pos bf0]
    · unfold f_M_blame
      rw [zl_s, there21 K hv.m0, if_pos (by rw [show yD u = 0 by omega]; rfl)]
end
