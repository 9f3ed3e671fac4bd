/-! PURE: the least cost: the class's findLeast -/
/-- the best of a set: least by f, then least -/
def isM (P : Nat → Prop) (f : Nat → Nat) (q : Option Nat) : Prop := (q = none → ∀ k, ¬ P k) ∧ ∀ j, q = some j → P j ∧ ∀ i, P i → f j < f i ∨ (f j = f i ∧ j ≤ i)
theorem isM.u {P : Nat → Prop} {f : Nat → Nat} {q q2 : Option Nat} (h : isM P f q) (h2 : isM P f q2) : q = q2 := by
  cases q with
  | none => cases q2 with
    | none => rfl
    | some j => exact absurd (h2.2 j rfl).1 (h.1 rfl j)
  | some i => cases q2 with
    | none => exact absurd (h.2 i rfl).1 (h2.1 rfl i)
    | some j =>
      have a := (h.2 i rfl).2 j (h2.2 j rfl).1
      have b := (h2.2 j rfl).2 i (h.2 i rfl).1
      have e : i = j := by omega
      rw [e]
theorem isM.cg {P Q : Nat → Prop} {f : Nat → Nat} {q : Option Nat} (h : isM P f q) (k : ∀ i, P i ↔ Q i) : isM Q f q := ⟨fun e i z => h.1 e i ((k i).mpr z), fun j e => ⟨(k j).mp (h.2 j e).1, fun i z => (h.2 j e).2 i ((k i).mpr z)⟩⟩
theorem isM.e (f : Nat → Nat) {P : Nat → Prop} (h : ∀ k, ¬ P k) : isM P f none := ⟨fun _ => h, fun j e => by cases e⟩
/-- nothing new that is better -/
theorem isM.keep {P Q : Nat → Prop} {f : Nat → Nat} {q : Option Nat} (h : isM P f q) (k : ∀ i, Q i → P i ∨ ∃ j, q = some j ∧ (f j < f i ∨ (f j = f i ∧ j ≤ i))) (k2 : ∀ i, P i → Q i) : isM Q f q := by
  refine ⟨fun e i z => ?_, fun j e => ⟨k2 j (h.2 j e).1, fun i z => ?_⟩⟩
  · rcases k i z with y | ⟨j, y, _⟩
    · exact h.1 e i y
    · rw [e] at y; cases y
  · rcases k i z with y | ⟨j2, y, y2⟩
    · exact (h.2 j e).2 i y
    · rw [e] at y
      cases y
      exact y2
/-- a new best -/
theorem isM.new {P Q : Nat → Prop} {f : Nat → Nat} {q : Option Nat} {p : Nat} (h : isM P f q) (hp : Q p) (hq : ∀ j, q = some j → f p < f j ∨ (f p = f j ∧ p ≤ j)) (k : ∀ i, Q i → P i ∨ f p < f i ∨ (f p = f i ∧ p ≤ i)) : isM Q f (some p) := by
  refine ⟨fun e => (by cases e), fun j e => ?_⟩
  cases e
  refine ⟨hp, fun i z => ?_⟩
  rcases k i z with y | y
  · cases q with
    | none => exact absurd y (h.1 rfl i)
    | some j2 =>
      have a := hq j2 rfl
      have b := (h.2 j2 rfl).2 i y
      omega
  · exact y
/-- 1000000, or what the best has -/
def qL (f : Nat → Nat) (q : Option Nat) : Nat := match q with
  | none => 1000000
  | some j => f j
theorem qL_n (f : Nat → Nat) : qL f none = 1000000 := rfl
theorem qL_s (f : Nat → Nat) (j : Nat) : qL f (some j) = f j := rfl
def zFl (w v : gW) : Prop := zAg (fun a b => a == 99 && (b == 6 || b == 7)) (fun a => a == 74 || a == 100) w v
theorem zFl.rf (w : gW) : zFl w w := zAg.rf _ _ _
theorem zFl.tr {u w v : gW} (h : zFl u w) (k : zFl w v) : zFl u v := zAg.tr h k
theorem zFl.e {u w v : gW} (h : zE u w) (k : zFl w v) : zE u v := zAg.tr (show zAg zScrI zScrL u w from h) (zAg.wk k (fun a b q => by
  rw [Bool.and_eq_true, beq_iff_eq] at q
  obtain ⟨rfl, q⟩ := q
  exact q) (fun a q => by
  rw [Bool.or_eq_true, beq_iff_eq, beq_iff_eq] at q
  rcases q with q | q <;> subst q <;> rfl))
theorem zFl.l {u w : gW} (h : zFl u w) {a : Nat} (h1 : a ≠ 74) (h2 : a ≠ 100) (b : Nat) : w.2 a b = u.2 a b := h.2 a b (by rw [Bool.or_eq_false_iff, beq_eq_false_iff_ne, beq_eq_false_iff_ne]; exact ⟨h1, h2⟩)
theorem zFl.s {u w : gW} (h : zFl u w) (j : Nat) (x : Int64) : zFl u (zsL w 100 j x) := zAg.sL h x rfl
theorem zFl.i {u w : gW} (h : zFl u w) (j : Nat) (x : Int32) (hj : j = 6 ∨ j = 7) : zFl u (zsI w 99 j x) := zAg.sI h x (by rcases hj with e | e <;> subst e <;> rfl)
theorem zSk.fl {w v : gW} (h : zSk w v) : zFl w v := zAg.wk h (fun _ _ q => by cases q) (fun a q => by rw [q]; rfl)
section
variable {u : gW}
/-- what of a set of sworn ones does not hold costs -/
def ypk (u : gW) (S th k : Nat) : Nat → Nat
  | 0 => 0
  | i + 1 => ypk u S th k i + (if (S.testBit i && !yHs u i th k) = true then ix (u.1 122 i) else 0)
def ypK (u : gW) (S th k : Nat) : Nat := ypk u S th k (yS u)
theorem ypk_le (R : jRec u) (S th k : Nat) : ∀ i, i ≤ yS u → ypk u S th k i ≤ 99 * i
  | 0, _ => Nat.le_refl _
  | i + 1, hi => by
    have a := ypk_le R S th k i (by omega)
    have b := (R.1 i (by omega)).2.2.2.2.2
    unfold ypk
    split <;> omega
theorem ypk_mo (u : gW) (S th k i : Nat) : ∀ m, ypk u S th k i ≤ ypk u S th k (i + m)
  | 0 => Nat.le_refl _
  | m + 1 => by
    have a := ypk_mo u S th k i m
    show _ ≤ ypk u S th k (i + m) + _
    omega
/-- the class's least: cost and place -/
def LsC (f : Nat → Nat) (q : Option Nat) (v : gW) : Prop := v.1 99 6 = nI (qL f q) ∧ v.1 99 7 = qN q
theorem Ro_first {x : Int64} {W : Nat} (hW : W < 263) (hx : ¬ x = 0) (w : gW) : ∃ b, b < 64 ∧ bL x b = true ∧ (∀ i, i < b → bL x i = false) ∧ f_Ro_firstPlace x (nI W) w = some (nI (64 * W + b), w) := by
  obtain ⟨b0, hb0, hb1⟩ := bL_nz.mp hx
  have hpos : 0 < fb_ct (bL x) 64 := by
    have := fb_ct_lt (p := bL x) hb0 hb1
    omega
  obtain ⟨b, c1, c2, c3⟩ := ct_first hpos
  refine ⟨b, c1, c2, c3, ?_⟩
  unfold f_Ro_firstPlace
  rw [Lng_ntz x w c1 c2 c3, zb_s, n_sl6 (by omega), nI_add, Nat.mul_comm]
def wdO (u : gW) (S th W : Nat) (v : gW) : Prop := ∀ i, i < yS u → ∀ b, b < 64 → 64 * W + b < yT u → bL (v.2 100 i) b = (!S.testBit i || yHs u i th (64 * W + b))
theorem Le_part' (K : zK u) (R : jRec u) {S th W : Nat} (hW : W < 263) : ∀ (m i fu : Nat), i + m = yS u → m < fu → ∀ (lives : Int64) (cost : Nat) (v : gW) (q : Option Nat) (P : Nat → Prop), zE u v → wdO u S th W v → LsC (ypK u S th) q v → isM P (ypK u S th) q → (∀ j, q = some j → ypK u S th j ≤ 990 ∧ j < 20000) → (∀ b, b < 64 → bL lives b = true → 64 * W + b < yT u ∧ cost = ypk u S th (64 * W + b) i) → ∃ (v' : gW) (q' : Option Nat), zfx (fun _ _ _ _ _ => none) f_Le_part_rec fu lives (nI W) (nI i) (nI cost) v = some ((), v') ∧ zFl v v' ∧ v'.2 = v.2 ∧ LsC (ypK u S th) q' v' ∧ isM (fun k => P k ∨ ∃ b, b < 64 ∧ bL lives b = true ∧ k = 64 * W + b) (ypK u S th) q' ∧ (∀ j, q' = some j → ypK u S th j ≤ 990 ∧ j < 20000) := by
  have h10 := K.S10
  have hT := K.T7
  intro m
  induction m with
  | zero =>
    intro i fu hi hf lives cost v q P hv hw hL hM hq hc
    obtain ⟨f', rfl⟩ : ∃ f', fu = f' + 1 := ⟨fu - 1, by omega⟩
    rw [zfx_s]
    generalize zfx (fun _ _ _ _ _ => none) f_Le_part_rec f' = Z
    unfold f_Le_part_rec
    by_cases l0 : lives = 0
    · rw [if_pos ((lc_eq _ _).mpr l0)]
      refine ⟨v, q, rfl, zFl.rf v, rfl, hL, hM.cg (fun k => ⟨Or.inl, fun z => ?_⟩), hq⟩
      rcases z with z | ⟨b, b1, b2, _⟩
      · exact z
      · rw [l0, bL_0] at b2; cases b2
    · rw [if_neg (fun z => l0 ((lc_eq _ _).mp z)), hL.1]
      obtain ⟨b, b1, b2, b3, e1⟩ := Ro_first hW l0 v
      have cb := hc b b1 b2
      have iS : i = yS u := by omega
      have ec : cost = ypK u S th (64 * W + b) := by rw [cb.2, iS]; rfl
      have cle : cost ≤ 990 := by
        have := ypk_le R S th (64 * W + b) (yS u) (Nat.le_refl _)
        unfold ypK at ec
        omega
      have qle : qL (ypK u S th) q < 2 ^ 31 := by
        cases q with
        | none => rw [qL_n]; decide
        | some j => rw [qL_s]; have := (hq j rfl).1; omega
      -- all of them cost the same
      have same : ∀ b', b' < 64 → bL lives b' = true → ypK u S th (64 * W + b') = cost ∧ b ≤ b' := by
        intro b' h1 h2
        refine ⟨by rw [(hc b' h1 h2).2, iS]; rfl, ?_⟩
        apply Nat.le_of_not_lt
        intro z
        rw [b3 b' z] at h2
        cases h2
      have keepIt : ∀ j, q = some j → (ypK u S th j < cost ∨ (ypK u S th j = cost ∧ j ≤ 64 * W + b)) → ∃ (v' : gW) (q' : Option Nat), some ((), v) = some ((), v') ∧ zFl v v' ∧ v'.2 = v.2 ∧ LsC (ypK u S th) q' v' ∧ isM (fun k => P k ∨ ∃ b, b < 64 ∧ bL lives b = true ∧ k = 64 * W + b) (ypK u S th) q' ∧ (∀ j, q' = some j → ypK u S th j ≤ 990 ∧ j < 20000) := by
        intro j ej hj
        refine ⟨v, q, rfl, zFl.rf v, rfl, hL, hM.keep (fun k z => ?_) (fun k z => Or.inl z), hq⟩
        rcases z with z | ⟨b', b1', b2', rfl⟩
        · exact Or.inl z
        · have := same b' b1' b2'
          exact Or.inr ⟨j, ej, by omega⟩
      by_cases q1 : nI cost ≤ nI (qL (ypK u S th) q)
      · rw [if_pos q1]
        have q1' := (n_le (by omega) qle).mp q1
        have fin : ∃ (v' : gW) (q' : Option Nat), f_Le_part_b40 Z lives (nI W) (nI cost) v = some ((), v') ∧ zFl v v' ∧ v'.2 = v.2 ∧ LsC (ypK u S th) q' v' ∧ isM (fun k => P k ∨ ∃ b, b < 64 ∧ bL lives b = true ∧ k = 64 * W + b) (ypK u S th) q' ∧ (∀ j, q' = some j → ypK u S th j ≤ 990 ∧ j < 20000) := by
          unfold f_Le_part_b40
          rw [e1, zb_s, hL.1]
          have take : (∀ j, q = some j → cost < ypK u S th j ∨ (cost = ypK u S th j ∧ 64 * W + b ≤ j)) → ∃ (v' : gW) (q' : Option Nat), f_Le_part_b65 Z (nI cost) (nI (64 * W + b)) v = some ((), v') ∧ zFl v v' ∧ v'.2 = v.2 ∧ LsC (ypK u S th) q' v' ∧ isM (fun k => P k ∨ ∃ b, b < 64 ∧ bL lives b = true ∧ k = 64 * W + b) (ypK u S th) q' ∧ (∀ j, q' = some j → ypK u S th j ≤ 990 ∧ j < 20000) := by
            intro hbest
            unfold f_Le_part_b65
            rw [zl_s, zl_s]
            refine ⟨_, some (64 * W + b), rfl, ((zFl.rf v).i _ _ (Or.inl rfl)).i _ _ (Or.inr rfl), rfl, ⟨?_, ?_⟩, hM.new (Or.inr ⟨b, b1, b2, rfl⟩) (fun j ej => ?_) (fun k z => ?_), fun j ej => ?_⟩
            · rw [zsI_g, if_neg (by omega), zsI_g, if_pos ⟨rfl, rfl⟩, qL_s, ec]
            · rw [zsI_g, if_pos ⟨rfl, rfl⟩, qN_s]
            · rw [← ec]; exact hbest j ej
            · rcases z with z | ⟨b', b1', b2', rfl⟩
              · exact Or.inl z
              · have := same b' b1' b2'
                right
                rw [← ec]
                omega
            · cases ej
              rw [← ec]
              exact ⟨cle, by omega⟩
          by_cases q2 : nI cost < nI (qL (ypK u S th) q)
          · rw [if_pos q2]
            have q2' := (n_lt (by omega) qle).mp q2
            exact take (fun j ej => by rw [ej, qL_s] at q2'; exact Or.inl q2')
          · rw [if_neg q2]
            have q2' : ¬ cost < qL (ypK u S th) q := fun z => q2 ((n_lt (by omega) qle).mpr z)
            cases q with
            | none => rw [qL_n] at q2'; omega
            | some j =>
              rw [qL_s] at q2' q1'
              have hj := (hq j rfl).2
              rw [hL.2, qN_s]
              by_cases q3 : nI j ≤ nI (64 * W + b)
              · rw [if_pos q3]
                have q3' := (n_le (by omega) (by omega)).mp q3
                exact keepIt j rfl (by omega)
              · rw [if_neg q3]
                have q3' : ¬ j ≤ 64 * W + b := fun z => q3 ((n_le (by omega) (by omega)).mpr z)
                exact take (fun j2 ej => by cases ej; omega)
        rw [if_neg (nI_pos (by omega))]
        unfold f_An_swornCount
        rw [zb_s, hv.k.i rfl, K.C.2.2.2.2.1.1, if_pos (by rw [n_le (by omega) (by omega)]; omega)]
        exact fin
      · rw [if_neg q1]
        have q1' : ¬ cost ≤ qL (ypK u S th) q := fun z => q1 ((n_le (by omega) qle).mpr z)
        cases q with
        | none => rw [qL_n] at q1'; omega
        | some j => rw [qL_s] at q1'; exact keepIt j rfl (by omega)
  | succ m ih =>
    intro i fu hi hf lives cost v q P hv hw hL hM hq hc
    obtain ⟨f', rfl⟩ : ∃ f', fu = f' + 1 := ⟨fu - 1, by omega⟩
    rw [zfx_s]
    have ihf := ih (i + 1) f' (by omega) (by omega)
    generalize zfx (fun _ _ _ _ _ => none) f_Le_part_rec f' = Z at ihf ⊢
    unfold f_Le_part_rec
    by_cases l0 : lives = 0
    · rw [if_pos ((lc_eq _ _).mpr l0)]
      refine ⟨v, q, rfl, zFl.rf v, rfl, hL, hM.cg (fun k => ⟨Or.inl, fun z => ?_⟩), hq⟩
      rcases z with z | ⟨b, b1, b2, _⟩
      · exact z
      · rw [l0, bL_0] at b2; cases b2
    · rw [if_neg (fun z => l0 ((lc_eq _ _).mp z)), hL.1]
      obtain ⟨b0, b01, b02⟩ := bL_nz.mp l0
      have c0 := hc b0 b01 b02
      have cle : cost ≤ 990 := by
        have := ypk_le R S th (64 * W + b0) i (by omega)
        omega
      have qle : qL (ypK u S th) q < 2 ^ 31 := by
        cases q with
        | none => rw [qL_n]; decide
        | some j => rw [qL_s]; have := (hq j rfl).1; omega
      by_cases q1 : nI cost ≤ nI (qL (ypK u S th) q)
      · have e10 : nI i < (10 : Int32) := by rw [show (10 : Int32) = nI 10 from rfl, n_lt (by omega) (by omega)]; omega
        have ii : inb (nI i) 10 := z_inbn (by omega) (by decide)
        rw [if_pos q1, if_neg (nI_pos (by omega))]
        unfold f_An_swornCount
        rw [zb_s, hv.k.i rfl, K.C.2.2.2.2.1.1, if_neg (by rw [n_le (by omega) (by omega)]; omega), if_pos e10, if_pos ii, z_ix (by omega), n_1]
        have hwi := hw i (by omega)
        obtain ⟨v1, q', r1, r2, r3, r4, r5, r6⟩ := ihf (lives &&& v.2 100 i) cost v q P hv hw hL hM hq (fun b b1 b2 => by
          rw [bL_and, Bool.and_eq_true] at b2
          have c := hc b b1 b2.1
          refine ⟨c.1, ?_⟩
          have d := hwi b b1 c.1
          rw [b2.2] at d
          show cost = ypk u S th (64 * W + b) i + _
          rw [if_neg (fun z => ?_)]
          · exact c.2
          · rw [Bool.and_eq_true, Bool.not_eq_true'] at z
            rw [z.1, z.2] at d
            cases d)
        have hv1 := zFl.e hv r2
        rw [r1, zb_s, if_pos ii, An_costOf' K R hv1.k (by omega), zb_s, nI_add, show v1.2 100 i = v.2 100 i by rw [r3]]
        obtain ⟨v2, q'', s1, s2, s3, s4, s5, s6⟩ := ihf (lives &&& (v.2 100 i ^^^ (-1))) (cost + ix (u.1 122 i)) v1 q' _ hv1 (by intro a ha b hb hk; rw [r3]; exact hw a ha b hb hk) r4 r5 r6 (fun b b1 b2 => by
          rw [bL_and, Bool.and_eq_true, bL_not _ b1, Bool.not_eq_true'] at b2
          have c := hc b b1 b2.1
          refine ⟨c.1, ?_⟩
          have d := hwi b b1 c.1
          rw [b2.2] at d
          show _ = ypk u S th (64 * W + b) i + _
          rw [if_pos, c.2]
          cases e1 : S.testBit i with
          | false => rw [e1] at d; cases d
          | true => cases e2 : yHs u i th (64 * W + b) with
            | false => rfl
            | true => rw [e1, e2] at d; cases d)
        rw [s1, zb_s]
        refine ⟨v2, q'', rfl, r2.tr s2, by rw [s3, r3], s4, s5.cg (fun k => ?_), s6⟩
        constructor
        · intro z
          rcases z with (z | ⟨b, b1, b2, b3⟩) | ⟨b, b1, b2, b3⟩
          · exact Or.inl z
          · rw [bL_and, Bool.and_eq_true] at b2
            exact Or.inr ⟨b, b1, b2.1, b3⟩
          · rw [bL_and, Bool.and_eq_true] at b2
            exact Or.inr ⟨b, b1, b2.1, b3⟩
        · intro z
          rcases z with z | ⟨b, b1, b2, b3⟩
          · exact Or.inl (Or.inl z)
          · cases e : bL (v.2 100 i) b with
            | true => exact Or.inl (Or.inr ⟨b, b1, by rw [bL_and, b2, e]; rfl, b3⟩)
            | false => exact Or.inr ⟨b, b1, by rw [bL_and, b2, bL_not _ b1, e]; rfl, b3⟩
      · rw [if_neg q1]
        have q1' : ¬ cost ≤ qL (ypK u S th) q := fun z => q1 ((n_le (by omega) qle).mpr z)
        cases q with
        | none => rw [qL_n] at q1'; omega
        | some j =>
          rw [qL_s] at q1'
          refine ⟨v, some j, rfl, zFl.rf v, rfl, hL, hM.keep (fun k z => ?_) (fun k z => Or.inl z), hq⟩
          rcases z with z | ⟨b, b1, b2, rfl⟩
          · exact Or.inl z
          · have c := hc b b1 b2
            have mo := ypk_mo u S th (64 * W + b) i (m + 1)
            rw [hi] at mo
            refine Or.inr ⟨j, rfl, Or.inl ?_⟩
            show _ < ypk u S th (64 * W + b) (yS u)
            omega
end
