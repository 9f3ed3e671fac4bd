/-! PURE: hinders, plan -/
section
variable {u : gW}
theorem n_b0 {x : Nat} (_ : x < 2 ^ 31) : nI x &&& (1 : Int32) = bI (x.testBit 0) := by
  show nI x &&& nI 1 = _
  rw [n_and, Nat.and_one_is_mod, Nat.testBit_zero]
  rcases Nat.mod_two_eq_zero_or_one x with q | q <;> rw [q] <;> rfl
theorem n_bit2 {r a b : Nat} (h : r < 2 ^ 31) (ha : a < 32) (hb : b < 32) : ((nI r >>> (nI a &&& 31)) &&& (nI r >>> (nI b &&& 31))) &&& (1 : Int32) = bI (r.testBit a && r.testBit b) := by
  rw [n_shr h ha, n_shr h hb, n_and, n_b0 (Nat.lt_of_le_of_lt Nat.and_le_left (Nat.lt_of_le_of_lt (Nat.div_le_self _ _) h)), Nat.testBit_and, Nat.testBit_div_two_pow, Nat.testBit_div_two_pow, Nat.zero_add, Nat.zero_add]
theorem n_andn {a b : Nat} (ha : a < 2 ^ 31) : (nI a &&& (nI b ^^^ (-1 : Int32)) = 0) ↔ ∀ i, a.testBit i = true → i < 32 → b.testBit i = true := by
  constructor
  · intro h i hi h32
    have e := congrArg (fun x => bt x i) h
    have e0 : bt 0 i = false := BitVec.getLsbD_zero
    simp only [b_and, b_xor, b_m1 i h32, b_nI _ h32, e0, hi, Bool.true_and] at e
    cases q : b.testBit i with
    | true => rfl
    | false => rw [q] at e; cases e
  · intro h
    apply b_ext
    intro i h32
    have e0 : bt 0 i = false := BitVec.getLsbD_zero
    rw [b_and, b_xor, b_m1 i h32, b_nI _ h32, b_nI _ h32, e0]
    cases q : a.testBit i with
    | false => rfl
    | true => rw [h i q h32]; rfl
theorem yhB_b (K : zK u) {s k i : Nat} (hi : i < yO u) : (yhB u s k).testBit i = true ↔ yH u i s (yal u) k = true := (yhb_B u s k (yO u)).2 i hi
theorem LD_a {s : Nat} {w : gW} (h : LD u s (yT u) w) {i : Nat} (hi : i < fb_ct (yfi u) (yT u)) : ∃ k, k < yT u ∧ yfi u k = true ∧ w.1 128 i = nI (yhB u s k) := by
  obtain ⟨k, k1, k2, k3⟩ := ct_kth hi
  exact ⟨k, k1, k2, by rw [← k3]; exact h.2.2.2.1 k k1 k2⟩
theorem LD_b {s : Nat} {w : gW} (h : LD u s (yT u) w) {k : Nat} (hk : k < yT u) (hf : yfi u k = true) : ∃ i, i < fb_ct (yfi u) (yT u) ∧ w.1 128 i = nI (yhB u s k) := ⟨fb_ct (yfi u) k, fb_ct_lt hk hf, h.2.2.2.1 k hk hf⟩
/-- pairs that hinder -/
def yHi (u : gW) (s a b : Nat) : Prop := ((ysm u s (yT u)).testBit a && (ysm u s (yT u)).testBit b) = true ∧ ¬ yCB u s a b
noncomputable def yPr (u : gW) (s a b : Nat) : Nat := @ite Nat (yHi u s a b) (Classical.propDecidable _) 1 0
theorem yPr_1 {s a b : Nat} (h : yHi u s a b) : yPr u s a b = 1 := if_pos h
theorem yPr_0 {s a b : Nat} (h : ¬ yHi u s a b) : yPr u s a b = 0 := if_neg h
noncomputable def yP2 (u : gW) (s a : Nat) : Nat → Nat → Nat
  | _, 0 => 0
  | b, m + 1 => yPr u s a b + yP2 u s a (b + 1) m
noncomputable def yP1 (u : gW) (s : Nat) : Nat → Nat → Nat
  | _, 0 => 0
  | a, m + 1 => yP2 u s a (a + 1) m + yP1 u s (a + 1) m
theorem Cs_hind (K : zK u) (C : jCou u) {w : gW} (h : zE u w) {s : Nat} (hA : hAl u s w) : f_Cs_hindering_b15 (nI (ysm u s (yT u))) (0 : Int32) (0 : Int32) w = some (nI (yP1 u s 0 (yO u)), w) := by
  have h8 := K.O8
  have hsm := ysm_lt K s (yT u)
  have key := zfx_ind (fun _ _ _ _ => none) f_Cs_hindering_b15_s (fun m kk => ∀ a acc, a + m = yO u → kk (nI (ysm u s (yT u))) (nI acc) (nI a) w = some (nI (acc + yP1 u s a m), w)) (fun m kk ih a acc ha => by
    unfold f_Cs_hindering_b15_s
    rw [Oa_size' K h.k, zb_s]
    cases m with
    | zero =>
      rw [if_pos (by rw [n_le (by omega) (by omega)]; omega)]
      rfl
    | succ m =>
      rw [if_neg (by rw [n_le (by omega) (by omega)]; omega), zl_s, n_1]
      have inner := zfx_ind (fun _ _ _ _ _ => none) (f_Cs_hindering_b33_s kk) (fun m2 k2 => ∀ b acc2, b + m2 = yO u → k2 (nI (ysm u s (yT u))) (nI acc2) (nI a) (nI b) w = kk (nI (ysm u s (yT u))) (nI (acc2 + yP2 u s a b m2)) (nI (a + 1)) w) (fun m2 k2 ih2 b acc2 hb => by
        unfold f_Cs_hindering_b33_s
        rw [Oa_size' K h.k, zb_s]
        cases m2 with
        | zero =>
          rw [if_pos (by rw [n_le (by omega) (by omega)]; omega), zl_s, n_1]
          rfl
        | succ m2 =>
          rw [if_neg (by rw [n_le (by omega) (by omega)]; omega), n_bit2 (by omega) (by omega) (by omega)]
          have st : ∀ c, c = yPr u s a b → f_Cs_hindering_b88 kk k2 (nI (ysm u s (yT u))) (nI a) (nI b) (nI acc2) (nI c) w = kk (nI (ysm u s (yT u))) (nI (acc2 + yP2 u s a b (m2 + 1))) (nI (a + 1)) w := by
            intro c hc
            subst hc
            unfold f_Cs_hindering_b88
            rw [nI_add, zl_s, zl_s, n_1, ih2 m2 (by omega) (b + 1) _ (by omega)]
            show kk _ (nI (acc2 + yPr u s a b + yP2 u s a (b + 1) m2)) _ _ = kk _ (nI (acc2 + (yPr u s a b + yP2 u s a (b + 1) m2))) _ _
            rw [Nat.add_assoc]
          unfold f_Cs_hindering_b64 f_Cs_hindering_b87
          cases e : ((ysm u s (yT u)).testBit a && (ysm u s (yT u)).testBit b) with
          | false =>
            rw [if_pos bf0, if_pos z00]
            exact st 0 (yPr_0 (fun z => by have := z.1; rw [e] at this; cases this)).symm
          | true =>
            rw [if_neg bt0, if_neg z10]
            obtain ⟨bb, b1, b2⟩ := Cs_canBoth' K C h (s := s) (i := a) (j := b) (by omega) (by omega) (hA a (by omega)) (hA b (by omega))
            rw [b1, zb_s]
            cases bb with
            | false =>
              rw [if_pos bf0]
              exact st 1 (yPr_1 ⟨e, fun z => by have := b2.mpr z; cases this⟩).symm
            | true =>
              rw [if_neg bt0]
              exact st 0 (yPr_0 (fun z => z.2 (b2.mp rfl))).symm) zFU m (zfu (by omega))
      show f_Cs_hindering_b33 kk (nI (ysm u s (yT u))) (nI acc) (nI a) (nI (a + 1)) w = _
      rw [show f_Cs_hindering_b33 kk (nI (ysm u s (yT u))) (nI acc) (nI a) (nI (a + 1)) w = _ from inner (a + 1) acc (by omega), ih m (by omega) (a + 1) _ (by omega)]
      show some (nI (acc + yP2 u s a (a + 1) m + yP1 u s (a + 1) m), w) = some (nI (acc + (yP2 u s a (a + 1) m + yP1 u s (a + 1) m)), w)
      rw [Nat.add_assoc]) zFU (yO u) (zfu (by omega))
  have k0 := key 0 0 (by omega)
  rw [Nat.zero_add] at k0
  exact k0
theorem M_hind (K : zK u) {w : gW} (h : zE u w) {s : Nat} (hL : LD u s (yT u) w) : f_M_hinders_b24 (0 : Int32) (0 : Int32) w = some (nI (yP1 u s 0 (yO u)), w) := by
  have h8 := K.O8
  have ht := K.T7
  have hsm := ysm_lt K s (yT u)
  have hM := fb_ct_le (yfi u) (yT u)
  have e6 : w.1 107 6 = nI (yO u) := (h.k.i rfl).trans K.C.2.2.2.1.2
  have key := zfx_ind (fun _ _ _ => none) f_M_hinders_b24_s (fun m kk => ∀ a acc, a + m = yO u → kk (nI acc) (nI a) w = some (nI (acc + yP1 u s a m), w)) (fun m kk ih a acc ha => by
    unfold f_M_hinders_b24_s
    rw [e6]
    cases m with
    | zero =>
      rw [if_pos (by rw [n_le (by omega) (by omega)]; omega)]
      rfl
    | succ m =>
      rw [if_neg (by rw [n_le (by omega) (by omega)]; omega), zl_s, n_1]
      have inner := zfx_ind (fun _ _ _ _ => none) (f_M_hinders_b37_s kk) (fun m2 k2 => ∀ b acc2, b + m2 = yO u → k2 (nI acc2) (nI a) (nI b) w = kk (nI (acc2 + yP2 u s a b m2)) (nI (a + 1)) w) (fun m2 k2 ih2 b acc2 hb => by
        unfold f_M_hinders_b37_s
        rw [e6]
        cases m2 with
        | zero =>
          rw [if_pos (by rw [n_le (by omega) (by omega)]; omega), zl_s, n_1]
          rfl
        | succ m2 =>
          rw [if_neg (by rw [n_le (by omega) (by omega)]; omega)]
          have st : ∀ c, c = yPr u s a b → f_M_hinders_b142 kk k2 (nI a) (nI b) (nI acc2) (nI c) w = kk (nI (acc2 + yP2 u s a b (m2 + 1))) (nI (a + 1)) w := by
            intro c hc
            subst hc
            unfold f_M_hinders_b142
            rw [nI_add, zl_s, zl_s, n_1, ih2 m2 (by omega) (b + 1) _ (by omega)]
            show kk (nI (acc2 + yPr u s a b + yP2 u s a (b + 1) m2)) _ _ = kk (nI (acc2 + (yPr u s a b + yP2 u s a (b + 1) m2))) _ _
            rw [Nat.add_assoc]
          have loop := zfx_ind (fun _ _ _ _ _ _ => none) (f_M_hinders_b52_s kk k2) (fun m3 k3 => ∀ i (bo : Bool), i + m3 = fb_ct (yfi u) (yT u) → (bo = true ↔ ∃ j, j < i ∧ ∃ k, k < yT u ∧ yfi u k = true ∧ w.1 128 j = nI (yhB u s k) ∧ ((yhB u s k).testBit a && (yhB u s k).testBit b) = true) → k3 (nI acc2) (nI a) (nI b) (bI bo) (nI i) w = kk (nI (acc2 + yP2 u s a b (m2 + 1))) (nI (a + 1)) w) (fun m3 k3 ih3 i bo hi hbo => by
            unfold f_M_hinders_b52_s
            rw [hL.2.2.1]
            cases m3 with
            | zero =>
              rw [if_pos (by rw [n_le (by omega) (by omega)]; omega), hL.1, M_hasB _ _ (by omega) (by omega), zb_s]
              have hcb : bo = true ↔ yCB u s a b := by
                rw [hbo]
                constructor
                · intro ⟨j, j1, k, k1, k2', k3', k4⟩
                  rw [Bool.and_eq_true, yhB_b K (by omega), yhB_b K (by omega)] at k4
                  exact ⟨k, k1, k2', k4.1, k4.2⟩
                · intro ⟨k, k1, k2', k3', k4⟩
                  obtain ⟨j, j1, j2⟩ := LD_b hL k1 k2'
                  exact ⟨j, by omega, k, k1, k2', j2, by rw [Bool.and_eq_true, yhB_b K (by omega), yhB_b K (by omega)]; exact ⟨k3', k4⟩⟩
              unfold f_M_hinders_b141
              cases ea : (ysm u s (yT u)).testBit a with
              | false =>
                rw [if_pos bf0]
                exact st 0 (yPr_0 (fun z => by have := z.1; rw [ea] at this; cases this)).symm
              | true =>
                rw [if_neg bt0, hL.1, M_hasB _ _ (by omega) (by omega), zb_s]
                cases eb : (ysm u s (yT u)).testBit b with
                | false =>
                  rw [if_pos bf0]
                  exact st 0 (yPr_0 (fun z => by have := z.1; rw [ea, eb] at this; cases this)).symm
                | true =>
                  rw [if_neg bt0]
                  cases bo with
                  | false =>
                    rw [if_pos bf0]
                    exact st 1 (yPr_1 ⟨by rw [ea, eb]; rfl, fun z => by have := hcb.mpr z; cases this⟩).symm
                  | true =>
                    rw [if_neg bt0]
                    exact st 0 (yPr_0 (fun z => z.2 (hcb.mp rfl))).symm
            | succ m3 =>
              rw [if_neg (by rw [n_le (by omega) (by omega)]; omega)]
              obtain ⟨k, k1, k2', k3'⟩ := LD_a hL (i := i) (by omega)
              have hB := yhB_lt K s k
              have go : ∀ b2 : Bool, (b2 = true ↔ bo = true ∨ ((yhB u s k).testBit a && (yhB u s k).testBit b) = true) → k3 (nI acc2) (nI a) (nI b) (bI b2) (nI (i + 1)) w = kk (nI (acc2 + yP2 u s a b (m2 + 1))) (nI (a + 1)) w := by
                intro b2 h2
                refine ih3 m3 (by omega) (i + 1) b2 (by omega) ?_
                rw [h2, hbo]
                constructor
                · intro z
                  rcases z with ⟨j, j1, z⟩ | z
                  · exact ⟨j, by omega, z⟩
                  · exact ⟨i, by omega, k, k1, k2', k3', z⟩
                · intro ⟨j, j1, k', z1, z2, z3, z4⟩
                  by_cases q : j = i
                  · subst q
                    have hB' := yhB_lt K s k'
                    rw [k3'] at z3
                    have e := (n_eq (by omega) (by omega)).mp z3
                    rw [← e] at z4
                    exact Or.inr z4
                  · exact Or.inl ⟨j, by omega, k', z1, z2, z3, z4⟩
              unfold f_M_hinders_b95 f_M_hinders_b99 f_M_hinders_b100
              cases bo with
              | true =>
                rw [if_neg bt0, zl_s, n_1]
                exact go true ⟨fun _ => Or.inl rfl, fun _ => rfl⟩
              | false =>
                have i16 : inb (nI i) 16807 := z_inbn (by omega) (by decide)
                rw [if_pos bf0, if_pos i16, z_ix (by omega), k3', M_hasB _ _ (by omega) (by omega), zb_s]
                cases ea : (yhB u s k).testBit a with
                | false =>
                  rw [if_pos bf0, zl_s, n_1]
                  exact go false ⟨fun z => (by cases z), fun z => by rcases z with z | z; exact absurd z (by decide); rw [ea] at z; cases z⟩
                | true =>
                  rw [if_neg bt0, if_pos i16, k3', M_hasB _ _ (by omega) (by omega), zb_s]
                  cases eb : (yhB u s k).testBit b with
                  | false =>
                    rw [if_pos bf0, zl_s, n_1]
                    exact go false ⟨fun z => (by cases z), fun z => by rcases z with z | z; exact absurd z (by decide); rw [ea, eb] at z; cases z⟩
                  | true =>
                    rw [if_neg bt0, zl_s, n_1]
                    exact go true ⟨fun _ => Or.inr (by rw [ea, eb]; rfl), fun _ => rfl⟩) zFU (fb_ct (yfi u) (yT u)) (zfu (by omega))
          exact loop 0 false (by omega) ⟨fun z => (by cases z), fun ⟨j, z, _⟩ => absurd z (Nat.not_lt_zero j)⟩) zFU m (zfu (by omega))
      rw [show f_M_hinders_b37 kk (nI acc) (nI a) (nI (a + 1)) w = _ from inner (a + 1) acc (by omega), ih m (by omega) (a + 1) _ (by omega)]
      show some (nI (acc + yP2 u s a (a + 1) m + yP1 u s (a + 1) m), w) = some (nI (acc + (yP2 u s a (a + 1) m + yP1 u s (a + 1) m)), w)
      rw [Nat.add_assoc]) zFU (yO u) (zfu (by omega))
  have k0 := key 0 0 (by omega)
  rw [Nat.zero_add] at k0
  exact k0
theorem q_hinders (J : zJ u) (a : Int32) : zQ u (f_X_hinders a) (f_M_hinders a) := by
  have K := J.K
  have h6 := K.Y6
  cases g : gD u a with
  | false =>
    refine ⟨-1, fun v hv => ⟨v, ?_, hv⟩, fun v hv => ⟨_, ?_, hv.m0⟩⟩
    · unfold f_X_hinders
      rw [La_isDay' K hv.k, zb_s, g, if_pos bf0]
    · unfold f_M_hinders
      rw [zl_s, M_isSeenDay' K hv.m0.k, zb_s, g, if_pos bf0]
  | true =>
    obtain ⟨s, rfl, hs, h0⟩ := gD_t g
    refine ⟨nI (yP1 u s 0 (yO u)), fun v hv => ?_, fun v hv => ?_⟩
    · obtain ⟨v1, e1, e2, e3⟩ := Cs_hearAll' K J.C hv (s := s) (by omega)
      refine ⟨v1, ?_, zRw.h hv e2⟩
      unfold f_X_hinders f_Cs_hindering
      rw [La_isDay' K hv.k, zb_s, g, if_neg bt0, e1, zb_s, Cs_open K J.C (zRw.h hv e2) e3, zb_s, Cs_hind K J.C (zRw.h hv e2) e3, zb_s]
    · obtain ⟨v1, e1, e2, e3⟩ := M_layDay K J.R hv.m0 (s := s) (by omega)
      refine ⟨v1, ?_, e2⟩
      unfold f_M_hinders
      rw [zl_s, M_isSeenDay' K hv.m0.k, zb_s, g, if_neg bt0, e1, zb_s]
      exact M_hind K e2 e3
end
