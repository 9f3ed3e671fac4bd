/-! PURE: shares of a duel -/
section
variable {u : gW}
/-- the code of a choice: none is the last place -/
def cod (u : gW) (i : Nat) : Nat := if i = yO u then 9 else i
noncomputable def shV (u : gW) (s : Nat) (pr : Int32) (i j : Nat) : Int32 := if i = yO u then 0 else @ite Int32 (yTg u s i j) (Classical.propDecidable _) (u.1 131 i) (-pr)
theorem shV_O (s : Nat) (pr : Int32) (j : Nat) : shV u s pr (yO u) j = 0 := if_pos rfl
theorem shV_t {s : Nat} {pr : Int32} {i j : Nat} (hi : i < yO u) (h : yTg u s i j) : shV u s pr i j = u.1 131 i := by
  unfold shV
  rw [if_neg (by omega)]
  exact if_pos h
theorem shV_f {s : Nat} {pr : Int32} {i j : Nat} (hi : i < yO u) (h : ¬ yTg u s i j) : shV u s pr i j = -pr := by
  unfold shV
  rw [if_neg (by omega)]
  exact if_neg h
theorem Ga_share (K : zK u) (G : jGai u) {w : gW} (h : zE u w) {s : Nat} {pr : Int32} (T : GT u s w) (hp : w.1 105 3 = pr) {i j : Nat} (hi : i ≤ yO u) (hj : j ≤ yO u) : f_Ga_shareOf (nI i) (nI j) w = some (shV u s pr i j, w) := by
  have h8 := K.O8
  unfold f_Ga_shareOf
  rw [if_neg (nI_pos (by omega)), Oa_size' K h.k, zb_s]
  by_cases q : i = yO u
  · subst q
    rw [if_pos (by rw [n_le (by omega) (by omega)]; omega), shV_O]
  · have hi2 : i < yO u := by omega
    rw [if_neg (by rw [n_le (by omega) (by omega)]; omega), if_pos (by rw [n_lt (by omega) (by omega)]; omega), if_pos (z_inbn (by omega) (by omega)), z_ix (by omega)]
    obtain ⟨B, b1, b2⟩ := T i hi2
    have hB : B < 512 := Nat.lt_of_lt_of_le b2.1 (show 2 ^ (yO u + 1) ≤ 2 ^ 9 from Nat.pow_le_pow_right (by decide) (by omega))
    rw [b1, n_bit (by omega) (by omega)]
    by_cases c : yTg u s i j
    · rw [(b2.2 j (by omega)).mpr c, if_neg bt0, shV_t hi2 c]
      unfold f_Oa_gain
      rw [Oa_hasB K h.k, zb_s, show gO u (nI i) = true by unfold gO; rw [i_nI (by omega)]; exact decide_eq_true ⟨by omega, by omega⟩, if_neg bt0, if_pos (z_inbn (by omega) (by decide)), zb_s, z_ix (by omega), h.k.i (a := 18) rfl, (G i (by omega)).1]
    · have e : B.testBit j = false := by
        cases e : B.testBit j with
        | false => rfl
        | true => exact absurd ((b2.2 j (by omega)).mp e) c
      rw [e, if_pos bf0, shV_f hi2 c, hp]
theorem tb_2 (a i : Nat) : (2 ^ a).testBit i = true ↔ a = i := by rw [Nat.testBit_two_pow, decide_eq_true_eq]
theorem M_share (K : zK u) {w : gW} (h : zE u w) {s : Nat} {pr : Int32} (L : LD u s (yT u) w) {i j : Nat} (hi : i ≤ yO u) (hj : j ≤ yO u) : f_M_hasBy (nI (cod u i)) (nI (cod u j)) pr w = some (shV u s pr i j, w) := by
  have h8 := K.O8
  have ht := K.T7
  unfold f_M_hasBy
  by_cases q : i = yO u
  · subst q
    rw [show cod u (yO u) = 9 from if_pos rfl, if_pos (show nI 9 = (9 : Int32) from rfl), shV_O]
  · have hi2 : i < yO u := by omega
    rw [show cod u i = i from if_neg q, if_neg (show ¬ nI i = (9 : Int32) from fun z => by have := (n_eq (a := i) (b := 9) (by omega) (by omega)).mp z; omega), n_1sh (by omega)]
    have hall := fb_ct_le (yfi u) (yT u)
    have p1 : 2 ^ i ≤ 2 ^ 8 := Nat.pow_le_pow_right (by decide) (by omega)
    have main : ∀ x : Nat, x < 2 ^ 30 → (∀ k, k < yT u → ((∀ b, x.testBit b = true → b < 32 → (yhB u s k).testBit b = true) ↔ (yH u i s (yal u) k = true ∧ (j ≠ yO u → yH u j s (yal u) k = true)))) → f_M_hasBy_b30 (nI i) pr (nI x) (0 : Int32) w = some (shV u s pr i j, w) := by
      intro x hx hk
      have key := zfx_ind (fun _ _ _ _ _ => none) f_M_hasBy_b30_s (fun m kk => ∀ l, l + m = fb_ct (yfi u) (yT u) → (∀ l2, l2 < l → ¬ (nI x &&& ((w.1 128 l2) ^^^ (-1 : Int32)) = 0)) → kk (nI i) pr (nI x) (nI l) w = some (shV u s pr i j, w)) (fun m kk ih l hl hp => by
        unfold f_M_hasBy_b30_s
        rw [L.2.2.1]
        cases m with
        | zero =>
          rw [if_pos (by rw [n_le (by omega) (by omega)]; omega), shV_f hi2 (fun z => ?_)]
          have go : ∀ k, k < yT u → yfi u k = true → yH u i s (yal u) k = true → (j ≠ yO u → yH u j s (yal u) k = true) → False := by
            intro k k1 k2 k3 k4
            obtain ⟨l2, c1, c2⟩ := LD_b L k1 k2
            refine hp l2 (by omega) ?_
            rw [c2, n_andn (by omega)]
            exact (hk k k1).mpr ⟨k3, k4⟩
          unfold yTg at z
          by_cases qj : j = yO u
          · rw [if_pos qj] at z
            obtain ⟨k, k1, k2, k3, _⟩ := z
            exact go k k1 k2 k3 (fun z => absurd qj z)
          · rw [if_neg qj] at z
            obtain ⟨k, k1, k2, k3, k4⟩ := z
            exact go k k1 k2 k3 (fun _ => k4)
        | succ m =>
          obtain ⟨k, k1, k2, k3⟩ := LD_a L (show l < fb_ct (yfi u) (yT u) by omega)
          rw [if_neg (by rw [n_le (by omega) (by omega)]; omega), if_pos (z_inbn (by omega) (by decide)), z_ix (by omega)]
          by_cases c : nI x &&& ((w.1 128 l) ^^^ (-1 : Int32)) = 0
          · rw [if_pos c, if_pos (z_inbn (by omega) (by decide)), z_ix (by omega), h.k.i (a := 131) rfl]
            rw [k3, n_andn (by omega)] at c
            obtain ⟨c1, c2⟩ := (hk k k1).mp c
            rw [shV_t hi2 (by
              unfold yTg
              by_cases qj : j = yO u
              · rw [if_pos qj]; exact ⟨k, k1, k2, c1, c1⟩
              · rw [if_neg qj]; exact ⟨k, k1, k2, c1, c2 qj⟩)]
          · rw [if_neg c, zl_s, n_1]
            refine ih m (by omega) (l + 1) (by omega) (fun l2 h2 => ?_)
            by_cases y : l2 = l
            · rw [y]; exact c
            · exact hp l2 (by omega)) zFU (fb_ct (yfi u) (yT u)) (zfu (by omega))
      exact key 0 (by omega) (fun l2 h2 => absurd h2 (Nat.not_lt_zero l2))
    by_cases qj : j = yO u
    · rw [show cod u j = 9 from if_pos qj, if_pos (show nI 9 = (9 : Int32) from rfl)]
      unfold f_M_hasBy_b24
      rw [show (0 : Int32) = nI 0 from rfl, n_or, Nat.or_zero, zl_s]
      refine main (2 ^ i) (by omega) (fun k k1 => ⟨fun z => ⟨?_, fun y => absurd qj y⟩, fun z b hb _ => ?_⟩)
      · rw [← yhB_t s k hi2]; exact z i ((tb_2 i i).mpr rfl) (by omega)
      · rw [← (tb_2 i b).mp hb, yhB_t s k hi2]; exact z.1
    · have hj2 : j < yO u := by omega
      have p2 : 2 ^ j ≤ 2 ^ 8 := Nat.pow_le_pow_right (by decide) (by omega)
      rw [show cod u j = j from if_neg qj, if_neg (show ¬ nI j = (9 : Int32) from fun z => by have := (n_eq (a := j) (b := 9) (by omega) (by omega)).mp z; omega), n_1sh (by omega)]
      unfold f_M_hasBy_b24
      rw [n_or, zl_s]
      have hlt : 2 ^ i ||| 2 ^ j < 2 ^ 9 := Nat.or_lt_two_pow (by omega) (by omega)
      refine main (2 ^ i ||| 2 ^ j) (by omega) (fun k k1 => ⟨fun z => ⟨?_, fun _ => ?_⟩, fun z b hb _ => ?_⟩)
      · rw [← yhB_t s k hi2]; exact z i (by rw [Nat.testBit_or, (tb_2 i i).mpr rfl]; rfl) (by omega)
      · rw [← yhB_t s k hj2]; exact z j (by rw [Nat.testBit_or, (tb_2 j j).mpr rfl, Bool.or_true]) (by omega)
      · rw [Nat.testBit_or, Bool.or_eq_true] at hb
        rcases hb with hb | hb
        · rw [← (tb_2 i b).mp hb, yhB_t s k hi2]; exact z.1
        · rw [← (tb_2 j b).mp hb, yhB_t s k hj2]; exact z.2 qj
end
