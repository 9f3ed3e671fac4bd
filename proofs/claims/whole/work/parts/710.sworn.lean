/-! PURE: a sworn one's word; what # names; the model's table of those without # -/
theorem eEv_cm {E E' : Nat → Nat → Nat → Bool} : ∀ (em : List Nat) (st : List Bool), (∀ c ∈ em, c / 256 < 4 → E (c / 256) (c / 16 % 16) (c % 16) = E' (c / 256) (c / 16 % 16) (c % 16)) → eEv E em st = eEv E' em st
  | [], _, _ => rfl
  | c :: em, st, h => by
    show eEv E em (eSt E c st) = eEv E' em (eSt E' c st)
    have e : eSt E c st = eSt E' c st := by
      unfold eSt
      by_cases q : c / 256 < 4
      · rw [if_pos q, if_pos q, h c List.mem_cons_self q]
      · rw [if_neg q, if_neg q]
    rw [e]
    exact eEv_cm em _ (fun d hd => h d (List.mem_cons_of_mem _ hd))
theorem nmO_g : ∀ (em : List Nat) (s0 a : Nat), (em.foldl (fun s c => if c / 256 = 3 then s ||| 2 ^ (c / 16 % 16) else s) s0).testBit a = true ↔ (s0.testBit a = true ∨ ∃ c, c ∈ em ∧ c / 256 = 3 ∧ c / 16 % 16 = a)
  | [], s0, a => ⟨fun h => Or.inl h, fun h => by
    rcases h with h | ⟨c, h, _⟩
    · exact h
    · cases h⟩
  | d :: em, s0, a => by
    rw [List.foldl_cons, nmO_g em]
    constructor
    · intro h
      rcases h with h | ⟨c, h1, h2⟩
      · by_cases q : d / 256 = 3
        · rw [if_pos q, Nat.testBit_or, Bool.or_eq_true] at h
          rcases h with h | h
          · exact Or.inl h
          · rw [Nat.testBit_two_pow, decide_eq_true_eq] at h
            exact Or.inr ⟨d, List.mem_cons_self, q, h⟩
        · rw [if_neg q] at h
          exact Or.inl h
      · exact Or.inr ⟨c, List.mem_cons_of_mem _ h1, h2⟩
    · intro h
      rcases h with h | ⟨c, h1, h2, h3⟩
      · left
        by_cases q : d / 256 = 3
        · rw [if_pos q, Nat.testBit_or, h, Bool.true_or]
        · rw [if_neg q]; exact h
      · rcases List.mem_cons.mp h1 with e | e
        · subst e
          left
          rw [if_pos h2, h3, Nat.testBit_or, Nat.testBit_two_pow_self, Bool.or_true]
        · exact Or.inr ⟨c, e, h2, h3⟩
theorem nmO_b (em : List Nat) (a : Nat) : (nmO em).testBit a = true ↔ ∃ c, c ∈ em ∧ c / 256 = 3 ∧ c / 16 % 16 = a := by
  unfold nmO
  rw [nmO_g em 0 a, Nat.zero_testBit]
  exact ⟨fun h => by
    rcases h with h | h
    · cases h
    · exact h, fun h => Or.inr h⟩
theorem nmO_h {em : List Nat} (h : hsh em = false) (a : Nat) : (nmO em).testBit a = false := by
  cases e : (nmO em).testBit a with
  | false => rfl
  | true =>
    obtain ⟨c, c1, c2, -⟩ := (nmO_b em a).mp e
    unfold hsh at h
    rw [List.any_eq_false] at h
    exact absurd (beq_iff_eq.mpr c2) (h c c1)
theorem mb_35 : ∀ c, c < 256 → ((nI c).toInt8.toInt32 = (35 : Int32) ↔ c = 35) := by decide +kernel
theorem scr_srw : ∀ c, c < 10 → zScrL (78 + c) = false := by decide +kernel
theorem n_an2 {a b c : Nat} : ((nI a &&& (nI b ^^^ (-1 : Int32))) &&& (nI c ^^^ (-1 : Int32)) = 0) ↔ ∀ i, i < 32 → a.testBit i = true → b.testBit i = false → c.testBit i = true := by
  constructor
  · intro h i h32 ha hb
    have e := congrArg (fun x => bt x i) h
    have e0 : bt 0 i = false := BitVec.getLsbD_zero
    simp only [b_and, b_xor, b_m1 i h32, b_nI _ h32, e0, ha, hb, Bool.true_and] at e
    cases q : c.testBit i with
    | true => rfl
    | false => rw [q] at e; cases e
  · intro h
    apply b_ext
    intro i h32
    have e0 : bt 0 i = false := BitVec.getLsbD_zero
    rw [b_and, b_and, b_xor, b_xor, b_m1 i h32, b_nI _ h32, b_nI _ h32, b_nI _ h32, e0]
    cases q : a.testBit i with
    | false => rfl
    | true => cases q2 : b.testBit i with
      | true => rfl
      | false => rw [h i h32 q q2]; rfl
section
variable {u : gW}
theorem yH_nm {o s k th th' : Nat} (h : ∀ a, (nmO (ycs u o)).testBit a = true → th.testBit a = th'.testBit a) : yH u o s th k = yH u o s th' k := by
  unfold yH eVl
  rw [eEv_cm (ycs u o) [] (fun c hc h4 => ?_)]
  have hk : c / 256 = 0 ∨ c / 256 = 1 ∨ c / 256 = 2 ∨ c / 256 = 3 := by omega
  rcases hk with e | e | e | e
  · rw [e]; rfl
  · rw [e]; rfl
  · rw [e]; rfl
  · rw [e]
    show th.testBit (c / 16 % 16) = th'.testBit (c / 16 % 16)
    exact h _ ((nmO_b _ _).mpr ⟨c, hc, e, rfl⟩)
theorem yal_b (u : gW) (a : Nat) : (yal u).testBit a = decide (a < yS u) := by
  unfold yal
  rw [Nat.testBit_two_pow_sub_one]
theorem lt2_b {n th a : Nat} (h : th < 2 ^ n) (ha : th.testBit a = true) : a < n := by
  apply Nat.lt_of_not_le
  intro z
  have : 2 ^ n ≤ 2 ^ a := Nat.pow_le_pow_right (by decide) z
  rw [Nat.testBit_lt_two_pow (by omega)] at ha
  cases ha
theorem An_part' (K : zK u) {w : gW} (h : zEk u w) {i j : Nat} (hi : i < yS u) (hj : j < 4) : f_An_swornPart (nI i) (nI j) w = some (u.1 60 (4 * i + j), w) := by
  have h10 := K.S10
  unfold f_An_swornPart
  have e : nI i * (4 : Int32) + nI j = nI (4 * i + j) := by rw [show (4 : Int32) = nI 4 from rfl, pk_mul, nI_add, Nat.mul_comm]
  have q1 : ¬ nI (yS u) ≤ nI i := by rw [n_le (by omega) (by omega)]; omega
  have q2 : ¬ (10 : Int32) ≤ nI i := by rw [show (10 : Int32) = nI 10 from rfl, n_le (by omega) (by omega)]; omega
  have q3 : nI j < (4 : Int32) := by rw [show (4 : Int32) = nI 4 from rfl, n_lt (by omega) (by omega)]; exact hj
  rw [if_neg (nI_pos (by omega)), h.i rfl, K.C.2.2.2.2.1.1, if_neg q1, if_neg q2, if_neg (nI_pos (by omega)), if_pos q3, e, if_pos (z_inbn (by omega) (by decide)), z_ix (by omega), h.i rfl]
theorem An_oathOf' (K : zK u) (R : jRec u) {w : gW} (h : zEk u w) {i : Nat} (hi : i < yS u) : f_An_oathOf (nI i) w = some (nI (ix (u.1 120 i)), w) := by
  unfold f_An_oathOf
  rw [show f_An_swornPart (nI i) (1 : Int32) w = _ from An_part' K h hi (j := 1) (by decide), zb_s, (R.1 i hi).1.2.1, ← (R.1 i hi).2.2.1.1]
theorem An_dayOf' (K : zK u) (R : jRec u) {w : gW} (h : zEk u w) {i : Nat} (hi : i < yS u) : f_An_dayOf (nI i) w = some (nI (ix (u.1 121 i)), w) := by
  unfold f_An_dayOf
  rw [show f_An_swornPart (nI i) (2 : Int32) w = _ from An_part' K h hi (j := 2) (by decide), zb_s, (R.1 i hi).1.2.2.1, ← (R.1 i hi).2.2.2.1.1]
theorem An_costOf' (K : zK u) (R : jRec u) {w : gW} (h : zEk u w) {i : Nat} (hi : i < yS u) : f_An_costOf (nI i) w = some (nI (ix (u.1 122 i)), w) := by
  unfold f_An_costOf
  rw [show f_An_swornPart (nI i) (3 : Int32) w = _ from An_part' K h hi (j := 3) (by decide), zb_s, (R.1 i hi).1.2.2.2, ← (R.1 i hi).2.2.2.2.1]
theorem An_personOf' (K : zK u) (R : jRec u) {w : gW} (h : zEk u w) {i : Nat} (hi : i < yS u) : f_An_personOf (nI i) w = some (nI (ix (u.1 119 i)), w) := by
  unfold f_An_personOf
  rw [show f_An_swornPart (nI i) (0 : Int32) w = _ from An_part' K h hi (j := 0) (by decide), zb_s]
  show some (u.1 60 (4 * i), w) = _
  rw [(R.1 i hi).1.1, ← (R.1 i hi).2.1.1]
theorem Oa_named' (K : zK u) {w : gW} (h : zEk u w) {o : Nat} (ho : o < yO u) : f_Oa_named (nI o) w = some (nI (nmO (ycs u o)), w) := by
  have h8 := K.O8
  obtain ⟨n, f, h1, h2, h3, h4, h5, h6⟩ := K.2.2 o ho
  unfold f_Oa_named
  rw [Oa_has' K h, zb_s, n_zbl ho (by omega), if_neg z10, if_pos (z_inbn (by omega) (by decide)), z_ix (by omega), h.i rfl, h6]
theorem Co_swornWord' (K : zK u) (R : jRec u) (C : jCou u) {w : gW} (h : zE u w) {i th W : Nat} (hi : i < yS u) (hth : th < 2 ^ yS u) (hW : W < 263) : ∃ (r : Int64) (w' : gW), f_Co_swornWord (nI i) (nI th) (nI W) w = some (r, w') ∧ zSk w w' ∧ ∀ b, b < 64 → 64 * W + b < yT u → bL r b = yHs u i th (64 * W + b) := by
  have h10 := K.S10
  have h6 := K.Y6
  have hal := yal_lt K
  have hp : 2 ^ yS u ≤ 2 ^ 10 := Nat.pow_le_pow_right (by decide) h10
  have hOi := (R.1 i hi).2.2.1.2
  have hYi := (R.1 i hi).2.2.2.1.2
  have slow : ∃ (r : Int64) (w' : gW), f_Co_swornWord_b67 (nI i) (nI th) (nI W) (nI (ix (u.1 120 i))) w = some (r, w') ∧ zSk w w' ∧ ∀ b, b < 64 → 64 * W + b < yT u → bL r b = yHs u i th (64 * W + b) := by
    unfold f_Co_swornWord_b67
    rw [An_dayOf' K R h.k hi, zb_s]
    obtain ⟨r, w', e1, e2, e3⟩ := Co_wordOf K h.k (s := ix (u.1 121 i)) hOi (by omega) (show th < 2 ^ 31 by omega) hW
    exact ⟨r, w', by rw [e1, zb_s], e2, e3⟩
  unfold f_Co_swornWord
  rw [An_oathOf' K R h.k hi, zb_s, Oa_named' K h.k hOi, zb_s, An_all K h.k, zb_s, n_and]
  by_cases q : nI (nmO (ycs u (ix (u.1 120 i))) &&& yal u) &&& (nI th ^^^ (-1 : Int32)) = 0
  · rw [if_pos q]
    have q2 := (n_andn (Nat.lt_of_le_of_lt Nat.and_le_right (by omega))).mp q
    have q3 : ¬ (10 : Int32) ≤ nI i := by rw [show (10 : Int32) = nI 10 from rfl, n_le (by omega) (by omega)]; omega
    unfold f_Co_swornWord_b39
    rw [if_neg z10, if_neg (nI_pos (by omega)), if_neg q3, if_pos (z_inbn (by omega) (by decide)), z_ix (by omega), show 77 + 1 + i = 78 + i by omega, Ro_word' (row_s i (by omega)) hW, zb_s]
    refine ⟨_, w, rfl, zSk.rf w, fun b hb hk => ?_⟩
    have e := C.2.2 i hi _ hk
    rw [h.2 (78 + i) W (scr_srw i (by omega)), ← zbt_w hb, e]
    refine yH_nm (fun a ha => ?_)
    rw [yal_b]
    by_cases z : a < yS u
    · rw [decide_eq_true z, q2 a (by rw [Nat.testBit_and, ha, yal_b, decide_eq_true z]; rfl) (by omega)]
    · rw [decide_eq_false z]
      cases e : th.testBit a with
      | false => rfl
      | true => exact absurd (lt2_b hth e) z
  · rw [if_neg q]
    unfold f_Co_swornWord_b39
    rw [if_pos z00]
    exact slow
/-- the oath of a sworn one asks by # -/
def yAk (u : gW) (i : Nat) : Prop := hsh (ycs u (ix (u.1 120 i))) = true
theorem zK.hs (K : zK u) {o : Nat} (ho : o < yO u) : ∃ (n : Nat) (f : Nat → Nat), n ≤ 120 ∧ u.1 110 o = nI n ∧ (∀ j, j < n → f j < 256 ∧ u.1 109 (120 * o + j) = (nI (f j)).toInt8.toInt32) ∧ ((∃ j, j < n ∧ f j = 35) ↔ hsh (ycs u o) = true) := by
  obtain ⟨n, f, ⟨n1, n2, n3⟩, p1, p2, -⟩ := K.2.2 o ho
  refine ⟨n, f, n1, n2, fun j hj => ⟨(n3 j hj).2.1, (n3 j hj).2.2⟩, ?_⟩
  have hG := pOa_G (m := 13) (fun p hp => pU_G f n 6 p hp) 0 (Nat.zero_le n)
  unfold pAll at p1 p2
  by_cases c : (pOa f n (pU f n 6) 0).1 = true
  · rw [if_pos c] at p1 p2
    by_cases c2 : sg f n (pOa f n (pU f n 6) 0).2.1 = 0
    · rw [if_pos c2] at p2
      obtain ⟨a1, a2, a3, a4, a5⟩ := hG.1 c
      have e : ycs u o = (pOa f n (pU f n 6) 0).2.2 := p2
      rw [e]
      have hz := (sg_z (fun j hj => (n3 j hj).1) a2).mp c2
      have hb := hsT_tr a5 (hsT_bl (f := f) (n := n) (p := (pOa f n (pU f n 6) 0).2.1)) (by omega) (sk_ge _ _ _)
      rw [hz, Bool.or_false] at hb
      exact ⟨fun ⟨j, j1, j2⟩ => hb.mp ⟨j, Nat.zero_le _, j1, j2⟩, fun z => by
        obtain ⟨j, _, j2, j3⟩ := hb.mpr z
        exact ⟨j, j2, j3⟩⟩
    · rw [if_neg c2] at p1; cases p1
  · rw [if_neg c] at p1; cases p1
theorem yHs_n {i k th th' : Nat} (h : ¬ yAk u i) : yHs u i th k = yHs u i th' k := by
  unfold yHs
  refine yH_nm (fun a ha => ?_)
  have e : hsh (ycs u (ix (u.1 120 i))) = false := by
    cases z : hsh (ycs u (ix (u.1 120 i))) with
    | false => rfl
    | true => exact absurd z h
  rw [nmO_h e] at ha
  cases ha
/-- an entry of the plain table; the table, up to n lives -/
def pE (u : gW) (k : Nat) (x : Int32) : Prop := (ypo u k = false → x = -1) ∧ (ypo u k = true → ∃ B, x = nI B ∧ isB (yS u) (fun i => ¬ yAk u i ∧ yHs u i 0 k = true) B)
def LQ (u : gW) (A n : Nat) (v : gW) : Prop := v.1 107 39 = nI A ∧ ∀ j, j < n → pE u j (v.1 127 j)
theorem zPL_39 : zPL 107 39 = false := zPL_107 39 (by decide) (by decide) (by decide) (by decide) (by decide) (by decide) (by decide) (by decide) (by decide)
theorem LQ.ml {A n : Nat} {w v : gW} (h : LQ u A n w) (k : zML w v) : LQ u A n v := ⟨(k.s zPL_39).trans h.1, fun j hj => by rw [k.o (by decide) (by decide)]; exact h.2 j hj⟩
theorem M_lp2 (J : zJ u) {w : gW} (h : zE u w) {A : Nat} (hA : isB (yS u) (yAk u) A) (h39 : w.1 107 39 = nI A) : ∃ w' : gW, f_M_layPlain_b83 (0 : Int32) w = some ((), w') ∧ zE u w' ∧ LQ u A (yT u) w' := by
  have K := J.K
  have h10 := K.S10
  have ht := K.T7
  have hA31 : A < 2 ^ 31 := Nat.lt_of_lt_of_le hA.1 (Nat.pow_le_pow_right (by decide) (by omega))
  have key := zfx_ind (fun _ _ => none) f_M_layPlain_b83_s (fun m kk => ∀ k v, k + m = yT u → zE u v → LQ u A k v → ∃ w' : gW, kk (nI k) v = some ((), w') ∧ zE u w' ∧ LQ u A (yT u) w') (fun m kk ih k v hk hv hq => by
    unfold f_M_layPlain_b83_s
    rw [hv.k.i rfl, K.L.2.2.2.2.1]
    cases m with
    | zero =>
      rw [if_pos (by rw [n_le (by omega) (by omega)]; omega)]
      exact ⟨v, rfl, hv, by rw [show yT u = k by omega]; exact hq⟩
    | succ m =>
      have ik : inb (nI k) 16807 := z_inbn (by omega) (by decide)
      have ez : ix (nI k) = k := z_ix (by omega)
      have next : ∀ v2, zE u v2 → LQ u A (k + 1) v2 → ∃ w' : gW, f_M_layPlain_b177 kk (nI k) v2 = some ((), w') ∧ zE u w' ∧ LQ u A (yT u) w' := by
        intro v2 a1 a2
        unfold f_M_layPlain_b177
        rw [zl_s, n_1]
        exact ih m (by omega) (k + 1) v2 (by omega) a1 a2
      obtain ⟨v1, e1, l1, m1⟩ := M_live K hv.k k
      rw [if_neg (by rw [n_le (by omega) (by omega)]; omega)]
      simp only [if_pos ik, ez]
      rw [hv.k.i rfl, K.L.2.2.2.2.2.1 k (by omega), e1, zb_s, zl_s]
      have q1 := hq.ml m1.ml
      have set : ∀ (v3 : gW) (x : Int32), LQ u A k v3 → LQ u A k (zsI v3 127 k x) := by
        intro v3 x z
        refine ⟨by rw [z_o _ _ _ _ _ _ (by decide)]; exact z.1, fun j hj => ?_⟩
        rw [zsI_g, if_neg (by omega)]
        exact z.2 j hj
      have lset : ∀ (v3 : gW) (x : Int32), lvL u k v3 → lvL u k (zsI v3 127 k x) := fun v3 x z d hd => by
        rw [z_o _ _ _ _ _ _ (by decide)]; exact z d hd
      have full : ∀ (v3 : gW), LQ u A k v3 → pE u k (v3.1 127 k) → LQ u A (k + 1) v3 := by
        intro v3 z1 z2
        refine ⟨z1.1, fun j hj => ?_⟩
        by_cases z : j = k
        · subst z; exact z2
        · exact z1.2 j (by omega)
      have hv2 : zE u (zsI v1 127 k (-1)) := (m1.e hv).sI _ rfl
      have q2 := set v1 (-1) q1
      have l2 := lset v1 (-1) l1
      rw [M_poss K J.R hv2.k l2, zb_s]
      cases hp : ypo u k with
      | false =>
        rw [if_pos bf0]
        refine next _ hv2 (full _ q2 ⟨fun _ => by rw [zsI_g, if_pos ⟨rfl, rfl⟩], fun z => ?_⟩)
        rw [hp] at z; cases z
      | true =>
        rw [if_neg bt0, zl_s]
        have inner := zfx_ind (fun _ _ _ => none) (f_M_layPlain_b127_s kk) (fun m2 k2 => ∀ i v r, i + m2 = yS u → zE u v → lvL u k v → LQ u A k v → v.1 127 k = nI r → isB i (fun i => ¬ yAk u i ∧ yHs u i 0 k = true) r → ∃ w' : gW, k2 (nI k) (nI i) v = some ((), w') ∧ zE u w' ∧ LQ u A (yT u) w') (fun m2 k2 ih2 i v r hi hv hl hq hr hB => by
          unfold f_M_layPlain_b127_s
          rw [hv.k.i (a := 107) (b := 35) rfl, K.C.2.2.2.2.1.2]
          cases m2 with
          | zero =>
            rw [if_pos (by rw [n_le (by omega) (by omega)]; omega)]
            refine next v hv (full v hq ⟨fun z => ?_, fun _ => ⟨r, hr, by rw [show yS u = i by omega]; exact hB⟩⟩)
            rw [hp] at z; cases z
          | succ m2 =>
            rw [if_neg (by rw [n_le (by omega) (by omega)]; omega), if_pos ik, hq.1, M_hasB A i hA31 (by omega), zb_s, ez, hr]
            have st : ∀ (b : Bool) (x : Nat) (v' : gW), x = (if b = true then 2 ^ i else 0) → (b = true ↔ ¬ yAk u i ∧ yHs u i 0 k = true) → zE u v' → lvL u k v' → LQ u A k v' → ∃ w' : gW, f_M_layPlain_b169 kk k2 (nI k) (nI i) (nI k) (nI r) (nI x) v' = some ((), w') ∧ zE u w' ∧ LQ u A (yT u) w' := by
              intro b x v' hx hb z1 z2 z3
              unfold f_M_layPlain_b169
              rw [if_pos ik, zl_s, zl_s, ez, n_or, n_1, hx]
              exact ih2 m2 (by omega) (i + 1) _ _ (by omega) (z1.sI _ rfl) (lset _ _ z2) (set _ _ z3) (by rw [zsI_g, if_pos ⟨rfl, rfl⟩]) (hB.s b hb)
            cases ea : A.testBit i with
            | true =>
              rw [if_neg bt0]
              unfold f_M_layPlain_b168
              exact st false 0 v rfl ⟨fun z => (by cases z), fun z => absurd ((hA.2 i (by omega)).mp ea) z.1⟩ hv hl hq
            | false =>
              have hna : ¬ yAk u i := fun z => by rw [(hA.2 i (by omega)).mpr z] at ea; cases ea
              rw [if_pos bf0]
              obtain ⟨v', f1, f2⟩ := M_holds K J.R hv.k hl (i := i) (th := 0) (by omega) (by decide)
              rw [show f_M_holdsSworn (nI i) (0 : Int32) v = _ from f1, zb_s]
              cases eh : yHs u i 0 k with
              | false =>
                rw [if_pos bf0]
                unfold f_M_layPlain_b168
                exact st false 0 v' rfl ⟨fun z => (by cases z), fun z => by have := z.2; rw [eh] at this; cases this⟩ (f2.e hv) (hl.m f2) (hq.ml f2.ml)
              | true =>
                rw [if_neg bt0, n_1sh (by omega)]
                exact st true (2 ^ i) v' rfl ⟨fun _ => ⟨hna, eh⟩, fun _ => rfl⟩ (f2.e hv) (hl.m f2) (hq.ml f2.ml)) zFU (yS u) (zfu (by omega))
        exact inner 0 _ 0 (by omega) (hv2.sI _ rfl) (lset _ _ l2) (set _ _ q2) (by rw [zsI_g, if_pos ⟨rfl, rfl⟩]; rfl) (isB.z _)) zFU (yT u) (zfu (by omega))
  exact key 0 w (by omega) h ⟨h39, fun j hj => absurd hj (Nat.not_lt_zero j)⟩
end
