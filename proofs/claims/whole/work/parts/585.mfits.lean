/-! PURE: the model holds, keeps facts, fits -/
theorem eEv_cg {E E' : Nat → Nat → Nat → Bool} (h : ∀ k a b, k < 4 → a < 16 → b < 16 → E k a b = E' k a b) : ∀ (em : List Nat) (st : List Bool), eEv E em st = eEv E' em st
  | [], _ => rfl
  | c :: em, st => by
    show eEv E em (eSt E c st) = eEv E' em (eSt E' c st)
    have e : eSt E c st = eSt E' c st := by
      unfold eSt
      by_cases q : c / 256 < 4
      · rw [if_pos q, if_pos q, h _ _ _ q (by omega) (by omega)]
      · rw [if_neg q, if_neg q]
    rw [e]
    exact eEv_cg h em _
theorem eVl_cg {E E' : Nat → Nat → Nat → Bool} (h : ∀ k a b, k < 4 → a < 16 → b < 16 → E k a b = E' k a b) (em : List Nat) : eVl E em = eVl E' em := by
  unfold eVl
  rw [eEv_cg h]
/-- what the model's reading changes; what its live changes -/
def zPM (a b : Nat) : Bool := a == 107 && [4, 7, 8, 9, 10, 11, 13, 14].contains b
def zMe (u w : gW) : Prop := zAg zPM (fun _ => false) u w
def zLv (u w : gW) : Prop := zAg (fun a _ => a == 111) (fun _ => false) u w
theorem zMe.rf (w : gW) : zMe w w := zAg.rf _ _ _
theorem zMe.tr {u w v : gW} (h : zMe u w) (k : zMe w v) : zMe u v := zAg.tr h k
theorem zPM_scr {a b : Nat} (q : zPM a b = true) : zScrI a b = true := by
  unfold zPM at q
  rw [Bool.and_eq_true, beq_iff_eq] at q
  obtain ⟨rfl, q⟩ := q
  show [0, 4, 7, 8, 9, 10, 11, 13, 14, 23, 24, 39, 40, 41, 42, 43, 44, 46, 47, 48].contains b = true
  simp only [List.contains_eq_mem, List.mem_cons, List.not_mem_nil, or_false, decide_eq_true_eq] at q ⊢
  omega
theorem zMe.k {u w v : gW} (h : zEk u w) (k : zMe w v) : zEk u v := zAg.tr h (zAg.wk k (fun _ _ q => zPM_scr q) (fun _ q => by cases q))
theorem zMe.e {u w v : gW} (h : zE u w) (k : zMe w v) : zE u v := zAg.tr (show zAg zScrI zScrL u w from h) (zAg.wk k (fun _ _ q => zPM_scr q) (fun _ q => by cases q))
theorem zLv.k {u w v : gW} (h : zEk u w) (k : zLv w v) : zEk u v := zAg.tr h (zAg.wk k (fun a b q => by
  have e : a = 111 := by simpa using q
  subst e
  rfl) (fun _ q => by cases q))
theorem zLv.e {u w v : gW} (h : zE u w) (k : zLv w v) : zE u v := zAg.tr (show zAg zScrI zScrL u w from h) (zAg.wk k (fun a b q => by
  have e : a = 111 := by simpa using q
  subst e
  rfl) (fun _ q => by cases q))
def lvL (u : gW) (k : Nat) (w : gW) : Prop := ∀ d, d < yD u → w.1 111 d = nI (yd u k d)
theorem lvL.m {u w v : gW} {k : Nat} (h : lvL u k w) (q : zMe w v) : lvL u k v := fun d hd => (q.1 111 d rfl).trans (h d hd)
theorem z7 (w : gW) (j b : Nat) (v : Int32) (h : b ≠ j) : (zsI w 107 j v).1 107 b = w.1 107 b := by rw [zsI_g, if_neg (fun q => h q.2)]
section
variable {u : gW}
theorem M_keeps (K : zK u) {w : gW} (h : zEk u w) {o s th k : Nat} (hl : lvL u k w) (ho : o < yO u) (hs : s < 7) (hth : th < 2 ^ 31) : ∃ w' : gW, f_M_keeps (nI o) (nI s) (nI th) w = some (bI (yH u o s th k), w') ∧ zMe w w' := by
  have h8 := K.O8
  have h5 := K.D5
  obtain ⟨n, f, ⟨n1, n2, n3⟩, p1, p2, -⟩ := K.2.2 o ho
  unfold f_M_keeps
  simp only [zl_s]
  rw [if_pos (z_inbn (by omega) (by decide)), z_ix (by omega), show (120 : Int32) = nI 120 from rfl, pk_mul]
  have e110 : (zsI (zsI w 107 13 (nI s)) 107 14 (nI th)).1 110 o = nI n := by
    rw [z_o _ _ _ _ _ _ (by decide), z_o _ _ _ _ _ _ (by decide), h.i rfl]
    exact n2
  rw [e110]
  have gl : g_len 3 109 = 960 := by decide +kernel
  have hT : TX 109 (120 * o) n f (mO (zsI (zsI w 107 13 (nI s)) 107 14 (nI th)) 109 (120 * o) n) := by
    refine ⟨⟨by decide, n1, by rw [gl]; omega, by rw [gl]; omega⟩, ⟨?_, ?_, rfl⟩, fun j hj => ⟨(n3 j hj).1, (n3 j hj).2.1, ?_⟩⟩
    · unfold mO
      rw [z7 _ _ _ _ (by decide), z7 _ _ _ _ (by decide), zsI_g, if_pos ⟨rfl, rfl⟩]
      exact z_ix (by decide)
    · unfold mO
      rw [z7 _ _ _ _ (by decide), zsI_g, if_pos ⟨rfl, rfl⟩]
    · unfold mO
      rw [z_o _ _ _ _ _ _ (by decide), z_o _ _ _ _ _ _ (by decide), z_o _ _ _ _ _ _ (by decide), z_o _ _ _ _ _ _ (by decide), z_o _ _ _ _ _ _ (by decide), h.i rfl]
      exact (n3 j hj).2.2
  obtain ⟨v, e1, e2⟩ := (M_goThrough hT (by decide)).1 p1
  rw [e1, zb_s, if_pos (bI_a v)]
  have hg : ∀ b, b ≠ 4 → b ≠ 7 → b ≠ 8 → b ≠ 13 → b ≠ 14 → (mO (zsI (zsI w 107 13 (nI s)) 107 14 (nI th)) 109 (120 * o) n).1 107 b = w.1 107 b := by
    intro b h1 h2 h3 h4 h5
    unfold mO
    rw [z7 _ _ _ _ h3, z7 _ _ _ _ h2, z7 _ _ _ _ h1, z7 _ _ _ _ h5, z7 _ _ _ _ h4]
  have h21 : (mO (zsI (zsI w 107 13 (nI s)) 107 14 (nI th)) 109 (120 * o) n).1 107 21 = nI (yD u) := by
    rw [hg 21 (by decide) (by decide) (by decide) (by decide) (by decide), h.i rfl]
    exact K.C.2.1.2
  have h13 : (mO (zsI (zsI w 107 13 (nI s)) 107 14 (nI th)) 109 (120 * o) n).1 107 13 = nI s := by
    unfold mO
    rw [z7 _ _ _ _ (by decide), z7 _ _ _ _ (by decide), z7 _ _ _ _ (by decide), z7 _ _ _ _ (by decide), zsI_g, if_pos ⟨rfl, rfl⟩]
  have h14 : (mO (zsI (zsI w 107 13 (nI s)) 107 14 (nI th)) 109 (120 * o) n).1 107 14 = nI th := by
    unfold mO
    rw [z7 _ _ _ _ (by decide), z7 _ _ _ _ (by decide), z7 _ _ _ _ (by decide), zsI_g, if_pos ⟨rfl, rfl⟩]
  have h111 : ∀ d, d < yD u → (mO (zsI (zsI w 107 13 (nI s)) 107 14 (nI th)) 109 (120 * o) n).1 111 d = nI (yd u k d) := by
    intro d hd
    unfold mO
    rw [z_o _ _ _ _ _ _ (by decide), z_o _ _ _ _ _ _ (by decide), z_o _ _ _ _ _ _ (by decide), z_o _ _ _ _ _ _ (by decide), z_o _ _ _ _ _ _ (by decide)]
    exact hl d hd
  have hme : zMe w (mW (mO (zsI (zsI w 107 13 (nI s)) 107 14 (nI th)) 109 (120 * o) n) n (-1) 0) := by
    refine ⟨fun a b q => ?_, fun a b _ => rfl⟩
    by_cases e : a = 107
    · subst e
      have hb : b ≠ 4 ∧ b ≠ 7 ∧ b ≠ 8 ∧ b ≠ 9 ∧ b ≠ 10 ∧ b ≠ 11 ∧ b ≠ 13 ∧ b ≠ 14 := by
        refine ⟨?_, ?_, ?_, ?_, ?_, ?_, ?_, ?_⟩ <;> (intro z; subst z; exact absurd q (by decide))
      rw [mW_o (by omega), hg b hb.1 hb.2.1 hb.2.2.1 hb.2.2.2.2.2.2.1 hb.2.2.2.2.2.2.2]
    · rw [mW_o (by omega)]
      unfold mO
      rw [z_o _ _ _ _ _ _ e, z_o _ _ _ _ _ _ e, z_o _ _ _ _ _ _ e, z_o _ _ _ _ _ _ e, z_o _ _ _ _ _ _ e]
  generalize mO (zsI (zsI w 107 13 (nI s)) 107 14 (nI th)) 109 (120 * o) n = g at *
  have hsn : ∀ a, a < 16 → snM g a = decide (a < yD u ∧ yd u k a < s) := by
    intro a ha
    unfold snM
    rw [h21, h13]
    by_cases q : a < yD u
    · have h9 := (K.d9 q k).1
      rw [h111 a q, decide_eq_false (by rw [n_le (by omega) (by omega)]; omega), Bool.not_false, Bool.true_and]
      by_cases q2 : yd u k a < s
      · have t1 : ¬ nI s ≤ nI (yd u k a) := by rw [n_le (by omega) (by omega)]; omega
        have t2 : a < yD u ∧ yd u k a < s := ⟨q, q2⟩
        rw [decide_eq_false t1, decide_eq_true t2]; rfl
      · have t1 : nI s ≤ nI (yd u k a) := by rw [n_le (by omega) (by omega)]; omega
        have t2 : ¬ (a < yD u ∧ yd u k a < s) := fun z => q2 z.2
        rw [decide_eq_true t1, decide_eq_false t2]; rfl
    · have t1 : nI (yD u) ≤ nI a := by rw [n_le (by omega) (by omega)]; omega
      have t2 : ¬ (a < yD u ∧ yd u k a < s) := fun z => q z.1
      rw [decide_eq_true t1, decide_eq_false t2]; rfl
  have hok : mOK g := by
    intro a ha hs1
    rw [hsn a (by omega), decide_eq_true_eq] at hs1
    have h9 := (K.d9 hs1.1 k).1
    rw [h111 a hs1.1, n_lt (by omega) (by omega)]
    omega
  have hval : v = yH u o s th k := by
    rw [e2 hok, ← p2]
    unfold yH
    apply eVl_cg
    intro c a b hc ha hb
    have hc4 : c = 0 ∨ c = 1 ∨ c = 2 ∨ c = 3 := by omega
    rcases hc4 with rfl | rfl | rfl | rfl
    · show (snM g a && !decide (nI b < g.1 111 a)) = decide (a < yD u ∧ yd u k a < s ∧ yd u k a ≤ b)
      rw [hsn a ha, Bool.eq_iff_iff]
      simp only [Bool.and_eq_true, Bool.not_eq_true', decide_eq_true_eq, decide_eq_false_iff_not]
      by_cases q : a < yD u ∧ yd u k a < s
      · have h9 := (K.d9 q.1 k).1
        rw [h111 a q.1, n_lt (by omega) (by omega)]
        omega
      · exact ⟨fun z => absurd z.1 q, fun z => absurd ⟨z.1, z.2.1⟩ q⟩
    · show (snM g a && (snM g b && !decide (g.1 111 b ≤ g.1 111 a))) = decide (a < yD u ∧ b < yD u ∧ yd u k a < s ∧ yd u k b < s ∧ yd u k a < yd u k b)
      rw [hsn a ha, hsn b hb, Bool.eq_iff_iff]
      simp only [Bool.and_eq_true, Bool.not_eq_true', decide_eq_true_eq, decide_eq_false_iff_not]
      by_cases q : (a < yD u ∧ yd u k a < s) ∧ (b < yD u ∧ yd u k b < s)
      · have h9 := (K.d9 q.1.1 k).1
        have h9b := (K.d9 q.2.1 k).1
        rw [h111 a q.1.1, h111 b q.2.1, n_le (by omega) (by omega)]
        omega
      · exact ⟨fun z => absurd ⟨z.1, z.2.1⟩ q, fun z => absurd ⟨⟨z.1, z.2.2.1⟩, z.2.1, z.2.2.2.1⟩ q⟩
    · show (snM g a && (snM g b && decide (g.1 111 a = g.1 111 b))) = decide (a < yD u ∧ b < yD u ∧ yd u k a < s ∧ yd u k b < s ∧ yd u k a = yd u k b)
      rw [hsn a ha, hsn b hb, Bool.eq_iff_iff]
      simp only [Bool.and_eq_true, decide_eq_true_eq]
      by_cases q : (a < yD u ∧ yd u k a < s) ∧ (b < yD u ∧ yd u k b < s)
      · have h9 := (K.d9 q.1.1 k).1
        have h9b := (K.d9 q.2.1 k).1
        rw [h111 a q.1.1, h111 b q.2.1, n_eq (by omega) (by omega)]
        omega
      · exact ⟨fun z => absurd ⟨z.1, z.2.1⟩ q, fun z => absurd ⟨⟨z.1, z.2.2.1⟩, z.2.1, z.2.2.2.1⟩ q⟩
    · show decide (((g.1 107 14) >>> (nI a &&& 31)) &&& (1 : Int32) = 1) = th.testBit a
      rw [h14, n_bit hth (by omega)]
      cases th.testBit a <;> rfl
  rw [hval]
  exact ⟨_, rfl, hme⟩
/-- facts and sworn ones, as told -/
theorem M_all (K : zK u) {w : gW} (h : zEk u w) : f_M_all w = some (nI (yal u), w) := by
  have h10 := K.S10
  unfold f_M_all
  rw [h.i rfl, K.C.2.2.2.2.1.2, n_1sh (by omega), show (1 : Int32) = nI 1 from rfl, n_sub (Nat.two_pow_pos _)]
  rfl
theorem yal_lt (K : zK u) : yal u < 1024 := by
  have h10 := K.S10
  have a : 2 ^ yS u ≤ 2 ^ 10 := Nat.pow_le_pow_right (by decide) h10
  unfold yal
  have := Nat.two_pow_pos (yS u)
  omega
theorem M_holds (K : zK u) (R : jRec u) {w : gW} (h : zEk u w) {i th k : Nat} (hl : lvL u k w) (hi : i < yS u) (hth : th < 2 ^ 31) : ∃ w' : gW, f_M_holdsSworn (nI i) (nI th) w = some (bI (yHs u i th k), w') ∧ zMe w w' := by
  have h10 := K.S10
  have h6 := K.Y6
  obtain ⟨-, -, ⟨o1, o2⟩, ⟨d1, d2⟩, -⟩ := R.1 i hi
  obtain ⟨w', e1, e2⟩ := M_keeps K h hl o2 (show ix (u.1 121 i) < 7 by omega) hth
  refine ⟨w', ?_, e2⟩
  unfold f_M_holdsSworn
  have hin : inb (nI i) 10 := z_inbn (by omega) (by decide)
  rw [if_pos hin, if_pos hin, z_ix (by omega), h.i rfl, h.i rfl, o1, d1, e1, zb_s, if_pos (bI_a _)]
  rfl
theorem M_poss (K : zK u) (R : jRec u) {w : gW} (h : zEk u w) {k : Nat} (hl : lvL u k w) : f_M_isPossible w = some (bI (ypo u k), w) := by
  have h20 := K.F20
  have h5 := K.D5
  have key := zfx_ind (fun _ _ => none) f_M_isPossible_b2_s (fun m kk => ∀ i, i + m = yF u → (∀ j, j < i → (yd u k (ix (u.1 123 j)) = ix (u.1 124 j) ↔ u.1 125 j = 1)) → kk (nI i) w = some (bI (ypo u k), w)) (fun m kk ih i hi hp => by
    unfold f_M_isPossible_b2_s
    rw [h.i rfl, K.C.2.2.2.2.2.1.2]
    cases m with
    | zero =>
      rw [if_pos (by rw [n_le (by omega) (by omega)]; omega)]
      have e : ypo u k = true := decide_eq_true (fun j hj => hp j (by omega))
      rw [e]
      rfl
    | succ m =>
      obtain ⟨-, ⟨a1, a2⟩, ⟨b1, b2⟩, c1⟩ := R.2.1 i (by omega)
      have hin : inb (nI i) 20 := z_inbn (by omega) (by decide)
      rw [if_neg (by rw [n_le (by omega) (by omega)]; omega), if_pos hin, if_pos hin, z_ix (by omega), h.i (a := 123) rfl, h.i (a := 124) rfl, a1, b1, z_ix (by omega), if_pos (z_inbn (by omega) (by decide)), hl _ a2]
      have h9 := (K.d9 a2 k).1
      have h9b : ix (u.1 124 i) ≤ 9 := by have := K.Y6; omega
      have fin : ∀ b : Bool, (b = true ↔ yd u k (ix (u.1 123 i)) = ix (u.1 124 i)) → f_M_isPossible_b35 kk (nI i) (bI b) w = some (bI (ypo u k), w) := by
        intro b hb
        unfold f_M_isPossible_b35
        rw [if_pos hin, z_ix (by omega), h.i rfl]
        by_cases q : bI b = u.1 125 i
        · rw [if_pos q, zl_s, n_1]
          refine ih m (by omega) (i + 1) (by omega) (fun j hj => ?_)
          by_cases q2 : j = i
          · subst q2
            rw [← hb, ← q, bI_1]
          · exact hp j (by omega)
        · rw [if_neg q]
          have e : ypo u k = false := decide_eq_false (fun z => by
            have z1 := z i (by omega)
            apply q
            cases b with
            | true => rw [(z1.mp (hb.mp rfl))]; rfl
            | false =>
              rcases c1 with c | c
              · rw [c]; rfl
              · exact absurd (hb.mpr (z1.mpr c)) (by decide))
          rw [e]
          rfl
      by_cases q : yd u k (ix (u.1 123 i)) = ix (u.1 124 i)
      · rw [if_pos (by rw [q])]
        exact fin true ⟨fun _ => q, fun _ => rfl⟩
      · rw [if_neg (by rw [n_eq (by omega) (by omega)]; exact q)]
        exact fin false ⟨fun z => (by cases z), fun z => absurd z q⟩) zFU (yF u) (zfu (by omega))
  exact key 0 (by omega) (fun j hj => absurd hj (Nat.not_lt_zero j))
theorem M_fits (K : zK u) (R : jRec u) {w : gW} (h : zEk u w) {k : Nat} (hl : lvL u k w) : ∃ w' : gW, f_M_fits w = some (bI (yfi u k), w') ∧ zMe w w' := by
  have h10 := K.S10
  unfold f_M_fits
  rw [M_poss K R h hl, zb_s]
  unfold yfi
  cases hp : ypo u k with
  | false =>
    rw [if_pos (show bI false = 0 from rfl)]
    exact ⟨w, rfl, zMe.rf w⟩
  | true =>
    rw [if_neg (show ¬ bI true = 0 by decide), Bool.true_and]
    have key := zfx_ind (fun _ _ => none) f_M_fits_b11_s (fun m kk => ∀ i v, i + m = yS u → zMe w v → (∀ j, j < i → yHs u j (yal u) k = true) → ∃ w' : gW, kk (nI i) v = some (bI (decide (∀ i, i < yS u → yHs u i (yal u) k = true)), w') ∧ zMe w w') (fun m kk ih i v hi hv hp => by
      have hE := hv.k h
      unfold f_M_fits_b11_s
      rw [hE.i rfl, K.C.2.2.2.2.1.2]
      cases m with
      | zero =>
        rw [if_pos (by rw [n_le (by omega) (by omega)]; omega), decide_eq_true (fun j hj => hp j (by omega))]
        exact ⟨v, rfl, hv⟩
      | succ m =>
        rw [if_neg (by rw [n_le (by omega) (by omega)]; omega), M_all K hE, zb_s]
        obtain ⟨v', e1, e2⟩ := M_holds K R hE (hl.m hv) (i := i) (th := yal u) (by omega) (by have := yal_lt K; omega)
        rw [e1, zb_s]
        cases hb : yHs u i (yal u) k with
        | false =>
          rw [if_pos (show bI false = 0 from rfl), decide_eq_false (fun z => by rw [z i (by omega)] at hb; cases hb)]
          exact ⟨v', rfl, hv.tr e2⟩
        | true =>
          rw [if_neg (show ¬ bI true = 0 by decide), zl_s, n_1]
          refine ih m (by omega) (i + 1) v' (by omega) (hv.tr e2) (fun j hj => ?_)
          by_cases q : j = i
          · subst q; exact hb
          · exact hp j (by omega)) zFU (yS u) (zfu (by omega))
    exact key 0 w (by omega) (zMe.rf w) (fun j hj => absurd hj (Nat.not_lt_zero j))
theorem yn_lt (K : zK u) (k : Nat) : ∀ d, d ≤ yD u → yn u k d < 10 ^ d
  | 0, _ => by show 0 < 1; decide
  | d + 1, hd => by
    have a := yn_lt K k d (by omega)
    have b := (K.d9 (d := d) (by omega) k).1
    show yn u k d * 10 + yd u k d < 10 ^ (d + 1)
    rw [Nat.pow_succ]
    omega
theorem yN_lt (K : zK u) (k : Nat) : yN u k < 100000 := by
  have a := yn_lt K k (yD u) (Nat.le_refl _)
  have b : 10 ^ yD u ≤ 10 ^ 5 := Nat.pow_le_pow_right (by decide) K.D5
  unfold yN
  have c : (10 : Nat) ^ 5 = 100000 := by decide
  omega
theorem M_live (K : zK u) {w : gW} (h : zEk u w) (k : Nat) : ∃ w' : gW, f_M_live (nI (yN u k)) w = some ((), w') ∧ lvL u k w' ∧ zLv w w' := by
  have h5 := K.D5
  unfold f_M_live
  rw [h.i rfl, K.C.2.1.2, zl_s]
  have key := zfx_ind (fun _ _ _ => none) f_M_live_b9_s (fun m kk => ∀ v, m ≤ yD u → zLv w v → (∀ d, m ≤ d → d < yD u → v.1 111 d = nI (yd u k d)) → ∃ w' : gW, kk (nI (yn u k m)) (nI m - 1) v = some ((), w') ∧ lvL u k w' ∧ zLv w w') (fun m kk ih v hm hv hp => by
    unfold f_M_live_b9_s
    cases m with
    | zero =>
      rw [if_pos (show nI 0 - (1 : Int32) < 0 by decide)]
      exact ⟨v, rfl, fun d hd => hp d (Nat.zero_le _) hd, hv⟩
    | succ m =>
      have e1 : nI (m + 1) - (1 : Int32) = nI m := nI_pred m
      have hb := yn_lt K k (m + 1) hm
      have hb2 : 10 ^ (m + 1) ≤ 10 ^ 5 := Nat.pow_le_pow_right (by decide) (by omega)
      have c : (10 : Nat) ^ 5 = 100000 := by decide
      have h9 := (K.d9 (d := m) (by omega) k).1
      have ey : yn u k (m + 1) = yn u k m * 10 + yd u k m := rfl
      rw [e1, if_neg (nI_pos (by omega)), if_pos (z_inbn (by omega) (by decide)), z_ix (by omega), show (10 : Int32) = nI 10 from rfl, pk_rem (by omega) (by decide) (by decide), pk_div (by omega) (by decide) (by decide), zl_s, zl_s, zl_s]
      have e2 : yn u k (m + 1) % 10 = yd u k m ∨ yd u k m ≥ 10 := by omega
      have e3 : yn u k (m + 1) / 10 = yn u k m := by omega
      have e4 : yn u k (m + 1) % 10 = yd u k m := by omega
      have e5 : nI m + (-1 : Int32) = nI m - 1 := (Int32.sub_eq_add_neg _ _).symm
      rw [e3, e4, e5]
      refine ih m (by omega) _ (by omega) (hv.tr ((zAg.rf _ _ _).sI _ rfl)) (fun d h1 h2 => ?_)
      rw [zsI_g]
      by_cases q : d = m
      · rw [if_pos ⟨rfl, q⟩, q]
      · rw [if_neg (fun z => q z.2)]
        exact hp d (by omega) h2) zFU (yD u) (zfu (by omega))
  exact key w (Nat.le_refl _) (zAg.rf _ _ _) (fun d h1 h2 => absurd h2 (by omega))
end
