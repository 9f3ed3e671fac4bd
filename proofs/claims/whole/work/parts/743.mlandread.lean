/-! PURE: the model reads a land, whole -/
theorem rd_deed {n Y d p : Nat} {f : Nat → Nat} {g : gW} (hY : Y ≤ 6) (hY2 : 2 ≤ Y) (hd : d < 5) (ht : TX 108 0 n f g) (hpn : p ≤ n) (h24 : g.1 107 24 = nI Y) : ∃ g' : gW, f_M_readDeed (nI d) (mW g p (-1) 0) = some ((), mW g' (pIr f n Y p).2.1 (if (pIr f n Y p).1 = true then -1 else nI (pIr f n Y p).2.1) 0) ∧ zMd g g' ∧ (g'.1 107 24 = nI Y ∧ g'.1 107 23 = g.1 107 23 ∧ ∀ e, e ≠ d → g'.1 115 e = g.1 115 e ∧ g'.1 116 e = g.1 116 e ∧ g'.1 117 e = g.1 117 e) ∧ g'.1 115 d = nI ((pIr f n Y p).2.2 0) ∧ g'.1 116 d = nI ((pIr f n Y p).2.2 1) ∧ g'.1 117 d = nI ((pIr f n Y p).2.2 2) := by
  have id5 : inb (nI d) 5 := z_inbn hd (by decide)
  have ezd : ix (nI d) = d := z_ix (by omega)
  unfold f_M_readDeed
  rw [if_pos id5, zl_s, if_pos id5, zl_s, if_pos id5, zl_s, ezd, mW_set (by omega), mW_set (by omega)]
  have o24 : (mW (zsI (zsI g 115 d 0) 116 d 0) p (-1) 0).1 107 24 = nI Y := h24
  rw [o24, show (1 : Int32) = nI 1 from rfl, n_sub (by omega), mW_set (by omega)]
  have hz : zMd g (zsI (zsI (zsI g 115 d 0) 116 d 0) 117 d (nI (Y - 1))) := zAg.sI (zAg.sI (zAg.sI (zMd.rf g) _ rfl) _ rfl) _ rfl
  rw [M_look (hz.t ht) hpn, zb_s]
  obtain ⟨g', r1, r2, r3, r4⟩ := rd_items hY hd (m := 4) (told := 0) (p := p) (t := iT Y) (g := zsI (zsI (zsI g 115 d 0) 116 d 0) 117 d (nI (Y - 1))) rfl (by decide) (hz.t ht) hpn (iT_ok hY2) h24 ⟨by
    show (zsI (zsI (zsI g 115 d 0) 116 d 0) 117 d (nI (Y - 1))).1 115 d = nI 0
    rw [zsI_g, if_neg (by omega), zsI_g, if_neg (by omega), zsI_g, if_pos ⟨rfl, rfl⟩]; rfl, by
    show (zsI (zsI (zsI g 115 d 0) 116 d 0) 117 d (nI (Y - 1))).1 116 d = nI 0
    rw [zsI_g, if_neg (by omega), zsI_g, if_pos ⟨rfl, rfl⟩]; rfl, by
    show (zsI (zsI (zsI g 115 d 0) 116 d 0) 117 d (nI (Y - 1))).1 117 d = nI (Y - 1)
    rw [zsI_g, if_pos ⟨rfl, rfl⟩]⟩
  refine ⟨g', r1, hz.tr r2, ⟨r3.1, r3.2.1, fun e he => ?_⟩, r4⟩
  have a := r3.2.2 e he
  refine ⟨a.1.trans ?_, a.2.1.trans ?_, a.2.2.trans ?_⟩
  · rw [zsI_g, if_neg (by omega), zsI_g, if_neg (by omega), zsI_g, if_neg (fun z => he z.2)]
  · rw [zsI_g, if_neg (by omega), zsI_g, if_neg (fun z => he z.2), zsI_g, if_neg (by omega)]
  · rw [zsI_g, if_neg (fun z => he z.2), zsI_g, if_neg (by omega), zsI_g, if_neg (by omega)]
/-- what a land's draft in the model holds -/
def dftM (g : gW) (k : Nat) (T : Nat → Nat → Nat) : Prop := ∀ e, e < k → g.1 115 e = nI (T e 0) ∧ g.1 116 e = nI (T e 1) ∧ g.1 117 e = nI (T e 2)
theorem pDs_ne {f : Nat → Nat} {n Y p : Nat} (h : sg f n p ≠ 59) (m d : Nat) (T : Nat → Nat → Nat) : pDs f n Y m d p T = (false, sk f n p, d, T) := by
  cases m with
  | zero => rfl
  | succ m =>
    unfold pDs
    rw [if_neg h]
theorem rd_deeds {n Y : Nat} {f : Nat → Nat} (hY : Y ≤ 6) (hY2 : 2 ≤ Y) {m d p : Nat} {T : Nat → Nat → Nat} {g : gW} (hm : d + m = 5) (ht : TX 108 0 n f g) (hpn : p ≤ n) (hsp : d = 0 ∨ sk f n p = p) (h24 : g.1 107 24 = nI Y) (h23 : g.1 107 23 = nI d) (hT : dftM g d T) : ∃ (g' : gW) (q : Nat), f_M_readLand_b50 (1 : Int32) (mW g p (-1) 0) = some ((), mW g' q (if (pDs f n Y m d p T).1 = true then -1 else nI (pDs f n Y m d p T).2.1) 0) ∧ zMd g g' ∧ ((pDs f n Y m d p T).1 = true → g'.1 107 24 = nI Y ∧ g'.1 107 23 = nI (pDs f n Y m d p T).2.2.1 ∧ dftM g' (pDs f n Y m d p T).2.2.1 (pDs f n Y m d p T).2.2.2) := by
  have key := zfx_ind (fun _ _ => none) f_M_readLand_b50_s (fun N kk => (∀ p g, TX 108 0 n f g → p ≤ n → kk (0 : Int32) (mW g p (-1) 0) = some ((), mW g (sk f n p) (if sg f n p = 0 then -1 else nI (sk f n p)) 0)) ∧ ∀ m, N = m + 1 → ∀ d p T g, d + m = 5 → TX 108 0 n f g → p ≤ n → (d = 0 ∨ sk f n p = p) → g.1 107 24 = nI Y → g.1 107 23 = nI d → dftM g d T → ∃ (g' : gW) (q : Nat), kk (1 : Int32) (mW g p (-1) 0) = some ((), mW g' q (if (pDs f n Y m d p T).1 = true then -1 else nI (pDs f n Y m d p T).2.1) 0) ∧ zMd g g' ∧ ((pDs f n Y m d p T).1 = true → g'.1 107 24 = nI Y ∧ g'.1 107 23 = nI (pDs f n Y m d p T).2.2.1 ∧ dftM g' (pDs f n Y m d p T).2.2.1 (pDs f n Y m d p T).2.2.2)) (fun N kk ih => by
    refine ⟨fun p g ht hp => ?_, fun m hN d p T g hm ht hpn hsp h24 h23 hT => ?_⟩
    · unfold f_M_readLand_b50_s
      rw [if_pos z00, M_look ht hp, zb_s]
      by_cases q : sg f n p = 0
      · have e := (sg_z ht.pos hp).mp q
        rw [if_pos (by unfold lkv; rw [e, if_neg (Nat.lt_irrefl _)]), if_pos q]
      · have h1 := sg_lt q
        rw [if_neg (by rw [lkv_lit q, n_m1 (by have := ht.sgl p; omega)]; exact id), if_neg q, M_fails1, zb_s]
    · have h120 := ht.1.2.1
      have g1 := sk_le (f := f) hpn
      unfold f_M_readLand_b50_s
      rw [if_neg z10]
      have o23 : ∀ q, (mW g q (-1) 0).1 107 23 = nI d := fun q => (mW_o (by omega)).trans h23
      rw [o23]
      cases m with
      | zero =>
        have d5 : d = 5 := by omega
        rw [if_pos (by rw [d5]; rfl)]
        unfold f_M_readLand_b80 pDs
        rw [M_fails1, zb_s, if_neg (show ¬ false = true by decide)]
        have e : sk f n p = p := by
          rcases hsp with z | z
          · omega
          · exact z
        rw [e]
        exact ⟨g, p, rfl, zMd.rf g, fun z => by cases z⟩
      | succ m =>
        have q5 : ¬ nI d = (5 : Int32) := by rw [show (5 : Int32) = nI 5 from rfl, n_eq (by omega) (by omega)]; omega
        have fail2 : ∀ (q : Nat), q < 2 ^ 31 → f_M_readLand_b80 (mW g q (nI q) 0) = some ((), mW g q (nI q) 0) := fun q hq => by
          unfold f_M_readLand_b80
          rw [M_fails2 hq, zb_s]
        unfold pDs
        rw [if_neg q5, show f_M_takes (59 : Int32) (mW g p (-1) 0) = _ from M_takes ht hpn 0 (c := 59) (by decide) (by decide)]
        by_cases c1 : sg f n p = 59
        · have l1 := (sg_lt (f := f) (n := n) (p := p) (by omega)).1
          have g2 := sk_le (f := f) (n := n) (p := sk f n p + 1) (by omega)
          rw [if_pos c1, zb_s, if_neg z10, if_pos c1, show f_M_takes (101 : Int32) (mW g (sk f n p + 1) (-1) 0) = _ from M_takes ht (by omega) 0 (c := 101) (by decide) (by decide)]
          by_cases c2 : sg f n (sk f n p + 1) = 101
          · have l2 := (sg_lt (f := f) (n := n) (p := sk f n p + 1) (by omega)).1
            rw [if_pos c2, zb_s, if_neg z10, if_pos c2, o23]
            obtain ⟨g', r1, r2, r3, r4⟩ := rd_deed hY hY2 (show d < 5 by omega) ht (show sk f n (sk f n p + 1) + 1 ≤ n by omega) h24
            obtain ⟨k1, k2, k3⟩ := pIr_t0 (f := f) (n := n) (p := sk f n (sk f n p + 1) + 1) hY hY2 (by omega)
            rw [r1, zb_s]
            generalize pIr f n Y (sk f n (sk f n p + 1) + 1) = r at *
            by_cases c3 : r.1 = true
            · have hT2 : dftM g' (d + 1) (upT T d r.2.2) := by
                intro e he
                unfold upT
                by_cases q : e = d
                · subst q
                  rw [if_pos rfl]
                  exact r4
                · rw [if_neg q]
                  have a := r3.2.2 e q
                  have b := hT e (by omega)
                  exact ⟨a.1.trans b.1, a.2.1.trans b.2.1, a.2.2.trans b.2.2⟩
              have o10 : (mW g' r.2.1 (-1) 0).1 107 10 = -1 := rfl
              have p23 : (mW g' r.2.1 (-1) 0).1 107 23 = nI d := (mW_o (by omega)).trans (r3.2.1.trans h23)
              rw [if_pos c3, o10, if_pos rfl, p23, n_1, zl_s, mW_set (by omega), if_pos c3]
              have z2 : zMd g (zsI g' 107 23 (nI (d + 1))) := zAg.sI r2 _ rfl
              have t2 := z2.t ht
              rw [M_look t2 k1, zb_s, k2]
              unfold f_M_readLand_b127
              by_cases c4 : sg f n r.2.1 = 59
              · rw [if_pos (show lkv f n r.2.1 = (59 : Int32) from (lkv_c t2 (c := 59) (by decide) (by decide)).mpr c4), if_neg (show ¬ sg f n r.2.1 = 0 by omega)]
                obtain ⟨g3, q3, s1, s2, s3⟩ := (ih (m + 1) (by omega)).2 m rfl (d + 1) r.2.1 (upT T d r.2.2) (zsI g' 107 23 (nI (d + 1))) (by omega) t2 k1 (Or.inr k2) r3.1 rfl hT2
                exact ⟨g3, q3, s1, z2.tr s2, s3⟩
              · rw [if_neg (show ¬ lkv f n r.2.1 = (59 : Int32) from fun z => c4 ((lkv_c t2 (c := 59) (by decide) (by decide)).mp z)), (ih m (by omega)).1 r.2.1 _ t2 k1]
                by_cases c5 : sg f n r.2.1 = 0
                · rw [if_pos c5, if_pos c5, if_pos (show true = true from rfl)]
                  exact ⟨_, _, rfl, z2, fun _ => ⟨r3.1, rfl, hT2⟩⟩
                · rw [if_neg c5, if_neg c5, pDs_ne c4, if_neg (show ¬ false = true by decide)]
                  exact ⟨_, _, rfl, z2, fun z => by cases z⟩
            · have o10 : (mW g' r.2.1 (nI r.2.1) 0).1 107 10 = nI r.2.1 := rfl
              rw [if_neg c3, o10, if_neg (show ¬ nI r.2.1 = (-1 : Int32) by rw [n_m1 (by omega)]; exact id), if_neg c3, if_neg (show ¬ false = true by decide)]
              exact ⟨g', _, rfl, r2, fun z => by cases z⟩
          · rw [if_neg c2, zb_s, if_pos z00, if_neg c2, if_neg (show ¬ false = true by decide), fail2 _ (by omega)]
            exact ⟨g, _, rfl, zMd.rf g, fun z => by cases z⟩
        · rw [if_neg c1, zb_s, if_pos z00, if_neg c1, if_neg (show ¬ false = true by decide), fail2 _ (by omega)]
          exact ⟨g, _, rfl, zMd.rf g, fun z => by cases z⟩) zFU (m + 1) (zfu (by omega))
  exact key.2 m rfl d p T g hm ht hpn hsp h24 h23 hT
/-- alike but for the model's reading and its land's draft -/
def zMr (w v : gW) : Prop := zAg (fun a b => (a == 107 && [4, 7, 8, 9, 10, 11, 23, 24].contains b) || (a == 115 || (a == 116 || a == 117))) (fun _ => false) w v
theorem zMr.e {u w v : gW} (h : zE u w) (k : zMr w v) : zE u v := zAg.tr (show zAg zScrI zScrL u w from h) (zAg.wk k (fun a b q => by
  simp only [Bool.or_eq_true, Bool.and_eq_true, beq_iff_eq, List.contains_eq_mem, List.mem_cons, List.not_mem_nil, or_false, decide_eq_true_eq] at q
  rcases q with ⟨rfl, q⟩ | q | q | q
  · rcases q with q | q | q | q | q | q | q | q <;> subst q <;> rfl
  · subst q; rfl
  · subst q; rfl
  · subst q; rfl) (fun _ q => by cases q))
theorem zMr_of {w g : gW} {n q : Nat} {fa d : Int32} (h : zMd (mO w 108 0 n) g) : zMr w (mW g q fa d) := by
  refine ⟨fun a b h2 => ?_, fun a b _ => h.2 a b rfl⟩
  have n1 : ¬ (a = 107 ∧ (b = 4 ∨ b = 7 ∨ b = 8 ∨ b = 9 ∨ b = 10 ∨ b = 11 ∨ b = 23 ∨ b = 24)) := fun z => by
    obtain ⟨rfl, z⟩ := z
    rcases z with z | z | z | z | z | z | z | z <;> subst z <;> cases h2
  have n2 : ¬ (a = 115 ∨ a = 116 ∨ a = 117) := fun z => by
    rcases z with z | z | z <;> subst z <;> simp at h2
  rw [mW_o (by omega)]
  have e : g.1 a b = (mO w 108 0 n).1 a b := h.1 a b (by
    have e1 : (a == 115) = false := beq_eq_false_iff_ne.mpr (by omega)
    have e2 : (a == 116) = false := beq_eq_false_iff_ne.mpr (by omega)
    have e3 : (a == 117) = false := beq_eq_false_iff_ne.mpr (by omega)
    dsimp only
    rw [e1, e2, e3]
    by_cases c : a = 107
    · subst c
      have e4 : (b == 23) = false := beq_eq_false_iff_ne.mpr (by omega)
      have e5 : (b == 24) = false := beq_eq_false_iff_ne.mpr (by omega)
      rw [e4, e5]; rfl
    · rw [beq_eq_false_iff_ne.mpr c]; rfl)
  rw [e]
  unfold mO
  rw [zsI_g, if_neg (by omega), zsI_g, if_neg (by omega), zsI_g, if_neg (by omega)]
theorem rd_land {n : Nat} {f : Nat → Nat} {w : gW} (hn : w.1 107 5 = nI n) (ht : TX 108 0 n f (mO w 108 0 n)) : ∃ v : gW, f_M_readLand w = some ((), v) ∧ zMr w v ∧ v.1 107 10 = (if (pLd f n).1 = true then -1 else nI (pLd f n).2.1) ∧ ((pLd f n).1 = true → v.1 107 24 = nI (pLd f n).2.2.1 ∧ v.1 107 23 = nI (pLd f n).2.2.2.1 ∧ dftM v (pLd f n).2.2.2.1 (pLd f n).2.2.2.2) := by
  have h120 := ht.1.2.1
  have g1 := sk_le (f := f) (Nat.zero_le n)
  unfold f_M_readLand
  rw [hn, show f_M_opens 108 (0 : Int32) (nI n) w = _ from M_opens w (t := 108) (b := 0) (n := n) (by decide), zb_s, mW_set (by omega), zl_s]
  have z1 : zMd (mO w 108 0 n) (zsI (mO w 108 0 n) 107 23 0) := zAg.sI (zMd.rf _) _ rfl
  have t1 := z1.t ht
  rw [show f_M_takes (116 : Int32) (mW (zsI (mO w 108 0 n) 107 23 0) 0 (-1) 0) = _ from M_takes t1 (Nat.zero_le n) 0 (c := 116) (by decide) (by decide)]
  unfold pLd
  by_cases c1 : sg f n 0 = 116
  · have l1 := (sg_lt (f := f) (n := n) (p := 0) (by omega)).1
    rw [if_pos c1, zb_s, if_neg z10, if_pos c1, show f_M_digit (2 : Int32) (6 : Int32) (mW (zsI (mO w 108 0 n) 107 23 0) (sk f n 0 + 1) (-1) 0) = _ from M_digit t1 (by omega) 0 (lo := 2) (hi := 6) (by decide) (by decide)]
    have pn : ¬ (pD f n 2 6 (sk f n 0 + 1)).1 = true → (pD f n 2 6 (sk f n 0 + 1)).2.1 = sk f n (sk f n 0 + 1) := fun h => by rw [pD_no h]
    rcases pD_c (f := f) (n := n) (lo := 2) (hi := 6) (p := sk f n 0 + 1) (by omega) with ⟨a1, a2, a3, a4⟩ | ⟨a1, a2, a3⟩
    · rw [if_pos a1, zb_s, zl_s, if_pos a1]
      generalize hY : (pD f n 2 6 (sk f n 0 + 1)).2.2 = Y at *
      generalize hP : (pD f n 2 6 (sk f n 0 + 1)).2.1 = P at *
      rw [mW_set (by omega)]
      have o24 : (mW (zsI (zsI (mO w 108 0 n) 107 23 0) 107 24 (nI Y)) P (-1) 0).1 107 24 = nI Y := rfl
      rw [o24, if_neg (show ¬ nI Y = (-1 : Int32) by rw [n_m1 (by omega)]; exact id)]
      have z2 : zMd (mO w 108 0 n) (zsI (zsI (mO w 108 0 n) 107 23 0) 107 24 (nI Y)) := zAg.sI z1 _ rfl
      obtain ⟨g', q, s1, s2, s3⟩ := rd_deeds a3 a2 (m := 5) (d := 0) (p := P) (T := fun _ _ => 0) (g := zsI (zsI (mO w 108 0 n) 107 23 0) 107 24 (nI Y)) rfl (z2.t ht) a4 (Or.inl rfl) rfl rfl (fun e he => absurd he (Nat.not_lt_zero e))
      refine ⟨_, s1, zMr_of (z2.tr s2), rfl, fun h => ?_⟩
      obtain ⟨u1, u2, u3⟩ := s3 h
      refine ⟨(mW_o (by omega)).trans u1, (mW_o (by omega)).trans u2, fun e he => ?_⟩
      have := u3 e he
      exact ⟨(mW_o (by omega)).trans this.1, (mW_o (by omega)).trans this.2.1, (mW_o (by omega)).trans this.2.2⟩
    · have nt : ¬ (pD f n 2 6 (sk f n 0 + 1)).1 = true := by rw [a1]; decide
      rw [if_neg nt, zb_s, zl_s, if_neg nt, ← pn nt, mW_set (by omega)]
      have z2 : zMd (mO w 108 0 n) (zsI (zsI (mO w 108 0 n) 107 23 0) 107 24 (-1)) := zAg.sI z1 _ rfl
      generalize hP : (pD f n 2 6 (sk f n 0 + 1)).2.1 = P at *
      have o24 : (mW (zsI (zsI (mO w 108 0 n) 107 23 0) 107 24 (-1)) P (nI P) 0).1 107 24 = -1 := rfl
      rw [o24, if_pos rfl, if_neg (show ¬ false = true by decide)]
      exact ⟨_, rfl, zMr_of z2, rfl, fun z => by cases z⟩
  · rw [if_neg c1, zb_s, if_pos z00, if_neg c1, if_neg (show ¬ false = true by decide)]
    exact ⟨_, rfl, zMr_of z1, rfl, fun z => by cases z⟩
