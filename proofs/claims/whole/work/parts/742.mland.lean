/-! PURE: the model reads a land -/
def zMd (w v : gW) : Prop := zAg (fun a b => (a == 107 && (b == 23 || b == 24)) || (a == 115 || (a == 116 || a == 117))) (fun _ => false) w v
theorem zMd.rf (w : gW) : zMd w w := zAg.rf _ _ _
theorem zMd.tr {u w v : gW} (h : zMd u w) (k : zMd w v) : zMd u v := zAg.tr h k
theorem zMd.t {n : Nat} {f : Nat → Nat} {w v : gW} (h : zMd w v) (t : TX 108 0 n f w) : TX 108 0 n f v := by
  refine ⟨t.1, ⟨?_, ?_, ?_⟩, fun j hj => ⟨(t.2.2 j hj).1, (t.2.2 j hj).2.1, ?_⟩⟩
  · rw [h.1 107 4 rfl]; exact t.2.1.1
  · rw [h.1 107 7 rfl]; exact t.2.1.2.1
  · rw [h.1 107 8 rfl]; exact t.2.1.2.2
  · rw [h.1 108 (0 + j) rfl]; exact (t.2.2 j hj).2.2
theorem zMd.e {u w v : gW} (h : zE u w) (k : zMd w v) : zE u v := zAg.tr (show zAg zScrI zScrL u w from h) (zAg.wk k (fun a b q => by
  simp only [Bool.or_eq_true, Bool.and_eq_true, beq_iff_eq] at q
  rcases q with ⟨rfl, q⟩ | q | q | q
  · rcases q with q | q <;> subst q <;> rfl
  · subst q; rfl
  · subst q; rfl
  · subst q; rfl) (fun _ q => by cases q))
theorem mW_set {g : gW} {p : Nat} {fa d : Int32} {a b : Nat} {x : Int32} (h : ¬ (a = 107 ∧ (b = 9 ∨ b = 10 ∨ b = 11))) : zsI (mW g p fa d) a b x = mW (zsI g a b x) p fa d := by
  unfold zsI mW
  congr 1
  funext c e
  dsimp only
  by_cases q : c = a ∧ e = b
  · obtain ⟨rfl, rfl⟩ := q
    rw [if_pos ⟨rfl, rfl⟩, if_neg (by omega), if_neg (by omega), if_neg (by omega), if_pos ⟨rfl, rfl⟩]
  · rw [if_neg q, if_neg q]
theorem told_b : ∀ told, told < 8 → ∀ w, w < 3 → ((told &&& 2 ^ w = 0) ↔ told.testBit w = false) := by decide
theorem rd_items {n Y d : Nat} {f : Nat → Nat} (hY : Y ≤ 6) (hd : d < 5) {m : Nat} {told p : Nat} {t : Nat → Nat} {g : gW} (hm : tc told + m = 4) (h8 : told < 8) (ht : TX 108 0 n f g) (hpn : p ≤ n) (ok : tOk Y t) (h24 : g.1 107 24 = nI Y) (hT : g.1 115 d = nI (t 0) ∧ g.1 116 d = nI (t 1) ∧ g.1 117 d = nI (t 2)) : ∃ g' : gW, f_M_readDeed_b33 (nI d) (nI told) (lkv f n p) (mW g (sk f n p) (-1) 0) = some ((), mW g' (pIt f n Y m t told p).2.1 (if (pIt f n Y m t told p).1 = true then -1 else nI (pIt f n Y m t told p).2.1) 0) ∧ zMd g g' ∧ (g'.1 107 24 = nI Y ∧ g'.1 107 23 = g.1 107 23 ∧ ∀ e, e ≠ d → g'.1 115 e = g.1 115 e ∧ g'.1 116 e = g.1 116 e ∧ g'.1 117 e = g.1 117 e) ∧ g'.1 115 d = nI ((pIt f n Y m t told p).2.2 0) ∧ g'.1 116 d = nI ((pIt f n Y m t told p).2.2 1) ∧ g'.1 117 d = nI ((pIt f n Y m t told p).2.2 2) := by
  have key := zfx_ind (fun _ _ _ _ => none) f_M_readDeed_b33_s (fun m kk => ∀ told p t g, tc told + m = 4 → told < 8 → TX 108 0 n f g → p ≤ n → tOk Y t → g.1 107 24 = nI Y → (g.1 115 d = nI (t 0) ∧ g.1 116 d = nI (t 1) ∧ g.1 117 d = nI (t 2)) → ∃ g' : gW, kk (nI d) (nI told) (lkv f n p) (mW g (sk f n p) (-1) 0) = some ((), mW g' (pIt f n Y m t told p).2.1 (if (pIt f n Y m t told p).1 = true then -1 else nI (pIt f n Y m t told p).2.1) 0) ∧ zMd g g' ∧ (g'.1 107 24 = nI Y ∧ g'.1 107 23 = g.1 107 23 ∧ ∀ e, e ≠ d → g'.1 115 e = g.1 115 e ∧ g'.1 116 e = g.1 116 e ∧ g'.1 117 e = g.1 117 e) ∧ g'.1 115 d = nI ((pIt f n Y m t told p).2.2 0) ∧ g'.1 116 d = nI ((pIt f n Y m t told p).2.2 1) ∧ g'.1 117 d = nI ((pIt f n Y m t told p).2.2 2)) (fun m kk ih told p t g hm h8 ht hpn ok h24 hT => by
    have tl := tc_le told
    have h120 := ht.1.2.1
    have id5 : inb (nI d) 5 := z_inbn hd (by decide)
    have ezd : ix (nI d) = d := z_ix (by omega)
    have g1 := sk_le (f := f) hpn
    cases m with
    | zero => omega
    | succ m =>
      unfold f_M_readDeed_b33_s
      unfold pIt
      have w3 := tw_le (sg f n p)
      have o24 : ∀ q, (mW g q (-1) 0).1 107 24 = nI Y := fun q => (mW_o (by omega)).trans h24
      have o115 : ∀ q a b, a ≠ 107 → (mW g q (-1) 0).1 a b = g.1 a b := fun q a b h => mW_o (by omega)
      -- a digit read, the draft's next state
      have go : ∀ (W : Nat) (g2 : gW) (P V : Nat), W < 3 → told.testBit W = false → P ≤ n → zMd g g2 → tOk Y (up3 t W V) → (g2.1 107 24 = nI Y ∧ g2.1 107 23 = g.1 107 23 ∧ ∀ e, e ≠ d → g2.1 115 e = g.1 115 e ∧ g2.1 116 e = g.1 116 e ∧ g2.1 117 e = g.1 117 e) → (g2.1 115 d = nI (up3 t W V 0) ∧ g2.1 116 d = nI (up3 t W V 1) ∧ g2.1 117 d = nI (up3 t W V 2)) → ∃ g' : gW, f_M_readDeed_b204 kk (nI d) (nI (told ||| 2 ^ W)) (mW g2 P (-1) 0) = some ((), mW g' (pIt f n Y m (up3 t W V) (told ||| 2 ^ W) P).2.1 (if (pIt f n Y m (up3 t W V) (told ||| 2 ^ W) P).1 = true then -1 else nI (pIt f n Y m (up3 t W V) (told ||| 2 ^ W) P).2.1) 0) ∧ zMd g g' ∧ (g'.1 107 24 = nI Y ∧ g'.1 107 23 = g.1 107 23 ∧ ∀ e, e ≠ d → g'.1 115 e = g.1 115 e ∧ g'.1 116 e = g.1 116 e ∧ g'.1 117 e = g.1 117 e) ∧ g'.1 115 d = nI ((pIt f n Y m (up3 t W V) (told ||| 2 ^ W) P).2.2 0) ∧ g'.1 116 d = nI ((pIt f n Y m (up3 t W V) (told ||| 2 ^ W) P).2.2 1) ∧ g'.1 117 d = nI ((pIt f n Y m (up3 t W V) (told ||| 2 ^ W) P).2.2 2) := by
        intro W g2 P V hW hb hP hz hok h1 h2
        obtain ⟨s1, s2⟩ := tc_s told h8 W hW hb
        unfold f_M_readDeed_b204
        rw [M_look (hz.t ht) hP, zb_s]
        obtain ⟨g', r1, r2, r3, r4⟩ := ih m (by omega) (told ||| 2 ^ W) P (up3 t W V) g2 (by omega) s2 (hz.t ht) hP hok h1.1 h2
        refine ⟨g', r1, hz.tr r2, ⟨r3.1, r3.2.1.trans h1.2.1, fun e he => ?_⟩, r4⟩
        have a := r3.2.2 e he
        have b := h1.2.2 e he
        exact ⟨a.1.trans b.1, a.2.1.trans b.2.1, a.2.2.trans b.2.2⟩
      -- a letter, told or not
      have letter : ∀ (W c : Nat), tw (sg f n p) = W → W < 3 → sg f n p = c → (c = 112 ∧ W = 0 ∨ c = 102 ∧ W = 1 ∨ c = 108 ∧ W = 2) → ∃ g' : gW, f_M_readDeed_b72 kk (nI d) (nI told) (nI c) (nI (2 ^ W)) (mW g (sk f n p) (-1) 0) = some ((), mW g' (if told.testBit W = true then (false, sk f n p, t) else if (pD f n (lo3 t W) (hi3 Y t W) (sk f n p + 1)).1 = true then pIt f n Y m (up3 t W (pD f n (lo3 t W) (hi3 Y t W) (sk f n p + 1)).2.2) (told ||| 2 ^ W) (pD f n (lo3 t W) (hi3 Y t W) (sk f n p + 1)).2.1 else (false, (pD f n (lo3 t W) (hi3 Y t W) (sk f n p + 1)).2.1, t)).2.1 (if (if told.testBit W = true then (false, sk f n p, t) else if (pD f n (lo3 t W) (hi3 Y t W) (sk f n p + 1)).1 = true then pIt f n Y m (up3 t W (pD f n (lo3 t W) (hi3 Y t W) (sk f n p + 1)).2.2) (told ||| 2 ^ W) (pD f n (lo3 t W) (hi3 Y t W) (sk f n p + 1)).2.1 else (false, (pD f n (lo3 t W) (hi3 Y t W) (sk f n p + 1)).2.1, t)).1 = true then -1 else nI (if told.testBit W = true then (false, sk f n p, t) else if (pD f n (lo3 t W) (hi3 Y t W) (sk f n p + 1)).1 = true then pIt f n Y m (up3 t W (pD f n (lo3 t W) (hi3 Y t W) (sk f n p + 1)).2.2) (told ||| 2 ^ W) (pD f n (lo3 t W) (hi3 Y t W) (sk f n p + 1)).2.1 else (false, (pD f n (lo3 t W) (hi3 Y t W) (sk f n p + 1)).2.1, t)).2.1) 0) ∧ zMd g g' ∧ (g'.1 107 24 = nI Y ∧ g'.1 107 23 = g.1 107 23 ∧ ∀ e, e ≠ d → g'.1 115 e = g.1 115 e ∧ g'.1 116 e = g.1 116 e ∧ g'.1 117 e = g.1 117 e) ∧ g'.1 115 d = nI ((if told.testBit W = true then (false, sk f n p, t) else if (pD f n (lo3 t W) (hi3 Y t W) (sk f n p + 1)).1 = true then pIt f n Y m (up3 t W (pD f n (lo3 t W) (hi3 Y t W) (sk f n p + 1)).2.2) (told ||| 2 ^ W) (pD f n (lo3 t W) (hi3 Y t W) (sk f n p + 1)).2.1 else (false, (pD f n (lo3 t W) (hi3 Y t W) (sk f n p + 1)).2.1, t)).2.2 0) ∧ g'.1 116 d = nI ((if told.testBit W = true then (false, sk f n p, t) else if (pD f n (lo3 t W) (hi3 Y t W) (sk f n p + 1)).1 = true then pIt f n Y m (up3 t W (pD f n (lo3 t W) (hi3 Y t W) (sk f n p + 1)).2.2) (told ||| 2 ^ W) (pD f n (lo3 t W) (hi3 Y t W) (sk f n p + 1)).2.1 else (false, (pD f n (lo3 t W) (hi3 Y t W) (sk f n p + 1)).2.1, t)).2.2 1) ∧ g'.1 117 d = nI ((if told.testBit W = true then (false, sk f n p, t) else if (pD f n (lo3 t W) (hi3 Y t W) (sk f n p + 1)).1 = true then pIt f n Y m (up3 t W (pD f n (lo3 t W) (hi3 Y t W) (sk f n p + 1)).2.2) (told ||| 2 ^ W) (pD f n (lo3 t W) (hi3 Y t W) (sk f n p + 1)).2.1 else (false, (pD f n (lo3 t W) (hi3 Y t W) (sk f n p + 1)).2.1, t)).2.2 2) := by
        intro W c eW hW ec hc
        have l := tw_sg (f := f) (n := n) (p := p) (by omega)
        have tb := told_b told h8 W hW
        unfold f_M_readDeed_b72
        rw [n_and]
        have h1024 : told &&& 2 ^ W < 2 ^ 31 := Nat.lt_of_le_of_lt Nat.and_le_left (by omega)
        cases c2 : told.testBit W with
        | true =>
          have ne : ¬ nI (told &&& 2 ^ W) = 0 := fun z => by
            have := tb.mp ((n_z0 h1024).mp z)
            rw [c2] at this; cases this
          rw [if_neg ne, M_fails1, zb_s, if_pos (show true = true from rfl)]
          refine ⟨g, rfl, zMd.rf g, ⟨h24, rfl, fun _ _ => ⟨rfl, rfl, rfl⟩⟩, hT⟩
        | false =>
          have e9 : (mW g (sk f n p) (-1) 0).1 107 9 = nI (sk f n p) := rfl
          rw [if_pos ((n_z0 h1024).mpr (tb.mpr c2)), if_neg (show ¬ false = true by decide), n_or, zl_s, zl_s, e9, n_1, mW_s9]
          have b1 : lo3 t W < 10 := by
            have := ok
            unfold tOk at this
            unfold lo3
            split <;> omega
          have b2 : hi3 Y t W < 10 := by
            have := ok
            unfold tOk at this
            unfold hi3
            split
            · omega
            · split <;> omega
          have dig := M_digit (f := f) ht (show sk f n p + 1 ≤ n by omega) (0 : Int32) b1 b2
          have pc := pD_c (f := f) (n := n) (lo := lo3 t W) (hi := hi3 Y t W) (p := sk f n p + 1) (by omega)
          have pn : ¬ (pD f n (lo3 t W) (hi3 Y t W) (sk f n p + 1)).1 = true → (pD f n (lo3 t W) (hi3 Y t W) (sk f n p + 1)).2.1 = sk f n (sk f n p + 1) := fun h => by rw [pD_no h]
          -- behind the bounds
          have rest : ∃ g' : gW, f_M_readDeed_b150 kk (nI d) (nI (told ||| 2 ^ W)) (nI c) (nI (lo3 t W)) (nI (hi3 Y t W)) (mW g (sk f n p + 1) (-1) 0) = some ((), mW g' (if (pD f n (lo3 t W) (hi3 Y t W) (sk f n p + 1)).1 = true then pIt f n Y m (up3 t W (pD f n (lo3 t W) (hi3 Y t W) (sk f n p + 1)).2.2) (told ||| 2 ^ W) (pD f n (lo3 t W) (hi3 Y t W) (sk f n p + 1)).2.1 else (false, (pD f n (lo3 t W) (hi3 Y t W) (sk f n p + 1)).2.1, t)).2.1 (if (if (pD f n (lo3 t W) (hi3 Y t W) (sk f n p + 1)).1 = true then pIt f n Y m (up3 t W (pD f n (lo3 t W) (hi3 Y t W) (sk f n p + 1)).2.2) (told ||| 2 ^ W) (pD f n (lo3 t W) (hi3 Y t W) (sk f n p + 1)).2.1 else (false, (pD f n (lo3 t W) (hi3 Y t W) (sk f n p + 1)).2.1, t)).1 = true then -1 else nI (if (pD f n (lo3 t W) (hi3 Y t W) (sk f n p + 1)).1 = true then pIt f n Y m (up3 t W (pD f n (lo3 t W) (hi3 Y t W) (sk f n p + 1)).2.2) (told ||| 2 ^ W) (pD f n (lo3 t W) (hi3 Y t W) (sk f n p + 1)).2.1 else (false, (pD f n (lo3 t W) (hi3 Y t W) (sk f n p + 1)).2.1, t)).2.1) 0) ∧ zMd g g' ∧ (g'.1 107 24 = nI Y ∧ g'.1 107 23 = g.1 107 23 ∧ ∀ e, e ≠ d → g'.1 115 e = g.1 115 e ∧ g'.1 116 e = g.1 116 e ∧ g'.1 117 e = g.1 117 e) ∧ g'.1 115 d = nI ((if (pD f n (lo3 t W) (hi3 Y t W) (sk f n p + 1)).1 = true then pIt f n Y m (up3 t W (pD f n (lo3 t W) (hi3 Y t W) (sk f n p + 1)).2.2) (told ||| 2 ^ W) (pD f n (lo3 t W) (hi3 Y t W) (sk f n p + 1)).2.1 else (false, (pD f n (lo3 t W) (hi3 Y t W) (sk f n p + 1)).2.1, t)).2.2 0) ∧ g'.1 116 d = nI ((if (pD f n (lo3 t W) (hi3 Y t W) (sk f n p + 1)).1 = true then pIt f n Y m (up3 t W (pD f n (lo3 t W) (hi3 Y t W) (sk f n p + 1)).2.2) (told ||| 2 ^ W) (pD f n (lo3 t W) (hi3 Y t W) (sk f n p + 1)).2.1 else (false, (pD f n (lo3 t W) (hi3 Y t W) (sk f n p + 1)).2.1, t)).2.2 1) ∧ g'.1 117 d = nI ((if (pD f n (lo3 t W) (hi3 Y t W) (sk f n p + 1)).1 = true then pIt f n Y m (up3 t W (pD f n (lo3 t W) (hi3 Y t W) (sk f n p + 1)).2.2) (told ||| 2 ^ W) (pD f n (lo3 t W) (hi3 Y t W) (sk f n p + 1)).2.1 else (false, (pD f n (lo3 t W) (hi3 Y t W) (sk f n p + 1)).2.1, t)).2.2 2) := by
            unfold f_M_readDeed_b150
            rw [dig]
            generalize pD f n (lo3 t W) (hi3 Y t W) (sk f n p + 1) = D at pc pn ⊢
            rcases pc with ⟨a1, a2, a3, a4⟩ | ⟨a1, a2, a3⟩
            · rw [if_pos a1, zb_s, if_neg (show ¬ nI D.2.2 = (-1 : Int32) by rw [n_m1 (by omega)]; exact id), if_pos a1]
              have uok := up3_ok ok hY hW a2 a3
              rcases hc with ⟨e1, e2⟩ | ⟨e1, e2⟩ | ⟨e1, e2⟩
              · subst e1; subst e2
                rw [if_pos (show nI 112 = (112 : Int32) from rfl), if_pos id5, zl_s, ezd, mW_set (by omega)]
                unfold f_M_readDeed_b176 f_M_readDeed_b190
                rw [if_neg (show ¬ nI 112 = (102 : Int32) by decide), if_neg (show ¬ nI 112 = (108 : Int32) by decide)]
                refine go 0 (zsI g 115 d (nI D.2.2)) D.2.1 D.2.2 hW c2 a4 (zAg.sI (zMd.rf g) _ rfl) uok ⟨h24, rfl, fun e he => ⟨?_, rfl, rfl⟩⟩ ⟨?_, ?_, ?_⟩
                · rw [zsI_g, if_neg (fun z => he z.2)]
                · rw [zsI_g, if_pos ⟨rfl, rfl⟩]; rfl
                · exact hT.2.1
                · exact hT.2.2
              · subst e1; subst e2
                rw [if_neg (show ¬ nI 102 = (112 : Int32) by decide)]
                unfold f_M_readDeed_b176 f_M_readDeed_b190
                rw [if_pos (show nI 102 = (102 : Int32) from rfl), if_pos id5, zl_s, ezd, mW_set (by omega), if_neg (show ¬ nI 102 = (108 : Int32) by decide)]
                refine go 1 (zsI g 116 d (nI D.2.2)) D.2.1 D.2.2 hW c2 a4 (zAg.sI (zMd.rf g) _ rfl) uok ⟨h24, rfl, fun e he => ⟨rfl, ?_, rfl⟩⟩ ⟨?_, ?_, ?_⟩
                · rw [zsI_g, if_neg (fun z => he z.2)]
                · exact hT.1
                · rw [zsI_g, if_pos ⟨rfl, rfl⟩]; rfl
                · exact hT.2.2
              · subst e1; subst e2
                rw [if_neg (show ¬ nI 108 = (112 : Int32) by decide)]
                unfold f_M_readDeed_b176 f_M_readDeed_b190
                rw [if_neg (show ¬ nI 108 = (102 : Int32) by decide), if_pos (show nI 108 = (108 : Int32) from rfl), if_pos id5, zl_s, ezd, mW_set (by omega)]
                refine go 2 (zsI g 117 d (nI D.2.2)) D.2.1 D.2.2 hW c2 a4 (zAg.sI (zMd.rf g) _ rfl) uok ⟨h24, rfl, fun e he => ⟨rfl, rfl, ?_⟩⟩ ⟨?_, ?_, ?_⟩
                · rw [zsI_g, if_neg (fun z => he z.2)]
                · exact hT.1
                · exact hT.2.1
                · rw [zsI_g, if_pos ⟨rfl, rfl⟩]; rfl
            · have nt : ¬ D.1 = true := by rw [a1]; decide
              rw [if_neg nt, zb_s, if_pos rfl, if_neg nt, if_neg (show ¬ false = true by decide), ← pn nt]
              exact ⟨g, rfl, zMd.rf g, ⟨h24, rfl, fun _ _ => ⟨rfl, rfl, rfl⟩⟩, hT⟩
          rcases hc with ⟨e1, e2⟩ | ⟨e1, e2⟩ | ⟨e1, e2⟩
          · subst e1; subst e2
            rw [if_neg (show ¬ nI 112 = (108 : Int32) by decide)]
            unfold f_M_readDeed_b119
            rw [if_pos (show nI 112 = (112 : Int32) from rfl)]
            exact rest
          · subst e1; subst e2
            rw [if_neg (show ¬ nI 102 = (108 : Int32) by decide)]
            unfold f_M_readDeed_b119
            rw [if_neg (show ¬ nI 102 = (112 : Int32) by decide), if_pos (show nI 102 = (102 : Int32) from rfl), if_pos id5, ezd, o115 _ 117 d (by decide), hT.2.2]
            exact rest
          · subst e1; subst e2
            have ok3 := ok.2.2
            rw [if_pos (show nI 108 = (108 : Int32) from rfl), if_pos id5, ezd, o115 _ 116 d (by decide), hT.2.1]
            unfold f_M_readDeed_b119
            rw [if_neg (show ¬ nI 108 = (112 : Int32) by decide), if_neg (show ¬ nI 108 = (102 : Int32) by decide), o24, show (1 : Int32) = nI 1 from rfl, n_sub (by omega)]
            exact rest
      unfold f_M_readDeed_b51
      by_cases s1 : sg f n p = 112
      · have e1 : tw (sg f n p) = 0 := by rw [s1]; rfl
        have ek : lkv f n p = nI 112 := by rw [lkv_lit (by omega), s1]
        rw [ek, if_pos (show nI 112 = (112 : Int32) from rfl), if_pos (show nI 112 = (112 : Int32) from rfl), e1, if_neg (by decide)]
        exact letter 0 112 e1 (by decide) s1 (Or.inl ⟨rfl, rfl⟩)
      · by_cases s2 : sg f n p = 102
        · have e1 : tw (sg f n p) = 1 := by rw [s2]; rfl
          have ek : lkv f n p = nI 102 := by rw [lkv_lit (by omega), s2]
          rw [ek, if_neg (show ¬ nI 102 = (112 : Int32) by decide), if_pos (show nI 102 = (102 : Int32) from rfl), if_neg (show ¬ nI 102 = (112 : Int32) by decide), if_pos (show nI 102 = (102 : Int32) from rfl), e1, if_neg (by decide)]
          exact letter 1 102 e1 (by decide) s2 (Or.inr (Or.inl ⟨rfl, rfl⟩))
        · by_cases s3 : sg f n p = 108
          · have e1 : tw (sg f n p) = 2 := by rw [s3]; rfl
            have ek : lkv f n p = nI 108 := by rw [lkv_lit (by omega), s3]
            rw [ek, if_neg (show ¬ nI 108 = (112 : Int32) by decide), if_neg (show ¬ nI 108 = (102 : Int32) by decide), if_pos (show nI 108 = (108 : Int32) from rfl), if_neg (show ¬ nI 108 = (112 : Int32) by decide), if_neg (show ¬ nI 108 = (102 : Int32) by decide), e1, if_neg (by decide)]
            exact letter 2 108 e1 (by decide) s3 (Or.inr (Or.inr ⟨rfl, rfl⟩))
          · have e1 : tw (sg f n p) = 3 := by unfold tw; rw [if_neg s1, if_neg s2, if_neg s3]
            have k1 : ¬ lkv f n p = (112 : Int32) := fun z => s1 ((lkv_c ht (c := 112) (by decide) (by decide)).mp z)
            have k2 : ¬ lkv f n p = (102 : Int32) := fun z => s2 ((lkv_c ht (c := 102) (by decide) (by decide)).mp z)
            have k3 : ¬ lkv f n p = (108 : Int32) := fun z => s3 ((lkv_c ht (c := 108) (by decide) (by decide)).mp z)
            rw [if_neg k1, if_neg k2, if_neg k3, if_pos e1, if_pos (show true = true from rfl)]
            exact ⟨g, rfl, zMd.rf g, ⟨h24, rfl, fun _ _ => ⟨rfl, rfl, rfl⟩⟩, hT⟩) zFU m (zfu (by omega))
  exact key told p t g hm h8 ht hpn ok h24 hT
