/-! PURE: agreement off some slots; the tape's calls -/
def zAg (P : Nat → Nat → Bool) (PL : Nat → Bool) (w u : gW) : Prop := (∀ a b, P a b = false → u.1 a b = w.1 a b) ∧ (∀ a b, PL a = false → u.2 a b = w.2 a b)
def zMk (P : Nat → Nat → Bool) (PL : Nat → Bool) (w : gW) : gW := (fun a b => if P a b = true then 0 else w.1 a b, fun a b => if PL a = true then 0 else w.2 a b)
theorem zAg.rf (P : Nat → Nat → Bool) (PL : Nat → Bool) (w : gW) : zAg P PL w w := ⟨fun _ _ _ => rfl, fun _ _ _ => rfl⟩
theorem zAg.tr {P : Nat → Nat → Bool} {PL : Nat → Bool} {w u v : gW} (h : zAg P PL w u) (k : zAg P PL u v) : zAg P PL w v := ⟨fun a b q => (k.1 a b q).trans (h.1 a b q), fun a b q => (k.2 a b q).trans (h.2 a b q)⟩
theorem zAg.sI {P : Nat → Nat → Bool} {PL : Nat → Bool} {w u : gW} (h : zAg P PL w u) {k j : Nat} (v : Int32) (q : P k j = true) : zAg P PL w (zsI u k j v) := by
  refine ⟨fun a b hh => ?_, fun a b hh => h.2 a b hh⟩
  show (if a = k ∧ b = j then v else u.1 a b) = w.1 a b
  rw [if_neg (fun z => by rw [z.1, z.2, q] at hh; cases hh)]
  exact h.1 a b hh
theorem zAg.sL {P : Nat → Nat → Bool} {PL : Nat → Bool} {w u : gW} (h : zAg P PL w u) {k j : Nat} (v : Int64) (q : PL k = true) : zAg P PL w (zsL u k j v) := by
  refine ⟨fun a b hh => h.1 a b hh, fun a b hh => ?_⟩
  show (if a = k ∧ b = j then v else u.2 a b) = w.2 a b
  rw [if_neg (fun z => by rw [z.1, q] at hh; cases hh)]
  exact h.2 a b hh
theorem zAg.mk {P : Nat → Nat → Bool} {PL : Nat → Bool} {w u : gW} (h : zAg P PL w u) : zMk P PL u = zMk P PL w := by
  unfold zMk
  congr 1
  · funext a b
    by_cases q : P a b = true
    · rw [if_pos q, if_pos q]
    · rw [if_neg q, if_neg q, h.1 a b (by simpa using q)]
  · funext a b
    by_cases q : PL a = true
    · rw [if_pos q, if_pos q]
    · rw [if_neg q, if_neg q, h.2 a b (by simpa using q)]
theorem zAg.wk {P P' : Nat → Nat → Bool} {PL PL' : Nat → Bool} {w u : gW} (h : zAg P PL w u) (h1 : ∀ a b, P a b = true → P' a b = true) (h2 : ∀ a, PL a = true → PL' a = true) : zAg P' PL' w u := by
  refine ⟨fun a b q => h.1 a b ?_, fun a b q => h.2 a b ?_⟩
  · cases e : P a b with
    | false => rfl
    | true => rw [h1 a b e] at q; cases q
  · cases e : PL a with
    | false => rfl
    | true => rw [h2 a e] at q; cases q
/-- the slots of the tape, with scratch -/
def zPT (a b : Nat) : Bool := zScrI a b || (a == 1 && b == 1) || a == 2 || a == 108 || (a == 107 && b == 5)
/-- the tape: n bytes, alike in both -/
def jT (n : Nat) (f : Nat → Nat) (w : gW) : Prop := n ≤ 120 ∧ w.1 1 1 = nI n ∧ w.1 107 5 = nI n ∧ ∀ j, j < n → 0 < f j ∧ f j < 256 ∧ w.1 2 j = nI (f j) ∧ w.1 108 j = (nI (f j)).toInt8.toInt32
def zfl (n : Nat) (f : Nat → Nat) : List Nat → Nat → Nat
  | [] => f
  | c :: l => zfl (n + 1) (fun j => if j = n then c else f j) l
theorem zfl_lt (l : List Nat) : ∀ (n : Nat) (f : Nat → Nat) (j : Nat), j < n → zfl n f l j = f j := by
  induction l with
  | nil => intro n f j _; rfl
  | cons c l ih =>
    intro n f j h
    show zfl (n + 1) _ l j = f j
    rw [ih _ _ _ (by omega), if_neg (by omega)]
theorem jT_app (l : List Nat) : ∀ (w : gW) (n : Nat) (f : Nat → Nat) (w' : gW), (∀ c ∈ l, 0 < c ∧ c < 256) → n + l.length ≤ 120 →
    (∀ j, j < n → 0 < f j ∧ f j < 256 ∧ w.1 2 j = nI (f j)) → (∀ j, j < n → w'.1 108 j = (nI (f j)).toInt8.toInt32) →
    (∀ j, j < n + l.length → 0 < zfl n f l j ∧ zfl n f l j < 256 ∧ (zpX w n l).1 2 j = nI (zfl n f l j) ∧ (zpM w' n l).1 108 j = (nI (zfl n f l j)).toInt8.toInt32) := by
  induction l with
  | nil => intro w n f w' _ _ h1 h2 j hj; exact ⟨(h1 j hj).1, (h1 j hj).2.1, (h1 j hj).2.2, h2 j hj⟩
  | cons c l ih =>
    intro w n f w' hc hl h1 h2 j hj
    rw [List.length_cons] at hl hj
    have hc0 := hc c List.mem_cons_self
    refine ih _ (n + 1) _ _ (fun d hd => hc d (List.mem_cons_of_mem _ hd)) (by omega) ?_ ?_ j (by omega)
    · intro i hi
      by_cases q : i = n
      · subst q
        rw [if_pos rfl]
        refine ⟨hc0.1, hc0.2, ?_⟩
        rw [zsI_g, if_neg (by omega), zsI_g, if_pos ⟨rfl, rfl⟩]
      · rw [if_neg q, zsI_g, if_neg (by omega), zsI_g, if_neg (by omega)]
        exact h1 i (by omega)
    · intro i hi
      by_cases q : i = n
      · subst q
        rw [if_pos rfl, zsI_g, if_neg (by omega), zsI_g, if_pos ⟨rfl, rfl⟩]
      · rw [if_neg q, zsI_g, if_neg (by omega), zsI_g, if_neg (by omega)]
        exact h2 i (by omega)
theorem zpX_ag (l : List Nat) : ∀ (w : gW) (n : Nat), zAg (fun a b => (a == 1 && b == 1) || a == 2) (fun _ => false) w (zpX w n l) := by
  induction l with
  | nil => intro w n; exact zAg.rf _ _ w
  | cons c l ih => intro w n; exact ((zAg.rf _ _ w).sI _ (by simp)).sI _ (by simp) |>.tr (ih _ _)
theorem zpM_ag (l : List Nat) : ∀ (w : gW) (n : Nat), zAg (fun a b => (a == 107 && b == 5) || a == 108) (fun _ => false) w (zpM w n l) := by
  induction l with
  | nil => intro w n; exact zAg.rf _ _ w
  | cons c l ih => intro w n; exact ((zAg.rf _ _ w).sI _ (by simp)).sI _ (by simp) |>.tr (ih _ _)
theorem zbs_in (v : Int32) : ∀ c ∈ zbs v, 0 < c ∧ c < 256 := by
  intro c hc
  unfold zbs at hc
  rw [List.mem_filter, List.mem_map] at hc
  obtain ⟨⟨s, _, rfl⟩, hz⟩ := hc
  have := zby_lt v s
  simp at hz
  omega
def zb5 (a b c d e : Int32) : List Nat := zbs a ++ (zbs b ++ (zbs c ++ (zbs d ++ zbs e)))
theorem X_feed (a1 a2 a3 a4 a5 : Int32) (w : gW) (n : Nat) (hn : w.1 1 1 = nI n) (h : n ≤ 120) : f_X_feed a1 a2 a3 a4 a5 w = if n + (zb5 a1 a2 a3 a4 a5).length ≤ 120 then some (nI (n + (zb5 a1 a2 a3 a4 a5).length), zpX w n (zb5 a1 a2 a3 a4 a5)) else some (-1, w) := by
  unfold f_X_feed f_Tp_take
  simp only [Tp_signs, zb_s, zl_s, hn, nI_add]
  have l1 := zbs_le a1
  have l2 := zbs_le a2
  have l3 := zbs_le a3
  have l4 := zbs_le a4
  have l5 := zbs_le a5
  have hl : (zb5 a1 a2 a3 a4 a5).length = (zbs a1).length + (zbs a2).length + (zbs a3).length + (zbs a4).length + (zbs a5).length := by
    unfold zb5
    simp only [List.length_append]
    omega
  rw [hl]
  by_cases hc : n + ((zbs a1).length + (zbs a2).length + (zbs a3).length + (zbs a4).length + (zbs a5).length) ≤ 120
  · rw [if_pos (by rw [i_le, i_nI (by omega), i_lit 120 (by omega)]; omega), if_pos hc]
    have q1 := zpX_len (zbs a1) w n hn
    have q2 := zpX_len (zbs a2) _ _ q1
    have q3 := zpX_len (zbs a3) _ _ q2
    have q4 := zpX_len (zbs a4) _ _ q3
    have q5 := zpX_len (zbs a5) _ _ q4
    rw [Tp_put a1 w n hn (by omega), zb_s, Tp_put a2 _ _ q1 (by omega), zb_s, Tp_put a3 _ _ q2 (by omega), zb_s, Tp_put a4 _ _ q3 (by omega), zb_s, Tp_put a5 _ _ q4 (by omega), zb_s, zb_s, q5]
    unfold zb5
    rw [zpX_app, zpX_app, zpX_app, zpX_app]
    simp only [Nat.add_assoc]
  · rw [if_neg (by rw [i_le, i_nI (by omega), i_lit 120 (by omega)]; omega), if_neg hc, zb_s]
theorem M_feed (a1 a2 a3 a4 a5 : Int32) (w : gW) (n : Nat) (hn : w.1 107 5 = nI n) (h : n ≤ 120) : f_M_feed a1 a2 a3 a4 a5 w = if n + (zb5 a1 a2 a3 a4 a5).length ≤ 120 then some (nI (n + (zb5 a1 a2 a3 a4 a5).length), zpM (zsI w 107 0 0) n (zb5 a1 a2 a3 a4 a5)) else some (-1, zsI w 107 0 0) := by
  unfold f_M_feed
  have hn' : (zsI w 107 0 0).1 107 5 = nI n := by rw [zsI_g, if_neg (by omega)]; exact hn
  simp only [M_bytes, zb_s, zl_s, hn', nI_add]
  have l1 := zbs_le a1
  have l2 := zbs_le a2
  have l3 := zbs_le a3
  have l4 := zbs_le a4
  have l5 := zbs_le a5
  have hl : (zb5 a1 a2 a3 a4 a5).length = (zbs a1).length + (zbs a2).length + (zbs a3).length + (zbs a4).length + (zbs a5).length := by
    unfold zb5
    simp only [List.length_append]
    omega
  rw [hl]
  by_cases hc : n + ((zbs a1).length + (zbs a2).length + (zbs a3).length + (zbs a4).length + (zbs a5).length) ≤ 120
  · rw [if_pos (by rw [i_le, i_nI (by omega), i_lit 120 (by omega)]; omega), if_pos hc]
    have q1 := zpM_len (zbs a1) _ n hn'
    have q2 := zpM_len (zbs a2) _ _ q1
    have q3 := zpM_len (zbs a3) _ _ q2
    have q4 := zpM_len (zbs a4) _ _ q3
    have q5 := zpM_len (zbs a5) _ _ q4
    rw [M_put a1 _ n hn' (by omega), zb_s, M_put a2 _ _ q1 (by omega), zb_s, M_put a3 _ _ q2 (by omega), zb_s, M_put a4 _ _ q3 (by omega), zb_s, M_put a5 _ _ q4 (by omega), zb_s, q5]
    unfold zb5
    rw [zpM_app, zpM_app, zpM_app, zpM_app]
    simp only [Nat.add_assoc]
  · rw [if_neg (by rw [i_le, i_nI (by omega), i_lit 120 (by omega)]; omega), if_neg hc]
/-- feed: both alike; nothing but the tape (and scratch) changes -/
theorem s_feed (a1 a2 a3 a4 a5 : Int32) (w : gW) {n : Nat} {f : Nat → Nat} (h : jT n f w) : ∃ (r : Int32) (w1 w2 : gW), f_X_feed a1 a2 a3 a4 a5 w = some (r, w1) ∧ f_M_feed a1 a2 a3 a4 a5 w1 = some (r, w2) ∧ (∃ n' f', jT n' f' w2) ∧ zAg zPT (fun _ => false) w w2 := by
  obtain ⟨h1, h2, h3, h4⟩ := h
  rw [X_feed a1 a2 a3 a4 a5 w n h2 h1]
  by_cases hc : n + (zb5 a1 a2 a3 a4 a5).length ≤ 120
  · rw [if_pos hc]
    have ag := zpX_ag (zb5 a1 a2 a3 a4 a5) w n
    refine ⟨_, _, zpM (zsI (zpX w n (zb5 a1 a2 a3 a4 a5)) 107 0 0) n (zb5 a1 a2 a3 a4 a5), rfl, ?_, ⟨n + (zb5 a1 a2 a3 a4 a5).length, zfl n f (zb5 a1 a2 a3 a4 a5), hc, ?_, ?_, ?_⟩, ?_⟩
    · rw [M_feed a1 a2 a3 a4 a5 _ n ((ag.1 107 5 rfl).trans h3) h1, if_pos hc]
    · rw [(zpM_ag _ _ _).1 1 1 rfl, zsI_g, if_neg (by omega)]
      exact zpX_len _ _ _ h2
    · exact zpM_len _ _ _ (by rw [zsI_g, if_neg (by omega)]; exact (ag.1 107 5 rfl).trans h3)
    · intro j hj
      have hz : ∀ c ∈ zb5 a1 a2 a3 a4 a5, 0 < c ∧ c < 256 := by
        intro c hcm
        unfold zb5 at hcm
        simp only [List.mem_append] at hcm
        rcases hcm with q | q | q | q | q <;> exact zbs_in _ c q
      have key := jT_app (zb5 a1 a2 a3 a4 a5) w n f (zsI (zpX w n (zb5 a1 a2 a3 a4 a5)) 107 0 0) hz hc (fun j hj => ⟨(h4 j hj).1, (h4 j hj).2.1, (h4 j hj).2.2.1⟩) (fun j hj => by rw [zsI_g, if_neg (by omega), ag.1 108 j rfl]; exact (h4 j hj).2.2.2) j hj
      refine ⟨key.1, key.2.1, ?_, key.2.2.2⟩
      rw [(zpM_ag _ _ _).1 2 j rfl, zsI_g, if_neg (by omega)]
      exact key.2.2.1
    · refine (ag.wk (fun a b q => ?_) (fun a q => q)).tr ((((zAg.rf _ _ _).sI _ rfl)).tr ((zpM_ag _ _ _).wk (fun a b q => ?_) (fun a q => q)))
      · simp only [zPT, Bool.or_eq_true] at q ⊢; rcases q with q | q <;> simp [q]
      · simp only [zPT, Bool.or_eq_true] at q ⊢; rcases q with q | q <;> simp [q]
  · rw [if_neg hc]
    refine ⟨_, _, zsI w 107 0 0, rfl, ?_, ⟨n, f, h1, ?_, ?_, fun j hj => ?_⟩, (zAg.rf _ _ _).sI _ rfl⟩
    · rw [M_feed a1 a2 a3 a4 a5 _ n h3 h1, if_neg hc]
    · rw [zsI_g, if_neg (by omega)]; exact h2
    · rw [zsI_g, if_neg (by omega)]; exact h3
    · rw [zsI_g, if_neg (by omega), zsI_g, if_neg (by omega)]; exact h4 j hj
/-- end -/
theorem s_end (a1 : Int32) (w : gW) {n : Nat} {f : Nat → Nat} (h : jT n f w) : ∃ (r : Int32) (w1 w2 : gW), f_X_end a1 w = some (r, w1) ∧ f_M_end a1 w1 = some (r, w2) ∧ (∃ n' f', jT n' f' w2) ∧ zAg zPT (fun _ => false) w w2 := by
  obtain ⟨h1, h2, h3, h4⟩ := h
  unfold f_X_end f_Tp_cut f_M_end
  simp only [zl_s]
  by_cases c0 : a1 < 0
  · rw [if_pos c0]
    refine ⟨0, w, zsI w 107 0 0, by rw [zb_s, if_pos (by decide)], by rw [if_pos c0], ⟨n, f, h1, ?_, ?_, fun j hj => ?_⟩, (zAg.rf _ _ _).sI _ rfl⟩
    · rw [zsI_g, if_neg (by omega)]; exact h2
    · rw [zsI_g, if_neg (by omega)]; exact h3
    · rw [zsI_g, if_neg (by omega), zsI_g, if_neg (by omega)]; exact h4 j hj
  · rw [if_neg c0, h2]
    by_cases c1 : a1 ≤ nI n
    · rw [if_pos c1]
      obtain ⟨k, hk, rfl⟩ := nI_of c0
      have hkn : k ≤ n := (nI_leI hk (by omega)).mp c1
      refine ⟨1, zsI w 1 1 (nI k), zsI (zsI (zsI w 1 1 (nI k)) 107 0 0) 107 5 (nI k), by rw [zb_s, if_pos (by decide)], ?_, ⟨k, f, by omega, ?_, ?_, fun j hj => ?_⟩, (((zAg.rf _ _ _).sI _ rfl).sI _ rfl).sI _ rfl⟩
      · rw [if_neg c0, if_pos (by rw [zsI_g, if_neg (by omega), zsI_g, if_neg (by omega), h3]; exact c1)]
      · rw [zsI_g, if_neg (by omega), zsI_g, if_neg (by omega), zsI_g, if_pos ⟨rfl, rfl⟩]
      · rw [zsI_g, if_pos ⟨rfl, rfl⟩]
      · have := h4 j (by omega)
        refine ⟨this.1, this.2.1, ?_, ?_⟩
        · rw [zsI_g, if_neg (by omega), zsI_g, if_neg (by omega), zsI_g, if_neg (by omega)]; exact this.2.2.1
        · rw [zsI_g, if_neg (by omega), zsI_g, if_neg (by omega), zsI_g, if_neg (by omega)]; exact this.2.2.2
    · rw [if_neg c1]
      refine ⟨0, w, zsI w 107 0 0, by rw [zb_s, if_pos (by decide)], ?_, ⟨n, f, h1, ?_, ?_, fun j hj => ?_⟩, (zAg.rf _ _ _).sI _ rfl⟩
      · rw [if_neg c0, if_neg (by rw [zsI_g, if_neg (by omega), h3]; exact c1)]
      · rw [zsI_g, if_neg (by omega)]; exact h2
      · rw [zsI_g, if_neg (by omega)]; exact h3
      · rw [zsI_g, if_neg (by omega), zsI_g, if_neg (by omega)]; exact h4 j hj
