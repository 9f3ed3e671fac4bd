/-! PURE: the texts of oaths as a function of bytes; what a code says -/
def pSk (f : Nat → Nat) : Nat → Nat → Nat
  | 0, p => p
  | m + 1, p => if f p = 32 then pSk f m (p + 1) else p
/-- the place of the next sign; the sign (0 at the end) -/
def sk (f : Nat → Nat) (n p : Nat) : Nat := pSk f (n - p) p
def sg (f : Nat → Nat) (n p : Nat) : Nat := if sk f n p < n then f (sk f n p) else 0
theorem sk_s {f : Nat → Nat} {n p : Nat} (h : p < n) (h32 : f p = 32) : sk f n p = sk f n (p + 1) := by
  unfold sk
  rw [show n - p = (n - (p + 1)) + 1 by omega, pSk, if_pos h32]
theorem sk_e {f : Nat → Nat} {n p : Nat} (h : ¬ (p < n ∧ f p = 32)) : sk f n p = p := by
  unfold sk
  by_cases q : p < n
  · rw [show n - p = (n - (p + 1)) + 1 by omega, pSk, if_neg (fun e => h ⟨q, e⟩)]
  · rw [show n - p = 0 by omega, pSk]
theorem sk_ind {f : Nat → Nat} {n : Nat} (P : Nat → Prop) (h1 : ∀ p, p < n → f p = 32 → P (p + 1) → P p) (h2 : ∀ p, ¬ (p < n ∧ f p = 32) → P p) (p : Nat) : P p := by
  have key : ∀ m p, n - p ≤ m → P p := by
    intro m
    induction m with
    | zero => intro p hp; exact h2 p (fun q => by omega)
    | succ m ih =>
      intro p hp
      by_cases q : p < n ∧ f p = 32
      · exact h1 p q.1 q.2 (ih (p + 1) (by omega))
      · exact h2 p q
  exact key (n - p) p (Nat.le_refl _)
theorem sk_all (f : Nat → Nat) (n : Nat) (p : Nat) : p ≤ sk f n p ∧ (p ≤ n → sk f n p ≤ n) ∧ ¬ (sk f n p < n ∧ f (sk f n p) = 32) ∧ (∀ j, p ≤ j → j < sk f n p → f j = 32) := by
  refine sk_ind (f := f) (n := n) (fun p => p ≤ sk f n p ∧ (p ≤ n → sk f n p ≤ n) ∧ ¬ (sk f n p < n ∧ f (sk f n p) = 32) ∧ (∀ j, p ≤ j → j < sk f n p → f j = 32)) (fun p hp h32 ih => ?_) (fun p hp => ?_) p
  · rw [sk_s hp h32]
    refine ⟨by omega, fun _ => ih.2.1 (by omega), ih.2.2.1, fun j hj hj2 => ?_⟩
    by_cases q : j = p
    · rw [q]; exact h32
    · exact ih.2.2.2 j (by omega) hj2
  · rw [sk_e hp]
    exact ⟨Nat.le_refl _, fun h => h, hp, fun j h1 h2 => by omega⟩
theorem sk_ge (f : Nat → Nat) (n p : Nat) : p ≤ sk f n p := (sk_all f n p).1
theorem sk_le {f : Nat → Nat} {n p : Nat} (h : p ≤ n) : sk f n p ≤ n := (sk_all f n p).2.1 h
theorem sk_sk (f : Nat → Nat) (n p : Nat) : sk f n (sk f n p) = sk f n p := sk_e (sk_all f n p).2.2.1
theorem sk_bl {f : Nat → Nat} {n p j : Nat} (h1 : p ≤ j) (h2 : j < sk f n p) : f j = 32 := (sk_all f n p).2.2.2 j h1 h2
theorem sg_sk (f : Nat → Nat) (n p : Nat) : sg f n (sk f n p) = sg f n p := by unfold sg; rw [sk_sk]
theorem sg_lt {f : Nat → Nat} {n p : Nat} (h : sg f n p ≠ 0) : sk f n p < n ∧ f (sk f n p) = sg f n p := by
  unfold sg at h ⊢
  by_cases q : sk f n p < n
  · rw [if_pos q] at h ⊢; exact ⟨q, rfl⟩
  · rw [if_neg q] at h; exact absurd rfl h
theorem sg_z {f : Nat → Nat} {n p : Nat} (hf : ∀ j, j < n → 0 < f j) (hp : p ≤ n) : (sg f n p = 0) ↔ sk f n p = n := by
  unfold sg
  have := sk_le (f := f) hp
  by_cases q : sk f n p < n
  · rw [if_pos q]
    have := hf _ q
    omega
  · rw [if_neg q]
    exact ⟨fun _ => by omega, fun _ => rfl⟩
abbrev pR : Type := Bool × Nat × List Nat
def pD (f : Nat → Nat) (n lo hi p : Nat) : Bool × Nat × Nat := if 48 + lo ≤ sg f n p ∧ sg f n p ≤ 48 + hi then (true, sk f n p + 1, sg f n p - 48) else (false, sk f n p, 0)
def pLt (f : Nat → Nat) (n p : Nat) : Bool × Nat × Nat := if 97 ≤ sg f n p ∧ sg f n p ≤ 101 then (true, sk f n p + 1, sg f n p - 97) else (false, sk f n p, 0)
def pRe (f : Nat → Nat) (n d p : Nat) : pR :=
  if sg f n p = 60 ∨ sg f n p = 61 then (if (pLt f n (sk f n p + 1)).1 = true then (true, (pLt f n (sk f n p + 1)).2.1, [(if sg f n p = 60 then 256 else 512) + d * 16 + (pLt f n (sk f n p + 1)).2.2]) else (false, (pLt f n (sk f n p + 1)).2.1, []))
  else if 48 ≤ sg f n p ∧ sg f n p ≤ 57 then (if (pD f n 0 5 p).1 = true then (true, (pD f n 0 5 p).2.1, [d * 16 + (pD f n 0 5 p).2.2]) else (false, (pD f n 0 5 p).2.1, []))
  else (true, sk f n p, [d * 16 + 5])
def pLp (f : Nat → Nat) (n sep op : Nat) (u : Nat → pR) : Nat → Nat → List Nat → pR
  | 0, p, em => (true, p, em)
  | m + 1, p, em => if sg f n p = sep then (if (u (sk f n p + 1)).1 = true then pLp f n sep op u m (u (sk f n p + 1)).2.1 (em ++ (u (sk f n p + 1)).2.2 ++ [op]) else (false, (u (sk f n p + 1)).2.1, [])) else (true, sk f n p, em)
def pCh (f : Nat → Nat) (n : Nat) (u : Nat → pR) (p : Nat) : pR := if (u p).1 = true then pLp f n 38 1280 u 120 (u p).2.1 (u p).2.2 else (false, (u p).2.1, [])
def pOa (f : Nat → Nat) (n : Nat) (u : Nat → pR) (p : Nat) : pR := if (pCh f n u p).1 = true then pLp f n 124 1536 (pCh f n u) 120 (pCh f n u p).2.1 (pCh f n u p).2.2 else (false, (pCh f n u p).2.1, [])
def pUs (f : Nat → Nat) (n : Nat) (has : Bool) (u : Nat → pR) (p : Nat) : pR :=
  if sg f n p = 33 then (if has = true then (if (u (sk f n p + 1)).1 = true then (true, (u (sk f n p + 1)).2.1, (u (sk f n p + 1)).2.2 ++ [1024]) else (false, (u (sk f n p + 1)).2.1, [])) else (false, sk f n p, []))
  else if sg f n p = 40 then (if has = true then (if (pOa f n u (sk f n p + 1)).1 = true then (if sg f n (pOa f n u (sk f n p + 1)).2.1 = 41 then (true, sk f n (pOa f n u (sk f n p + 1)).2.1 + 1, (pOa f n u (sk f n p + 1)).2.2) else (false, sk f n (pOa f n u (sk f n p + 1)).2.1, [])) else (false, (pOa f n u (sk f n p + 1)).2.1, [])) else (false, sk f n p, []))
  else if sg f n p = 35 then (if (pD f n 0 9 (sk f n p + 1)).1 = true then (true, (pD f n 0 9 (sk f n p + 1)).2.1, [768 + (pD f n 0 9 (sk f n p + 1)).2.2 * 16]) else (false, (pD f n 0 9 (sk f n p + 1)).2.1, []))
  else (if (pLt f n p).1 = true then pRe f n (pLt f n p).2.2 (pLt f n p).2.1 else (false, (pLt f n p).2.1, []))
/-- b: how many levels of ( and ! are left -/
def pU (f : Nat → Nat) (n : Nat) : Nat → Nat → pR
  | 0 => pUs f n false (fun p => (false, p, []))
  | b + 1 => pUs f n true (pU f n b)
def pAll (f : Nat → Nat) (n : Nat) : pR := if (pOa f n (pU f n 6) 0).1 = true then (if sg f n (pOa f n (pU f n 6) 0).2.1 = 0 then (true, n, (pOa f n (pU f n 6) 0).2.2) else (false, sk f n (pOa f n (pU f n 6) 0).2.1, [])) else (false, (pOa f n (pU f n 6) 0).2.1, [])
/-- what codes come to on a stack; how high it gets -/
def eSt (E : Nat → Nat → Nat → Bool) (c : Nat) (st : List Bool) : List Bool :=
  if c / 256 < 4 then E (c / 256) (c / 16 % 16) (c % 16) :: st
  else if c / 256 = 4 then (match st with
    | a :: r => (!a) :: r
    | [] => [])
  else if c / 256 = 5 then (match st with
    | b :: a :: r => (a && b) :: r
    | r => r)
  else (match st with
    | b :: a :: r => (a || b) :: r
    | r => r)
def eEv (E : Nat → Nat → Nat → Bool) (em : List Nat) (st : List Bool) : List Bool := em.foldl (fun s c => eSt E c s) st
def eVl (E : Nat → Nat → Nat → Bool) (em : List Nat) : Bool := (eEv E em []).headD false
theorem eEv_app (E : Nat → Nat → Nat → Bool) (a b : List Nat) (st : List Bool) : eEv E (a ++ b) st = eEv E b (eEv E a st) := by
  unfold eEv
  rw [List.foldl_append]
/-- codes that come to one more on the stack, need no more than m places, have kinds and letters in bounds; # in them or not -/
def cOk (c : Nat) : Prop := c < 1792 ∧ (c / 256 = 3 → c / 16 % 16 < 10) ∧ (c / 256 < 3 → c / 16 % 16 < 5) ∧ (1 ≤ c / 256 ∧ c / 256 ≤ 2 → c % 16 < 5) ∧ (c / 256 = 0 → c % 16 < 6)
def hgt : Nat → List Nat → Nat × Nat
  | h, [] => (h, h)
  | h, c :: l => (max (if c / 256 < 4 then h + 1 else h) (hgt (if c / 256 < 4 then h + 1 else if c / 256 = 4 then h else h - 1) l).1, (hgt (if c / 256 < 4 then h + 1 else if c / 256 = 4 then h else h - 1) l).2)
theorem hgt_app (a : List Nat) : ∀ (h : Nat) (b : List Nat), (hgt h (a ++ b)).2 = (hgt (hgt h a).2 b).2 ∧ (hgt h (a ++ b)).1 ≤ max (hgt h a).1 (hgt (hgt h a).2 b).1 := by
  induction a with
  | nil => intro h b; exact ⟨rfl, Nat.le_max_right _ _⟩
  | cons c a ih =>
    intro h b
    have := ih (if c / 256 < 4 then h + 1 else if c / 256 = 4 then h else h - 1) b
    refine ⟨this.1, ?_⟩
    have h2 := this.2
    have e1 : (hgt h (c :: a)).1 = max (if c / 256 < 4 then h + 1 else h) (hgt (if c / 256 < 4 then h + 1 else if c / 256 = 4 then h else h - 1) a).1 := rfl
    have e2 : (hgt h (c :: a)).2 = (hgt (if c / 256 < 4 then h + 1 else if c / 256 = 4 then h else h - 1) a).2 := rfl
    have e3 : (hgt h (c :: a ++ b)).1 = max (if c / 256 < 4 then h + 1 else h) (hgt (if c / 256 < 4 then h + 1 else if c / 256 = 4 then h else h - 1) (a ++ b)).1 := rfl
    rw [e1, e2, e3]
    generalize (if c / 256 < 4 then h + 1 else h) = z at *
    omega
theorem hgt_ge : ∀ (a : List Nat) (h : Nat), (hgt h a).2 ≤ (hgt h a).1
  | [], h => Nat.le_refl h
  | c :: a, h => Nat.le_trans (hgt_ge a _) (Nat.le_max_right _ _)
/-- there is enough on the stack for each code -/
def wfH : Nat → List Nat → Prop
  | _, [] => True
  | h, c :: l => ((c / 256 = 4 → 1 ≤ h) ∧ (5 ≤ c / 256 → 2 ≤ h)) ∧ wfH (if c / 256 < 4 then h + 1 else if c / 256 = 4 then h else h - 1) l
theorem wfH_app (a : List Nat) : ∀ (h : Nat) (b : List Nat), wfH h a → wfH (hgt h a).2 b → wfH h (a ++ b) := by
  induction a with
  | nil => intro h b _ hb; exact hb
  | cons c a ih => intro h b ha hb; exact ⟨ha.1, ih _ b ha.2 hb⟩
/-- one value: codes that come to one more on the stack -/
def cVal (m : Nat) (em : List Nat) : Prop := (∀ E st, eEv E em st = eVl E em :: st) ∧ (∀ h, (hgt h em).2 = h + 1 ∧ (hgt h em).1 ≤ h + m) ∧ (∀ c ∈ em, cOk c) ∧ ∀ h, wfH h em
theorem eV_of {E : Nat → Nat → Nat → Bool} {em : List Nat} {v : Bool} (h : eEv E em [] = [v]) : eVl E em = v := by unfold eVl; rw [h]; rfl
theorem cVal_1 {c m : Nat} (h : c / 256 < 4) (hm : 1 ≤ m) (ok : cOk c) : cVal m [c] := by
  have e : ∀ E st, eEv E [c] st = E (c / 256) (c / 16 % 16) (c % 16) :: st := fun E st => by
    show eSt E c st = _
    unfold eSt
    rw [if_pos h]
  refine ⟨fun E st => by rw [e, eV_of (e E [])], fun k => ?_, fun d hd => ?_, fun k => ⟨⟨fun q => by omega, fun q => by omega⟩, trivial⟩⟩
  · unfold hgt hgt
    rw [if_pos h, if_pos h]
    exact ⟨rfl, by show max (k + 1) (k + 1) ≤ _; omega⟩
  · rw [List.mem_singleton] at hd
    subst hd
    exact ok
theorem eV_1 {c : Nat} (h : c / 256 < 4) (E : Nat → Nat → Nat → Bool) : eVl E [c] = E (c / 256) (c / 16 % 16) (c % 16) := by
  apply eV_of
  show eSt E c [] = _
  unfold eSt
  rw [if_pos h]
theorem eEv_not (E : Nat → Nat → Nat → Bool) (a : Bool) (st : List Bool) : eEv E [1024] (a :: st) = (!a) :: st := rfl
theorem eEv_and (E : Nat → Nat → Nat → Bool) (a b : Bool) (st : List Bool) : eEv E [1280] (b :: a :: st) = (a && b) :: st := rfl
theorem eEv_or (E : Nat → Nat → Nat → Bool) (a b : Bool) (st : List Bool) : eEv E [1536] (b :: a :: st) = (a || b) :: st := rfl
theorem cVal_not {em : List Nat} {m m' : Nat} (h : cVal m em) (hm : m ≤ m') : cVal m' (em ++ [1024]) := by
  obtain ⟨h1, h2, h3, h4⟩ := h
  have e : ∀ E st, eEv E (em ++ [1024]) st = (!eVl E em) :: st := fun E st => by rw [eEv_app, h1]; rfl
  refine ⟨fun E st => by rw [e, eV_of (e E [])], fun k => ?_, fun d hd => ?_, fun k => wfH_app em k [1024] (h4 k) (by rw [(h2 k).1]; exact ⟨⟨fun _ => by omega, fun q => absurd q (by decide)⟩, trivial⟩)⟩
  · have a := hgt_app em k [1024]
    rw [(h2 k).1] at a
    refine ⟨a.1, Nat.le_trans a.2 ?_⟩
    have := (h2 k).2
    have h5 := hgt_ge em k
    rw [(h2 k).1] at h5
    show max _ (max (k + 1) (k + 1)) ≤ _
    omega
  · rw [List.mem_append, List.mem_singleton] at hd
    rcases hd with q | q
    · exact h3 d q
    · subst q; exact ⟨by decide, by decide, by decide, by decide, by decide⟩
theorem eV_not {em : List Nat} {m : Nat} (h : cVal m em) (E : Nat → Nat → Nat → Bool) : eVl E (em ++ [1024]) = !eVl E em := eV_of (by rw [eEv_app, h.1]; rfl)
theorem cVal_two {a b : List Nat} {op m m' : Nat} (ho : op = 1280 ∨ op = 1536) (ha : cVal m' a) (hb : cVal m b) (hm : m + 1 ≤ m') : cVal m' (a ++ b ++ [op]) := by
  obtain ⟨h1, h2, h3, h4⟩ := ha
  obtain ⟨k1, k2, k3, k4⟩ := hb
  have e : ∀ E st, eEv E (a ++ b ++ [op]) st = (if op = 1280 then (eVl E a && eVl E b) else (eVl E a || eVl E b)) :: st := fun E st => by
    rw [eEv_app, eEv_app, h1, k1]
    rcases ho with q | q <;> subst q <;> rfl
  have hyb : ∀ k, (hgt k (a ++ b)).2 = k + 2 := fun k => by rw [(hgt_app a k b).1, (h2 k).1, (k2 (k + 1)).1]
  refine ⟨fun E st => by rw [e, eV_of (e E [])], fun k => ?_, fun d hd => ?_, fun k => wfH_app (a ++ b) k [op] (wfH_app a k b (h4 k) (k4 _)) (by rw [hyb]; exact ⟨⟨fun _ => by omega, fun _ => by omega⟩, trivial⟩)⟩
  · have x := hgt_app (a ++ b) k [op]
    have y := hgt_app a k b
    rw [(h2 k).1, (k2 (k + 1)).1] at y
    rw [y.1] at x
    have ha := (h2 k).2
    have hb := (k2 (k + 1)).2
    have e1 : (hgt (k + 1 + 1) [op]).2 = k + 1 ∧ (hgt (k + 1 + 1) [op]).1 = k + 2 := by
      rcases ho with q | q <;> subst q
      · exact ⟨rfl, by show max (k + 1 + 1) (k + 1) = _; omega⟩
      · exact ⟨rfl, by show max (k + 1 + 1) (k + 1) = _; omega⟩
    rw [e1.1] at x
    have x2 := x.2
    rw [e1.2] at x2
    have y2 := y.2
    have h5 := hgt_ge b (k + 1)
    rw [(k2 (k + 1)).1] at h5
    exact ⟨x.1, by omega⟩
  · rw [List.mem_append, List.mem_append, List.mem_singleton] at hd
    rcases hd with (q | q) | q
    · exact h3 d q
    · exact k3 d q
    · subst q
      rcases ho with q | q <;> subst q <;> exact ⟨by decide, by decide, by decide, by decide, by decide⟩
theorem eV_two {a b : List Nat} {op m m' : Nat} (ho : op = 1280 ∨ op = 1536) (ha : cVal m' a) (hb : cVal m b) (E : Nat → Nat → Nat → Bool) : eVl E (a ++ b ++ [op]) = if op = 1280 then (eVl E a && eVl E b) else (eVl E a || eVl E b) := by
  apply eV_of
  rw [eEv_app, eEv_app, ha.1, hb.1]
  rcases ho with q | q <;> subst q <;> rfl
theorem cVal_wk {em : List Nat} {m m' : Nat} (h : cVal m em) (hm : m ≤ m') : cVal m' em := ⟨h.1, fun k => ⟨(h.2.1 k).1, by have := (h.2.1 k).2; omega⟩, h.2.2⟩
/-- # in codes -/
def hsh (em : List Nat) : Bool := em.any (fun c => c / 256 == 3)
theorem hsh_app (a b : List Nat) : hsh (a ++ b) = (hsh a || hsh b) := by unfold hsh; rw [List.any_append]
/-- whether # stands among the signs from p up to q -/
def hsT (f : Nat → Nat) (p q : Nat) (b : Bool) : Prop := (∃ j, p ≤ j ∧ j < q ∧ f j = 35) ↔ b = true
theorem hsT_0 {f : Nat → Nat} {p q : Nat} (h : ∀ j, p ≤ j → j < q → f j ≠ 35) : hsT f p q false := ⟨fun ⟨j, h1, h2, h3⟩ => absurd h3 (h j h1 h2), fun h => by cases h⟩
theorem hsT_tr {f : Nat → Nat} {p q r : Nat} {a b : Bool} (h : hsT f p q a) (k : hsT f q r b) (h1 : p ≤ q) (h2 : q ≤ r) : hsT f p r (a || b) := by
  constructor
  · intro ⟨j, j1, j2, j3⟩
    by_cases c : j < q
    · rw [h.mp ⟨j, j1, c, j3⟩]; rfl
    · rw [k.mp ⟨j, by omega, j2, j3⟩, Bool.or_true]
  · intro hh
    rw [Bool.or_eq_true] at hh
    rcases hh with c | c
    · obtain ⟨j, j1, j2, j3⟩ := h.mpr c
      exact ⟨j, j1, by omega, j3⟩
    · obtain ⟨j, j1, j2, j3⟩ := k.mpr c
      exact ⟨j, by omega, j2, j3⟩
/-- what a result is worth -/
def pG (f : Nat → Nat) (n m : Nat) (p : Nat) (r : pR) : Prop := (r.1 = true → p < r.2.1 ∧ r.2.1 ≤ n ∧ r.2.2.length + p ≤ r.2.1 ∧ cVal m r.2.2 ∧ hsT f p r.2.1 (hsh r.2.2)) ∧ (r.1 = false → p ≤ r.2.1 ∧ r.2.1 ≤ n ∧ sk f n r.2.1 = r.2.1)
theorem pD_ok {f : Nat → Nat} {n lo hi p : Nat} (hp : p ≤ n) (h : (pD f n lo hi p).1 = true) : sk f n p < n ∧ 48 + lo ≤ f (sk f n p) ∧ f (sk f n p) ≤ 48 + hi ∧ pD f n lo hi p = (true, sk f n p + 1, f (sk f n p) - 48) ∧ sg f n p = f (sk f n p) := by
  unfold pD at h ⊢
  by_cases c : 48 + lo ≤ sg f n p ∧ sg f n p ≤ 48 + hi
  · have q := sg_lt (f := f) (n := n) (p := p) (by omega)
    rw [if_pos c, q.2]
    exact ⟨q.1, c.1, c.2, rfl, rfl⟩
  · rw [if_neg c] at h; cases h
theorem pD_no {f : Nat → Nat} {n lo hi p : Nat} (h : ¬ (pD f n lo hi p).1 = true) : pD f n lo hi p = (false, sk f n p, 0) := by
  unfold pD at h ⊢
  by_cases c : 48 + lo ≤ sg f n p ∧ sg f n p ≤ 48 + hi
  · rw [if_pos c] at h; exact absurd rfl h
  · rw [if_neg c]
theorem pLt_ok {f : Nat → Nat} {n p : Nat} (h : (pLt f n p).1 = true) : sk f n p < n ∧ 97 ≤ f (sk f n p) ∧ f (sk f n p) ≤ 101 ∧ pLt f n p = (true, sk f n p + 1, f (sk f n p) - 97) ∧ sg f n p = f (sk f n p) := by
  unfold pLt at h ⊢
  by_cases c : 97 ≤ sg f n p ∧ sg f n p ≤ 101
  · have q := sg_lt (f := f) (n := n) (p := p) (by omega)
    rw [if_pos c, q.2]
    exact ⟨q.1, c.1, c.2, rfl, rfl⟩
  · rw [if_neg c] at h; cases h
theorem pLt_no {f : Nat → Nat} {n p : Nat} (h : ¬ (pLt f n p).1 = true) : pLt f n p = (false, sk f n p, 0) := by
  unfold pLt at h ⊢
  by_cases c : 97 ≤ sg f n p ∧ sg f n p ≤ 101
  · rw [if_pos c] at h; exact absurd rfl h
  · rw [if_neg c]
/-- blanks and one sign that is no # -/
theorem hsT_one {f : Nat → Nat} {n p : Nat} (h : f (sk f n p) ≠ 35) : hsT f p (sk f n p + 1) false := hsT_0 (fun j h1 h2 => by
  by_cases q : j < sk f n p
  · rw [sk_bl h1 q]; decide
  · rw [show j = sk f n p by omega]; exact h)
theorem hsT_bl {f : Nat → Nat} {n p : Nat} : hsT f p (sk f n p) false := hsT_0 (fun j h1 h2 => by rw [sk_bl h1 h2]; decide)
theorem pRe_G {f : Nat → Nat} {n d p m : Nat} (hp : p ≤ n) (hd : d < 5) (hm : 1 ≤ m) : ((pRe f n d p).1 = true → p ≤ (pRe f n d p).2.1 ∧ (pRe f n d p).2.1 ≤ n ∧ (pRe f n d p).2.2.length = 1 ∧ cVal m (pRe f n d p).2.2 ∧ hsT f p (pRe f n d p).2.1 (hsh (pRe f n d p).2.2)) ∧ ((pRe f n d p).1 = false → p ≤ (pRe f n d p).2.1 ∧ (pRe f n d p).2.1 ≤ n ∧ sk f n (pRe f n d p).2.1 = (pRe f n d p).2.1) := by
  have g1 := sk_ge f n p
  have g2 := sk_le (f := f) hp
  unfold pRe
  by_cases c1 : sg f n p = 60 ∨ sg f n p = 61
  · rw [if_pos c1]
    have q := sg_lt (f := f) (n := n) (p := p) (by omega)
    by_cases c2 : (pLt f n (sk f n p + 1)).1 = true
    · rw [if_pos c2]
      obtain ⟨l1, l2, l3, l4, -⟩ := pLt_ok c2
      have g3 := sk_ge f n (sk f n p + 1)
      rw [l4]
      refine ⟨fun _ => ⟨by show p ≤ sk f n (sk f n p + 1) + 1; omega, l1, rfl, ?_, ?_⟩, fun h => by cases h⟩
      · have hv : ∀ k, (k = 256 ∨ k = 512) → cVal m [k + d * 16 + (f (sk f n (sk f n p + 1)) - 97)] := fun k hk => cVal_1 (by omega) hm ⟨by omega, by omega, by omega, by omega, by omega⟩
        split
        · exact hv 256 (Or.inl rfl)
        · exact hv 512 (Or.inr rfl)
      · have e : hsh [(if sg f n p = 60 then 256 else 512) + d * 16 + (f (sk f n (sk f n p + 1)) - 97)] = (false || false) := by
          show ((_ / 256 == 3) || false) = false
          rw [Bool.or_false, beq_eq_false_iff_ne]
          split <;> omega
        show hsT f p (sk f n (sk f n p + 1) + 1) (hsh [(if sg f n p = 60 then 256 else 512) + d * 16 + (f (sk f n (sk f n p + 1)) - 97)])
        rw [e]
        exact hsT_tr (q := sk f n p + 1) (hsT_one (by omega)) (hsT_one (by omega)) (by omega) (by omega)
    · rw [if_neg c2, pLt_no c2]
      have g3 := sk_ge f n (sk f n p + 1)
      have g4 := sk_le (f := f) (n := n) (p := sk f n p + 1) (by omega)
      exact ⟨fun h => (by cases h), fun _ => ⟨by show p ≤ sk f n (sk f n p + 1); omega, g4, sk_sk _ _ _⟩⟩
  · rw [if_neg c1]
    by_cases c2 : 48 ≤ sg f n p ∧ sg f n p ≤ 57
    · rw [if_pos c2]
      by_cases c3 : (pD f n 0 5 p).1 = true
      · rw [if_pos c3]
        obtain ⟨l1, l2, l3, l4, -⟩ := pD_ok hp c3
        rw [l4]
        refine ⟨fun _ => ⟨by show p ≤ sk f n p + 1; omega, l1, rfl, cVal_1 (by show (d * 16 + (f (sk f n p) - 48)) / 256 < 4; omega) hm ⟨by show d * 16 + (f (sk f n p) - 48) < 1792; omega, by show (d * 16 + (f (sk f n p) - 48)) / 256 = 3 → _; omega, by show _ → (d * 16 + (f (sk f n p) - 48)) / 16 % 16 < 5; omega, by show 1 ≤ (d * 16 + (f (sk f n p) - 48)) / 256 ∧ _ → _; omega, by show _ → (d * 16 + (f (sk f n p) - 48)) % 16 < 6; omega⟩, ?_⟩, fun h => by cases h⟩
        have e : hsh [d * 16 + (f (sk f n p) - 48)] = false := by
          show ((_ / 256 == 3) || false) = false
          rw [Bool.or_false, beq_eq_false_iff_ne]
          omega
        show hsT f p (sk f n p + 1) (hsh [d * 16 + (f (sk f n p) - 48)])
        rw [e]
        exact hsT_one (by omega)
      · rw [if_neg c3, pD_no c3]
        exact ⟨fun h => (by cases h), fun _ => ⟨g1, g2, sk_sk _ _ _⟩⟩
    · rw [if_neg c2]
      refine ⟨fun _ => ⟨g1, g2, rfl, cVal_1 (by omega) hm ⟨by omega, by omega, by omega, by omega, by omega⟩, ?_⟩, fun h => by cases h⟩
      have e : hsh [d * 16 + 5] = false := by
        show ((_ / 256 == 3) || false) = false
        rw [Bool.or_false, beq_eq_false_iff_ne]
        omega
      show hsT f p (sk f n p) (hsh [d * 16 + 5])
      rw [e]
      exact hsT_bl
theorem pLp_G {f : Nat → Nat} {n sep op m m' : Nat} {u : Nat → pR} (hs : sep ≠ 35 ∧ sep ≠ 0) (ho : op = 1280 ∨ op = 1536) (hu : ∀ p, p ≤ n → pG f n m p (u p)) (hm : m + 1 ≤ m') : ∀ (k p0 p : Nat) (em : List Nat), p0 < p → p ≤ n → em.length + p0 ≤ p → cVal m' em → hsT f p0 p (hsh em) → pG f n m' p0 (pLp f n sep op u k p em)
  | 0, p0, p, em, h0, hp, hl, hv, ht => ⟨fun _ => ⟨h0, hp, hl, hv, ht⟩, fun h => by cases h⟩
  | k + 1, p0, p, em, h0, hp, hl, hv, ht => by
    have g1 := sk_ge f n p
    have g2 := sk_le (f := f) hp
    unfold pLp
    by_cases c : sg f n p = sep
    · rw [if_pos c]
      have q := sg_lt (f := f) (n := n) (p := p) (by omega)
      have hg := hu (sk f n p + 1) (by omega)
      by_cases c2 : (u (sk f n p + 1)).1 = true
      · rw [if_pos c2]
        obtain ⟨a1, a2, a3, a4, a5⟩ := hg.1 c2
        refine pLp_G hs ho hu hm k p0 _ _ (by omega) a2 (by rw [List.length_append, List.length_append]; simp only [List.length_singleton]; omega) (cVal_two ho hv a4 hm) ?_
        rw [hsh_app, hsh_app]
        have e : hsh [op] = false := by rcases ho with z | z <;> subst z <;> rfl
        rw [e, Bool.or_false]
        exact hsT_tr ht (hsT_tr (b := hsh (u (sk f n p + 1)).2.2) (hsT_one (n := n) (by rw [q.2, c]; exact hs.1)) a5 (by omega) (by omega)) (by omega) (by omega)
      · rw [if_neg c2]
        have := hg.2 (by simpa using c2)
        exact ⟨fun h => (by cases h), fun _ => ⟨by show p0 ≤ (u (sk f n p + 1)).2.1; omega, this.2.1, this.2.2⟩⟩
    · rw [if_neg c]
      refine ⟨fun _ => ⟨by show p0 < sk f n p; omega, g2, by show em.length + p0 ≤ sk f n p; omega, hv, ?_⟩, fun h => by cases h⟩
      show hsT f p0 (sk f n p) (hsh em)
      rw [← Bool.or_false (hsh em)]
      exact hsT_tr ht hsT_bl (by omega) g1
theorem pCh_G {f : Nat → Nat} {n m : Nat} {u : Nat → pR} (hu : ∀ p, p ≤ n → pG f n m p (u p)) (p : Nat) (hp : p ≤ n) : pG f n (m + 1) p (pCh f n u p) := by
  unfold pCh
  have hg := hu p hp
  by_cases c : (u p).1 = true
  · rw [if_pos c]
    obtain ⟨a1, a2, a3, a4, a5⟩ := hg.1 c
    exact pLp_G ⟨by decide, by decide⟩ (Or.inl rfl) hu (Nat.le_refl _) 120 p _ _ a1 a2 a3 (cVal_wk a4 (by omega)) a5
  · rw [if_neg c]
    have := hg.2 (by simpa using c)
    exact ⟨fun h => (by cases h), fun _ => this⟩
theorem pOa_G {f : Nat → Nat} {n m : Nat} {u : Nat → pR} (hu : ∀ p, p ≤ n → pG f n m p (u p)) (p : Nat) (hp : p ≤ n) : pG f n (m + 2) p (pOa f n u p) := by
  unfold pOa
  have hg := pCh_G hu p hp
  by_cases c : (pCh f n u p).1 = true
  · rw [if_pos c]
    obtain ⟨a1, a2, a3, a4, a5⟩ := hg.1 c
    exact pLp_G ⟨by decide, by decide⟩ (Or.inr rfl) (pCh_G hu) (Nat.le_refl _) 120 p _ _ a1 a2 a3 (cVal_wk a4 (by omega)) a5
  · rw [if_neg c]
    have := hg.2 (by simpa using c)
    exact ⟨fun h => (by cases h), fun _ => this⟩
theorem pUs_G {f : Nat → Nat} {n m : Nat} {has : Bool} {u : Nat → pR} (hu : has = true → ∀ p, p ≤ n → pG f n m p (u p)) (p : Nat) (hp : p ≤ n) : pG f n (if has = true then m + 2 else 1) p (pUs f n has u p) := by
  have g1 := sk_ge f n p
  have g2 := sk_le (f := f) hp
  have hno : pG f n (if has = true then m + 2 else 1) p (false, sk f n p, []) := ⟨fun h => (by cases h), fun _ => ⟨g1, g2, sk_sk _ _ _⟩⟩
  unfold pUs
  by_cases c1 : sg f n p = 33
  · rw [if_pos c1]
    by_cases ch : has = true
    · rw [if_pos ch, if_pos ch]
      have q := sg_lt (f := f) (n := n) (p := p) (by omega)
      have hg := hu ch (sk f n p + 1) (by omega)
      by_cases c2 : (u (sk f n p + 1)).1 = true
      · rw [if_pos c2]
        obtain ⟨a1, a2, a3, a4, a5⟩ := hg.1 c2
        refine ⟨fun _ => ⟨by show p < (u (sk f n p + 1)).2.1; omega, a2, ?_, cVal_not a4 (by omega), ?_⟩, fun h => by cases h⟩
        · show ((u (sk f n p + 1)).2.2 ++ [1024]).length + p ≤ (u (sk f n p + 1)).2.1
          rw [List.length_append]
          simp only [List.length_singleton]
          omega
        · show hsT f p (u (sk f n p + 1)).2.1 (hsh ((u (sk f n p + 1)).2.2 ++ [1024]))
          rw [hsh_app, show hsh [1024] = false from rfl, Bool.or_false]
          exact hsT_tr (b := hsh (u (sk f n p + 1)).2.2) (hsT_one (n := n) (by rw [q.2, c1]; decide)) a5 (by omega) (by omega)
      · rw [if_neg c2]
        have := hg.2 (by simpa using c2)
        exact ⟨fun h => (by cases h), fun _ => ⟨by show p ≤ (u (sk f n p + 1)).2.1; omega, this.2.1, this.2.2⟩⟩
    · rw [if_neg ch] at hno ⊢
      rw [if_neg ch]
      exact hno
  rw [if_neg c1]
  by_cases c2 : sg f n p = 40
  · rw [if_pos c2]
    by_cases ch : has = true
    · rw [if_pos ch, if_pos ch]
      have q := sg_lt (f := f) (n := n) (p := p) (by omega)
      have hg := pOa_G (hu ch) (sk f n p + 1) (by omega)
      by_cases c3 : (pOa f n u (sk f n p + 1)).1 = true
      · rw [if_pos c3]
        obtain ⟨a1, a2, a3, a4, a5⟩ := hg.1 c3
        have g3 := sk_ge f n (pOa f n u (sk f n p + 1)).2.1
        have g4 := sk_le (f := f) a2
        by_cases c4 : sg f n (pOa f n u (sk f n p + 1)).2.1 = 41
        · rw [if_pos c4]
          have q4 := sg_lt (f := f) (n := n) (p := (pOa f n u (sk f n p + 1)).2.1) (by omega)
          refine ⟨fun _ => ⟨by show p < sk f n (pOa f n u (sk f n p + 1)).2.1 + 1; omega, q4.1, by show (pOa f n u (sk f n p + 1)).2.2.length + p ≤ sk f n (pOa f n u (sk f n p + 1)).2.1 + 1; omega, a4, ?_⟩, fun h => by cases h⟩
          show hsT f p (sk f n (pOa f n u (sk f n p + 1)).2.1 + 1) (hsh (pOa f n u (sk f n p + 1)).2.2)
          have hA := hsT_tr (hsT_one (n := n) (by rw [q.2, c2]; decide)) (hsT_tr a5 (hsT_one (n := n) (by rw [q4.2, c4]; decide)) (by omega) (by omega)) (by omega) (by omega)
          rwa [Bool.or_false] at hA
        · rw [if_neg c4]
          exact ⟨fun h => (by cases h), fun _ => ⟨by show p ≤ sk f n (pOa f n u (sk f n p + 1)).2.1; omega, g4, sk_sk _ _ _⟩⟩
      · rw [if_neg c3]
        have := hg.2 (by simpa using c3)
        exact ⟨fun h => (by cases h), fun _ => ⟨by show p ≤ (pOa f n u (sk f n p + 1)).2.1; omega, this.2.1, this.2.2⟩⟩
    · rw [if_neg ch] at hno ⊢
      rw [if_neg ch]
      exact hno
  rw [if_neg c2]
  have hm1 : 1 ≤ (if has = true then m + 2 else 1) := by split <;> omega
  by_cases c3 : sg f n p = 35
  · rw [if_pos c3]
    have q := sg_lt (f := f) (n := n) (p := p) (by omega)
    by_cases c4 : (pD f n 0 9 (sk f n p + 1)).1 = true
    · rw [if_pos c4]
      obtain ⟨l1, l2, l3, l4, -⟩ := pD_ok (by omega) c4
      have g3 := sk_ge f n (sk f n p + 1)
      rw [l4]
      refine ⟨fun _ => ⟨by show p < sk f n (sk f n p + 1) + 1; omega, l1, by show 1 + p ≤ sk f n (sk f n p + 1) + 1; omega, ?_, ?_⟩, fun h => by cases h⟩
      · show cVal _ [768 + (f (sk f n (sk f n p + 1)) - 48) * 16]
        exact cVal_1 (by omega) hm1 ⟨by omega, by omega, by omega, by omega, by omega⟩
      · show hsT f p (sk f n (sk f n p + 1) + 1) (hsh [768 + (f (sk f n (sk f n p + 1)) - 48) * 16])
        have e : hsh [768 + (f (sk f n (sk f n p + 1)) - 48) * 16] = true := by
          show ((_ / 256 == 3) || false) = true
          rw [Bool.or_false, beq_iff_eq]
          omega
        rw [e]
        exact ⟨fun _ => rfl, fun _ => ⟨sk f n p, g1, by omega, by rw [q.2, c3]⟩⟩
    · rw [if_neg c4, pD_no c4]
      have g3 := sk_ge f n (sk f n p + 1)
      have g4 := sk_le (f := f) (n := n) (p := sk f n p + 1) (by omega)
      exact ⟨fun h => (by cases h), fun _ => ⟨by show p ≤ sk f n (sk f n p + 1); omega, g4, sk_sk _ _ _⟩⟩
  rw [if_neg c3]
  by_cases c4 : (pLt f n p).1 = true
  · rw [if_pos c4]
    obtain ⟨l1, l2, l3, l4, -⟩ := pLt_ok c4
    rw [l4]
    have hg := pRe_G (f := f) (n := n) (d := f (sk f n p) - 97) (p := sk f n p + 1) (m := if has = true then m + 2 else 1) (by omega) (by omega) hm1
    constructor
    · intro h
      obtain ⟨a1, a2, a3, a4, a5⟩ := hg.1 h
      have hA := hsT_tr (hsT_one (f := f) (n := n) (p := p) (by omega)) a5 (by omega) a1
      rw [Bool.false_or] at hA
      exact ⟨by show p < (pRe f n (f (sk f n p) - 97) (sk f n p + 1)).2.1; omega, a2, by show (pRe f n (f (sk f n p) - 97) (sk f n p + 1)).2.2.length + p ≤ (pRe f n (f (sk f n p) - 97) (sk f n p + 1)).2.1; omega, a4, hA⟩
    · intro h
      have := hg.2 h
      exact ⟨by show p ≤ (pRe f n (f (sk f n p) - 97) (sk f n p + 1)).2.1; omega, this.2.1, this.2.2⟩
  · rw [if_neg c4, pLt_no c4]
    exact hno
theorem pU_G (f : Nat → Nat) (n : Nat) : ∀ (b p : Nat), p ≤ n → pG f n (2 * b + 1) p (pU f n b p)
  | 0, p, hp => pUs_G (has := false) (m := 0) (u := fun p => (false, p, [])) (fun h => by cases h) p hp
  | b + 1, p, hp => pUs_G (has := true) (m := 2 * b + 1) (u := pU f n b) (fun _ => pU_G f n b) p hp
