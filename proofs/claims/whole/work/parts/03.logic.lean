/-! THE LOGIC: a judgement Gz over numbered cells; a row an instruction. The world is two tables (ints, longs) by cell and slot; what refers to what is fixed (g_sh). -/
abbrev gW : Type := (Nat → Nat → Int32) × (Nat → Nat → Int64)
abbrev gM : Type := MethodName × ByteArray × Nat × Option FieldType
def zsI (w : gW) (k j : Nat) (v : Int32) : gW := (fun a b => if a = k ∧ b = j then v else w.1 a b, w.2)
def zsL (w : gW) (k j : Nat) (v : Int64) : gW := (w.1, fun a b => if a = k ∧ b = j then v else w.2 a b)
def zcI (w : gW) (k : Nat) (f : Nat → Int32) : gW := (fun a b => if a = k then f b else w.1 a b, w.2)
def zcL (w : gW) (k : Nat) (f : Nat → Int64) : gW := (w.1, fun a b => if a = k then f b else w.2 a b)
def g_tr (o : Nat) (v : Value) : Value := match v with
  | .ref k => .ref (o + k)
  | v => v
def g_tq (o : Nat) (q : Nat × Value) : Nat × Value := (q.1, g_tr o q.2)
def g_val (o : Nat) (w : gW) (k j : Nat) (f : Nat × Nat) : Value := if f.1 = 0 then .ref (o + f.2) else if f.1 = 1 then .int (w.1 k j) else if f.1 = 2 then .long (w.2 k j) else .ref (o + (w.1 k j).toNatClampNeg)
def g_fs (o : Nat) (w : gW) (k : Nat) (fs : List (Nat × Nat)) : List Value := fs.mapIdx (fun j f => g_val o w k j f)
def g_cell (yy : Nat → ClassId) (o : Nat) (w : gW) (k : Nat) : va_E :=
  if (g_sh k).1 = 0 then .inr ((g_sh k).2.1, g_fs o w k (g_sh k).2.2)
  else if (g_sh k).1 = 2 then .inl (yy 2, (g_sh k).2.1, .inr (.inl (w.2 k)))
  else if (g_sh k).1 = 1 ∨ (g_sh k).1 = 3 ∨ (g_sh k).1 = 4 then .inl (yy (g_sh k).1, (g_sh k).2.1, .inl (w.1 k))
  else .inl (yy (g_sh k).1, (g_sh k).2.1, .inr (.inr (.inr (.inr (fun j => some (o + (k + 1 + j)))))))
def g_ws (yy : Nat → ClassId) (o : Nat) (w : gW) : va_W := (List.range gN).map (fun k => (o + k, g_cell yy o w k))
def g_tys (yy : Nat → ClassId) : List (ClassId × FieldType) := [(yy 1, .int), (yy 2, .long), (yy 3, .byte), (yy 4, .boolean), (yy 5, .array .int), (yy 6, .array .long)]
def g_A (o : Nat) : Nat → Prop := fun q => o ≤ q ∧ q < o + gN
def g_len (kd k : Nat) : Nat := if (g_sh k).1 = kd then (g_sh k).2.1 else 0
abbrev inb (i : Int32) (n : Nat) : Prop := 0 ≤ i.toInt ∧ i.toInt < (n : Int)
abbrev ix (i : Int32) : Nat := i.toNatClampNeg
theorem g_tr_cat (o : Nat) (v : Value) : (g_tr o v).category = v.category := by cases v <;> rfl
theorem g_sh_lt {k a : Nat} {b : Nat × List (Nat × Nat)} (h : g_sh k = (a, b)) (ha : a < 9) : k < gN := by
  by_cases hk : k < gN
  · exact hk
  · have : g_sh k = (9, 0, []) := by
      unfold g_sh
      rw [List.getD_eq_getElem?_getD, List.getElem?_eq_none (by rw [g_shl_length]; omega)]; rfl
    rw [this] at h
    cases h
    omega
theorem g_ws_at {yy : Nat → ClassId} {o : Nat} {w : gW} {k : Nat} (h : k < gN) : (g_ws yy o w)[k]? = some (o + k, g_cell yy o w k) := by
  unfold g_ws
  rw [List.getElem?_map, List.getElem?_range h]; rfl
theorem g_cell_same {yy : Nat → ClassId} {o : Nat} {w w' : gW} {k : Nat} (h1 : w'.1 k = w.1 k) (h2 : w'.2 k = w.2 k) : g_cell yy o w' k = g_cell yy o w k := by
  unfold g_cell g_fs g_val
  rw [h1, h2]
theorem g_ws_set {yy : Nat → ClassId} {o : Nat} {w w' : gW} {k : Nat} (hk : k < gN) (e : va_E) (he : g_cell yy o w' k = e) (h : ∀ j, j ≠ k → w'.1 j = w.1 j ∧ w'.2 j = w.2 j) : (g_ws yy o w).set k (o + k, e) = g_ws yy o w' := by
  apply List.ext_getElem?
  intro j
  by_cases hj : j < gN
  · by_cases hjk : j = k
    · subst hjk
      rw [List.getElem?_set_self (by unfold g_ws; rw [List.length_map, List.length_range]; exact hj), g_ws_at hj, he]
    · rw [List.getElem?_set_ne (Ne.symm hjk), g_ws_at hj, g_ws_at hj, g_cell_same (h j hjk).1 (h j hjk).2]
  · rw [List.getElem?_eq_none (by unfold g_ws; rw [List.length_set, List.length_map, List.length_range]; omega), List.getElem?_eq_none (by unfold g_ws; rw [List.length_map, List.length_range]; omega)]
theorem g_D (yy : Nat → ClassId) (o : Nat) (w : gW) : va_D (g_A o) (g_ws yy o w) := by
  have key : ∀ (k : Nat) (q : Nat × va_E), (g_ws yy o w)[k]? = some q → k < gN ∧ q.1 = o + k := by
    intro k q h
    have hk : k < gN := by
      have := (List.getElem?_eq_some_iff.mp h).1
      unfold g_ws at this
      rwa [List.length_map, List.length_range] at this
    rw [g_ws_at hk] at h
    cases h
    exact ⟨hk, rfl⟩
  refine ⟨fun i j p q hp hq hpq => ?_, fun k q hq => ?_⟩
  · have h1 := key i p hp
    have h2 := key j q hq
    omega
  · have h1 := key k q hq
    exact ⟨by omega, by omega⟩
def g_rm (d : Nat) : Room := { frames := d, cells := 0, slots := 0, locals := 60 * d }
def gX (p : Program) (s : State) (m : MethodId) (args : Array Value) (meth : Method) (c : Code) (M : gM) (D : va_G) (yy : Nat → ClassId) : Prop :=
  p.tables.exec = Jvm.exec ∧ c.code = M.2.1 ∧ c.maxLocals = M.2.2.1 ∧ meth.sig.returnType = M.2.2.2 ∧ meth.locks = false ∧ s.vm.findClass M.1.cls = some m.cls ∧ (∀ w ∈ g_TB, w.before args s = true) ∧ va_K D g_cl (g_tys yy) s
def gQ (Q : Option Value → gW → Prop) (D : va_G) (yy : Nat → ClassId) (o : Nat) : Array Value → State → Outcome → State → Prop := fun _ st oc t =>
  (∃ (v : Option Value) (w' : gW), oc = .returned (v.map (g_tr o)) ∧ Q v w' ∧ va_P D g_cl (g_ws yy o w') t.heap) ∧ va_F (g_A o) st t
def Gz (l : Launch) (M : gM) (d pc : Nat) (L : List (Nat × Value)) (st : List Value) (w : gW) (Q : Option Value → gW → Prop) : Prop :=
  ∀ (p : Program) (e : Env) (s : State) (m : MethodId) (args : Array Value) (below : List Frame) (meth : Method) (c : Code) (H : Heap) (locs : List Loc) (ls : Array Slot) (o : Nat) (D : va_G) (yy : Nat → ClassId),
    gX p s m args meth c M D yy → va_P D g_cl (g_ws yy o w) H → va_S (g_A o) s.heap H locs → lv_has ls M.2.2.1 (L.map (g_tq o)) →
    W p l e (g_rm d) s m args below meth c H locs 0 0 (MQ below (gQ Q D yy o) args s 0 0 (g_A o)) (F0 m pc ls (st.map (g_tr o)))
def zok {α : Type} (enc : α → Option Value) (r : Option (α × gW)) (Q : Option Value → gW → Prop) : Prop := ∃ (a : α) (w : gW), r = some (a, w) ∧ Q (enc a) w
def zb {α β : Type} (r : Option (β × gW)) (K : β → gW → Option (α × gW)) : Option (α × gW) := match r with
  | none => none
  | some q => K q.1 q.2
def zl {α β : Type} (v : β) (K : β → α) : α := K v
def eI (x : Int32) : Option Value := some (.int x)
def eJ (x : Int64) : Option Value := some (.long x)
def eR (k : Nat) : Option Value := some (.ref k)
def eV (_ : Unit) : Option Value := none
def zfx {α : Type} (bot : α) (F : α → α) : Nat → α
  | 0 => bot
  | n + 1 => F (zfx bot F n)
theorem zok_t {α : Type} {enc : α → Option Value} {Q : Option Value → gW → Prop} {c : Prop} {i : Decidable c} {A B : Option (α × gW)} (h : c) (k : zok enc (@ite _ c i A B) Q) : zok enc A Q := by rwa [if_pos h] at k
theorem zok_f {α : Type} {enc : α → Option Value} {Q : Option Value → gW → Prop} {c : Prop} {i : Decidable c} {A B : Option (α × gW)} (h : ¬ c) (k : zok enc (@ite _ c i A B) Q) : zok enc B Q := by rwa [if_neg h] at k
theorem zok_c {α : Type} {enc : α → Option Value} {Q : Option Value → gW → Prop} {c : Prop} {i : Decidable c} {A : Option (α × gW)} (k : zok enc (@ite _ c i A none) Q) : c ∧ zok enc A Q := by
  by_cases h : c
  · exact ⟨h, zok_t h k⟩
  · obtain ⟨a, w, e, -⟩ := zok_f h k
    cases e
theorem zok_s {α : Type} {enc : α → Option Value} {Q : Option Value → gW → Prop} {a : α} {w : gW} (k : zok enc (some (a, w)) Q) : Q (enc a) w := by
  obtain ⟨b, u, e, h⟩ := k
  cases e
  exact h
theorem zok_n {α : Type} {enc : α → Option Value} {Q : Option Value → gW → Prop} {P : Prop} (k : zok enc (none : Option (α × gW)) Q) : P := by
  obtain ⟨b, u, e, h⟩ := k
  cases e
theorem zok_b {α β : Type} {enc : α → Option Value} {Q : Option Value → gW → Prop} {r : Option (β × gW)} {K : β → gW → Option (α × gW)} (k : zok enc (zb r K) Q) : ∃ (b : β) (u : gW), r = some (b, u) ∧ zok enc (K b u) Q := by
  cases r with
  | none => exact zok_n k
  | some q => exact ⟨q.1, q.2, rfl, k⟩
theorem zok_l {α β : Type} {enc : α → Option Value} {Q : Option Value → gW → Prop} {v x : β} {K : β → Option (α × gW)} (e : x = v) (k : zok enc (zl v K) Q) : zok enc (K x) Q := by subst e; exact k
theorem g_at {ls : Array Slot} {nL o : Nat} {L : List (Nat × Value)} (h : lv_has ls nL (L.map (g_tq o))) (n : Nat) {i : Nat} {v : Value} (hk : L[n]? = some (i, v)) : ls[i]? = some (.val (g_tr o v)) :=
  lv_at h n (by rw [List.getElem?_map, hk]; rfl)
def g_st1 (i : Nat) (L : List (Nat × Value)) : List (Nat × Value) := L.filter (fun q => !(q.1 == i) && !(q.1 + 1 == i && q.2.category == 2))
def g_st2 (i : Nat) (L : List (Nat × Value)) : List (Nat × Value) := L.filter (fun q => !(q.1 == i) && (!(q.1 == i + 1) && !(q.1 + 1 == i && q.2.category == 2)))
theorem g_fil1 {o i : Nat} {v : Value} {L L' : List (Nat × Value)} (h : (i, v) :: g_st1 i L = L') : (i, g_tr o v) :: (L.map (g_tq o)).filter (fun q => !(q.1 == i) && !(q.1 + 1 == i && q.2.category == 2)) = L'.map (g_tq o) := by
  subst h
  rw [List.map_cons, List.filter_map, g_st1]
  have e : ((fun q : Nat × Value => !(q.1 == i) && !(q.1 + 1 == i && q.2.category == 2)) ∘ g_tq o) = (fun q => !(q.1 == i) && !(q.1 + 1 == i && q.2.category == 2)) := by
    funext q
    simp only [Function.comp, g_tq, g_tr_cat]
  rw [e]; rfl
theorem g_fil2 {o i : Nat} {v : Value} {L L' : List (Nat × Value)} (h : (i, v) :: g_st2 i L = L') : (i, g_tr o v) :: (L.map (g_tq o)).filter (fun q => !(q.1 == i) && (!(q.1 == i + 1) && !(q.1 + 1 == i && q.2.category == 2))) = L'.map (g_tq o) := by
  subst h
  rw [List.map_cons, List.filter_map, g_st2]
  have e : ((fun q : Nat × Value => !(q.1 == i) && (!(q.1 == i + 1) && !(q.1 + 1 == i && q.2.category == 2))) ∘ g_tq o) = (fun q => !(q.1 == i) && (!(q.1 == i + 1) && !(q.1 + 1 == i && q.2.category == 2))) := by
    funext q
    simp only [Function.comp, g_tq, g_tr_cat]
  rw [e]; rfl
section GZ
variable {l : Launch} {M : gM} {d pc : Nat} {L : List (Nat × Value)} {st : List Value} {w : gW} {Q : Option Value → gW → Prop}

theorem Gz.iconst {pc' : Nat} {n : Int} {v : Int32} (hd : decode M.2.1 pc = .ok (.iconst n, 1)) (hp : pc + 1 = pc') (hv : Int32.ofInt n = v) (k : Gz l M d pc' L (.int v :: st) w Q) : Gz l M d pc L (st) w Q := by subst hp; exact fun p e s m args below meth c H locs ls o D yy X hP hS hl => lv_iconst X.1 X.2.1 hd hv (k p e s m args below meth c H locs ls o D yy X hP hS hl)
theorem Gz.bipush {pc' : Nat} {n : Int} {v : Int32} (hd : decode M.2.1 pc = .ok (.bipush n, 2)) (hp : pc + 2 = pc') (hv : (Int8.ofInt n).toInt32 = v) (k : Gz l M d pc' L (.int v :: st) w Q) : Gz l M d pc L (st) w Q := by subst hp; exact fun p e s m args below meth c H locs ls o D yy X hP hS hl => lv_bipush X.1 X.2.1 hd hv (k p e s m args below meth c H locs ls o D yy X hP hS hl)
theorem Gz.sipush {pc' : Nat} {n : Int} {v : Int32} (hd : decode M.2.1 pc = .ok (.sipush n, 3)) (hp : pc + 3 = pc') (hv : (Int16.ofInt n).toInt32 = v) (k : Gz l M d pc' L (.int v :: st) w Q) : Gz l M d pc L (st) w Q := by subst hp; exact fun p e s m args below meth c H locs ls o D yy X hP hS hl => lv_sipush X.1 X.2.1 hd hv (k p e s m args below meth c H locs ls o D yy X hP hS hl)
theorem Gz.lconst {pc' : Nat} {n : Fin 2} {v : Int64} (hd : decode M.2.1 pc = .ok (.lconst n, 1)) (hp : pc + 1 = pc') (hv : Int64.ofNat (n : Nat) = v) (k : Gz l M d pc' L (.long v :: st) w Q) : Gz l M d pc L (st) w Q := by subst hp; exact fun p e s m args below meth c H locs ls o D yy X hP hS hl => lv_lconst X.1 X.2.1 hd hv (k p e s m args below meth c H locs ls o D yy X hP hS hl)
theorem Gz.iadd {pc' : Nat} {x y : Int32} (hd : decode M.2.1 pc = .ok (.iadd, 1)) (hp : pc + 1 = pc') (k : Gz l M d pc' L (.int (x + y) :: st) w Q) : Gz l M d pc L (.int y :: .int x :: st) w Q := by subst hp; exact fun p e s m args below meth c H locs ls o D yy X hP hS hl => lv_iadd X.1 X.2.1 hd  (k p e s m args below meth c H locs ls o D yy X hP hS hl)
theorem Gz.isub {pc' : Nat} {x y : Int32} (hd : decode M.2.1 pc = .ok (.isub, 1)) (hp : pc + 1 = pc') (k : Gz l M d pc' L (.int (x - y) :: st) w Q) : Gz l M d pc L (.int y :: .int x :: st) w Q := by subst hp; exact fun p e s m args below meth c H locs ls o D yy X hP hS hl => lv_isub X.1 X.2.1 hd  (k p e s m args below meth c H locs ls o D yy X hP hS hl)
theorem Gz.imul {pc' : Nat} {x y : Int32} (hd : decode M.2.1 pc = .ok (.imul, 1)) (hp : pc + 1 = pc') (k : Gz l M d pc' L (.int (x * y) :: st) w Q) : Gz l M d pc L (.int y :: .int x :: st) w Q := by subst hp; exact fun p e s m args below meth c H locs ls o D yy X hP hS hl => lv_imul X.1 X.2.1 hd  (k p e s m args below meth c H locs ls o D yy X hP hS hl)
theorem Gz.iand {pc' : Nat} {x y : Int32} (hd : decode M.2.1 pc = .ok (.iand, 1)) (hp : pc + 1 = pc') (k : Gz l M d pc' L (.int (x &&& y) :: st) w Q) : Gz l M d pc L (.int y :: .int x :: st) w Q := by subst hp; exact fun p e s m args below meth c H locs ls o D yy X hP hS hl => lv_iand X.1 X.2.1 hd  (k p e s m args below meth c H locs ls o D yy X hP hS hl)
theorem Gz.ior {pc' : Nat} {x y : Int32} (hd : decode M.2.1 pc = .ok (.ior, 1)) (hp : pc + 1 = pc') (k : Gz l M d pc' L (.int (x ||| y) :: st) w Q) : Gz l M d pc L (.int y :: .int x :: st) w Q := by subst hp; exact fun p e s m args below meth c H locs ls o D yy X hP hS hl => lv_ior X.1 X.2.1 hd  (k p e s m args below meth c H locs ls o D yy X hP hS hl)
theorem Gz.ixor {pc' : Nat} {x y : Int32} (hd : decode M.2.1 pc = .ok (.ixor, 1)) (hp : pc + 1 = pc') (k : Gz l M d pc' L (.int (x ^^^ y) :: st) w Q) : Gz l M d pc L (.int y :: .int x :: st) w Q := by subst hp; exact fun p e s m args below meth c H locs ls o D yy X hP hS hl => lv_ixor X.1 X.2.1 hd  (k p e s m args below meth c H locs ls o D yy X hP hS hl)
theorem Gz.ishl {pc' : Nat} {x y : Int32} (hd : decode M.2.1 pc = .ok (.ishl, 1)) (hp : pc + 1 = pc') (k : Gz l M d pc' L (.int (x <<< (y &&& 31)) :: st) w Q) : Gz l M d pc L (.int y :: .int x :: st) w Q := by subst hp; exact fun p e s m args below meth c H locs ls o D yy X hP hS hl => lv_ishl X.1 X.2.1 hd  (k p e s m args below meth c H locs ls o D yy X hP hS hl)
theorem Gz.ishr {pc' : Nat} {x y : Int32} (hd : decode M.2.1 pc = .ok (.ishr, 1)) (hp : pc + 1 = pc') (k : Gz l M d pc' L (.int (x >>> (y &&& 31)) :: st) w Q) : Gz l M d pc L (.int y :: .int x :: st) w Q := by subst hp; exact fun p e s m args below meth c H locs ls o D yy X hP hS hl => lv_ishr X.1 X.2.1 hd  (k p e s m args below meth c H locs ls o D yy X hP hS hl)
theorem Gz.idiv {pc' : Nat} {x y : Int32} (hd : decode M.2.1 pc = .ok (.idiv, 1)) (hp : pc + 1 = pc') (hne : ¬ y = 0) (k : Gz l M d pc' L (.int (x / y) :: st) w Q) : Gz l M d pc L (.int y :: .int x :: st) w Q := by subst hp; exact fun p e s m args below meth c H locs ls o D yy X hP hS hl => lv_idiv X.1 X.2.1 hd hne (k p e s m args below meth c H locs ls o D yy X hP hS hl)
theorem Gz.irem {pc' : Nat} {x y : Int32} (hd : decode M.2.1 pc = .ok (.irem, 1)) (hp : pc + 1 = pc') (hne : ¬ y = 0) (k : Gz l M d pc' L (.int (x - x / y * y) :: st) w Q) : Gz l M d pc L (.int y :: .int x :: st) w Q := by subst hp; exact fun p e s m args below meth c H locs ls o D yy X hP hS hl => lv_irem X.1 X.2.1 hd hne (k p e s m args below meth c H locs ls o D yy X hP hS hl)
theorem Gz.ineg {pc' : Nat} {x : Int32} (hd : decode M.2.1 pc = .ok (.ineg, 1)) (hp : pc + 1 = pc') (k : Gz l M d pc' L (.int (-x) :: st) w Q) : Gz l M d pc L (.int x :: st) w Q := by subst hp; exact fun p e s m args below meth c H locs ls o D yy X hP hS hl => lv_ineg X.1 X.2.1 hd  (k p e s m args below meth c H locs ls o D yy X hP hS hl)
theorem Gz.ladd {pc' : Nat} {x y : Int64} (hd : decode M.2.1 pc = .ok (.ladd, 1)) (hp : pc + 1 = pc') (k : Gz l M d pc' L (.long (x + y) :: st) w Q) : Gz l M d pc L (.long y :: .long x :: st) w Q := by subst hp; exact fun p e s m args below meth c H locs ls o D yy X hP hS hl => lv_ladd X.1 X.2.1 hd  (k p e s m args below meth c H locs ls o D yy X hP hS hl)
theorem Gz.lsub {pc' : Nat} {x y : Int64} (hd : decode M.2.1 pc = .ok (.lsub, 1)) (hp : pc + 1 = pc') (k : Gz l M d pc' L (.long (x - y) :: st) w Q) : Gz l M d pc L (.long y :: .long x :: st) w Q := by subst hp; exact fun p e s m args below meth c H locs ls o D yy X hP hS hl => lv_lsub X.1 X.2.1 hd  (k p e s m args below meth c H locs ls o D yy X hP hS hl)
theorem Gz.lmul {pc' : Nat} {x y : Int64} (hd : decode M.2.1 pc = .ok (.lmul, 1)) (hp : pc + 1 = pc') (k : Gz l M d pc' L (.long (x * y) :: st) w Q) : Gz l M d pc L (.long y :: .long x :: st) w Q := by subst hp; exact fun p e s m args below meth c H locs ls o D yy X hP hS hl => lv_lmul X.1 X.2.1 hd  (k p e s m args below meth c H locs ls o D yy X hP hS hl)
theorem Gz.land {pc' : Nat} {x y : Int64} (hd : decode M.2.1 pc = .ok (.land, 1)) (hp : pc + 1 = pc') (k : Gz l M d pc' L (.long (x &&& y) :: st) w Q) : Gz l M d pc L (.long y :: .long x :: st) w Q := by subst hp; exact fun p e s m args below meth c H locs ls o D yy X hP hS hl => lv_land X.1 X.2.1 hd  (k p e s m args below meth c H locs ls o D yy X hP hS hl)
theorem Gz.lor {pc' : Nat} {x y : Int64} (hd : decode M.2.1 pc = .ok (.lor, 1)) (hp : pc + 1 = pc') (k : Gz l M d pc' L (.long (x ||| y) :: st) w Q) : Gz l M d pc L (.long y :: .long x :: st) w Q := by subst hp; exact fun p e s m args below meth c H locs ls o D yy X hP hS hl => lv_lor X.1 X.2.1 hd  (k p e s m args below meth c H locs ls o D yy X hP hS hl)
theorem Gz.lxor {pc' : Nat} {x y : Int64} (hd : decode M.2.1 pc = .ok (.lxor, 1)) (hp : pc + 1 = pc') (k : Gz l M d pc' L (.long (x ^^^ y) :: st) w Q) : Gz l M d pc L (.long y :: .long x :: st) w Q := by subst hp; exact fun p e s m args below meth c H locs ls o D yy X hP hS hl => lv_lxor X.1 X.2.1 hd  (k p e s m args below meth c H locs ls o D yy X hP hS hl)
theorem Gz.ldiv {pc' : Nat} {x y : Int64} (hd : decode M.2.1 pc = .ok (.ldiv, 1)) (hp : pc + 1 = pc') (hne : ¬ y = 0) (k : Gz l M d pc' L (.long (x / y) :: st) w Q) : Gz l M d pc L (.long y :: .long x :: st) w Q := by subst hp; exact fun p e s m args below meth c H locs ls o D yy X hP hS hl => lv_ldiv X.1 X.2.1 hd hne (k p e s m args below meth c H locs ls o D yy X hP hS hl)
theorem Gz.lrem {pc' : Nat} {x y : Int64} (hd : decode M.2.1 pc = .ok (.lrem, 1)) (hp : pc + 1 = pc') (hne : ¬ y = 0) (k : Gz l M d pc' L (.long (x - x / y * y) :: st) w Q) : Gz l M d pc L (.long y :: .long x :: st) w Q := by subst hp; exact fun p e s m args below meth c H locs ls o D yy X hP hS hl => lv_lrem X.1 X.2.1 hd hne (k p e s m args below meth c H locs ls o D yy X hP hS hl)
theorem Gz.i2l {pc' : Nat} {x : Int32} (hd : decode M.2.1 pc = .ok (.i2l, 1)) (hp : pc + 1 = pc') (k : Gz l M d pc' L (.long x.toInt64 :: st) w Q) : Gz l M d pc L (.int x :: st) w Q := by subst hp; exact fun p e s m args below meth c H locs ls o D yy X hP hS hl => lv_i2l X.1 X.2.1 hd rfl (k p e s m args below meth c H locs ls o D yy X hP hS hl)
theorem Gz.l2i {pc' : Nat} {x : Int64} (hd : decode M.2.1 pc = .ok (.l2i, 1)) (hp : pc + 1 = pc') (k : Gz l M d pc' L (.int x.toInt32 :: st) w Q) : Gz l M d pc L (.long x :: st) w Q := by subst hp; exact fun p e s m args below meth c H locs ls o D yy X hP hS hl => lv_l2i X.1 X.2.1 hd rfl (k p e s m args below meth c H locs ls o D yy X hP hS hl)
theorem Gz.i2b {pc' : Nat} {x : Int32} (hd : decode M.2.1 pc = .ok (.i2b, 1)) (hp : pc + 1 = pc') (k : Gz l M d pc' L (.int x.toInt8.toInt32 :: st) w Q) : Gz l M d pc L (.int x :: st) w Q := by subst hp; exact fun p e s m args below meth c H locs ls o D yy X hP hS hl => lv_i2b X.1 X.2.1 hd rfl (k p e s m args below meth c H locs ls o D yy X hP hS hl)
def zusI (x y : Int32) : Int32 := (x.toUInt32 >>> (y.toUInt32 &&& Int32.toUInt32 31)).toInt32
def zusL (x : Int64) (y : Int32) : Int64 := (x.toUInt64 >>> (y.toInt64.toUInt64 &&& Int64.toUInt64 63)).toInt64
def zslL (x : Int64) (y : Int32) : Int64 := x <<< (y.toInt64 &&& 63)
theorem Gz.iushr {pc' : Nat} {x y : Int32} (hd : decode M.2.1 pc = .ok (.iushr, 1)) (hp : pc + 1 = pc') (k : Gz l M d pc' L (.int (zusI x y) :: st) w Q) : Gz l M d pc L (.int y :: .int x :: st) w Q := by subst hp; exact fun p e s m args below meth c H locs ls o D yy X hP hS hl => lv_iushr X.1 X.2.1 hd rfl (k p e s m args below meth c H locs ls o D yy X hP hS hl)
theorem Gz.lushr {pc' : Nat} {x : Int64} {y : Int32} (hd : decode M.2.1 pc = .ok (.lushr, 1)) (hp : pc + 1 = pc') (k : Gz l M d pc' L (.long (zusL x y) :: st) w Q) : Gz l M d pc L (.int y :: .long x :: st) w Q := by subst hp; exact fun p e s m args below meth c H locs ls o D yy X hP hS hl => lv_lushr X.1 X.2.1 hd rfl (k p e s m args below meth c H locs ls o D yy X hP hS hl)
theorem Gz.lshl {pc' : Nat} {x : Int64} {y : Int32} (hd : decode M.2.1 pc = .ok (.lshl, 1)) (hp : pc + 1 = pc') (k : Gz l M d pc' L (.long (zslL x y) :: st) w Q) : Gz l M d pc L (.int y :: .long x :: st) w Q := by subst hp; exact fun p e s m args below meth c H locs ls o D yy X hP hS hl => lv_lshl X.1 X.2.1 hd rfl (k p e s m args below meth c H locs ls o D yy X hP hS hl)
theorem Gz.dup {pc' : Nat} {v : Value} (hd : decode M.2.1 pc = .ok (.dup, 1)) (hp : pc + 1 = pc') (hv : v.category = 1) (k : Gz l M d pc' L (v :: v :: st) w Q) : Gz l M d pc L (v :: st) w Q := by subst hp; exact fun p e s m args below meth c H locs ls o D yy X hP hS hl => lv_dup X.1 X.2.1 hd ((g_tr_cat o v).trans hv) (k p e s m args below meth c H locs ls o D yy X hP hS hl)
theorem Gz.pop {pc' : Nat} {v : Value} (hd : decode M.2.1 pc = .ok (.pop, 1)) (hp : pc + 1 = pc') (hv : v.category = 1) (k : Gz l M d pc' L (st) w Q) : Gz l M d pc L (v :: st) w Q := by subst hp; exact fun p e s m args below meth c H locs ls o D yy X hP hS hl => lv_pop X.1 X.2.1 hd ((g_tr_cat o v).trans hv) (k p e s m args below meth c H locs ls o D yy X hP hS hl)
theorem Gz.dup2 {pc' : Nat} {v u : Value} (hd : decode M.2.1 pc = .ok (.dup2, 1)) (hp : pc + 1 = pc') (hv : v.category = 1) (hu : u.category = 1) (k : Gz l M d pc' L (v :: u :: v :: u :: st) w Q) : Gz l M d pc L (v :: u :: st) w Q := by subst hp; exact fun p e s m args below meth c H locs ls o D yy X hP hS hl => lv_dup2_11 X.1 X.2.1 hd ((g_tr_cat o v).trans hv) ((g_tr_cat o u).trans hu) (k p e s m args below meth c H locs ls o D yy X hP hS hl)
theorem Gz.dup2L {pc' : Nat} {v : Value} (hd : decode M.2.1 pc = .ok (.dup2, 1)) (hp : pc + 1 = pc') (hv : v.category = 2) (k : Gz l M d pc' L (v :: v :: st) w Q) : Gz l M d pc L (v :: st) w Q := by subst hp; exact fun p e s m args below meth c H locs ls o D yy X hP hS hl => lv_dup2_2 X.1 X.2.1 hd ((g_tr_cat o v).trans hv) (k p e s m args below meth c H locs ls o D yy X hP hS hl)
theorem Gz.lcmp {pc' : Nat} {x y : Int64} (hd : decode M.2.1 pc = .ok (.lcmp, 1)) (hp : pc + 1 = pc') (k : Gz l M d pc' L (.int (lg_cmp x y) :: st) w Q) : Gz l M d pc L (.long y :: .long x :: st) w Q := by subst hp; exact fun p e s m args below meth c H locs ls o D yy X hP hS hl => W.lcmp X.1 X.2.1 hd  (k p e s m args below meth c H locs ls o D yy X hP hS hl)
theorem Gz.iload {pc' : Nat} {i : Nat} {x : Int32} (hd : decode M.2.1 pc = .ok (.iload i, 2)) (hp : pc + 2 = pc') (n : Nat) (hL : L[n]? = some (i, .int x)) (k : Gz l M d pc' L (.int x :: st) w Q) : Gz l M d pc L (st) w Q := by subst hp; exact fun p e s m args below meth c H locs ls o D yy X hP hS hl => lv_iload X.1 X.2.1 hd (g_at hl n hL) (k p e s m args below meth c H locs ls o D yy X hP hS hl)
theorem Gz.iload_n {pc' : Nat} {q : Fin 4} {x : Int32} (hd : decode M.2.1 pc = .ok (.iload_n q, 1)) (hp : pc + 1 = pc') (n : Nat) (hL : L[n]? = some (q.val, .int x)) (k : Gz l M d pc' L (.int x :: st) w Q) : Gz l M d pc L (st) w Q := by subst hp; exact fun p e s m args below meth c H locs ls o D yy X hP hS hl => lv_iload_n X.1 X.2.1 hd rfl (g_at hl n hL) (k p e s m args below meth c H locs ls o D yy X hP hS hl)
theorem Gz.lload {pc' : Nat} {i : Nat} {x : Int64} (hd : decode M.2.1 pc = .ok (.lload i, 2)) (hp : pc + 2 = pc') (n : Nat) (hL : L[n]? = some (i, .long x)) (k : Gz l M d pc' L (.long x :: st) w Q) : Gz l M d pc L (st) w Q := by subst hp; exact fun p e s m args below meth c H locs ls o D yy X hP hS hl => lv_lload X.1 X.2.1 hd (g_at hl n hL) (k p e s m args below meth c H locs ls o D yy X hP hS hl)
theorem Gz.lload_n {pc' : Nat} {q : Fin 4} {x : Int64} (hd : decode M.2.1 pc = .ok (.lload_n q, 1)) (hp : pc + 1 = pc') (n : Nat) (hL : L[n]? = some (q.val, .long x)) (k : Gz l M d pc' L (.long x :: st) w Q) : Gz l M d pc L (st) w Q := by subst hp; exact fun p e s m args below meth c H locs ls o D yy X hP hS hl => lv_lload_n X.1 X.2.1 hd rfl (g_at hl n hL) (k p e s m args below meth c H locs ls o D yy X hP hS hl)
theorem Gz.aload {pc' : Nat} {i : Nat} {x : Nat} (hd : decode M.2.1 pc = .ok (.aload i, 2)) (hp : pc + 2 = pc') (n : Nat) (hL : L[n]? = some (i, .ref x)) (k : Gz l M d pc' L (.ref x :: st) w Q) : Gz l M d pc L (st) w Q := by subst hp; exact fun p e s m args below meth c H locs ls o D yy X hP hS hl => lv_aload X.1 X.2.1 hd (g_at hl n hL) (k p e s m args below meth c H locs ls o D yy X hP hS hl)
theorem Gz.aload_n {pc' : Nat} {q : Fin 4} {x : Nat} (hd : decode M.2.1 pc = .ok (.aload_n q, 1)) (hp : pc + 1 = pc') (n : Nat) (hL : L[n]? = some (q.val, .ref x)) (k : Gz l M d pc' L (.ref x :: st) w Q) : Gz l M d pc L (st) w Q := by subst hp; exact fun p e s m args below meth c H locs ls o D yy X hP hS hl => lv_aload_n X.1 X.2.1 hd rfl (g_at hl n hL) (k p e s m args below meth c H locs ls o D yy X hP hS hl)
theorem Gz.istore {pc' : Nat} {i : Nat} {x : Int32} {L' : List (Nat × Value)} (hd : decode M.2.1 pc = .ok (.istore i, 2)) (hp : pc + 2 = pc') (hn : i < M.2.2.1) (hL : (i, Value.int x) :: g_st1 i L = L') (k : Gz l M d pc' L' st w Q) : Gz l M d pc L (.int x :: st) w Q := by subst hp; exact fun p e s m args below meth c H locs ls o D yy X hP hS hl => lv_istore X.1 X.2.1 hd hl hn (g_fil1 hL) (fun ls' hl' => k p e s m args below meth c H locs ls' o D yy X hP hS hl')
theorem Gz.istore_n {pc' : Nat} {q : Fin 4} {x : Int32} {L' : List (Nat × Value)} (hd : decode M.2.1 pc = .ok (.istore_n q, 1)) (hp : pc + 1 = pc') (hn : q.val < M.2.2.1) (hL : (q.val, Value.int x) :: g_st1 q.val L = L') (k : Gz l M d pc' L' st w Q) : Gz l M d pc L (.int x :: st) w Q := by subst hp; exact fun p e s m args below meth c H locs ls o D yy X hP hS hl => lv_istore_n X.1 X.2.1 hd rfl hl hn (g_fil1 hL) (fun ls' hl' => k p e s m args below meth c H locs ls' o D yy X hP hS hl')
theorem Gz.lstore {pc' : Nat} {i : Nat} {x : Int64} {L' : List (Nat × Value)} (hd : decode M.2.1 pc = .ok (.lstore i, 2)) (hp : pc + 2 = pc') (hn : i + 1 < M.2.2.1) (hL : (i, Value.long x) :: g_st2 i L = L') (k : Gz l M d pc' L' st w Q) : Gz l M d pc L (.long x :: st) w Q := by subst hp; exact fun p e s m args below meth c H locs ls o D yy X hP hS hl => lv_lstore X.1 X.2.1 hd hl hn (g_fil2 hL) (fun ls' hl' => k p e s m args below meth c H locs ls' o D yy X hP hS hl')
theorem Gz.lstore_n {pc' : Nat} {q : Fin 4} {x : Int64} {L' : List (Nat × Value)} (hd : decode M.2.1 pc = .ok (.lstore_n q, 1)) (hp : pc + 1 = pc') (hn : q.val + 1 < M.2.2.1) (hL : (q.val, Value.long x) :: g_st2 q.val L = L') (k : Gz l M d pc' L' st w Q) : Gz l M d pc L (.long x :: st) w Q := by subst hp; exact fun p e s m args below meth c H locs ls o D yy X hP hS hl => lv_lstore_n X.1 X.2.1 hd rfl hl hn (g_fil2 hL) (fun ls' hl' => k p e s m args below meth c H locs ls' o D yy X hP hS hl')
theorem Gz.astore {pc' : Nat} {i : Nat} {x : Nat} {L' : List (Nat × Value)} (hd : decode M.2.1 pc = .ok (.astore i, 2)) (hp : pc + 2 = pc') (hn : i < M.2.2.1) (hL : (i, Value.ref x) :: g_st1 i L = L') (k : Gz l M d pc' L' st w Q) : Gz l M d pc L (.ref x :: st) w Q := by subst hp; exact fun p e s m args below meth c H locs ls o D yy X hP hS hl => lv_astore X.1 X.2.1 hd hl hn (g_fil1 hL) (fun ls' hl' => k p e s m args below meth c H locs ls' o D yy X hP hS hl')
theorem Gz.astore_n {pc' : Nat} {q : Fin 4} {x : Nat} {L' : List (Nat × Value)} (hd : decode M.2.1 pc = .ok (.astore_n q, 1)) (hp : pc + 1 = pc') (hn : q.val < M.2.2.1) (hL : (q.val, Value.ref x) :: g_st1 q.val L = L') (k : Gz l M d pc' L' st w Q) : Gz l M d pc L (.ref x :: st) w Q := by subst hp; exact fun p e s m args below meth c H locs ls o D yy X hP hS hl => lv_astore_n X.1 X.2.1 hd rfl hl hn (g_fil1 hL) (fun ls' hl' => k p e s m args below meth c H locs ls' o D yy X hP hS hl')
theorem Gz.iinc {pc' : Nat} {i : Nat} {n : Int} {x : Int32} {L' : List (Nat × Value)} (v : Int32) (hd : decode M.2.1 pc = .ok (.iinc i n, 3)) (hp : pc + 3 = pc') (t : Nat) (ht : L[t]? = some (i, .int x)) (hv : x + Int32.ofInt n = v) (hn : i < M.2.2.1) (hL : (i, Value.int v) :: g_st1 i L = L') (k : Gz l M d pc' L' st w Q) : Gz l M d pc L st w Q := by subst hp; exact fun p e s m args below meth c H locs ls o D yy X hP hS hl => lv_iinc X.1 X.2.1 hd hl (k := t) (by rw [List.getElem?_map, ht]; rfl) hv hn (g_fil1 hL) (fun ls' hl' => k p e s m args below meth c H locs ls' o D yy X hP hS hl')
theorem Gz.if_eq {pc' : Nat} {x : Int32} {off : Int} {tgt : Nat} (hd : decode M.2.1 pc = .ok (.ifCond .eq off, 3)) (ht : (pc : Int) + off = (tgt : Int)) (hp : pc + 3 = pc') (kt : x = 0 → Gz l M d tgt L st w Q) (kf : ¬ x = 0 → Gz l M d pc' L st w Q) : Gz l M d pc L (.int x :: st) w Q := by subst hp; exact fun p e s m args below meth c H locs ls o D yy X hP hS hl => lv_if_eq X.1 X.2.1 hd ht (fun c1 => kt c1 p e s m args below meth c H locs ls o D yy X hP hS hl) (fun c1 => kf c1 p e s m args below meth c H locs ls o D yy X hP hS hl)
theorem Gz.if_ne {pc' : Nat} {x : Int32} {off : Int} {tgt : Nat} (hd : decode M.2.1 pc = .ok (.ifCond .ne off, 3)) (ht : (pc : Int) + off = (tgt : Int)) (hp : pc + 3 = pc') (kt : ¬ x = 0 → Gz l M d tgt L st w Q) (kf : x = 0 → Gz l M d pc' L st w Q) : Gz l M d pc L (.int x :: st) w Q := by subst hp; exact fun p e s m args below meth c H locs ls o D yy X hP hS hl => lv_if_ne X.1 X.2.1 hd ht (fun c1 => kt c1 p e s m args below meth c H locs ls o D yy X hP hS hl) (fun c1 => kf c1 p e s m args below meth c H locs ls o D yy X hP hS hl)
theorem Gz.if_lt {pc' : Nat} {x : Int32} {off : Int} {tgt : Nat} (hd : decode M.2.1 pc = .ok (.ifCond .lt off, 3)) (ht : (pc : Int) + off = (tgt : Int)) (hp : pc + 3 = pc') (kt : x < 0 → Gz l M d tgt L st w Q) (kf : ¬ x < 0 → Gz l M d pc' L st w Q) : Gz l M d pc L (.int x :: st) w Q := by subst hp; exact fun p e s m args below meth c H locs ls o D yy X hP hS hl => lv_if_lt X.1 X.2.1 hd ht (fun c1 => kt c1 p e s m args below meth c H locs ls o D yy X hP hS hl) (fun c1 => kf c1 p e s m args below meth c H locs ls o D yy X hP hS hl)
theorem Gz.if_ge {pc' : Nat} {x : Int32} {off : Int} {tgt : Nat} (hd : decode M.2.1 pc = .ok (.ifCond .ge off, 3)) (ht : (pc : Int) + off = (tgt : Int)) (hp : pc + 3 = pc') (kt : 0 ≤ x → Gz l M d tgt L st w Q) (kf : ¬ 0 ≤ x → Gz l M d pc' L st w Q) : Gz l M d pc L (.int x :: st) w Q := by subst hp; exact fun p e s m args below meth c H locs ls o D yy X hP hS hl => lv_if_ge X.1 X.2.1 hd ht (fun c1 => kt c1 p e s m args below meth c H locs ls o D yy X hP hS hl) (fun c1 => kf c1 p e s m args below meth c H locs ls o D yy X hP hS hl)
theorem Gz.if_gt {pc' : Nat} {x : Int32} {off : Int} {tgt : Nat} (hd : decode M.2.1 pc = .ok (.ifCond .gt off, 3)) (ht : (pc : Int) + off = (tgt : Int)) (hp : pc + 3 = pc') (kt : 0 < x → Gz l M d tgt L st w Q) (kf : ¬ 0 < x → Gz l M d pc' L st w Q) : Gz l M d pc L (.int x :: st) w Q := by subst hp; exact fun p e s m args below meth c H locs ls o D yy X hP hS hl => lv_if_gt X.1 X.2.1 hd ht (fun c1 => kt c1 p e s m args below meth c H locs ls o D yy X hP hS hl) (fun c1 => kf c1 p e s m args below meth c H locs ls o D yy X hP hS hl)
theorem Gz.if_le {pc' : Nat} {x : Int32} {off : Int} {tgt : Nat} (hd : decode M.2.1 pc = .ok (.ifCond .le off, 3)) (ht : (pc : Int) + off = (tgt : Int)) (hp : pc + 3 = pc') (kt : x ≤ 0 → Gz l M d tgt L st w Q) (kf : ¬ x ≤ 0 → Gz l M d pc' L st w Q) : Gz l M d pc L (.int x :: st) w Q := by subst hp; exact fun p e s m args below meth c H locs ls o D yy X hP hS hl => lv_if_le X.1 X.2.1 hd ht (fun c1 => kt c1 p e s m args below meth c H locs ls o D yy X hP hS hl) (fun c1 => kf c1 p e s m args below meth c H locs ls o D yy X hP hS hl)
theorem Gz.icmp_eq {pc' : Nat} {x y : Int32} {off : Int} {tgt : Nat} (hd : decode M.2.1 pc = .ok (.if_icmp .eq off, 3)) (ht : (pc : Int) + off = (tgt : Int)) (hp : pc + 3 = pc') (kt : x = y → Gz l M d tgt L st w Q) (kf : ¬ x = y → Gz l M d pc' L st w Q) : Gz l M d pc L (.int y :: .int x :: st) w Q := by subst hp; exact fun p e s m args below meth c H locs ls o D yy X hP hS hl => lv_icmp_eq X.1 X.2.1 hd ht (fun c1 => kt c1 p e s m args below meth c H locs ls o D yy X hP hS hl) (fun c1 => kf c1 p e s m args below meth c H locs ls o D yy X hP hS hl)
theorem Gz.icmp_ne {pc' : Nat} {x y : Int32} {off : Int} {tgt : Nat} (hd : decode M.2.1 pc = .ok (.if_icmp .ne off, 3)) (ht : (pc : Int) + off = (tgt : Int)) (hp : pc + 3 = pc') (kt : ¬ x = y → Gz l M d tgt L st w Q) (kf : x = y → Gz l M d pc' L st w Q) : Gz l M d pc L (.int y :: .int x :: st) w Q := by subst hp; exact fun p e s m args below meth c H locs ls o D yy X hP hS hl => lv_icmp_ne X.1 X.2.1 hd ht (fun c1 => kt c1 p e s m args below meth c H locs ls o D yy X hP hS hl) (fun c1 => kf c1 p e s m args below meth c H locs ls o D yy X hP hS hl)
theorem Gz.icmp_lt {pc' : Nat} {x y : Int32} {off : Int} {tgt : Nat} (hd : decode M.2.1 pc = .ok (.if_icmp .lt off, 3)) (ht : (pc : Int) + off = (tgt : Int)) (hp : pc + 3 = pc') (kt : x < y → Gz l M d tgt L st w Q) (kf : ¬ x < y → Gz l M d pc' L st w Q) : Gz l M d pc L (.int y :: .int x :: st) w Q := by subst hp; exact fun p e s m args below meth c H locs ls o D yy X hP hS hl => lv_icmp_lt X.1 X.2.1 hd ht (fun c1 => kt c1 p e s m args below meth c H locs ls o D yy X hP hS hl) (fun c1 => kf c1 p e s m args below meth c H locs ls o D yy X hP hS hl)
theorem Gz.icmp_ge {pc' : Nat} {x y : Int32} {off : Int} {tgt : Nat} (hd : decode M.2.1 pc = .ok (.if_icmp .ge off, 3)) (ht : (pc : Int) + off = (tgt : Int)) (hp : pc + 3 = pc') (kt : y ≤ x → Gz l M d tgt L st w Q) (kf : ¬ y ≤ x → Gz l M d pc' L st w Q) : Gz l M d pc L (.int y :: .int x :: st) w Q := by subst hp; exact fun p e s m args below meth c H locs ls o D yy X hP hS hl => lv_icmp_ge X.1 X.2.1 hd ht (fun c1 => kt c1 p e s m args below meth c H locs ls o D yy X hP hS hl) (fun c1 => kf c1 p e s m args below meth c H locs ls o D yy X hP hS hl)
theorem Gz.icmp_gt {pc' : Nat} {x y : Int32} {off : Int} {tgt : Nat} (hd : decode M.2.1 pc = .ok (.if_icmp .gt off, 3)) (ht : (pc : Int) + off = (tgt : Int)) (hp : pc + 3 = pc') (kt : y < x → Gz l M d tgt L st w Q) (kf : ¬ y < x → Gz l M d pc' L st w Q) : Gz l M d pc L (.int y :: .int x :: st) w Q := by subst hp; exact fun p e s m args below meth c H locs ls o D yy X hP hS hl => lv_icmp_gt X.1 X.2.1 hd ht (fun c1 => kt c1 p e s m args below meth c H locs ls o D yy X hP hS hl) (fun c1 => kf c1 p e s m args below meth c H locs ls o D yy X hP hS hl)
theorem Gz.icmp_le {pc' : Nat} {x y : Int32} {off : Int} {tgt : Nat} (hd : decode M.2.1 pc = .ok (.if_icmp .le off, 3)) (ht : (pc : Int) + off = (tgt : Int)) (hp : pc + 3 = pc') (kt : x ≤ y → Gz l M d tgt L st w Q) (kf : ¬ x ≤ y → Gz l M d pc' L st w Q) : Gz l M d pc L (.int y :: .int x :: st) w Q := by subst hp; exact fun p e s m args below meth c H locs ls o D yy X hP hS hl => lv_icmp_le X.1 X.2.1 hd ht (fun c1 => kt c1 p e s m args below meth c H locs ls o D yy X hP hS hl) (fun c1 => kf c1 p e s m args below meth c H locs ls o D yy X hP hS hl)
theorem Gz.goto {off : Int} {tgt : Nat} (hd : decode M.2.1 pc = .ok (.goto off, 3)) (ht : (pc : Int) + off = (tgt : Int)) (k : Gz l M d tgt L st w Q) : Gz l M d pc L st w Q := fun p e s m args below meth c H locs ls o D yy X hP hS hl => lv_goto X.1 X.2.1 hd ht (k p e s m args below meth c H locs ls o D yy X hP hS hl)
theorem Gz.eqw {w' : gW} (h : w = w') (k : Gz l M d pc L st w' Q) : Gz l M d pc L st w Q := by subst h; exact k
theorem Gz.sub {L' : List (Nat × Value)} (ks : List Nat) (h : lv_pick L ks = L') (k : Gz l M d pc L' st w Q) : Gz l M d pc L st w Q := by
  intro p e s m args below meth c H locs ls o D yy X hP hS hl
  refine k p e s m args below meth c H locs ls o D yy X hP hS (lv_sub hl ks ?_)
  subst h
  unfold lv_pick
  rw [List.map_filterMap]
  congr 1
  funext i
  rw [List.getElem?_map]
theorem Gz.nmI {v : Int32} (k : ∀ x : Int32, x = v → Gz l M d pc L (.int x :: st) w Q) : Gz l M d pc L (.int v :: st) w Q := k v rfl
theorem Gz.nmJ {v : Int64} (k : ∀ x : Int64, x = v → Gz l M d pc L (.long x :: st) w Q) : Gz l M d pc L (.long v :: st) w Q := k v rfl
theorem Gz.nmR {v : Nat} (k : ∀ x : Nat, x = v → Gz l M d pc L (.ref x :: st) w Q) : Gz l M d pc L (.ref v :: st) w Q := k v rfl
theorem Gz.nmW {v : gW} (k : ∀ x : gW, x = v → Gz l M d pc L st x Q) : Gz l M d pc L st v Q := k v rfl
end GZ
