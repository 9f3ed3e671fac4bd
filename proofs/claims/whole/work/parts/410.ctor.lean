/-! CONSTRUCTORS: a judgement Hz over a world that grows: the cells o .. o + n - 1, S their shapes so far ((4, _): a field that is null yet) -/
def h_val (o : Nat) (w : gW) (k j : Nat) (f : Nat × Nat) : Value := if f.1 = 4 then .null else g_val o w k j f
def h_cell (yy : Nat → ClassId) (o : Nat) (w : gW) (k : Nat) (s : Nat × Nat × List (Nat × Nat)) : va_E :=
  if s.1 = 0 then .inr (s.2.1, s.2.2.mapIdx (fun j f => h_val o w k j f))
  else if s.1 = 2 then .inl (yy 2, s.2.1, .inr (.inl (w.2 k)))
  else if s.1 = 1 ∨ s.1 = 3 ∨ s.1 = 4 then .inl (yy s.1, s.2.1, .inl (w.1 k))
  else .inl (yy s.1, s.2.1, .inr (.inr (.inr (.inr (fun j => some (o + (k + 1 + j)))))))
def h_ws (yy : Nat → ClassId) (o : Nat) (w : gW) (S : List gSh) : va_W := S.mapIdx (fun k s => (o + k, h_cell yy o w k s))
def g_B (o : Nat) : Nat → Prop := fun q => o ≤ q
theorem h_at {yy : Nat → ClassId} {o : Nat} {w : gW} {S : List gSh} {k : Nat} {s : gSh} (h : S[k]? = some s) : (h_ws yy o w S)[k]? = some (o + k, h_cell yy o w k s) := by
  unfold h_ws
  rw [List.getElem?_mapIdx, h]; rfl
theorem h_D (yy : Nat → ClassId) (o : Nat) (w : gW) (S : List gSh) : va_D (g_B o) (h_ws yy o w S) := by
  have key : ∀ (k : Nat) (q : Nat × va_E), (h_ws yy o w S)[k]? = some q → q.1 = o + k := by
    intro k q h
    unfold h_ws at h
    rw [List.getElem?_mapIdx] at h
    cases hs : S[k]? with
    | none => rw [hs] at h; cases h
    | some s => rw [hs] at h; cases h; rfl
  refine ⟨fun i j p q hp hq hpq => ?_, fun k q hq => ?_⟩
  · have h1 := key i p hp
    have h2 := key j q hq
    omega
  · have h1 := key k q hq
    show o ≤ q.1
    omega
theorem h_push (yy : Nat → ClassId) (o : Nat) (w : gW) (S : List gSh) (s : gSh) : h_ws yy o w (S ++ [s]) = h_ws yy o w S ++ [(o + S.length, h_cell yy o w S.length s)] := by
  unfold h_ws
  rw [List.mapIdx_append]
  simp
theorem h_set {yy : Nat → ClassId} {o : Nat} {w w' : gW} {S : List gSh} {k : Nat} {s0 s : gSh} (h : S[k]? = some s0) {e : va_E} (he : h_cell yy o w' k s = e) (hw : ∀ a, a ≠ k → w'.1 a = w.1 a ∧ w'.2 a = w.2 a) : (h_ws yy o w S).set k (o + k, e) = h_ws yy o w' (S.set k s) := by
  have hk := (List.getElem?_eq_some_iff.mp h).1
  apply List.ext_getElem?
  intro j
  by_cases hj : j = k
  · subst hj
    rw [List.getElem?_set_self (by unfold h_ws; rw [List.length_mapIdx]; exact hk), h_at (List.getElem?_set_self hk), he]
  · rw [List.getElem?_set_ne (Ne.symm hj)]
    unfold h_ws
    rw [List.getElem?_mapIdx, List.getElem?_mapIdx, List.getElem?_set_ne (Ne.symm hj)]
    congr 1
    funext t
    unfold h_cell h_val g_val
    rw [(hw j hj).1, (hw j hj).2]
theorem h_fs {o : Nat} {w w' : gW} {k j : Nat} {fs : List (Nat × Nat)} {f0 f : Nat × Nat} (h : fs[j]? = some f0) {v : Value} (hv : h_val o w' k j f = v) (hn : ∀ i, i ≠ j → w'.1 k i = w.1 k i ∧ w'.2 k i = w.2 k i) : (fs.mapIdx (fun j f => h_val o w k j f)).set j v = (fs.set j f).mapIdx (fun j f => h_val o w' k j f) := by
  have hk := (List.getElem?_eq_some_iff.mp h).1
  apply List.ext_getElem?
  intro i
  by_cases hi : i = j
  · subst hi
    rw [List.getElem?_set_self (by rw [List.length_mapIdx]; exact hk), List.getElem?_mapIdx, List.getElem?_set_self hk, ← hv]; rfl
  · rw [List.getElem?_set_ne (Ne.symm hi), List.getElem?_mapIdx, List.getElem?_mapIdx, List.getElem?_set_ne (Ne.symm hi)]
    congr 1
    funext t
    unfold h_val g_val
    rw [(hn i hi).1, (hn i hi).2]
theorem hAO1 {t : FieldType} {u U : State} (hvm : u.vm.Alike U.vm) (h : (Cond.arrayOver (.array t)).before #[] u = true) : (Cond.arrayOver (.array t)).before #[] U = true := by
  obtain ⟨comp, c, k, h1, h3, h4, h5⟩ := Cond.arrayOver_specA h
  have h2 : (u.vm.classes.findIdx? fun (x : Class) => match x.kind with | .array component _ => component == comp | _ => false) = some c := by
    unfold Cond.before Cond.holds at h
    simp only [Cond.value, beq_iff_eq] at h
    rw [h1] at h
    simp only [Option.bind_some, Option.bind_eq_some_iff, Option.map_eq_some_iff] at h
    obtain ⟨c', hi, k', hk', hb⟩ := h
    have hcc : c' = c := by
      cases hkk : k'.kind with
      | array a b =>
        rw [hkk] at hb
        simp at hb
        exact Option.some.inj (hb.2.symm.trans h5)
      | _ => rw [hkk] at hb; simp at hb
    subst hcc
    exact hi
  obtain ⟨k', hk', he⟩ := hvm.2.2 _ _ h3
  have hi : (U.vm.classes.findIdx? fun (x : Class) => match x.kind with | .array component _ => component == comp | _ => false) = some c := by
    have a1 := va_idx_bare U.vm comp
    have a2 := va_idx_bare u.vm comp
    have e : U.vm.bare = u.vm.bare := by first | exact hvm.bare_eq | exact hvm.bare_eq.symm
    rw [e] at a1
    exact a1.symm.trans (a2.trans h2)
  have hkind : k'.kind = .array comp (.array t) := by rw [he]; exact h4
  have f1 : U.vm.findClass (FieldType.array t).toString = some comp := by rw [hvm.findClass]; exact h1
  have f2 : U.vm.findClass ("[" ++ (FieldType.array t).toString) = some c := by rw [hvm.findClass]; exact h5
  unfold Cond.before Cond.holds
  simp only [Cond.value]
  rw [f1, Option.bind_some]
  refine (congrArg (fun o : Option Nat => (o.bind (fun c => (U.vm.classes[c]?).map fun (k : Class) => match k.kind with | .array _ ty => decide (ty = FieldType.array t) && decide (U.vm.findClass ("[" ++ (FieldType.array t).toString) = some c) | _ => false) == some true)) hi).trans ?_
  simp [hk', hkind, f2]
def hAO (U : State) : Prop := (Cond.arrayOver (.array .int)).before #[] U = true ∧ (Cond.arrayOver (.array .long)).before #[] U = true
theorem hAO.moved {u U : State} (hvm : u.vm.Alike U.vm) (h : hAO u) : hAO U := ⟨hAO1 hvm h.1, hAO1 hvm h.2⟩
def hR (d mc ms : Nat) : Room := { frames := d, cells := mc, slots := ms, locals := 60 * d }
def hQ (Q : List gSh → gW → Prop) (D : va_G) (yy : Nat → ClassId) (o : Nat) : Array Value → State → Outcome → State → Prop := fun _ st oc t =>
  (∃ (S : List gSh) (w : gW), oc = .returned none ∧ Q S w ∧ va_P D g_cl (h_ws yy o w S) t.heap ∧ t.heap.size = o + S.length) ∧ va_F (g_B o) st t
def Hz (l : Launch) (M : gM) (d mc ms cells slots pc : Nat) (L : List (Nat × Value)) (st : List Value) (S : List gSh) (w : gW) (Q : List gSh → gW → Prop) : Prop :=
  ∀ (p : Program) (e : Env) (s : State) (m : MethodId) (args : Array Value) (below : List Frame) (meth : Method) (c : Code) (H : Heap) (locs : List Loc) (ls : Array Slot) (o : Nat) (D : va_G) (yy : Nat → ClassId),
    (gX p s m args meth c M D yy ∧ meth.name = M.1.name ∧ hAO s) → o ≤ s.heap.size → va_P D g_cl (h_ws yy o w S) H → H.size = o + S.length → va_S (g_B o) s.heap H locs → lv_has ls M.2.2.1 (L.map (g_tq o)) →
    W p l e (hR d mc ms) s m args below meth c H locs cells slots (MQ below (hQ Q D yy o) args s mc ms (g_B o)) (F0 m pc ls (st.map (g_tr o)))
section HZ
variable {l : Launch} {M : gM} {d mc ms cells slots pc pc' : Nat} {L : List (Nat × Value)} {st : List Value} {S : List gSh} {w : gW} {Q : List gSh → gW → Prop}
theorem Hz.iconst {n : Int} {v : Int32} (hd : decode M.2.1 pc = .ok (.iconst n, 1)) (hp : pc + 1 = pc') (hv : Int32.ofInt n = v) (k : Hz l M d mc ms cells slots pc' L (.int v :: st) S w Q) : Hz l M d mc ms cells slots pc L (st) S w Q := by subst hp; exact fun p e s m args below meth c H locs ls o D yy X ho hP hz hS hl => lv_iconst X.1.1 X.1.2.1 hd hv (k p e s m args below meth c H locs ls o D yy X ho hP hz hS hl)
theorem Hz.bipush {n : Int} {v : Int32} (hd : decode M.2.1 pc = .ok (.bipush n, 2)) (hp : pc + 2 = pc') (hv : (Int8.ofInt n).toInt32 = v) (k : Hz l M d mc ms cells slots pc' L (.int v :: st) S w Q) : Hz l M d mc ms cells slots pc L (st) S w Q := by subst hp; exact fun p e s m args below meth c H locs ls o D yy X ho hP hz hS hl => lv_bipush X.1.1 X.1.2.1 hd hv (k p e s m args below meth c H locs ls o D yy X ho hP hz hS hl)
theorem Hz.sipush {n : Int} {v : Int32} (hd : decode M.2.1 pc = .ok (.sipush n, 3)) (hp : pc + 3 = pc') (hv : (Int16.ofInt n).toInt32 = v) (k : Hz l M d mc ms cells slots pc' L (.int v :: st) S w Q) : Hz l M d mc ms cells slots pc L (st) S w Q := by subst hp; exact fun p e s m args below meth c H locs ls o D yy X ho hP hz hS hl => lv_sipush X.1.1 X.1.2.1 hd hv (k p e s m args below meth c H locs ls o D yy X ho hP hz hS hl)
theorem Hz.dup {v : Value} (hd : decode M.2.1 pc = .ok (.dup, 1)) (hp : pc + 1 = pc') (hv : v.category = 1) (k : Hz l M d mc ms cells slots pc' L (v :: v :: st) S w Q) : Hz l M d mc ms cells slots pc L (v :: st) S w Q := by subst hp; exact fun p e s m args below meth c H locs ls o D yy X ho hP hz hS hl => lv_dup X.1.1 X.1.2.1 hd ((g_tr_cat o v).trans hv) (k p e s m args below meth c H locs ls o D yy X ho hP hz hS hl)
theorem Hz.iload {i : Nat} {x : Int32} (hd : decode M.2.1 pc = .ok (.iload i, 2)) (hp : pc + 2 = pc') (n : Nat) (hL : L[n]? = some (i, .int x)) (k : Hz l M d mc ms cells slots pc' L (.int x :: st) S w Q) : Hz l M d mc ms cells slots pc L (st) S w Q := by subst hp; exact fun p e s m args below meth c H locs ls o D yy X ho hP hz hS hl => lv_iload X.1.1 X.1.2.1 hd (g_at hl n hL) (k p e s m args below meth c H locs ls o D yy X ho hP hz hS hl)
theorem Hz.iload_n {q : Fin 4} {x : Int32} (hd : decode M.2.1 pc = .ok (.iload_n q, 1)) (hp : pc + 1 = pc') (n : Nat) (hL : L[n]? = some (q.val, .int x)) (k : Hz l M d mc ms cells slots pc' L (.int x :: st) S w Q) : Hz l M d mc ms cells slots pc L (st) S w Q := by subst hp; exact fun p e s m args below meth c H locs ls o D yy X ho hP hz hS hl => lv_iload_n X.1.1 X.1.2.1 hd rfl (g_at hl n hL) (k p e s m args below meth c H locs ls o D yy X ho hP hz hS hl)
theorem Hz.aload {i : Nat} {x : Nat} (hd : decode M.2.1 pc = .ok (.aload i, 2)) (hp : pc + 2 = pc') (n : Nat) (hL : L[n]? = some (i, .ref x)) (k : Hz l M d mc ms cells slots pc' L (.ref x :: st) S w Q) : Hz l M d mc ms cells slots pc L (st) S w Q := by subst hp; exact fun p e s m args below meth c H locs ls o D yy X ho hP hz hS hl => lv_aload X.1.1 X.1.2.1 hd (g_at hl n hL) (k p e s m args below meth c H locs ls o D yy X ho hP hz hS hl)
theorem Hz.aload_n {q : Fin 4} {x : Nat} (hd : decode M.2.1 pc = .ok (.aload_n q, 1)) (hp : pc + 1 = pc') (n : Nat) (hL : L[n]? = some (q.val, .ref x)) (k : Hz l M d mc ms cells slots pc' L (.ref x :: st) S w Q) : Hz l M d mc ms cells slots pc L (st) S w Q := by subst hp; exact fun p e s m args below meth c H locs ls o D yy X ho hP hz hS hl => lv_aload_n X.1.1 X.1.2.1 hd rfl (g_at hl n hL) (k p e s m args below meth c H locs ls o D yy X ho hP hz hS hl)
theorem Hz.istore_n {q : Fin 4} {x : Int32} {L' : List (Nat × Value)} (hd : decode M.2.1 pc = .ok (.istore_n q, 1)) (hp : pc + 1 = pc') (hn : q.val < M.2.2.1) (hL : (q.val, Value.int x) :: g_st1 q.val L = L') (k : Hz l M d mc ms cells slots pc' L' st S w Q) : Hz l M d mc ms cells slots pc L (.int x :: st) S w Q := by subst hp; exact fun p e s m args below meth c H locs ls o D yy X ho hP hz hS hl => lv_istore_n X.1.1 X.1.2.1 hd rfl hl hn (g_fil1 hL) (fun ls' hl' => k p e s m args below meth c H locs ls' o D yy X ho hP hz hS hl')
theorem Hz.iinc {i : Nat} {n : Int} {x : Int32} {L' : List (Nat × Value)} (v : Int32) (hd : decode M.2.1 pc = .ok (.iinc i n, 3)) (hp : pc + 3 = pc') (t : Nat) (ht : L[t]? = some (i, .int x)) (hv : x + Int32.ofInt n = v) (hn : i < M.2.2.1) (hL : (i, Value.int v) :: g_st1 i L = L') (k : Hz l M d mc ms cells slots pc' L' st S w Q) : Hz l M d mc ms cells slots pc L st S w Q := by subst hp; exact fun p e s m args below meth c H locs ls o D yy X ho hP hz hS hl => lv_iinc X.1.1 X.1.2.1 hd hl (k := t) (by rw [List.getElem?_map, ht]; rfl) hv hn (g_fil1 hL) (fun ls' hl' => k p e s m args below meth c H locs ls' o D yy X ho hP hz hS hl')
theorem Hz.icmp_ge {x y : Int32} {off : Int} {tgt : Nat} (hd : decode M.2.1 pc = .ok (.if_icmp .ge off, 3)) (ht : (pc : Int) + off = (tgt : Int)) (hp : pc + 3 = pc') (kt : y ≤ x → Hz l M d mc ms cells slots tgt L st S w Q) (kf : ¬ y ≤ x → Hz l M d mc ms cells slots pc' L st S w Q) : Hz l M d mc ms cells slots pc L (.int y :: .int x :: st) S w Q := by subst hp; exact fun p e s m args below meth c H locs ls o D yy X ho hP hz hS hl => lv_icmp_ge X.1.1 X.1.2.1 hd ht (fun c1 => kt c1 p e s m args below meth c H locs ls o D yy X ho hP hz hS hl) (fun c1 => kf c1 p e s m args below meth c H locs ls o D yy X ho hP hz hS hl)
theorem Hz.goto {off : Int} {tgt : Nat} (hd : decode M.2.1 pc = .ok (.goto off, 3)) (ht : (pc : Int) + off = (tgt : Int)) (k : Hz l M d mc ms cells slots tgt L st S w Q) : Hz l M d mc ms cells slots pc L st S w Q := fun p e s m args below meth c H locs ls o D yy X ho hP hz hS hl => lv_goto X.1.1 X.1.2.1 hd ht (k p e s m args below meth c H locs ls o D yy X ho hP hz hS hl)
theorem Hz.widen {cells' slots' : Nat} (h1 : cells ≤ cells') (h2 : slots ≤ slots') (k : Hz l M d mc ms cells' slots' pc L st S w Q) : Hz l M d mc ms cells slots pc L st S w Q := fun p e s m args below meth c H locs ls o D yy X ho hP hz hS hl => W.widen h1 h2 (k p e s m args below meth c H locs ls o D yy X ho hP hz hS hl)
theorem Hz.sub {L' : List (Nat × Value)} (ks : List Nat) (h : lv_pick L ks = L') (k : Hz l M d mc ms cells slots pc L' st S w Q) : Hz l M d mc ms cells slots pc L st S w Q := by
  intro p e s m args below meth c H locs ls o D yy X ho hP hz hS hl
  refine k p e s m args below meth c H locs ls o D yy X ho hP hz hS (lv_sub hl ks ?_)
  subst h
  unfold lv_pick
  rw [List.map_filterMap]
  congr 1
  funext i
  rw [List.getElem?_map]
theorem Hz.getR {k j ci idx : Nat} (t : Nat) {fs : List (Nat × Nat)} {ft : FieldType} {fin : Bool} (F : g_Fd M.1.cls idx ci j ft fin) (hk : S[k]? = some (0, ci, fs)) (hf : fs[j]? = some (0, t)) (hd : decode M.2.1 pc = .ok (.getfield idx, 3)) (hp : pc + 3 = pc') (kk : Hz l M d mc ms cells slots pc' L (.ref t :: st) S w Q) : Hz l M d mc ms cells slots pc L (.ref k :: st) S w Q := by
  subst hp
  intro p e s m args below meth c H locs ls o D yy X ho hP hz hS hl
  obtain ⟨C, T, N, ty, hcl, hj, hlk, hin, -⟩ := F
  have hts := X.1.2.2.2.2.2.2.1
  have e0 : (h_ws yy o w S)[k]? = some (o + k, .inr (ci, fs.mapIdx (fun j f => h_val o w k j f))) := h_at hk
  refine va_get (ref := (T j).1) X.1.1 X.1.2.1 hts hin X.1.2.2.2.2.2.1 X.1.2.2.2.2.2.2.2 hP k e0 hcl j hj (hts _ hlk) (fun _ h => h) (v := .ref (o + t)) (by rw [List.getElem?_mapIdx, hf]; rfl) hd ?_
  exact kk p e s m args below meth c H locs ls o D yy X ho hP hz hS hl
/-- what a field's row of the tables says of a store into it -/
theorem h_slot {p : Program} {s : State} {m : MethodId} {args : Array Value} {meth : Method} {c : Code} {D : va_G} {yy : Nat → ClassId} {H : Heap} {a ci j : Nat} {C : String} {T : u_T} {N : Nat} {ty : Nat → FieldType} {fs : List Value} (X : gX p s m args meth c M D yy) (hcl : g_cl[ci]? = some (C, T, N)) (hj : j < N) (hin : ∀ w ∈ u_ws C T N, w ∈ g_TB) (hty : ∀ k, k < N → parseFieldDescriptor (T k).2.2.1 = some (ty k)) (hnm : ∀ a, a < N → ∀ b, b < N → a ≠ b → (T a).2.1 ≠ (T b).2.1) (hw : va_at D g_cl (a, .inr (ci, fs)) H) (hl : j < fs.length) :
    ∃ (cf : ClassId) (kf : Class) (fi : Nat) (f : Field) (cell : Cell) (cC : ClassId) (kC : Class), s.fieldFound? (T j).1 (T j).2.1 (T j).2.2.1 = some (cf, kf, fi, f) ∧ f.isStatic = false ∧ H[a]? = some cell ∧ cell.cls = cC ∧ cell.vm = .none ∧ f.slot < cell.slots.size ∧ s.vm.findClass C = some cC ∧ s.vm.classes[cC]? = some kC ∧ kC.kind = .ordinary ∧
      ∀ (v : Value) (H1 : Heap), H1[a]? = some (cell.setSlot f.slot v) → va_at D g_cl (a, .inr (ci, fs.set j v)) H1 := by
  have hts := X.2.2.2.2.2.2.1
  have hK := X.2.2.2.2.2.2.2
  have hap := va_apart (own := M.1.cls) hts hin ty hty hnm hK hcl
  obtain ⟨r, h1, cell, q1, q2, q3, q4⟩ := hw
  have hr : r = (C, T, N) := Option.some.inj (h1.symm.trans hcl)
  subst hr
  obtain ⟨hSl, hfc, kC, hkC, hkind⟩ := hK.1 ci _ hcl
  obtain ⟨cf, kf, fi, f, hi, hsl⟩ := hSl j hj
  refine ⟨cf, kf, fi, f, cell, _, kC, hi, (u_facts hfc hkC (u_lays hts hin hj) hi).1, q1, q2, q3, by rw [hsl]; exact k2_hasslot (q4 j hj), hfc, hkC, hkind, fun v H1 e1 => ?_⟩
  rw [hsl] at e1
  exact ⟨_, hcl, t_OB.to (V := updV (vp_V fs) j v) ⟨_, e1, q2, q3, t_set q4 hap hj v⟩ (fun i _ => vp_updV_set hl v i)⟩
theorem h_size {A : Nat → Prop} {H0 H H1 : Heap} {locs : List Loc} {a k : Nat} (hS : va_S A H0 H locs) (ha : A a) (e2 : H1.size = H.size) (e3 : ∀ q, q ≠ a → H1[q]? = H[q]?) : va_S A H0 H1 (locs ++ [⟨a, k⟩]) := by
  refine ⟨by rw [e2]; exact hS.1, fun q h1 h2 => ?_, fun q hq => ?_⟩
  · rw [e3 q (fun z => h2 (by rw [z]; exact ha))]
    exact hS.2.1 q h1 h2
  · rcases List.mem_append.mp hq with h | h
    · exact hS.2.2 q h
    · rcases List.mem_singleton.mp h with rfl
      exact ha
theorem Hz.putR {k j ci idx t : Nat} {S' : List gSh} {fs : List (Nat × Nat)} {f0 : Nat × Nat} {ft : FieldType} (F : g_Fd M.1.cls idx ci j ft true) (hft : (∃ n, ft = .object n) ∨ ∃ u, ft = .array u) (hown : ∀ C T N, g_cl[ci]? = some (C, T, N) → (T j).1 = M.1.cls) (hini : M.1.name = "<init>") (hk : S[k]? = some (0, ci, fs)) (hf : fs[j]? = some f0) (hd : decode M.2.1 pc = .ok (.putfield idx, 3)) (hp : pc + 3 = pc') (hS' : S.set k (0, ci, fs.set j (0, t)) = S') (kk : Hz l M d mc ms cells slots pc' L st S' w Q) : Hz l M d mc ms cells slots pc L (.ref t :: .ref k :: st) S w Q := by
  subst hp
  subst hS'
  intro p e s m args below meth c H locs ls o D yy X ho hP hz hS hl
  obtain ⟨C, T, N, ty, hcl, hj, hlk, hin, hty, hnm, hft', hfin⟩ := F
  have hts := X.1.2.2.2.2.2.2.1
  have e0 : (h_ws yy o w S)[k]? = some (o + k, .inr (ci, fs.mapIdx (fun j f => h_val o w k j f))) := h_at hk
  have hll : j < (fs.mapIdx (fun j f => h_val o w k j f)).length := by rw [List.length_mapIdx]; exact (List.getElem?_eq_some_iff.mp hf).1
  obtain ⟨cf, kf, fi, f, cell, cC, kC, hi, hst, q1, q2, q3, q4, hfc, hkC, hkind, hback⟩ := h_slot X.1 hcl hj hin hty hnm (hP k _ e0) hll
  have hlay := hts _ (hin _ (u_in_lay hj))
  unfold u_lay at hlay
  rw [if_pos hfin] at hlay
  have hn : narrow ft (.ref (o + t)) = .ref (o + t) := by rcases hft with ⟨n, rfl⟩ | ⟨u, rfl⟩ <;> rfl
  have hfi : fits ft (.ref (o + t)) = true := by rcases hft with ⟨n, rfl⟩ | ⟨u, rfl⟩ <;> rfl
  have hcf : m.cls = cf := by
    obtain ⟨_, _, c', _, _, _, -, -, hf', -, -, -, hown2, -⟩ := Cond.laysFinal_spec hlay
    have e1 : c' = cf := by have := hi.symm.trans hf'; simp at this; exact this.1.symm
    rw [hown C T N hcl] at hown2
    rw [← e1]
    exact Option.some.inj (X.1.2.2.2.2.2.1.symm.trans hown2)
  have h6 := u_fits hfc hkC hkind (Or.inr hlay) hi ((hty j hj).trans (congrArg some hft')) hn hfi
  refine W.putFinK X.1.1 X.1.2.1 X.1.2.2.2.2.2.1 (hts _ hlk) hi hst hcf (X.2.1.trans hini) (by rw [q2]; exact h6) q1 q3 q4 rfl rfl hd fun H1 e1 e2 e3 => ?_
  have hP1 := hP.set (h_D yy o w S) e0 (hback _ H1 e1) e3
  rw [h_fs (o := o) (k := k) (v := g_tr o (.ref t)) (w' := w) (f := (0, t)) hf rfl (fun i _ => ⟨rfl, rfl⟩), h_set (yy := yy) (o := o) (w' := w) (s := (0, ci, fs.set j (0, t))) (e := .inr (ci, (fs.set j (0, t)).mapIdx (fun j f => h_val o w k j f))) hk rfl (fun _ _ => ⟨rfl, rfl⟩)] at hP1
  exact kk p e s m args below meth c H1 _ ls o D yy X ho hP1 (by rw [List.length_set, e2]; exact hz) (h_size hS (Nat.le_add_right o k) e2 e3) hl
theorem Hz.putN {k j ci idx : Nat} {S' : List gSh} {w' : gW} {fs : List (Nat × Nat)} {f0 f1 : Nat × Nat} {ft : FieldType} {v : Value} (F : g_Fd M.1.cls idx ci j ft false) (hk : S[k]? = some (0, ci, fs)) (hf : fs[j]? = some f0) (hd : decode M.2.1 pc = .ok (.putfield idx, 3)) (hp : pc + 3 = pc') (hn : ∀ o, narrow ft (g_tr o v) = g_tr o v) (hfit : ∀ o, fits ft (g_tr o v) = true) (hv : ∀ o, h_val o w' k j f1 = g_tr o v) (h1 : ∀ i, i ≠ j → w'.1 k i = w.1 k i ∧ w'.2 k i = w.2 k i) (h2 : ∀ a, a ≠ k → w'.1 a = w.1 a ∧ w'.2 a = w.2 a) (hS' : S.set k (0, ci, fs.set j f1) = S') (kk : Hz l M d mc ms cells slots pc' L st S' w' Q) : Hz l M d mc ms cells slots pc L (v :: .ref k :: st) S w Q := by
  subst hp
  subst hS'
  intro p e s m args below meth c H locs ls o D yy X ho hP hz hS hl
  obtain ⟨C, T, N, ty, hcl, hj, hlk, hin, hty, hnm, hft', hfin⟩ := F
  have hts := X.1.2.2.2.2.2.2.1
  have e0 : (h_ws yy o w S)[k]? = some (o + k, .inr (ci, fs.mapIdx (fun j f => h_val o w k j f))) := h_at hk
  have hll : j < (fs.mapIdx (fun j f => h_val o w k j f)).length := by rw [List.length_mapIdx]; exact (List.getElem?_eq_some_iff.mp hf).1
  obtain ⟨cf, kf, fi, f, cell, cC, kC, hi, hst, q1, q2, q3, q4, hfc, hkC, hkind, hback⟩ := h_slot X.1 hcl hj hin hty hnm (hP k _ e0) hll
  have hlay := hts _ (hin _ (u_in_lay hj))
  unfold u_lay at hlay
  rw [if_neg (by rw [hfin]; decide)] at hlay
  have h6 := u_store hfc hkC hkind hlay hi ((hty j hj).trans (congrArg some hft')) (hn o) (hfit o)
  refine W.putK X.1.1 X.1.2.1 (f := f) ⟨X.1.2.2.2.2.2.1, hts _ hlk, ⟨_, _, _, hi⟩, hst⟩ (by rw [q2]; exact h6) q1 q3 q4 rfl rfl hd fun H1 e1 e2 e3 => ?_
  have hP1 := hP.set (h_D yy o w S) e0 (hback _ H1 e1) e3
  rw [h_fs (w' := w') (f := f1) hf (hv o) h1, h_set (yy := yy) (o := o) (w' := w') (s := (0, ci, fs.set j f1)) (e := .inr (ci, (fs.set j f1).mapIdx (fun j f => h_val o w' k j f))) hk rfl h2] at hP1
  exact kk p e s m args below meth c H1 _ ls o D yy X ho hP1 (by rw [List.length_set, e2]; exact hz) (h_size hS (Nat.le_add_right o k) e2 e3) hl
theorem h_kid {D : va_G} {yy : Nat → ClassId} {s : State} (hK : va_K D g_cl (g_tys yy) s) {kd : Nat} {ty : FieldType} (h : (g_tys yy)[kd]? = some (yy (kd + 1), ty)) (hno : ∀ C, ty ≠ .object C) {cA : ClassId} (hc : s.vm.findClass ("[" ++ ty.toString) = some cA) : cA = yy (kd + 1) := by
  have := (hK.2 kd _ h).2
  cases ty with
  | object C => exact absurd rfl (hno C)
  | _ => exact Option.some.inj (hc.symm.trans this)
theorem h_keep {A : Nat → Prop} {H0 H H1 : Heap} {locs : List Loc} (hS : va_S A H0 H locs) (h1 : H.size ≤ H1.size) (h3 : ∀ q, q < H.size → H1[q]? = H[q]?) : va_S A H0 H1 locs := ⟨Nat.le_trans hS.1 h1, fun q a b => (h3 q (Nat.lt_of_lt_of_le a hS.1)).trans (hS.2.1 q a b), hS.2.2⟩
theorem h_old {D : va_G} {ws : va_W} {H H1 : Heap} (hP : va_P D g_cl ws H) (h3 : ∀ q, q < H.size → H1[q]? = H[q]?) : va_P D g_cl ws H1 := hP.kept (fun k x hx => h3 x.1 ((hP k x hx).lt))
theorem h_one {D : va_G} {q : Nat × va_E} {H : Heap} (h : va_at D g_cl q H) : va_P D g_cl [q] H := by
  intro k x hx
  have h0 : k < 1 := (List.getElem?_eq_some_iff.mp hx).1
  rw [show k = 0 by omega] at hx
  cases hx
  exact h
theorem Hz.newA {kd n : Nat} {a0 : vp_A} {at_ : ArrayType} {i : Int32} (hkd : kd = 1 ∨ kd = 2 ∨ kd = 3 ∨ kd = 4) (hat : (g_tys (fun k => k))[kd - 1]? = some (kd, newarray.typeOf at_)) (harr : Cond.arrayClass (newarray.typeOf at_) ∈ g_TB) (hd : decode M.2.1 pc = .ok (.newarray at_, 2)) (hp : pc + 2 = pc') (hn : ¬ i < 0) (hN : i.toNatClampNeg = n) (hb : n * componentBytes (newarray.typeOf at_) ≤ 536870912) (h1 : cells + 1 ≤ mc) (h2 : slots + n ≤ ms) (hz1 : w.1 S.length = fun _ => 0) (hz2 : w.2 S.length = fun _ => 0) (kk : Hz l M d mc ms (cells + 1) (slots + n) pc' L (.ref S.length :: st) (S ++ [(kd, n, [])]) w Q) : Hz l M d mc ms cells slots pc L (.int i :: st) S w Q := by
  subst hp
  intro p e s m args below meth c H locs ls o D yy X ho hP hz hS hl
  have hts := X.1.2.2.2.2.2.2.1
  have hK := X.1.2.2.2.2.2.2.2
  refine va_newaK X.1.1 X.1.2.1 (hts _ harr) rfl hd rfl hn hN hb h1 h2 rfl fun H1 cA e1 z1 o1 hAr hNm => ?_
  have hP1 : va_P D g_cl (h_ws yy o w (S ++ [(kd, n, [])])) H1 := by
    rw [h_push]
    refine (h_old hP o1).app (h_one ?_)
    rw [← hz]
    rcases hkd with q | q | q | q <;> subst q
    · have ht : newarray.typeOf at_ = .int := by have := hat; simp [g_tys] at this; exact this.symm
      rw [ht] at hNm e1
      have hc := h_kid hK (kd := 0) (ty := .int) rfl (fun _ z => by cases z) hNm
      show H1[H.size]? = some (vp_cell _ _)
      rw [e1, hc, vp_cell_i, hz1]; rfl
    · have ht : newarray.typeOf at_ = .long := by have := hat; simp [g_tys] at this; exact this.symm
      rw [ht] at hNm e1
      have hc := h_kid hK (kd := 1) (ty := .long) rfl (fun _ z => by cases z) hNm
      show H1[H.size]? = some (vp_cell _ _)
      rw [e1, hc, hz2]; rfl
    · have ht : newarray.typeOf at_ = .byte := by have := hat; simp [g_tys] at this; exact this.symm
      rw [ht] at hNm e1
      have hc := h_kid hK (kd := 2) (ty := .byte) rfl (fun _ z => by cases z) hNm
      show H1[H.size]? = some (vp_cell _ _)
      rw [e1, hc, vp_cell_i, hz1]; rfl
    · have ht : newarray.typeOf at_ = .boolean := by have := hat; simp [g_tys] at this; exact this.symm
      rw [ht] at hNm e1
      have hc := h_kid hK (kd := 3) (ty := .boolean) rfl (fun _ z => by cases z) hNm
      show H1[H.size]? = some (vp_cell _ _)
      rw [e1, hc, vp_cell_i, hz1]; rfl
  have := kk p e s m args below meth c H1 locs ls o D yy X ho hP1 (by rw [z1, List.length_append]; simp; omega) (h_keep hS (by omega) o1) hl
  rw [hz]
  exact this
theorem Hz.obj {k idx : Nat} (hlk : Cond.methodLink M.1.cls idx objectInit ∈ g_TB) (hin : Cond.instanceMethod objectInit ∈ g_TB) (hco : Cond.code objectInit ⟨#[0xb1]⟩ 1 none ∈ g_TB) (hd : decode M.2.1 pc = .ok (.invokespecial idx, 3)) (hp : pc + 3 = pc') (hd1 : 1 ≤ d) (hst : (st.map fun v => v.category).sum ≤ 8) (kk : Hz l M d mc ms cells slots pc' L st S w Q) : Hz l M d mc ms cells slots pc L (.ref k :: st) S w Q := by
  subst hp
  intro p e s m args below meth c H locs ls o D yy X ho hP hz hS hl
  have hts := X.1.2.2.2.2.2.2.1
  refine W.objInit X.1.1 X.1.2.1 X.1.2.2.2.2.2.1 (hts _ hlk) (hts _ hin) (hts _ hco) (g := F0 m pc ls _) rfl (hl.1.trans X.1.2.2.1.symm) rfl hd hd1 ?_ (kk p e s m args below meth c H locs ls o D yy X ho hP hz hS hl)
  have := lv_room (m := m) (pc := pc) (ls := ls) (rest := st.map (g_tr o)) (st := st.map (g_tr o)) (by rw [List.map_map]; show (st.map fun v => (g_tr o v).category).sum ≤ 8; simp only [g_tr_cat]; exact hst)
  show _ + 12 ≤ 60 * d
  have e : ∀ g : JFrame, g.monitorRoom = (F0 m pc ls (st.map (g_tr o))).monitorRoom → True := fun _ _ => trivial
  exact Nat.le_trans (Nat.add_le_add_right this 12) (by omega)
theorem Hz.ret (hd : decode M.2.1 pc = .ok (.return_, 1)) (hr : M.2.2.2 = none) (hc : cells = mc) (hs : slots = ms) (h : Q S w) : Hz l M d mc ms cells slots pc L [] S w Q := by
  subst hc
  subst hs
  exact fun p e s m args below meth c H locs ls o D yy X ho hP hz hS hl => W.vret X.1.1 X.1.2.1 (X.1.2.2.2.1.trans hr) (fun t ht _ => ⟨⟨S, w, rfl, h, by rw [ht]; exact hP, by rw [ht]; exact hz⟩, hS.F ht⟩) hS.2.2 hd X.1.2.2.2.2.1
theorem Hz.alen {k n kd : Nat} (hd : decode M.2.1 pc = .ok (.arraylength, 1)) (hp : pc + 1 = pc') (hk : S[k]? = some (1, n, [])) (kk : Hz l M d mc ms cells slots pc' L (.int (nI n) :: st) S w Q) : Hz l M d mc ms cells slots pc L (.ref k :: st) S w Q := by
  subst hp
  intro p e s m args below meth c H locs ls o D yy X ho hP hz hS hl
  have e0 : (h_ws yy o w S)[k]? = some (o + k, .inl (yy 1, n, .inl (w.1 k))) := h_at hk
  exact va_alen X.1.1 X.1.2.1 X.1.2.2.2.2.2.2.2 hP k 0 e0 (ty := .int) rfl rfl hd (kk p e s m args below meth c H locs ls o D yy X ho hP hz hS hl)
theorem Hz.iast {k n : Nat} {i x : Int32} (hd : decode M.2.1 pc = .ok (.iastore, 1)) (hp : pc + 1 = pc') (hk : S[k]? = some (1, n, [])) (hi : vp_in i n) (kk : Hz l M d mc ms cells slots pc' L st S (zsI w k (ix i) x) Q) : Hz l M d mc ms cells slots pc L (.int x :: .int i :: .ref k :: st) S w Q := by
  subst hp
  intro p e s m args below meth c H locs ls o D yy X ho hP hz hS hl
  have hK := X.1.2.2.2.2.2.2.2
  have e0 : (h_ws yy o w S)[k]? = some (o + k, .inl (yy 1, n, .inl (w.1 k))) := h_at hk
  have ht : (g_tys yy)[0]? = some (yy 1, .int) := rfl
  refine W.iast X.1.1 X.1.2.1 (hP k _ e0) ((hK.2 0 _ ht).1 n (fun j => .int (w.1 k j))) (fun q => by cases q) (by show ¬ (i < 0 ∨ (arrV _ _ _).slots.size ≤ _); rw [arrV_size]; exact hi) rfl rfl hd fun H1 e1 z1 o1 => ?_
  have e2 : h_cell yy o (zsI w k (ix i) x) k (1, n, []) = .inl (yy 1, n, .inl (upd (w.1 k) (ix i) x)) := by
    show (Sum.inl _ : va_E) = _
    rw [zsI_self]
  have hP1 := hP.set (h_D yy o w S) e0 (e := .inl (yy 1, n, .inl (upd (w.1 k) (ix i) x))) (by
    show H1[o + k]? = some (vp_cell _ _)
    rw [e1]
    rw [vp_cell_i, vp_cell_i, arrV_store]
    congr 2
    funext q
    by_cases hq : q = i.toNatClampNeg
    · subst hq; simp [updV, upd]
    · simp [updV, upd, hq]) o1
  rw [h_set (w' := zsI w k (ix i) x) (s := (1, n, [])) hk e2 (zsI_other w k _ x)] at hP1
  have hSS : S.set k (1, n, []) = S := by
    apply List.ext_getElem?
    intro j
    by_cases hj : j = k
    · subst hj; rw [List.getElem?_set_self (List.getElem?_eq_some_iff.mp hk).1, hk]
    · rw [List.getElem?_set_ne (Ne.symm hj)]
  rw [hSS] at hP1
  exact kk p e s m args below meth c H1 _ ls o D yy X ho hP1 (by rw [z1]; exact hz) (h_size hS (Nat.le_add_right o k) z1 o1) hl
/-- a constructor's, a static method's contract over the growing world -/
theorem Hz.met {z : gM} {dz mz sz : Nat} {As : List Value} {S : List gSh} {w : gW} {Q : List gSh → gW → Prop} (hpl : plainName z.1.cls = true) (hnL : (lg_sl As).length ≤ z.2.2.1) (h : Hz l z dz mz sz 0 0 0 (lv_args 0 As) [] S w Q) (o : Nat) (D : va_G) (yy : Nat → ClassId) :
    Met l z.1 (Cond.code z.1 z.2.1 z.2.2.1 z.2.2.2 :: g_TB) (hR dz mz sz) (va_Pc (As.map (g_tr o)) (fun U => o ≤ U.heap.size ∧ va_P D g_cl (h_ws yy o w S) U.heap ∧ U.heap.size = o + S.length ∧ va_K D g_cl (g_tys yy) U ∧ hAO U)) (hQ Q D yy o) mz sz (g_B o) := by
  refine Met.ofW (cc := z.2.1) (maxL := z.2.2.1) (ret := z.2.2.2) hpl rfl ?_
  intro p e s m args below meth c s₁ B hml hv
  obtain ⟨rfl, ho, hP, hz, hK, hao⟩ := hv
  have hts := atoms_spec (ws := Cond.code z.1 z.2.1 z.2.2.1 z.2.2.2 :: g_TB) B.pre
  have hown : s.vm.findClass z.1.cls = some m.cls := findClass_of_methodNamed B.named
  have hl := lv_entry (As.map (g_tr o)) (n := z.2.2.1) (by rw [g_sl_len]; exact hnL)
  rw [g_args_map] at hl
  rw [lg_entry_eq]
  exact h p e s m _ below meth c s.heap [] _ o D yy ⟨⟨B.exec, B.bytes, hml, B.returns, B.notSynchronized, hown, fun w hw => hts w (List.mem_cons_of_mem _ hw), hK⟩, (name_of_methodNamed B.named B.method).1, hao⟩ ho hP hz va_S.rf hl
def h_OkI (z : gM) (n : Nat) : Prop := Cond.instanceMethod z.1 ∈ g_TB ∧ z.1.name = "<init>" ∧ z.2.2.2 = none ∧ Cond.initialized z.1.cls ∈ g_TB ∧ Cond.code z.1 z.2.1 z.2.2.1 z.2.2.2 ∈ g_TB ∧ (z.1.cls ≠ "java/lang/invoke/MethodHandle" ∧ z.1.cls ≠ "java/lang/invoke/VarHandle" ∧ (parseMethodDescriptor z.1.desc).map (fun d => d.parameters.length) = some n) ∧ plainName z.1.cls = true ∧ z.2.2.1 ≤ 41
theorem h_after {p : Program} {e : Env} {s : State} {m : MethodId} {args : Array Value} {below : List Frame} {meth : Method} {c : Code} {H : Heap} {locs : List Loc} {ls : Array Slot} {o mz sz : Nat} {D : va_G} {yy : Nat → ClassId} {S1 : List gSh} {w1 : gW} {st0 : List Value} {aa : Array Value}
    (hr : va_Run p l e (hR d mc ms) s m args below meth c H locs cells slots mz sz (F0 m pc ls st0) (st.map (g_tr o)) (hQ (fun S' w' => S' = S1 ∧ w' = w1) D yy o aa) (g_B o)) (hS : va_S (g_B o) s.heap H locs) (ho : o ≤ s.heap.size)
    (X : gX p s m args meth c M D yy ∧ meth.name = M.1.name ∧ hAO s) (hl : lv_has ls M.2.2.1 (L.map (g_tq o))) (kk : Hz l M d mc ms (cells + mz) (slots + sz) (pc + 3) L st S1 w1 Q) :
    W p l e (hR d mc ms) s m args below meth c H locs cells slots (MQ below (hQ Q D yy o) args s mc ms (g_B o)) (F0 m pc ls st0) := by
  intro T hT XX
  obtain ⟨v, s0, t, T', L', h0, X', hL, e1, e2, ⟨⟨S', w', hv, ⟨hv', hw⟩, hb, hsz⟩, hz, hk⟩, stp⟩ := hr T hT XX
  cases hv
  subst hv'
  subst hw
  rw [h0] at hz hk
  have hS' : va_S (g_B o) s.heap T'.heap (locs ++ L') := ⟨Nat.le_trans hS.1 (by rw [e1]; exact hz), fun q h1 h2 => by rw [e1, hk q (Nat.lt_of_lt_of_le h1 hS.1) h2]; exact hS.2.1 q h1 h2, fun q hq => by
    rcases List.mem_append.mp hq with h | h
    · exact hS.2.2 q h
    · exact hL q h⟩
  obtain ⟨t2, a1, b1⟩ := kk p e s m args below meth c T'.heap (locs ++ L') ls o D yy X ho (by rw [e1]; exact hb) (by rw [e1]; exact hsz) hS' hl T' rfl X'
  exact ⟨t2, stp t2 a1, b1⟩
theorem Hz.ctor {z : gM} {dz mz sz n idx b : Nat} {As : List Value} {S1 : List gSh} {w1 : gW} (hz0 : Hz l z dz mz sz 0 0 0 (lv_args 0 (.ref b :: As)) [] S w (fun S' w' => S' = S1 ∧ w' = w1)) (ok : h_OkI z n) (hlk : Cond.methodLink M.1.cls idx z.1 ∈ g_TB) (hn : As.length = n) (hnL : (lg_sl (.ref b :: As)).length ≤ z.2.2.1) (hdz : dz + 1 ≤ d) (hst : (st.map fun v => v.category).sum ≤ 8) (hm1 : cells + mz ≤ mc) (hm2 : slots + sz ≤ ms) (hd : decode M.2.1 pc = .ok (.invokespecial idx, 3)) (hp : pc + 3 = pc') (kk : Hz l M d mc ms (cells + mz) (slots + sz) pc' L st S1 w1 Q) : Hz l M d mc ms cells slots pc L (As.reverse ++ .ref b :: st) S w Q := by
  subst hp
  intro p e s m args below meth c H locs ls o D yy X ho hP hz hS hl
  obtain ⟨⟨zc, zn, zd⟩, zcode, znl, zret⟩ := z
  obtain ⟨o1, o2, o3, o4, o5, o6, o7, o8⟩ := ok
  simp only at o3
  subst o3
  have hM := Hz.met o7 hnL hz0 o D yy
  have hts := X.1.2.2.2.2.2.2.1
  have hK := X.1.2.2.2.2.2.2.2
  refine h_after (l := l) (va_runI (As := As.map (g_tr o)) (rest := st.map (g_tr o)) (b := o + b) (n := n) (Ts := g_TB) (own := M.1.cls) ⟨X.1.1, X.1.2.1, X.1.2.2.1, X.1.2.2.2.2.2.1, hts⟩ hM
    ⟨callB_of n hts (g_goodIn o5) rfl rfl rfl (hts _ o4) (hts _ hlk) o6 ⟨hdz, by show 8 + (znl + 11) + 60 * dz ≤ 60 * d; simp only at o8; omega⟩, o2, hts _ o1⟩
    ⟨fun a U g mk q => ⟨q.1, q.2.1, q.2.2.1, q.2.2.2.1, va_K.moved (u := U) (U := U.calling g mk a) (Vm.Alike.refl U.vm) q.2.2.2.2.1, hAO.moved (u := U) (U := U.calling g mk a) (Vm.Alike.refl U.vm) q.2.2.2.2.2⟩, fun U hU hW => ⟨rfl, by rw [hU]; omega, by rw [hU]; exact hP, by rw [hU]; exact hz, va_K.moved hW.alike hK, hAO.moved hW.alike X.2.2⟩⟩
    rfl (by rw [List.length_map]; exact hn) hl.1 (by rw [List.map_append, List.map_reverse]; rfl) (lv_room (by rw [List.map_map]; show (st.map fun v => (g_tr o v).category).sum ≤ 8; simp only [g_tr_cat]; exact hst)) hd ⟨hm1, hm2⟩) hS ho X hl kk
theorem Hz.stat {z : gM} {dz mz sz n idx : Nat} {As : List Value} {S1 : List gSh} {w1 : gW} (hz0 : Hz l z dz mz sz 0 0 0 (lv_args 0 As) [] S w (fun S' w' => S' = S1 ∧ w' = w1)) (ok : g_OkS z n) (hlk : Cond.methodLink M.1.cls idx z.1 ∈ g_TB) (hn : As.length = n) (hnL : (lg_sl As).length ≤ z.2.2.1) (hdz : dz + 1 ≤ d) (hst : (st.map fun v => v.category).sum ≤ 8) (hm1 : cells + mz ≤ mc) (hm2 : slots + sz ≤ ms) (hd : decode M.2.1 pc = .ok (.invokestatic idx, 3)) (hp : pc + 3 = pc') (kk : Hz l M d mc ms (cells + mz) (slots + sz) pc' L st S1 w1 Q) : Hz l M d mc ms cells slots pc L (As.reverse ++ st) S w Q := by
  subst hp
  intro p e s m args below meth c H locs ls o D yy X ho hP hz hS hl
  obtain ⟨o1, o3, o4, o5, o6, o7⟩ := ok
  have hM := Hz.met o6 hnL hz0 o D yy
  have hts := X.1.2.2.2.2.2.2.1
  have hK := X.1.2.2.2.2.2.2.2
  refine h_after (l := l) (va_runS (As := As.map (g_tr o)) (rest := st.map (g_tr o)) (n := n) (Ts := g_TB) (own := M.1.cls) ⟨X.1.1, X.1.2.1, X.1.2.2.1, X.1.2.2.2.2.2.1, hts⟩ hM
    ⟨callB_of n hts (g_goodIn o4) rfl rfl rfl (hts _ o3) (hts _ hlk) o5 ⟨hdz, by show 8 + (z.2.2.1 + 11) + 60 * dz ≤ 60 * d; omega⟩, hts _ o1⟩
    ⟨fun a U g mk q => ⟨q.1, q.2.1, q.2.2.1, q.2.2.2.1, va_K.moved (u := U) (U := U.calling g mk a) (Vm.Alike.refl U.vm) q.2.2.2.2.1, hAO.moved (u := U) (U := U.calling g mk a) (Vm.Alike.refl U.vm) q.2.2.2.2.2⟩, fun U hU hW => ⟨rfl, by rw [hU]; omega, by rw [hU]; exact hP, by rw [hU]; exact hz, va_K.moved hW.alike hK, hAO.moved hW.alike X.2.2⟩⟩
    rfl (by rw [List.length_map]; exact hn) hl.1 (by rw [List.map_append, List.map_reverse]) (lv_room (by rw [List.map_map]; show (st.map fun v => (g_tr o v).category).sum ≤ 8; simp only [g_tr_cat]; exact hst)) hd ⟨hm1, hm2⟩) hS ho X hl kk
def h_df (t : FieldType) : Nat × Nat := match t with
  | .int => (1, 0)
  | .boolean => (1, 0)
  | .long => (2, 0)
  | _ => (4, 0)
def h_okt (t : FieldType) : Bool := match t with
  | .int => true
  | .boolean => true
  | .long => true
  | .object _ => true
  | .array _ => true
  | _ => false
theorem Hz.newO {C : String} {T : u_T} {N ci idx : Nat} {ty : Nat → FieldType} {fs : List (Nat × Nat)} {S' : List gSh} (hcl : g_cl[ci]? = some (C, T, N)) (hin : ∀ w ∈ u_ws C T N, w ∈ g_TB) (hty : ∀ k, k < N → parseFieldDescriptor (T k).2.2.1 = some (ty k)) (hok : ∀ k, k < N → h_okt (ty k) = true) (hfs : fs = (List.range N).map (fun j => h_df (ty j))) (hck : Cond.classLink M.1.cls idx C ∈ g_TB) (hinst : Cond.instantiable C N ∈ g_TB) (hini : Cond.initialized C ∈ g_TB) (hd : decode M.2.1 pc = .ok (.new idx, 3)) (hp : pc + 3 = pc') (h1 : cells + 1 ≤ mc) (h2 : slots + N ≤ ms) (hz1 : w.1 S.length = fun _ => 0) (hz2 : w.2 S.length = fun _ => 0) (hS' : S ++ [(0, ci, fs)] = S') (kk : Hz l M d mc ms (cells + 1) (slots + N) pc' L (.ref S.length :: st) S' w Q) : Hz l M d mc ms cells slots pc L st S w Q := by
  subst hp
  subst hS'
  intro p e s m args below meth c H locs ls o D yy X ho hP hz hS hl
  have hts := X.1.2.2.2.2.2.2.1
  have hK := X.1.2.2.2.2.2.2.2
  have hKn := hK.1 ci _ hcl
  refine W.newcK X.1.1 X.1.2.1 X.1.2.2.2.2.2.1 (hts _ hck) (hts _ hinst) (hts _ hini) rfl hd h1 h2 hKn.2.1 rfl fun H1 kC hkC e1 z1 o1 => ?_
  have hb := u_born ty hts hin hKn hkC e1 hty
  have hP1 : va_P D g_cl (h_ws yy o w (S ++ [(0, ci, fs)])) H1 := by
    rw [h_push]
    refine (h_old hP o1).app (h_one ?_)
    rw [← hz]
    refine ⟨_, hcl, hb.to (fun j hj => ?_)⟩
    subst hfs
    show defaultValue (ty j) = ((List.mapIdx _ _ : List Value)).getD j .null
    have hok2 := hok j hj
    rw [List.getD_eq_getElem?_getD, List.getElem?_mapIdx, List.getElem?_map, List.getElem?_range hj]
    show defaultValue (ty j) = h_val o w S.length j (h_df (ty j))
    cases ht : ty j <;> rw [ht] at hok2 <;> first | (cases hok2; done) | (unfold h_val g_val h_df; simp [hz1, hz2, defaultValue]; done) | (unfold h_val h_df; rfl)
  have := kk p e s m args below meth c H1 locs ls o D yy X ho hP1 (by rw [z1, List.length_append]; simp; omega) (h_keep hS (by omega) o1) hl
  rw [hz]
  exact this
theorem h_outer (c : ClassId) (N h0 : Nat) : ∀ i : Nat, Jvm.Free.Multi.outerC c N h0 i = arrV c N (fun j => if j < i then .ref (h0 + 1 + j) else .null)
  | 0 => by
    show ({ cls := c, slots := Array.replicate N .null, vm := .none } : Cell) = _
    rw [arrV_new]
    exact congrArg (arrV c N) (funext fun j => (if_neg (Nat.not_lt_zero j)).symm)
  | i + 1 => by
    show (Jvm.Free.Multi.outerC c N h0 i).setSlot i (.ref (h0 + 1 + i)) = _
    rw [h_outer c N h0 i, arrV_store]
    refine congrArg (arrV c N) (funext fun j => ?_)
    by_cases e : j = i
    · subst e
      simp [updV]
    · by_cases h : j < i
      · simp [updV, e, h, Nat.lt_succ_of_lt h]
      · simp [updV, e, h, show ¬ j < i + 1 by omega]
theorem h_arrV (c : ClassId) (N : Nat) (f g : Nat → Value) (h : ∀ j, j < N → f j = g j) : arrV c N f = arrV c N g := by
  unfold arrV
  congr 1
  apply Array.ext
  · simp
  · intro i h1 h2
    simp at h1
    simp [h i h1]
theorem Hz.newM {kd kd' n mN idx : Nat} {ty : FieldType} {i1 i2 : Int32} (hkd : (kd = 5 ∧ kd' = 1 ∧ ty = .int) ∨ (kd = 6 ∧ kd' = 2 ∧ ty = .long)) (hck : Cond.classLink M.1.cls idx ("[" ++ (FieldType.array ty).toString) ∈ g_TB) (harr : Cond.arrayClass ty ∈ g_TB) (hd : decode M.2.1 pc = .ok (.multianewarray idx 2, 4)) (hp : pc + 4 = pc') (hn : ¬ i1 < 0) (hn2 : ¬ i2 < 0) (hN : i1.toNatClampNeg = n) (hM2 : i2.toNatClampNeg = mN) (hb : n * 4 ≤ 536870912 ∧ mN * componentBytes ty ≤ 536870912 ∧ mN ≤ 536870912) (h1 : cells + (1 + n) ≤ mc) (h2 : slots + (n + n * mN) ≤ ms) (hz1 : ∀ j, S.length ≤ j → w.1 j = fun _ => 0) (hz2 : ∀ j, S.length ≤ j → w.2 j = fun _ => 0) {S' : List gSh} (hS' : S ++ (kd, n, []) :: List.replicate n (kd', mN, []) = S') (kk : Hz l M d mc ms (cells + 1 + n) (slots + n + n * mN) pc' L (.ref S.length :: st) S' w Q) : Hz l M d mc ms cells slots pc L (.int i2 :: .int i1 :: st) S w Q := by
  subst hp
  subst hS'
  subst hN
  subst hM2
  intro p e s m args below meth c H locs ls o D yy X ho hP hz hS hl
  have hts := X.1.2.2.2.2.2.2.1
  have hK := X.1.2.2.2.2.2.2.2
  have hover : (Cond.arrayOver (.array ty)).before args s = true := by rcases hkd with ⟨_, _, q⟩ | ⟨_, _, q⟩ <;> subst q <;> first | exact X.2.2.1 | exact X.2.2.2
  have hdf : fits ty (defaultValue ty) = true ∧ (defaultValue ty).isDefault = true := by rcases hkd with ⟨_, _, q⟩ | ⟨_, _, q⟩ <;> subst q <;> exact ⟨rfl, rfl⟩
  intro T hT XX
  obtain ⟨vm₁, cA, comp, -, fA, fC, hO, -, X', step⟩ := XX.multianewarray2F X.1.1 X.1.2.2.2.2.2.1 (hts _ hck) hover (hts _ harr) (g := F0 m pc ls (.int i2 :: .int i1 :: st.map (g_tr o))) rfl (by rw [X.1.2.1]; exact hd) rfl hn hn2 hb.1 hb.2.1 hb.2.2 hdf.1 hdf.2 h1 h2
  generalize hF : Jvm.Free.Multi.fill (T.setVm vm₁) cA comp i1.toNatClampNeg i2.toNatClampNeg (defaultValue ty) i1.toNatClampNeg = F at X' step
  have hTh : (T.setVm vm₁).heap = H := hT
  obtain ⟨f1, f2, -, -⟩ := Jvm.Free.Multi.fill_facts (T.setVm vm₁) cA comp i1.toNatClampNeg i2.toNatClampNeg (defaultValue ty) i1.toNatClampNeg
  rw [hF, hTh] at f1 f2
  have hold : ∀ x : Nat, x < H.size → F.heap[x]? = H[x]? := fun x hx => by
    have := Jvm.Free.Multi.fill_old (T.setVm vm₁) cA comp i1.toNatClampNeg i2.toNatClampNeg (defaultValue ty) (a := x) (by rw [hTh]; exact hx) i1.toNatClampNeg
    rw [hF, hTh] at this
    exact this
  have hrow : ∀ j : Nat, j < i1.toNatClampNeg → F.heap[H.size + 1 + j]? = some (Jvm.Free.Multi.innerC comp i2.toNatClampNeg (defaultValue ty)) := fun j hj => by
    have := Jvm.Free.Multi.fill_inner (T.setVm vm₁) cA comp i1.toNatClampNeg i2.toNatClampNeg (defaultValue ty) i1.toNatClampNeg j hj
    rw [hF, hTh] at this
    exact this
  rw [h_outer] at f2
  have hc1 : cA = yy kd ∧ comp = yy kd' := by
    rcases hkd with ⟨q1, q2, q3⟩ | ⟨q1, q2, q3⟩ <;> subst q1 <;> subst q2 <;> subst q3
    · exact ⟨h_kid hK (kd := 4) (ty := .array .int) rfl (fun _ z => by cases z) fA, h_kid hK (kd := 0) (ty := .int) rfl (fun _ z => by cases z) fC⟩
    · exact ⟨h_kid hK (kd := 5) (ty := .array .long) rfl (fun _ z => by cases z) fA, h_kid hK (kd := 1) (ty := .long) rfl (fun _ z => by cases z) fC⟩
  have hP1 : va_P D g_cl (h_ws yy o w (S ++ (kd, i1.toNatClampNeg, []) :: List.replicate i1.toNatClampNeg (kd', i2.toNatClampNeg, []))) F.heap := by
    intro k q hq
    unfold h_ws at hq
    rw [List.getElem?_mapIdx] at hq
    by_cases hk : k < S.length
    · rw [List.getElem?_append_left hk] at hq
      exact h_old hP hold k q (by unfold h_ws; rw [List.getElem?_mapIdx]; exact hq)
    · rw [List.getElem?_append_right (by omega)] at hq
      by_cases hk0 : k = S.length
      · subst hk0
        rw [Nat.sub_self] at hq
        cases hq
        show va_at D g_cl (o + S.length, h_cell yy o w S.length (kd, i1.toNatClampNeg, [])) F.heap
        have e1 : h_cell yy o w S.length (kd, i1.toNatClampNeg, []) = .inl (yy kd, i1.toNatClampNeg, .inr (.inr (.inr (.inr (fun j => some (o + (S.length + 1 + j))))))) := by
          rcases hkd with ⟨q1, _, _⟩ | ⟨q1, _, _⟩ <;> subst q1 <;> rfl
        rw [e1]
        show F.heap[o + S.length]? = some (vp_cell _ _)
        rw [← hz, f2, hc1.1, vp_cell_q]
        congr 1
        exact h_arrV _ _ _ _ (fun j hj => by rw [if_pos hj]; exact congrArg Value.ref (show H.size + 1 + j = o + (S.length + 1 + j) by rw [hz]; omega))
      · obtain ⟨r, hr⟩ : ∃ r, k = S.length + 1 + r := ⟨k - S.length - 1, by omega⟩
        subst hr
        rw [show S.length + 1 + r - S.length = r + 1 by omega, List.getElem?_cons_succ, List.getElem?_replicate] at hq
        by_cases hr : r < i1.toNatClampNeg
        · rw [if_pos hr] at hq
          cases hq
          show va_at D g_cl (o + (S.length + 1 + r), h_cell yy o w (S.length + 1 + r) (kd', i2.toNatClampNeg, [])) F.heap
          have hrw := hrow r hr
          rw [hz, show o + S.length + 1 + r = o + (S.length + 1 + r) by omega] at hrw
          rcases hkd with ⟨_, q2, q3⟩ | ⟨_, q2, q3⟩ <;> subst q2 <;> subst q3
          · show F.heap[o + (S.length + 1 + r)]? = some (vp_cell _ _)
            rw [hrw, hc1.2, vp_cell_i, hz1 _ (by omega)]
            show some ({ cls := _, slots := Array.replicate _ _, vm := .none } : Cell) = _
            rw [arrV_new]; rfl
          · show F.heap[o + (S.length + 1 + r)]? = some (vp_cell _ _)
            rw [hrw, hc1.2, hz2 _ (by omega)]
            show some ({ cls := _, slots := Array.replicate _ _, vm := .none } : Cell) = _
            rw [arrV_new]; rfl
        · rw [if_neg hr] at hq
          cases hq
  have k2 := kk p e s m args below meth c F.heap locs ls o D yy X ho hP1 (by rw [f1, hz]; simp; omega) (h_keep hS (by omega) hold) hl
  obtain ⟨t, a1, b1⟩ := k2 F rfl X'
  refine ⟨t, step t ?_, b1⟩
  have e : T.heap.size = o + S.length := by rw [hT]; exact hz
  rw [e]
  exact a1
end HZ