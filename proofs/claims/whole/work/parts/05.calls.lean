/-! THE LOGIC, third part: calls, copies of rows -/
def g_OkV (z : gM) (n : Nat) : Prop := Cond.instanceMethod z.1 ∈ g_TB ∧ Cond.selects z.1.cls z.1 z.1 ∈ g_TB ∧ Cond.initialized z.1.cls ∈ g_TB ∧ Cond.code z.1 z.2.1 z.2.2.1 z.2.2.2 ∈ g_TB ∧ (z.1.cls ≠ "java/lang/invoke/MethodHandle" ∧ z.1.cls ≠ "java/lang/invoke/VarHandle" ∧ (parseMethodDescriptor z.1.desc).map (fun d => d.parameters.length) = some n) ∧ plainName z.1.cls = true ∧ z.2.2.1 ≤ 41
def g_OkS (z : gM) (n : Nat) : Prop := Cond.static z.1 ∈ g_TB ∧ Cond.initialized z.1.cls ∈ g_TB ∧ Cond.code z.1 z.2.1 z.2.2.1 z.2.2.2 ∈ g_TB ∧ (z.1.cls ≠ "java/lang/invoke/MethodHandle" ∧ z.1.cls ≠ "java/lang/invoke/VarHandle" ∧ (parseMethodDescriptor z.1.desc).map (fun d => d.parameters.length) = some n) ∧ plainName z.1.cls = true ∧ z.2.2.1 ≤ 41
theorem g_args_map (o : Nat) : ∀ (As : List Value) (i : Nat), lv_args i (As.map (g_tr o)) = (lv_args i As).map (g_tq o)
  | [], _ => rfl
  | v :: vs, i => by
    show (i, g_tr o v) :: lv_args (if (g_tr o v).category = 2 then i + 2 else i + 1) (vs.map (g_tr o)) = _
    rw [g_tr_cat, g_args_map o vs]; rfl
theorem g_sl_len (o : Nat) : ∀ (As : List Value), (lg_sl (As.map (g_tr o))).length = (lg_sl As).length
  | [] => rfl
  | v :: vs => by
    have h := g_sl_len o vs
    unfold lg_sl at h ⊢
    simp only [List.map_cons, List.flatMap_cons, List.length_append, g_tr_cat, h]
    congr 1
    split <;> rfl
theorem Gz.met {l : Launch} {z : gM} {dz : Nat} {As : List Value} {w : gW} {Q : Option Value → gW → Prop} (hpl : plainName z.1.cls = true) (hnL : (lg_sl As).length ≤ z.2.2.1) (h : Gz l z dz 0 (lv_args 0 As) [] w Q) (o : Nat) (D : va_G) (yy : Nat → ClassId) :
    Met l z.1 (Cond.code z.1 z.2.1 z.2.2.1 z.2.2.2 :: g_TB) (g_rm dz) (va_Pc (As.map (g_tr o)) (fun U => va_P D g_cl (g_ws yy o w) U.heap ∧ va_K D g_cl (g_tys yy) U)) (gQ Q D yy o) 0 0 (g_A o) := by
  refine Met.ofW (cc := z.2.1) (maxL := z.2.2.1) (ret := z.2.2.2) hpl rfl ?_
  intro p e s m args below meth c s₁ B hml hv
  obtain ⟨rfl, hP, hK⟩ := hv
  have hts := atoms_spec (ws := Cond.code z.1 z.2.1 z.2.2.1 z.2.2.2 :: g_TB) B.pre
  have hown : s.vm.findClass z.1.cls = some m.cls := findClass_of_methodNamed B.named
  have hl := lv_entry (As.map (g_tr o)) (n := z.2.2.1) (by rw [g_sl_len]; exact hnL)
  rw [g_args_map] at hl
  rw [lg_entry_eq]
  exact h p e s m _ below meth c s.heap [] _ o D yy ⟨B.exec, B.bytes, hml, B.returns, B.notSynchronized, hown, fun w hw => hts w (List.mem_cons_of_mem _ hw), hK⟩ hP va_S.rf hl
theorem g_goodIn {z : gM} (h : Cond.code z.1 z.2.1 z.2.2.1 z.2.2.2 ∈ g_TB) : GoodIn g_TB (Cond.code z.1 z.2.1 z.2.2.1 z.2.2.2 :: g_TB) := fun w hw => (List.mem_cons.mp hw).elim (fun e => by rw [e]; exact g_good _ h) (g_good w)
theorem g_toL (o : Nat) (v : Option Value) (st : List Value) : (v.toList ++ st).map (g_tr o) = (v.map (g_tr o)).toList ++ st.map (g_tr o) := by cases v <;> rfl
section GC
variable {l : Launch} {M : gM} {d pc : Nat} {L : List (Nat × Value)} {st : List Value} {w : gW} {Q : Option Value → gW → Prop}
theorem g_after {p : Program} {e : Env} {s : State} {m : MethodId} {args : Array Value} {below : List Frame} {meth : Method} {c : Code} {H : Heap} {locs : List Loc} {ls : Array Slot} {o : Nat} {D : va_G} {yy : Nat → ClassId} {v0 : Option Value} {u : gW} {st0 : List Value} {aa : Array Value}
    (hr : va_Run p l e (g_rm d) s m args below meth c H locs 0 0 0 0 (F0 m pc ls st0) (st.map (g_tr o)) (gQ (fun v w1 => v = v0 ∧ w1 = u) D yy o aa) (g_A o)) (hS : va_S (g_A o) s.heap H locs)
    (X : gX p s m args meth c M D yy) (hl : lv_has ls M.2.2.1 (L.map (g_tq o))) (kk : Gz l M d (pc + 3) L (v0.toList ++ st) u Q) :
    W p l e (g_rm d) s m args below meth c H locs 0 0 (MQ below (gQ Q D yy o) args s 0 0 (g_A o)) (F0 m pc ls st0) := by
  intro T hT XX
  obtain ⟨v, s0, t, T', L', h0, X', hL, e1, e2, ⟨⟨v', w1, hv, ⟨hv', hw⟩, hb⟩, hz, hk⟩, stp⟩ := hr T hT XX
  cases hv
  subst hv'
  subst hw
  rw [h0] at hz hk
  have hS' : va_S (g_A o) s.heap T'.heap (locs ++ L') := ⟨Nat.le_trans hS.1 (by rw [e1]; exact hz), fun q h1 h2 => by rw [e1, hk q (Nat.lt_of_lt_of_le h1 hS.1) h2]; exact hS.2.1 q h1 h2, fun q hq => by
    rcases List.mem_append.mp hq with h | h
    · exact hS.2.2 q h
    · exact hL q h⟩
  have k2 := kk p e s m args below meth c T'.heap (locs ++ L') ls o D yy X (by rw [e1]; exact hb) hS' hl
  rw [g_toL] at k2
  obtain ⟨t2, a1, b1⟩ := k2 T' rfl X'
  exact ⟨t2, stp t2 a1, b1⟩
theorem Gz.callV0 {pc' : Nat} {z : gM} {dz n idx b ci : Nat} {q : vw_C} {fs : List (Nat × Nat)} {As : List Value} {v0 : Option Value} {u : gW} (hz : Gz l z dz 0 (lv_args 0 (.ref b :: As)) [] w (fun v w1 => v = v0 ∧ w1 = u)) (ok : g_OkV z n) (hlk : Cond.methodLink M.1.cls idx z.1 ∈ g_TB) (hb : g_sh b = (0, ci, fs)) (hc : g_cl[ci]? = some q) (hq : q.1 = z.1.cls) (hn : As.length = n) (hnL : (lg_sl (.ref b :: As)).length ≤ z.2.2.1) (hdz : dz + 1 ≤ d) (hst : (st.map fun v => v.category).sum ≤ 8) (hd : decode M.2.1 pc = .ok (.invokevirtual idx, 3)) (hp : pc + 3 = pc') (kk : Gz l M d pc' L (v0.toList ++ st) u Q) : Gz l M d pc L (As.reverse ++ .ref b :: st) w Q := by
  subst hp
  intro p e s m args below meth c H locs ls o D yy X hP hS hl
  obtain ⟨o1, o2, o3, o4, o5, o6, o7⟩ := ok
  have hM := Gz.met o6 hnL hz o D yy
  have hts := X.2.2.2.2.2.2.1
  have hK := X.2.2.2.2.2.2.2
  have hrec := va_recv hK hP hc (g_obj (yy := yy) (o := o) (w := w) hb)
  rw [hq] at hrec
  refine g_after (l := l) (va_runV (As := As.map (g_tr o)) (rest := st.map (g_tr o)) (b := o + b) (C := z.1.cls) (n := n) (Ts := g_TB) (own := M.1.cls) ⟨X.1, X.2.1, X.2.2.1, X.2.2.2.2.2.1, hts⟩ hM
    ⟨callB_of n hts (g_goodIn o4) rfl rfl rfl (hts _ o3) (hts _ hlk) o5 ⟨hdz, by show 8 + (z.2.2.1 + 11) + 60 * dz ≤ 60 * d; omega⟩, hts _ o1, hts _ o2⟩
    ⟨fun a U g mk q => ⟨q.1, q.2.1, va_K.moved (u := U) (U := U.calling g mk a) (Vm.Alike.refl U.vm) q.2.2⟩, hrec, fun U hU hW => ⟨rfl, by rw [hU]; exact hP, va_K.moved hW.alike hK⟩⟩
    rfl (by rw [List.length_map]; exact hn) hl.1 (by rw [List.map_append, List.map_reverse]; rfl) (lv_room (by rw [List.map_map]; show (st.map fun v => (g_tr o v).category).sum ≤ 8; simp only [g_tr_cat]; exact hst)) hd ⟨Nat.le_refl 0, Nat.le_refl 0⟩) hS X hl kk
theorem Gz.callS0 {pc' : Nat} {z : gM} {dz n idx : Nat} {As : List Value} {v0 : Option Value} {u : gW} (hz : Gz l z dz 0 (lv_args 0 As) [] w (fun v w1 => v = v0 ∧ w1 = u)) (ok : g_OkS z n) (hlk : Cond.methodLink M.1.cls idx z.1 ∈ g_TB) (hn : As.length = n) (hnL : (lg_sl As).length ≤ z.2.2.1) (hdz : dz + 1 ≤ d) (hst : (st.map fun v => v.category).sum ≤ 8) (hd : decode M.2.1 pc = .ok (.invokestatic idx, 3)) (hp : pc + 3 = pc') (kk : Gz l M d pc' L (v0.toList ++ st) u Q) : Gz l M d pc L (As.reverse ++ st) w Q := by
  subst hp
  intro p e s m args below meth c H locs ls o D yy X hP hS hl
  obtain ⟨o1, o3, o4, o5, o6, o7⟩ := ok
  have hM := Gz.met o6 hnL hz o D yy
  have hts := X.2.2.2.2.2.2.1
  have hK := X.2.2.2.2.2.2.2
  refine g_after (l := l) (va_runS (As := As.map (g_tr o)) (rest := st.map (g_tr o)) (n := n) (Ts := g_TB) (own := M.1.cls) ⟨X.1, X.2.1, X.2.2.1, X.2.2.2.2.2.1, hts⟩ hM
    ⟨callB_of n hts (g_goodIn o4) rfl rfl rfl (hts _ o3) (hts _ hlk) o5 ⟨hdz, by show 8 + (z.2.2.1 + 11) + 60 * dz ≤ 60 * d; omega⟩, hts _ o1⟩
    ⟨fun a U g mk q => ⟨q.1, q.2.1, va_K.moved (u := U) (U := U.calling g mk a) (Vm.Alike.refl U.vm) q.2.2⟩, fun U hU hW => ⟨rfl, by rw [hU]; exact hP, va_K.moved hW.alike hK⟩⟩
    rfl (by rw [List.length_map]; exact hn) hl.1 (by rw [List.map_append, List.map_reverse]) (lv_room (by rw [List.map_map]; show (st.map fun v => (g_tr o v).category).sum ≤ 8; simp only [g_tr_cat]; exact hst)) hd ⟨Nat.le_refl 0, Nat.le_refl 0⟩) hS X hl kk
/-- what a method's own theorem says: whatever it answers, it comes to -/
def gCt (l : Launch) (z : gM) (dz : Nat) (As : List Value) (w : gW) {β : Type} (enc : β → Option Value) (r : Option (β × gW)) : Prop := ∀ Q : Option Value → gW → Prop, zok enc r Q → Gz l z dz 0 (lv_args 0 As) [] w Q
theorem gCt.use {z : gM} {dz : Nat} {As : List Value} {β : Type} {enc : β → Option Value} {r : Option (β × gW)} (h : gCt l z dz As w enc r) {x : β} {u : gW} (e : r = some (x, u)) : Gz l z dz 0 (lv_args 0 As) [] w (fun v w1 => v = enc x ∧ w1 = u) := h _ ⟨x, u, e, rfl, rfl⟩
theorem Gz.callV {pc' : Nat} {α β : Type} {enc : α → Option Value} {enc' : β → Option Value} {r : Option (β × gW)} {K : β → gW → Option (α × gW)} (As : List Value) {z : gM} {dz n idx b ci : Nat} {q : vw_C} {fs : List (Nat × Nat)} (hz : gCt l z dz (.ref b :: As) w enc' r) (h : zok enc (zb r K) Q) (ok : g_OkV z n) (hlk : Cond.methodLink M.1.cls idx z.1 ∈ g_TB) (hb : g_sh b = (0, ci, fs)) (hc : g_cl[ci]? = some q) (hq : q.1 = z.1.cls) (hn : As.length = n) (hnL : (lg_sl (.ref b :: As)).length ≤ z.2.2.1) (hdz : dz + 1 ≤ d) (hst : (st.map fun v => v.category).sum ≤ 8) (hd : decode M.2.1 pc = .ok (.invokevirtual idx, 3)) (hp : pc + 3 = pc') (kk : ∀ (x : β) (u : gW), zok enc (K x u) Q → Gz l M d pc' L ((enc' x).toList ++ st) u Q) : Gz l M d pc L (As.reverse ++ .ref b :: st) w Q := by
  obtain ⟨x, u, e, h⟩ := zok_b h
  exact Gz.callV0 (hz.use e) ok hlk hb hc hq hn hnL hdz hst hd hp (kk x u h)
theorem Gz.callS {pc' : Nat} {α β : Type} {enc : α → Option Value} {enc' : β → Option Value} {r : Option (β × gW)} {K : β → gW → Option (α × gW)} (As : List Value) {z : gM} {dz n idx : Nat} (hz : gCt l z dz As w enc' r) (h : zok enc (zb r K) Q) (ok : g_OkS z n) (hlk : Cond.methodLink M.1.cls idx z.1 ∈ g_TB) (hn : As.length = n) (hnL : (lg_sl As).length ≤ z.2.2.1) (hdz : dz + 1 ≤ d) (hst : (st.map fun v => v.category).sum ≤ 8) (hd : decode M.2.1 pc = .ok (.invokestatic idx, 3)) (hp : pc + 3 = pc') (kk : ∀ (x : β) (u : gW), zok enc (K x u) Q → Gz l M d pc' L ((enc' x).toList ++ st) u Q) : Gz l M d pc L (As.reverse ++ st) w Q := by
  obtain ⟨x, u, e, h⟩ := zok_b h
  exact Gz.callS0 (hz.use e) ok hlk hn hnL hdz hst hd hp (kk x u h)
theorem zcI_self (w : gW) (k : Nat) (f : Nat → Int32) : (zcI w k f).1 k = f := by
  funext b
  exact if_pos rfl
theorem zcL_self (w : gW) (k : Nat) (f : Nat → Int64) : (zcL w k f).2 k = f := by
  funext b
  exact if_pos rfl
theorem zcI_other (w : gW) (k : Nat) (f : Nat → Int32) : ∀ a, a ≠ k → (zcI w k f).1 a = w.1 a ∧ (zcI w k f).2 a = w.2 a := fun a ha => ⟨by funext b; exact if_neg ha, rfl⟩
theorem zcL_other (w : gW) (k : Nat) (f : Nat → Int64) : ∀ a, a ≠ k → (zcL w k f).1 a = w.1 a ∧ (zcL w k f).2 a = w.2 a := fun a ha => ⟨rfl, by funext b; exact if_neg ha⟩
abbrev cpOk (sp dp n : Int32) (a b : Nat) : Prop := 0 ≤ sp.toInt ∧ 0 ≤ dp.toInt ∧ 0 ≤ n.toInt ∧ ix sp + ix n ≤ a ∧ ix dp + ix n ≤ b
theorem z_nlt {x : Int32} (h : 0 ≤ x.toInt) : ¬ x < 0 := by
  rw [Int32.lt_iff_toInt_lt, Int32.toInt_zero]; omega
theorem Gz.copyI {pc' : Nat} {k1 k2 a b idx : Nat} {sp dp n : Int32} (hd : decode M.2.1 pc = .ok (.invokestatic idx, 3)) (hp : pc + 3 = pc') (hlk : Cond.methodLink M.1.cls idx arraycopyName ∈ g_TB) (h1 : Cond.native arraycopyName ∈ g_TB) (h2 : Cond.static arraycopyName ∈ g_TB) (h3 : Cond.initialized "java/lang/System" ∈ g_TB) (hk1 : g_sh k1 = (1, a, [])) (hk2 : g_sh k2 = (1, b, [])) (h : cpOk sp dp n a b) (hd1 : 1 ≤ d) (hst : (st.map fun v => v.category).sum ≤ 8) (kk : Gz l M d pc' L st (zcI w k2 (va_cpy (w.1 k1) (w.1 k2) (ix sp) (ix dp) (ix n))) Q) : Gz l M d pc L (.int n :: .int dp :: .ref k2 :: .int sp :: .ref k1 :: st) w Q := by
  subst hp
  intro p e s m args below meth c H locs ls o D yy X hP hS hl
  have hts := X.2.2.2.2.2.2.1
  have e1 : (g_ws yy o w)[k1]? = some (o + k1, .inl (yy 1, a, .inl (w.1 k1))) := by rw [g_ws_at (g_sh_lt hk1 (by omega))]; unfold g_cell; rw [hk1]; rfl
  have e2 : ∀ w : gW, g_cell yy o w k2 = .inl (yy 1, b, .inl (w.1 k2)) := fun w => by unfold g_cell; rw [hk2]; rfl
  have e3 : (g_ws yy o w)[k2]? = some (o + k2, .inl (yy 1, b, .inl (w.1 k2))) := by rw [g_ws_at (g_sh_lt hk2 (by omega)), e2]
  refine va_copyi (ty := .int) X.1 X.2.1 (X.2.2.1.trans hl.1.symm) X.2.2.2.2.2.1 (hts _ hlk) (hts _ h1) (hts _ h2) (hts _ h3) X.2.2.2.2.2.2.2 hP (g_D yy o w) hS k1 k2 0 0 e1 e3 rfl rfl rfl (z_nlt h.1) (z_nlt h.2.1) (z_nlt h.2.2.1) h.2.2.2.1 h.2.2.2.2 (fun _ _ => rfl) hd1 (by
    rw [List.map_map]
    show (st.map fun v => (g_tr o v).category).sum + (nativeFrameWords "java/lang/System" "arraycopy" 5 + 11) ≤ 60 * d
    simp only [g_tr_cat]
    have : nativeFrameWords "java/lang/System" "arraycopy" 5 ≤ 30 := by decide +kernel
    omega) hd (fun H1 locs1 hP1 _ hS1 => ?_)
  rw [g_ws_set (w' := zcI w k2 (va_cpy (w.1 k1) (w.1 k2) (ix sp) (ix dp) (ix n))) (g_sh_lt hk2 (by omega)) _ (by rw [e2, zcI_self]) (zcI_other w k2 _)] at hP1
  exact kk p e s m args below meth c H1 locs1 ls o D yy X hP1 hS1 hl
theorem Gz.copyL {pc' : Nat} {k1 k2 a b idx : Nat} {sp dp n : Int32} (hd : decode M.2.1 pc = .ok (.invokestatic idx, 3)) (hp : pc + 3 = pc') (hlk : Cond.methodLink M.1.cls idx arraycopyName ∈ g_TB) (h1 : Cond.native arraycopyName ∈ g_TB) (h2 : Cond.static arraycopyName ∈ g_TB) (h3 : Cond.initialized "java/lang/System" ∈ g_TB) (hk1 : (g_sh k1).1 = 2) (hk2 : (g_sh k2).1 = 2) (ha : g_len 2 k1 = a) (hb : g_len 2 k2 = b) (h : cpOk sp dp n a b) (hd1 : 1 ≤ d) (hst : (st.map fun v => v.category).sum ≤ 8) (kk : Gz l M d pc' L st (zcL w k2 (va_cpy (w.2 k1) (w.2 k2) (ix sp) (ix dp) (ix n))) Q) : Gz l M d pc L (.int n :: .int dp :: .ref k2 :: .int sp :: .ref k1 :: st) w Q := by
  subst hp
  intro p e s m args below meth c H locs ls o D yy X hP hS hl
  have hts := X.2.2.2.2.2.2.1
  have hl1 : k1 < gN := g_sh_lt (k := k1) (a := 2) (b := (g_sh k1).2) (by rw [← hk1]) (by omega)
  have hl2 : k2 < gN := g_sh_lt (k := k2) (a := 2) (b := (g_sh k2).2) (by rw [← hk2]) (by omega)
  have en1 : (g_sh k1).2.1 = a := by rw [← ha]; unfold g_len; rw [if_pos hk1]
  have en2 : (g_sh k2).2.1 = b := by rw [← hb]; unfold g_len; rw [if_pos hk2]
  have e1 : (g_ws yy o w)[k1]? = some (o + k1, .inl (yy 2, a, .inr (.inl (w.2 k1)))) := by rw [g_ws_at hl1]; unfold g_cell; rw [hk1, if_neg (by omega), if_pos rfl, en1]
  have e2 : ∀ w : gW, g_cell yy o w k2 = .inl (yy 2, b, .inr (.inl (w.2 k2))) := fun w => by unfold g_cell; rw [hk2, if_neg (by omega), if_pos rfl, en2]
  have e3 : (g_ws yy o w)[k2]? = some (o + k2, .inl (yy 2, b, .inr (.inl (w.2 k2)))) := by rw [g_ws_at hl2, e2]
  refine va_copyl (ty := .long) X.1 X.2.1 (X.2.2.1.trans hl.1.symm) X.2.2.2.2.2.1 (hts _ hlk) (hts _ h1) (hts _ h2) (hts _ h3) X.2.2.2.2.2.2.2 hP (g_D yy o w) hS k1 k2 1 1 e1 e3 rfl rfl rfl (z_nlt h.1) (z_nlt h.2.1) (z_nlt h.2.2.1) h.2.2.2.1 h.2.2.2.2 (fun _ _ => rfl) hd1 (by
    rw [List.map_map]
    show (st.map fun v => (g_tr o v).category).sum + (nativeFrameWords "java/lang/System" "arraycopy" 5 + 11) ≤ 60 * d
    simp only [g_tr_cat]
    have : nativeFrameWords "java/lang/System" "arraycopy" 5 ≤ 30 := by decide +kernel
    omega) hd (fun H1 locs1 hP1 _ hS1 => ?_)
  rw [g_ws_set (w' := zcL w k2 (va_cpy (w.2 k1) (w.2 k2) (ix sp) (ix dp) (ix n))) hl2 _ (by rw [e2, zcL_self]) (zcL_other w k2 _)] at hP1
  exact kk p e s m args below meth c H1 locs1 ls o D yy X hP1 hS1 hl

theorem Gz.callVI {pc' : Nat} {α : Type} {enc : α → Option Value} {r : Option (Int32 × gW)} {K : Int32 → gW → Option (α × gW)} (As : List Value) {z : gM} {dz n idx b ci : Nat} {q : vw_C} {fs : List (Nat × Nat)} (hz : gCt l z dz (.ref b :: As) w eI r) (h : zok enc (zb r K) Q) (ok : g_OkV z n) (hlk : Cond.methodLink M.1.cls idx z.1 ∈ g_TB) (hb : g_sh b = (0, ci, fs)) (hc : g_cl[ci]? = some q) (hq : q.1 = z.1.cls) (hn : As.length = n) (hnL : (lg_sl (.ref b :: As)).length ≤ z.2.2.1) (hdz : dz + 1 ≤ d) (hst : (st.map fun v => v.category).sum ≤ 8) (hd : decode M.2.1 pc = .ok (.invokevirtual idx, 3)) (hp : pc + 3 = pc') (kk : ∀ (x : Int32) (u : gW), zok enc (K x u) Q → Gz l M d pc' L (.int x :: st) u Q) : Gz l M d pc L (As.reverse ++ .ref b :: st) w Q := Gz.callV As hz h ok hlk hb hc hq hn hnL hdz hst hd hp kk
theorem Gz.callSI {pc' : Nat} {α : Type} {enc : α → Option Value} {r : Option (Int32 × gW)} {K : Int32 → gW → Option (α × gW)} (As : List Value) {z : gM} {dz n idx : Nat} (hz : gCt l z dz As w eI r) (h : zok enc (zb r K) Q) (ok : g_OkS z n) (hlk : Cond.methodLink M.1.cls idx z.1 ∈ g_TB) (hn : As.length = n) (hnL : (lg_sl As).length ≤ z.2.2.1) (hdz : dz + 1 ≤ d) (hst : (st.map fun v => v.category).sum ≤ 8) (hd : decode M.2.1 pc = .ok (.invokestatic idx, 3)) (hp : pc + 3 = pc') (kk : ∀ (x : Int32) (u : gW), zok enc (K x u) Q → Gz l M d pc' L (.int x :: st) u Q) : Gz l M d pc L (As.reverse ++ st) w Q := Gz.callS As hz h ok hlk hn hnL hdz hst hd hp kk
theorem Gz.callVJ {pc' : Nat} {α : Type} {enc : α → Option Value} {r : Option (Int64 × gW)} {K : Int64 → gW → Option (α × gW)} (As : List Value) {z : gM} {dz n idx b ci : Nat} {q : vw_C} {fs : List (Nat × Nat)} (hz : gCt l z dz (.ref b :: As) w eJ r) (h : zok enc (zb r K) Q) (ok : g_OkV z n) (hlk : Cond.methodLink M.1.cls idx z.1 ∈ g_TB) (hb : g_sh b = (0, ci, fs)) (hc : g_cl[ci]? = some q) (hq : q.1 = z.1.cls) (hn : As.length = n) (hnL : (lg_sl (.ref b :: As)).length ≤ z.2.2.1) (hdz : dz + 1 ≤ d) (hst : (st.map fun v => v.category).sum ≤ 8) (hd : decode M.2.1 pc = .ok (.invokevirtual idx, 3)) (hp : pc + 3 = pc') (kk : ∀ (x : Int64) (u : gW), zok enc (K x u) Q → Gz l M d pc' L (.long x :: st) u Q) : Gz l M d pc L (As.reverse ++ .ref b :: st) w Q := Gz.callV As hz h ok hlk hb hc hq hn hnL hdz hst hd hp kk
theorem Gz.callSJ {pc' : Nat} {α : Type} {enc : α → Option Value} {r : Option (Int64 × gW)} {K : Int64 → gW → Option (α × gW)} (As : List Value) {z : gM} {dz n idx : Nat} (hz : gCt l z dz As w eJ r) (h : zok enc (zb r K) Q) (ok : g_OkS z n) (hlk : Cond.methodLink M.1.cls idx z.1 ∈ g_TB) (hn : As.length = n) (hnL : (lg_sl As).length ≤ z.2.2.1) (hdz : dz + 1 ≤ d) (hst : (st.map fun v => v.category).sum ≤ 8) (hd : decode M.2.1 pc = .ok (.invokestatic idx, 3)) (hp : pc + 3 = pc') (kk : ∀ (x : Int64) (u : gW), zok enc (K x u) Q → Gz l M d pc' L (.long x :: st) u Q) : Gz l M d pc L (As.reverse ++ st) w Q := Gz.callS As hz h ok hlk hn hnL hdz hst hd hp kk
theorem Gz.callVR {pc' : Nat} {α : Type} {enc : α → Option Value} {r : Option (Nat × gW)} {K : Nat → gW → Option (α × gW)} (As : List Value) {z : gM} {dz n idx b ci : Nat} {q : vw_C} {fs : List (Nat × Nat)} (hz : gCt l z dz (.ref b :: As) w eR r) (h : zok enc (zb r K) Q) (ok : g_OkV z n) (hlk : Cond.methodLink M.1.cls idx z.1 ∈ g_TB) (hb : g_sh b = (0, ci, fs)) (hc : g_cl[ci]? = some q) (hq : q.1 = z.1.cls) (hn : As.length = n) (hnL : (lg_sl (.ref b :: As)).length ≤ z.2.2.1) (hdz : dz + 1 ≤ d) (hst : (st.map fun v => v.category).sum ≤ 8) (hd : decode M.2.1 pc = .ok (.invokevirtual idx, 3)) (hp : pc + 3 = pc') (kk : ∀ (x : Nat) (u : gW), zok enc (K x u) Q → Gz l M d pc' L (.ref x :: st) u Q) : Gz l M d pc L (As.reverse ++ .ref b :: st) w Q := Gz.callV As hz h ok hlk hb hc hq hn hnL hdz hst hd hp kk
theorem Gz.callSR {pc' : Nat} {α : Type} {enc : α → Option Value} {r : Option (Nat × gW)} {K : Nat → gW → Option (α × gW)} (As : List Value) {z : gM} {dz n idx : Nat} (hz : gCt l z dz As w eR r) (h : zok enc (zb r K) Q) (ok : g_OkS z n) (hlk : Cond.methodLink M.1.cls idx z.1 ∈ g_TB) (hn : As.length = n) (hnL : (lg_sl As).length ≤ z.2.2.1) (hdz : dz + 1 ≤ d) (hst : (st.map fun v => v.category).sum ≤ 8) (hd : decode M.2.1 pc = .ok (.invokestatic idx, 3)) (hp : pc + 3 = pc') (kk : ∀ (x : Nat) (u : gW), zok enc (K x u) Q → Gz l M d pc' L (.ref x :: st) u Q) : Gz l M d pc L (As.reverse ++ st) w Q := Gz.callS As hz h ok hlk hn hnL hdz hst hd hp kk
theorem Gz.callVV {pc' : Nat} {α : Type} {enc : α → Option Value} {r : Option (Unit × gW)} {K : Unit → gW → Option (α × gW)} (As : List Value) {z : gM} {dz n idx b ci : Nat} {q : vw_C} {fs : List (Nat × Nat)} (hz : gCt l z dz (.ref b :: As) w eV r) (h : zok enc (zb r K) Q) (ok : g_OkV z n) (hlk : Cond.methodLink M.1.cls idx z.1 ∈ g_TB) (hb : g_sh b = (0, ci, fs)) (hc : g_cl[ci]? = some q) (hq : q.1 = z.1.cls) (hn : As.length = n) (hnL : (lg_sl (.ref b :: As)).length ≤ z.2.2.1) (hdz : dz + 1 ≤ d) (hst : (st.map fun v => v.category).sum ≤ 8) (hd : decode M.2.1 pc = .ok (.invokevirtual idx, 3)) (hp : pc + 3 = pc') (kk : ∀ (x : Unit) (u : gW), zok enc (K x u) Q → Gz l M d pc' L st u Q) : Gz l M d pc L (As.reverse ++ .ref b :: st) w Q := Gz.callV As hz h ok hlk hb hc hq hn hnL hdz hst hd hp kk
theorem Gz.callSV {pc' : Nat} {α : Type} {enc : α → Option Value} {r : Option (Unit × gW)} {K : Unit → gW → Option (α × gW)} (As : List Value) {z : gM} {dz n idx : Nat} (hz : gCt l z dz As w eV r) (h : zok enc (zb r K) Q) (ok : g_OkS z n) (hlk : Cond.methodLink M.1.cls idx z.1 ∈ g_TB) (hn : As.length = n) (hnL : (lg_sl As).length ≤ z.2.2.1) (hdz : dz + 1 ≤ d) (hst : (st.map fun v => v.category).sum ≤ 8) (hd : decode M.2.1 pc = .ok (.invokestatic idx, 3)) (hp : pc + 3 = pc') (kk : ∀ (x : Unit) (u : gW), zok enc (K x u) Q → Gz l M d pc' L st u Q) : Gz l M d pc L (As.reverse ++ st) w Q := Gz.callS As hz h ok hlk hn hnL hdz hst hd hp kk
theorem Gz.tin {x : Int32} {dflt lo hi off : Int} {offs : Array Int} {len tgt : Nat} (hd : decode M.2.1 pc = .ok (.tableswitch dflt lo hi offs, len)) (h1 : ¬ x.toInt < lo) (h2 : ¬ hi < x.toInt) (ho : offs[(x.toInt - lo).toNat]? = some off) (ht : (pc : Int) + off = (tgt : Int)) (k : Gz l M d tgt L st w Q) : Gz l M d pc L (.int x :: st) w Q := fun p e s m args below meth c H locs ls o D yy X hP hS hl => lv_tableIn X.1 X.2.1 hd h1 h2 ho ht (k p e s m args below meth c H locs ls o D yy X hP hS hl)
theorem Gz.tout {x : Int32} {dflt lo hi : Int} {offs : Array Int} {len tgt : Nat} (hd : decode M.2.1 pc = .ok (.tableswitch dflt lo hi offs, len)) (h : x.toInt < lo ∨ hi < x.toInt) (ht : (pc : Int) + dflt = (tgt : Int)) (k : Gz l M d tgt L st w Q) : Gz l M d pc L (.int x :: st) w Q := fun p e s m args below meth c H locs ls o D yy X hP hS hl => lv_tableOut X.1 X.2.1 hd h ht (k p e s m args below meth c H locs ls o D yy X hP hS hl)
theorem Gz.look {x : Int32} {dflt off : Int} {ps : Array (Int × Int)} {len tgt : Nat} (hd : decode M.2.1 pc = .ok (.lookupswitch dflt ps, len)) (hp : (ps.toList.zip (ps.toList.drop 1)).all (fun (a, next) => a.1 < next.1) = true) (ho : Op.lookupswitch.offset ps.toList dflt x.toInt = off) (ht : (pc : Int) + off = (tgt : Int)) (k : Gz l M d tgt L st w Q) : Gz l M d pc L (.int x :: st) w Q := fun p e s m args below meth c H locs ls o D yy X hP hS hl => lv_lookup X.1 X.2.1 hd hp ho ht (k p e s m args below meth c H locs ls o D yy X hP hS hl)
theorem z_sw {x : Int32} (n : Nat) (hn : n < 1000) (h : ∀ k : Nat, k ≤ n → ¬ x = nI k) : x.toInt < 0 ∨ (n : Int) < x.toInt := by
  by_cases h0 : x < 0
  · exact Or.inl (by rw [Int32.lt_iff_toInt_lt, Int32.toInt_zero] at h0; exact h0)
  · obtain ⟨j, hj, e⟩ := nI_of h0
    by_cases q : j ≤ n
    · exact absurd e (h j q)
    · right
      rw [e, nI_toInt hj]
      omega
end GC
