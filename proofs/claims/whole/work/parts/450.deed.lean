/-! DEED: OathYesterday.deed throws, the law's own deed catches -/
def ddN : String := "java/util/NoSuchElementException"
def ddB : List String := ["java/lang/RuntimeException", "java/lang/Exception"]
def ddT : String := "no such deed, or nothing such of it"
def m_X_deed : gM := (⟨"OathYesterday", "deed", "(II)I"⟩, prog_1_method_6_code, 3, some .int)
def ddRx : ByteArray := prog_29_method_4_code
def ddAt : List Cond := (Bundle.ownAtomsX "OathYesterday" 136 ddN 13 ddRx ddB).filter vx_no
def ddW : List Cond := [.castable ddN ddN, .declares (Bundle.initS "java/lang/RuntimeException"), .declares (Bundle.initS "java/lang/Exception"), .declares (Bundle.initS Bundle.tN)]
theorem dd_words : (ddAt.filter goodWord).all (fun w => tables_1.elem w) = true := by decide +kernel
theorem dd_rest : (ddAt.filter (fun w => !goodWord w)).all (fun w => ddW.elem w) = true := by decide +kernel
theorem dd_wt : ddW.all (fun w => tables_1.elem w) = true := by decide +kernel
theorem dd_ot : (Cond.classLink "OathYesterday" 132 ddN :: Cond.initialized ddN :: ddAt).all vx_ot = true := by decide +kernel
theorem dd_rx0 : decode ddRx 0 = .ok (.aload_n 0, 1) := by decide +kernel
theorem dd_rx1 : decode ddRx 1 = .ok (.aload_n 1, 1) := by decide +kernel
theorem dd_rx2 : decode ddRx 2 = .ok (.invokespecial 13, 3) := by decide +kernel
theorem dd_rx5 : decode ddRx 5 = .ok (.return_, 1) := by decide +kernel
def ddH (U : State) : Prop := ∀ w ∈ ddW, va_Nw w U
theorem ddH.warm {s U : State} (hW : s.WarmedH U.vm) (h : ddH s) : ddH U := by
  intro w hw
  have h1 := h w hw
  simp only [ddW, List.mem_cons, List.not_mem_nil, or_false] at hw
  rcases hw with rfl | rfl | rfl | rfl
  · exact va_Nw.warmC hW h1
  · exact va_tabs rfl (rfl : (s.setVm U.vm).vm = U.vm) (by rw [Cond.declares_setVm hW.alike]; exact h1)
  · exact va_tabs rfl (rfl : (s.setVm U.vm).vm = U.vm) (by rw [Cond.declares_setVm hW.alike]; exact h1)
  · exact va_tabs rfl (rfl : (s.setVm U.vm).vm = U.vm) (by rw [Cond.declares_setVm hW.alike]; exact h1)
theorem ddH.same {u U : State} (h : u.vm = U.vm) (k : ddH u) : ddH U := by
  intro w hw
  have h1 := k w hw
  simp only [ddW, List.mem_cons, List.not_mem_nil, or_false] at hw
  rcases hw with rfl | rfl | rfl | rfl <;> exact va_tabs rfl h h1
theorem dd_hat {args : Array Value} {s : State} (hts : ∀ w ∈ g_TB, w.before args s = true) (h : ddH s) : ∀ w ∈ ddAt, w.before args s = true := by
  intro w hw
  by_cases g : goodWord w = true
  · have h1 := List.all_eq_true.mp dd_words w (List.mem_filter.mpr ⟨hw, g⟩)
    exact hts w (g_in0 (by simpa using h1) g)
  · have h1 := List.all_eq_true.mp dd_rest w (List.mem_filter.mpr ⟨hw, by simpa using g⟩)
    have h2 : w ∈ ddW := by simpa using h1
    have h3 := h w h2
    simp only [ddW, List.mem_cons, List.not_mem_nil, or_false] at h2
    rcases h2 with rfl | rfl | rfl | rfl <;> exact va_tabs rfl rfl h3
def ddE (o sa : Nat) (U : State) : Prop := vx_Zq Bundle.tN "UNASSIGNED_STACK" Bundle.steD (g_A o) U U.heap ∧ vx_Zq Bundle.tN "SUPPRESSED_SENTINEL" Bundle.listD (g_A o) U U.heap ∧ vk_R "OathYesterday" 134 ddT sa U ∧ ddH U
def ddP (D : va_G) (yy : Nat → ClassId) (o sa : Nat) (w : gW) (U : State) : Prop := va_P D g_cl (g_ws yy o w) U.heap ∧ va_K D g_cl (g_tys yy) U ∧ ddE o sa U
theorem ddE.call {o sa : Nat} {U : State} {g : JFrame} {mk : MethodId} {a : Array Value} (h : ddE o sa U) : ddE o sa (U.calling g mk a) :=
  ⟨vx_Zq.moved (u := U) (U := U.calling g mk a) (Vm.Alike.refl U.vm) h.1, vx_Zq.moved (u := U) (U := U.calling g mk a) (Vm.Alike.refl U.vm) h.2.1, vk_R.same (u := U) rfl h.2.2.1, ddH.same (u := U) rfl h.2.2.2⟩
theorem ddP.blind (D : va_G) (yy : Nat → ClassId) (o sa : Nat) (w : gW) (av : List Value) : FrameBlind (va_Pc av (ddP D yy o sa w)) :=
  fun a U g mk q => ⟨q.1, q.2.1, va_K.moved (u := U) (U := U.calling g mk a) (Vm.Alike.refl U.vm) q.2.2.1, ddE.call q.2.2.2⟩
theorem ddE.later {o sa : Nat} {s U : State} {H : Heap} {locs : List Loc} {A : Nat → Prop} (hA : ∀ q, g_A o q → A q) (h1 : vx_Zq Bundle.tN "UNASSIGNED_STACK" Bundle.steD A s s.heap) (h2 : vx_Zq Bundle.tN "SUPPRESSED_SENTINEL" Bundle.listD A s s.heap) (h3 : vk_R "OathYesterday" 134 ddT sa s) (h4 : ddH s) (hS : va_S A s.heap H locs) (hU : U.heap = H) (hW : s.WarmedH U.vm) : ddE o sa U := by
  refine ⟨?_, ?_, vk_R.warm hW h3, h4.warm hW⟩
  · rw [hU]; exact vx_Zq.moved hW.alike ((h1.kept hS.2.1).narrow hA)
  · rw [hU]; exact vx_Zq.moved hW.alike ((h2.kept hS.2.1).narrow hA)
section DD
variable {p : Program} {l : Launch} {e : Env} {R : Room} {s : State} {m : MethodId} {args : Array Value} {below : List Frame} {meth : Method} {c : Code} {H : Heap} {locs : List Loc} {ls : Array Slot} {cells slots o pc nL : Nat} {D : va_G} {yy : Nat → ClassId} {Q : State → Prop} {A : Nat → Prop}
theorem dd_call {z : gM} {dz n idx bb ci : Nat} {q : vw_C} {fs : List (Nat × Nat)} {u w : gW} {β : Type} {enc' : β → Option Value} {x : β} {r : Option (β × gW)} {own : String} {cc : ByteArray} {st : List Value} (As : List Value)
    (hx1 : p.tables.exec = Jvm.exec) (hb1 : c.code = cc) (hml : c.maxLocals = nL) (hown : s.vm.findClass own = some m.cls) (hts : ∀ w ∈ g_TB, w.before args s = true) (hK : va_K D g_cl (g_tys yy) s) (hA : ∀ q, g_A o q → A q)
    (hz : gCt l z dz (.ref bb :: As) w enc' r) (er : r = some (x, u)) (ok : g_OkV z n) (hlk : Cond.methodLink own idx z.1 ∈ g_TB) (hb : g_sh bb = (0, ci, fs)) (hc : g_cl[ci]? = some q) (hq : q.1 = z.1.cls) (hn : As.length = n) (hnL : (lg_sl (.ref bb :: As)).length ≤ z.2.2.1)
    (hR : dz + 1 ≤ R.frames ∧ 8 + (z.2.2.1 + 11) + 60 * dz ≤ R.locals) (hst : (st.map fun v => v.category).sum ≤ 8) (hcs : cells ≤ R.cells ∧ slots ≤ R.slots) (hd : decode cc pc = .ok (.invokevirtual idx, 3))
    (hP : va_P D g_cl (g_ws yy o w) H) (hS : va_S A s.heap H locs) (hl : ls.size = nL)
    (kk : ∀ (H : Heap) (locs : List Loc), va_P D g_cl (g_ws yy o u) H → va_S A s.heap H locs → W p l e R s m args below meth c H locs cells slots Q (F0 m (pc + 3) ls (((enc' x).map (g_tr o)).toList ++ st))) : W p l e R s m args below meth c H locs cells slots Q (F0 m pc ls ((As.map (g_tr o)).reverse ++ .ref (o + bb) :: st)) := by
  obtain ⟨o1, o2, o3, o4, o5, o6, o7⟩ := ok
  have hM := Gz.met o6 hnL (hz.use er) o D yy
  have hrec := va_recv hK hP hc (g_obj (yy := yy) (o := o) (w := w) hb)
  rw [hq] at hrec
  have hrun := va_runV (p := p) (l := l) (e := e) (R := R) (s := s) (m := m) (args := args) (below := below) (meth := meth) (c := c) (H := H) (locs := locs) (cells := cells) (slots := slots) (cc := cc) (nL := nL) (index := idx) (g := F0 m pc ls ((As.map (g_tr o)).reverse ++ .ref (o + bb) :: st)) (As := As.map (g_tr o)) (rest := st) (b := o + bb) (C := z.1.cls) (n := n) (Ts := g_TB) (own := own) ⟨hx1, hb1, hml, hown, hts⟩ hM
    ⟨callB_of n hts (g_goodIn o4) rfl rfl rfl (hts _ o3) (hts _ hlk) o5 hR, hts _ o1, hts _ o2⟩
    ⟨fun a U g mk q => ⟨q.1, q.2.1, va_K.moved (u := U) (U := U.calling g mk a) (Vm.Alike.refl U.vm) q.2.2⟩, hrec, fun U hU hW => ⟨rfl, by rw [hU]; exact hP, va_K.moved hW.alike hK⟩⟩
    rfl (by rw [List.length_map]; exact hn) hl rfl (lv_room hst) hd hcs
  intro T hT XX
  obtain ⟨v, s0, t, T', L', h0, X', hL, e1, e2, ⟨⟨v', w1, hv, ⟨hv', hw⟩, hb'⟩, hz', hk⟩, stp⟩ := hrun T hT XX
  cases hv
  subst hv'
  subst hw
  rw [h0] at hz' hk
  have hS' : va_S A s.heap T'.heap (locs ++ L') := ⟨Nat.le_trans hS.1 (by rw [e1]; exact hz'), fun q h1 h2 => by rw [e1, hk q (Nat.lt_of_lt_of_le h1 hS.1) (fun hh => h2 (hA q hh))]; exact hS.2.1 q h1 h2, fun q hq => by
    rcases List.mem_append.mp hq with h | h
    · exact hS.2.2 q h
    · exact hA _ (hL q h)⟩
  obtain ⟨t2, a1, b1⟩ := kk T'.heap (locs ++ L') (by rw [e1]; exact hb') hS' T' rfl X'
  exact ⟨t2, stp t2 a1, b1⟩
end DD
def f_X_deed (a b : Int32) (w : gW) : Option (Option Int32 × gW) :=
  zb (f_La_hasDeed a w) (fun v1 w1 => if v1 = 0 then some (none, w1) else if b < 0 then some (none, w1) else if b < (3 : Int32) then zb (f_La_trait a b w1) (fun v2 w2 => some (some v2, w2)) else some (none, w1))
def ddRm : Room := { frames := 8, cells := 1, slots := 6, locals := 480 }
abbrev ddQ (D : va_G) (yy : Nat → ClassId) (o : Nat) (out : Option Int32) (w1 : gW) : Array Value → State → Outcome → State → Prop := va_Qi (fun (r : Int32) (u : gW) => out = some r ∧ u = w1) (fun u t => va_P D g_cl (g_ws yy o u) t.heap) (g_A o)
abbrev ddX (D : va_G) (yy : Nat → ClassId) (o : Nat) (out : Option Int32) (w1 : gW) : String → State → State → Prop := vx_X (fun u : gW => out = none ∧ u = w1) (fun E u t => E = ddN ∧ va_P D g_cl (g_ws yy o u) t.heap) (g_A o)
theorem lk_X_139 : Cond.methodLink "OathYesterday" 139 ⟨"OathYesterday$Land", "trait", "(II)I"⟩ ∈ g_TB := g_in6 182 (by decide +kernel) (by decide +kernel)
theorem dd_ck : Cond.classLink "OathYesterday" 132 ddN ∈ g_TB := g_in6 116 (by decide +kernel) (by decide +kernel)
theorem dd_ini : Cond.initialized ddN ∈ g_TB := g_in1 20 (by decide +kernel) (by decide +kernel)
theorem dd_X {l : Launch} (hl : l.stackTraces = false) (a b : Int32) (w : gW) {out : Option Int32} {w1 : gW} (he : f_X_deed a b w = some (out, w1)) (o sa : Nat) (D : va_G) (yy : Nat → ClassId) :
    vx_Met l m_X_deed.1 (Cond.code m_X_deed.1 m_X_deed.2.1 m_X_deed.2.2.1 m_X_deed.2.2.2 :: g_TB) ddRm (va_Pc [.ref (o + 0), .int a, .int b] (ddP D yy o sa w)) (ddQ D yy o out w1) (ddX D yy o out w1) 1 6 (g_A o) := by
  refine vx_ofW (cc := m_X_deed.2.1) (maxL := 3) (ret := some .int) (by decide +kernel) rfl ?_
  intro p e s m args below meth c s₁ B hml hnt hv
  obtain ⟨rfl, hP, hK, hU, hN, hstr, hH⟩ := hv
  have hts0 := atoms_spec (ws := Cond.code m_X_deed.1 m_X_deed.2.1 m_X_deed.2.2.1 m_X_deed.2.2.2 :: g_TB) B.pre
  have hts : ∀ w ∈ g_TB, w.before _ s = true := fun w hw => hts0 w (List.mem_cons_of_mem _ hw)
  have hown : s.vm.findClass "OathYesterday" = some m.cls := findClass_of_methodNamed B.named
  have hx := B.exec
  have hb := B.bytes
  have hr := B.returns
  have hlk := B.notSynchronized
  have hv0 := lv_entry [.ref (o + 0), .int a, .int b] (n := 3) (Nat.le_of_ble_eq_true rfl)
  rw [lg_entry_eq]
  have hS0 : va_S (g_A o) s.heap s.heap [] := va_S.rf
  obtain ⟨C, T, N, ty, hcl, hj, hlk33, hin, -⟩ := fd_X_33
  have hget : ∀ (H : Heap) (locs : List Loc) (ls : Array Slot) (w : gW) (pc : Nat) (Q : State → Prop), va_P D g_cl (g_ws yy o w) H → decode m_X_deed.2.1 pc = .ok (.getfield 33, 3) → W p l e ddRm s m _ below meth c H locs 0 0 Q (F0 m (pc + 3) ls [.ref (o + 19)]) → W p l e ddRm s m _ below meth c H locs 0 0 Q (F0 m pc ls [.ref (o + 0)]) := fun H locs ls w pc Q hP hd k =>
    va_get (ref := (T 3).1) hx hb hts hin hown hK hP 0 (g_obj sh_0) hcl 3 hj (hts _ hlk33) (fun _ h => h) (g_fs_at (f := (0, 19)) rfl) hd k
  have hthrow : ∀ (H : Heap) (locs : List Loc) (ls : Array Slot), out = none → ls.size = 3 → va_P D g_cl (g_ws yy o w1) H → va_S (g_A o) s.heap H locs → W p l e ddRm s m [.ref (o + 0), .int a, .int b].toArray below meth c H locs 0 0 (vx_MQ below (ddQ D yy o out w1) (ddX D yy o out w1) [.ref (o + 0), .int a, .int b].toArray s 1 6 (g_A o)) (F0 m 20 ls []) := by
    intro H locs ls ho hs hP hS
    refine dd_throwS hx hb hl dd_rx0 dd_rx1 dd_rx2 dd_rx5 (own := "OathYesterday") (cls := ddN) (text := ddT) (names := ddB) (ik := 132) (is := 134) (ic := 136) (A := g_A o) hown (by decide +kernel) (by decide +kernel) (hts _ dd_ck) (hts _ dd_ini) hstr (dd_hat hts hH) (fun w hw => List.all_eq_true.mp dd_ot w hw) hU hN hS (hs.trans hml.symm)
      (by decide +kernel) (by decide +kernel) (by decide +kernel) (by decide +kernel) (by decide +kernel) (fun x hx => absurd (hnt x hx) id) (by decide) (by decide) (by decide) (by decide) hlk (fun t ht h1 h2 => ?_) hS.2.2 (by decide) (by decide)
    exact ⟨w1, ⟨ho, rfl⟩, ⟨rfl, hP.kept (fun k q hk => h2 _ (hP k q hk).lt)⟩, Nat.le_trans hS.1 h1, fun q hq hn => by rw [h2 q (Nat.lt_of_lt_of_le hq hS.1)]; exact hS.2.1 q hq hn⟩
  refine lv_aload_n hx hb (k := 0) (i := 0) (x := o + 0) (by decide +kernel) rfl (lv_at hv0 0 rfl) ?_
  refine hget _ _ _ w 1 _ hP (by decide +kernel) ?_
  refine lv_iload_n hx hb (k := 1) (i := 1) (x := a) (by decide +kernel) rfl (lv_at hv0 1 rfl) ?_
  unfold f_X_deed at he
  cases h1 : f_La_hasDeed a w with
  | none => rw [h1] at he; cases he
  | some q1 =>
    obtain ⟨v1, w2⟩ := q1
    rw [h1] at he
    refine dd_call (z := m_La_hasDeed) (bb := 19) (st := []) (enc' := eI) [.int a] hx hb hml hown hts hK (fun _ h => h) (g_La_hasDeed a w) h1 ok_m_La_hasDeed lk_X_129 sh_19 rfl rfl rfl (Nat.le_of_ble_eq_true rfl) ⟨by decide, by decide⟩ (by decide) ⟨by decide, by decide⟩ (by decide +kernel) hP hS0 hv0.1 (fun H locs hP hS => ?_)
    change (if v1 = 0 then some (none, w2) else _) = _ at he
    refine lv_if_eq hx hb (off := 12) (tgt := 20) (by decide +kernel) (by decide) (fun c1 => ?_) (fun c1 => ?_)
    · rw [if_pos c1] at he
      cases he
      exact hthrow H locs _ rfl hv0.1 hP hS
    · rw [if_neg c1] at he
      refine lv_iload_n hx hb (k := 2) (i := 2) (x := b) (by decide +kernel) rfl (lv_at hv0 2 rfl) ?_
      refine lv_if_lt hx hb (off := 8) (tgt := 20) (by decide +kernel) (by decide) (fun c2 => ?_) (fun c2 => ?_)
      · rw [if_pos c2] at he
        cases he
        exact hthrow H locs _ rfl hv0.1 hP hS
      · rw [if_neg c2] at he
        refine lv_iload_n hx hb (k := 2) (i := 2) (x := b) (by decide +kernel) rfl (lv_at hv0 2 rfl) ?_
        refine lv_iconst hx hb (n := 3) (v := (3 : Int32)) (by decide +kernel) rfl ?_
        refine lv_icmp_lt hx hb (off := 13) (tgt := 30) (by decide +kernel) (by decide) (fun c3 => ?_) (fun c3 => ?_)
        · rw [if_pos c3] at he
          refine lv_aload_n hx hb (k := 0) (i := 0) (x := o + 0) (by decide +kernel) rfl (lv_at hv0 0 rfl) ?_
          refine hget _ _ _ w2 31 _ hP (by decide +kernel) ?_
          refine lv_iload_n hx hb (k := 1) (i := 1) (x := a) (by decide +kernel) rfl (lv_at hv0 1 rfl) ?_
          refine lv_iload_n hx hb (k := 2) (i := 2) (x := b) (by decide +kernel) rfl (lv_at hv0 2 rfl) ?_
          cases h2 : f_La_trait a b w2 with
          | none => rw [h2] at he; cases he
          | some q2 =>
            obtain ⟨v2, w3⟩ := q2
            rw [h2] at he
            cases he
            refine dd_call (z := m_La_trait) (bb := 19) (st := []) (enc' := eI) [.int a, .int b] hx hb hml hown hts hK (fun _ h => h) (g_La_trait a b w2) h2 ok_m_La_trait lk_X_139 sh_19 rfl rfl rfl (Nat.le_of_ble_eq_true rfl) ⟨by decide, by decide⟩ (by decide) ⟨by decide, by decide⟩ (by decide +kernel) hP hS hv0.1 (fun H locs hP hS => ?_)
            exact vx_ret (W.widen (Nat.zero_le 1) (Nat.zero_le 6) (W.iret hx hb hr (fun t ht _ => ⟨⟨v2, w3, rfl, ⟨rfl, rfl⟩, by show va_P D g_cl (g_ws yy o w3) t.heap; rw [ht]; exact hP⟩, hS.F ht⟩) hS.2.2 (by decide +kernel) hlk))
        · rw [if_neg c3] at he
          cases he
          exact hthrow H locs _ rfl hv0.1 hP hS
