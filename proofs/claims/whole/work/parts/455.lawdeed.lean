/-! DEED, second part: the law's own deed, that catches; its call -/
def y_Ld : MethodName := ⟨"OathYesterdayLaw", "deed", "(LOathYesterday;II[J)I"⟩
def ddHH : List (Nat × Nat × Nat × Nat) := [(0, 10, 13, 13)]
def ddR : Option Int32 → Int32
  | some _ => 0
  | none => 1
def ddO : Option Int32 → gW → gW
  | some r, w => zsL w 135 (ix (0 : Int32)) r.toInt64
  | none, w => w
def ddRmL : Room := { frames := 12, cells := 1, slots := 6, locals := 600 }
abbrev ddLc : Cond := Cond.codeWith y_Ld method_3_code 5 (some .int) ddHH
theorem dd_lc : ddLc ∈ g_TB := g_in6 110 (by decide +kernel) (by decide +kernel)
theorem dd_xc : Cond.code m_X_deed.1 m_X_deed.2.1 m_X_deed.2.2.1 m_X_deed.2.2.2 ∈ g_TB := g_in6 115 (by decide +kernel) (by decide +kernel)
theorem dd_l7 : Cond.methodLink "OathYesterdayLaw" 7 m_X_deed.1 ∈ g_TB := g_in6 112 (by decide +kernel) (by decide +kernel)
theorem dd_in : Cond.instanceMethod m_X_deed.1 ∈ g_TB := g_in6 113 (by decide +kernel) (by decide +kernel)
theorem dd_se : Cond.selects "OathYesterday" m_X_deed.1 m_X_deed.1 ∈ g_TB := g_in6 114 (by decide +kernel) (by decide +kernel)
theorem dd_iX : Cond.initialized "OathYesterday" ∈ g_TB := g_in1 1 (by decide +kernel) (by decide +kernel)
theorem dd_iL : Cond.initialized "OathYesterdayLaw" ∈ g_TB := g_in1 0 (by decide +kernel) (by decide +kernel)
theorem dd_c13 : Cond.classLink "OathYesterdayLaw" 13 ddN ∈ g_TB := g_in6 111 (by decide +kernel) (by decide +kernel)
theorem dd_l38 : Cond.methodLink "OathYesterdayLaw" 38 y_Ld ∈ g_TB := g_in6 108 (by decide +kernel) (by decide +kernel)
theorem dd_st : Cond.static y_Ld ∈ g_TB := g_in6 109 (by decide +kernel) (by decide +kernel)
theorem dd_goodL : GoodIn g_TB (ddLc :: g_TB) := fun w hw => (List.mem_cons.mp hw).elim (fun e => by rw [e]; exact g_good _ dd_lc) (g_good w)
theorem dd_L {l : Launch} (hl : l.stackTraces = false) (a b : Int32) (w : gW) {out : Option Int32} {w1 : gW} (he : f_X_deed a b w = some (out, w1)) (o sa : Nat) (D : va_G) (yy : Nat → ClassId) :
    vx_Met l y_Ld (ddLc :: g_TB) ddRmL (va_Pc [.ref (o + 0), .int a, .int b, .ref (o + 135)] (ddP D yy o sa w)) (va_Qi (fun (r : Int32) (u : gW) => r = ddR out ∧ u = ddO out w1) (fun u t => va_P D g_cl (g_ws yy o u) t.heap) (g_A o)) (fun _ _ _ => False) 1 6 (g_A o) := by
  refine vx_ofWH (cc := method_3_code) (maxL := 5) (ret := some .int) (hh := ddHH) (by decide +kernel) rfl ?_
  intro p e s m args below meth c s₁ B hml hv
  obtain ⟨rfl, hP, hK, hE⟩ := hv
  have hts0 := atoms_spec (ws := ddLc :: g_TB) B.pre
  have hts : ∀ w ∈ g_TB, w.before _ s = true := fun w hw => hts0 w (List.mem_cons_of_mem _ hw)
  have htab : c.exceptionTable.toList = tableOf ddHH := vx_table (x := y_Ld) B (hts0 _ List.mem_cons_self)
  have hown : s.vm.findClass "OathYesterdayLaw" = some m.cls := findClass_of_methodNamed B.named
  have hx := B.exec
  have hb := B.bytes
  have hr := B.returns
  have hlk := B.notSynchronized
  have hv0 := lv_entry [.ref (o + 0), .int a, .int b, .ref (o + 135)] (n := 5) (Nat.le_of_ble_eq_true rfl)
  rw [lg_entry_eq]
  have hS0 : va_S (g_A o) s.heap s.heap [] := va_S.rf
  refine lv_aload_n hx hb (k := 3) (i := 3) (x := o + 135) (by decide +kernel) rfl (lv_at hv0 3 rfl) ?_
  refine lv_iconst hx hb (n := 0) (v := (0 : Int32)) (by decide +kernel) rfl ?_
  refine lv_aload_n hx hb (k := 0) (i := 0) (x := o + 0) (by decide +kernel) rfl (lv_at hv0 0 rfl) ?_
  refine lv_iload_n hx hb (k := 1) (i := 1) (x := a) (by decide +kernel) rfl (lv_at hv0 1 rfl) ?_
  refine lv_iload_n hx hb (k := 2) (i := 2) (x := b) (by decide +kernel) rfl (lv_at hv0 2 rfl) ?_
  have hrec := va_recv hK hP (q := ("OathYesterday", g_T0, 12)) rfl (g_obj (yy := yy) (o := o) (w := w) sh_0)
  have hrun := vx_runV (p := p) (l := l) (e := e) (R := ddRmL) (s := s) (m := m) (args := [.ref (o + 0), .int a, .int b, .ref (o + 135)].toArray) (below := below) (meth := meth) (c := c) (H := s.heap) (locs := []) (cells := 0) (slots := 0) (cc := method_3_code) (nL := 5) (index := 7) (g := F0 m 5 ((lg_sl [.ref (o + 0), .int a, .int b, .ref (o + 135)] ++ List.replicate (5 - (lg_sl [.ref (o + 0), .int a, .int b, .ref (o + 135)]).length) Slot.unset).toArray) [.int b, .int a, .ref (o + 0), .int 0, .ref (o + 135)]) (As := [.int a, .int b]) (rest := [.int 0, .ref (o + 135)]) (b := o + 0) (C := "OathYesterday") (n := 2) (Ts := g_TB) (own := "OathYesterdayLaw") ⟨hx, hb, hml, hown, hts⟩ (dd_X hl a b w he o sa D yy)
    ⟨callB_of 2 hts (g_goodIn dd_xc) rfl rfl rfl (hts _ dd_iX) (hts _ dd_l7) ⟨by decide, by decide, by decide +kernel⟩ ⟨by decide, by decide⟩, hts _ dd_in, hts _ dd_se⟩
    ⟨ddP.blind D yy o sa w _, hrec, fun U hU hW => ⟨rfl, by rw [hU]; exact hP, va_K.moved hW.alike hK, ddE.later (A := g_A o) (fun _ h => h) hE.1 hE.2.1 hE.2.2.1 hE.2.2.2 hS0 hU hW⟩⟩
    rfl rfl hv0.1 rfl (lv_room (Nat.le_of_ble_eq_true rfl)) (show decode method_3_code 5 = .ok (.invokevirtual 7, 3) by decide +kernel) ⟨by decide, by decide⟩
  refine vx_calli (A0 := g_A o) (H0 := s.heap) hrun hS0 (fun _ _ h => h) (fun _ h => h) (fun _ _ h => h) (fun E ce q9 u t H1 locs1 ht hal hp hb1 hsz hfr hS1 hce hcv hcl => ?_) (fun r u t H1 locs1 ht hal hp hb1 hsz hfr hS1 => ?_)
  · obtain ⟨ho, hu⟩ := hp
    obtain ⟨hEq, hP1⟩ := hb1
    subst hEq
    subst hu
    subst ho
    refine vx_catch (own := "OathYesterdayLaw") (name := ddN) (E := ddN) hown [] ⟨0, 10, 13, 13⟩ [] htab (fun z hz => nomatch hz) (by decide) (by decide) (hts _ dd_c13) (va_tabs rfl rfl (hE.2.2.2 (.castable ddN ddN) List.mem_cons_self)) hce hcv hcl ?_
    refine lv_astore hx hb (i := 4) (nL := 5) (by decide +kernel) hv0 (by decide) rfl (fun ls' hl' => ?_)
    refine lv_iconst hx hb (n := 1) (v := (1 : Int32)) (by decide +kernel) rfl ?_
    exact vx_ret (W.iret hx hb hr (fun t2 ht2 _ => ⟨⟨1, u, rfl, ⟨rfl, rfl⟩, by show va_P D g_cl (g_ws yy o u) t2.heap; rw [ht2, ← ht]; exact hP1⟩, hS1.F ht2⟩) hS1.2.2 (by decide +kernel) hlk)
  · obtain ⟨ho, hu⟩ := hp
    subst hu
    subst ho
    rw [ht] at hb1
    refine lv_i2l hx hb (v := r.toInt64) (by decide +kernel) rfl ?_
    have hin : inb (0 : Int32) (g_len 2 135) := by decide +kernel
    obtain ⟨-, ha, hv⟩ := g_arrL (yy := yy) (o := o) (w := u) hin rfl
    refine va_last hx hb hK hb1 (g_D yy o u) hS1 135 1 ha rfl hv (by decide +kernel) (fun H2 locs2 hP2 _ hS2 => ?_)
    rw [g_setL hin rfl] at hP2
    refine lv_goto hx hb (off := 7) (tgt := 17) (by decide +kernel) (by decide) ?_
    refine lv_iconst hx hb (n := 0) (v := (0 : Int32)) (by decide +kernel) rfl ?_
    exact vx_ret (W.iret hx hb hr (fun t2 ht2 _ => ⟨⟨0, ddO (some r) u, rfl, ⟨rfl, rfl⟩, by show va_P D g_cl (g_ws yy o (zsL u 135 (ix (0 : Int32)) r.toInt64)) t2.heap; rw [ht2]; exact hP2⟩, hS2.F ht2⟩) hS2.2.2 (by decide +kernel) hlk)
/-- what the law's start has of it -/
def ddS (s : State) (sa : Nat) : Prop := vx_Zq Bundle.tN "UNASSIGNED_STACK" Bundle.steD (fun q => s.heap.size ≤ q) s s.heap ∧ vx_Zq Bundle.tN "SUPPRESSED_SENTINEL" Bundle.listD (fun q => s.heap.size ≤ q) s s.heap ∧ vk_R "OathYesterday" 134 ddT sa s ∧ ddH s
theorem Gl.deed {p : Program} {l : Launch} {e : Env} {s : State} {m : MethodId} {below : List Frame} {meth : Method} {c : Code} {b o LL : Nat} {xs : Nat → Int32} {D : va_G} {yy : Nat → ClassId} {cells slots pc pc' : Nat} {Lc : List (Nat × Value)} {w w1 : gW} {out : Option Int32} {x y : Int32} {sa : Nat} (X : gC p s m meth c b LL xs o D yy) (hl : l.stackTraces = false) (hs : ddS s sa) (he : f_X_deed x y w = some (out, w1)) (hcs : cells + 1 ≤ 601024 ∧ slots + 64 ≤ 7293034) (hd : decode code pc = .ok (.invokestatic 38, 3)) (hp : pc + 3 = pc') (kk : Gl p l e s m below meth c b o D yy (cells + 1) (slots + 64) pc' Lc [.int (ddR out)] (ddO out w1)) : Gl p l e s m below meth c b o D yy cells slots pc Lc [.ref (o + 135), .int y, .int x, .ref (o + 0)] w := by
  subst hp
  intro H locs ls hP hS hlv
  obtain ⟨⟨hx1, hb1, hr1, hml, hown, hts0, hXs, hbl, hlocks, hgv⟩, ho, hK⟩ := X
  have hts : ∀ w ∈ g_TB, w.before #[Value.ref b] s = true := fun w h => hts0 w (gl_tbl w h)
  have hA : ∀ q, g_A o q → s.heap.size ≤ q := fun q h => Nat.le_trans ho h.1
  have hrun := vx_runSX (p := p) (l := l) (e := e) (R := room_1) (s := s) (m := m) (args := #[Value.ref b]) (below := below) (meth := meth) (c := c) (H := H) (locs := locs) (cells := cells) (slots := slots) (hh := ddHH) (bytes := method_3_code) (maxL := 5) (ret := some .int) (cc := code) (nL := 7) (index := 38) (g := F0 m pc ls [.ref (o + 135), .int y, .int x, .ref (o + 0)]) (As := [.ref (o + 0), .int x, .int y, .ref (o + 135)]) (rest := []) (n := 4) (Ts := g_TB) (own := R_law) ⟨hx1, hb1, hml, hown, hts⟩ (dd_L hl x y w he o sa D yy)
    ⟨⟨rfl, rfl, by decide, by decide, pay_in hts dd_goodL, List.mem_cons_self⟩, hts _ dd_lc, hts _ dd_iL, ⟨by decide, by decide⟩, fun sig h => by rw [show parseMethodDescriptor y_Ld.desc = some ⟨[.object "OathYesterday", .int, .int, .array .long], some .int⟩ by decide +kernel] at h; cases h; rfl, hts _ dd_l38, hts _ dd_st⟩
    ⟨ddP.blind D yy o sa w _, fun U hU hW => ⟨rfl, by rw [hU]; exact hP, va_K.moved hW.alike hK, ddE.later hA hs.1 hs.2.1 hs.2.2.1 hs.2.2.2 hS hU hW⟩⟩
    rfl rfl hlv.1 rfl (lv_room (by decide)) hd ⟨by show cells + 1 ≤ 601024; exact hcs.1, by show slots + 6 ≤ 7293034; omega⟩
  intro T hT XX
  rcases hrun T hT XX with ⟨v, s0, t, T', L', h0, X', hL, e1, e2, ⟨⟨v', w2, hv, ⟨hv', hw⟩, hb'⟩, hz', hk⟩, stp⟩ | ⟨q, s0, t, T', L', E, ce, h0, X', hL, e1, e2, hf, -⟩
  · cases hv
    subst hv'
    subst hw
    rw [h0] at hz' hk
    have hS' : va_S (fun q => s.heap.size ≤ q) s.heap T'.heap (locs ++ L') := ⟨Nat.le_trans hS.1 (by rw [e1]; exact hz'), fun q h1 h2 => by rw [e1, hk q (Nat.lt_of_lt_of_le h1 hS.1) (fun hh => h2 (hA q hh))]; exact hS.2.1 q h1 h2, fun q hq => by
      rcases List.mem_append.mp hq with h | h
      · exact hS.2.2 q h
      · exact hA _ (hL q h)⟩
    obtain ⟨t2, a1, b1⟩ := W.widen (cells := cells + 1) (slots := slots + 6) (Nat.le_refl _) (by omega) (kk T'.heap (locs ++ L') ls (by rw [e1]; exact hb') hS' hlv) T' rfl X'
    exact ⟨t2, stp t2 a1, b1⟩
  · exact absurd hf id
