/-! THE LAW'S ENTRY: the two systems made, up to the loop. Printed by program (wip/whole/mk_start.py) -/
theorem h_end (yy : Nat → ClassId) (o : Nat) (w : gW) : h_ws yy o w g_shl = g_ws yy o w := by
  have hn : g_shl.all (fun s => s.2.2.all (fun f => f.1 != 4)) = true := by decide +kernel
  apply List.ext_getElem?
  intro k
  by_cases hk : k < gN
  · have hk2 : k < g_shl.length := by rw [g_shl_length]; exact hk
    have e0 : g_shl[k]? = some (g_shl[k]) := List.getElem?_eq_getElem hk2
    have e1 : g_sh k = g_shl[k] := by unfold g_sh; rw [List.getD_eq_getElem?_getD, e0]; rfl
    rw [h_at e0, g_ws_at hk]
    congr 2
    have hs := List.all_eq_true.mp hn _ (List.getElem_mem hk2)
    unfold h_cell g_cell
    rw [e1]
    by_cases h0 : (g_shl[k]).1 = 0
    · rw [if_pos h0, if_pos h0]
      congr 2
      unfold g_fs
      apply List.ext_getElem?
      intro j
      rw [List.getElem?_mapIdx, List.getElem?_mapIdx]
      cases hj : (g_shl[k]).2.2[j]? with
      | none => rfl
      | some f =>
        have := List.all_eq_true.mp hs _ (List.mem_of_getElem? hj)
        simp at this
        show some (h_val o w k j f) = some (g_val o w k j f)
        unfold h_val
        rw [if_neg this]
    · rw [if_neg h0, if_neg h0]
  · rw [List.getElem?_eq_none (by unfold h_ws; rw [List.length_mapIdx, g_shl_length]; omega), List.getElem?_eq_none (by unfold g_ws; rw [List.length_map, List.length_range]; omega)]
theorem hl_i : Cond.arrayOver (.array .int) ∈ lw_tbl := List.mem_append_right _ (by unfold tables_1; exact List.mem_append_left _ (List.mem_of_getElem? (i := 72) (by decide +kernel)))
theorem hl_l : Cond.arrayOver (.array .long) ∈ lw_tbl := List.mem_append_right _ (by unfold tables_1; exact List.mem_append_left _ (List.mem_of_getElem? (i := 96) (by decide +kernel)))
theorem h_K {args : Array Value} {s : State} (hts : ∀ w ∈ lw_tbl, w.before args s = true) : ∃ (D : va_G) (yy : Nat → ClassId), va_K D g_cl (g_tys yy) s := by
  have htg : ∀ w ∈ g_TB, w.before args s = true := fun w h => hts w (gl_tbl w h)
  have hc : ∀ k : Nat, ∃ (cC : ClassId) (iS : Nat → Nat), ∀ q : vw_C, g_cl[k]? = some q → u_Kn s q.1 q.2.1 q.2.2 cC iS := by
    intro k
    match k with
    | 0 => exact (u_known (T := g_T0) (N := 12) htg g_ws0 (htg _ (show Cond.instantiable "OathYesterday" 12 ∈ g_TB from g_in1 25 (by decide +kernel) (by decide +kernel)))).imp (fun cC h => h.imp (fun iS h2 q hq => by cases hq; exact h2))
    | 1 => exact (u_known (T := g_T1) (N := 3) htg g_ws1 (htg _ (show Cond.instantiable "OathYesterday$Tape" 3 ∈ g_TB from g_in1 33 (by decide +kernel) (by decide +kernel)))).imp (fun cC h => h.imp (fun iS h2 q hq => by cases hq; exact h2))
    | 2 => exact (u_known (T := g_T2) (N := 3) htg g_ws2 (htg _ (show Cond.instantiable "OathYesterday$LandReader" 3 ∈ g_TB from g_in1 50 (by decide +kernel) (by decide +kernel)))).imp (fun cC h => h.imp (fun iS h2 q hq => by cases hq; exact h2))
    | 3 => exact (u_known (T := g_T3) (N := 5) htg g_ws3 (htg _ (show Cond.instantiable "OathYesterday$Oaths" 5 ∈ g_TB from g_in1 66 (by decide +kernel) (by decide +kernel)))).imp (fun cC h => h.imp (fun iS h2 q hq => by cases hq; exact h2))
    | 4 => exact (u_known (T := g_T4) (N := 7) htg g_ws4 (htg _ (show Cond.instantiable "OathYesterday$Land" 7 ∈ g_TB from g_in1 90 (by decide +kernel) (by decide +kernel)))).imp (fun cC h => h.imp (fun iS h2 q hq => by cases hq; exact h2))
    | 5 => exact (u_known (T := g_T5) (N := 8) htg g_ws5 (htg _ (show Cond.instantiable "OathYesterday$Annals" 8 ∈ g_TB from g_in1 121 (by decide +kernel) (by decide +kernel)))).imp (fun cC h => h.imp (fun iS h2 q hq => by cases hq; exact h2))
    | 6 => exact (u_known (T := g_T6) (N := 7) htg g_ws6 (htg _ (show Cond.instantiable "OathYesterday$Court" 7 ∈ g_TB from g_in1 156 (by decide +kernel) (by decide +kernel)))).imp (fun cC h => h.imp (fun iS h2 q hq => by cases hq; exact h2))
    | 7 => exact (u_known (T := g_T7) (N := 5) htg g_ws7 (htg _ (show Cond.instantiable "OathYesterday$Counsel" 5 ∈ g_TB from g_in1 185 (by decide +kernel) (by decide +kernel)))).imp (fun cC h => h.imp (fun iS h2 q hq => by cases hq; exact h2))
    | 8 => exact (u_known (T := g_T8) (N := 8) htg g_ws8 (htg _ (show Cond.instantiable "OathYesterday$Ledger" 8 ∈ g_TB from g_in1 208 (by decide +kernel) (by decide +kernel)))).imp (fun cC h => h.imp (fun iS h2 q hq => by cases hq; exact h2))
    | 9 => exact (u_known (T := g_T9) (N := 7) htg g_ws9 (htg _ (show Cond.instantiable "OathYesterday$Chances" 7 ∈ g_TB from g_in1 239 (by decide +kernel) (by decide +kernel)))).imp (fun cC h => h.imp (fun iS h2 q hq => by cases hq; exact h2))
    | 10 => exact (u_known (T := g_T10) (N := 4) htg g_ws10 (htg _ (show Cond.instantiable "OathYesterday$Game" 4 ∈ g_TB from g_in2 27 (by decide +kernel) (by decide +kernel)))).imp (fun cC h => h.imp (fun iS h2 q hq => by cases hq; exact h2))
    | 11 => exact (u_known (T := g_T11) (N := 59) htg g_ws11 (htg _ (show Cond.instantiable "OathYesterdayModel" 59 ∈ g_TB from g_in6 184 (by decide +kernel) (by decide +kernel)))).imp (fun cC h => h.imp (fun iS h2 q hq => by cases hq; exact h2))
    | k + 12 => exact ⟨0, fun _ => 0, fun q hq => by simp [g_cl] at hq⟩
  have ha : ∀ t : FieldType, Cond.arrayClass t ∈ g_TB → (∀ C, t ≠ .object C) → ∃ cA : ClassId, ArrOfT s cA t ∧ va_RA s cA t := by
    intro t ht hno
    obtain ⟨cA, k, comp, h1, h2, h3⟩ := Cond.arrayClass_spec (show (Cond.arrayClass t).holds args s none s [] = true from htg _ ht)
    refine ⟨cA, fun n z => ⟨fun k h => (by cases h), k, h2, comp, h3⟩, ?_⟩
    cases t with
    | object C => exact absurd rfl (hno C)
    | _ => exact h1
  have hb : ∀ t : FieldType, Cond.arrayOver (.array t) ∈ lw_tbl → ∃ cA : ClassId, ArrOfT s cA (.array t) ∧ va_RA s cA (.array t) := by
    intro t ht
    obtain ⟨comp, cA, k, h1, h2, h3, h4⟩ := Cond.arrayOver_specA (show (Cond.arrayOver (.array t)).holds args s none s [] = true from hts _ ht)
    exact ⟨cA, fun n z => ⟨fun k h => (by cases h), k, h2, comp, h3⟩, h4⟩
  obtain ⟨y1, a1⟩ := ha .int ac_int (fun _ z => by cases z)
  obtain ⟨y2, a2⟩ := ha .long ac_long (fun _ z => by cases z)
  obtain ⟨y3, a3⟩ := ha .byte ac_byte (fun _ z => by cases z)
  obtain ⟨y4, a4⟩ := ha .boolean ac_boolean (fun _ z => by cases z)
  obtain ⟨y5, a5⟩ := hb .int hl_i
  obtain ⟨y6, a6⟩ := hb .long hl_l
  refine ⟨(fun k => (hc k).choose, fun k => (hc k).choose_spec.choose), fun k => if k = 1 then y1 else if k = 2 then y2 else if k = 3 then y3 else if k = 4 then y4 else if k = 5 then y5 else y6, fun k q hq => (hc k).choose_spec.choose_spec q hq, fun k q hq => ?_⟩
  match k, hq with
  | 0, hq => cases hq; exact a1
  | 1, hq => cases hq; exact a2
  | 2, hq => cases hq; exact a3
  | 3, hq => cases hq; exact a4
  | 4, hq => cases hq; exact a5
  | 5, hq => cases hq; exact a6
  | k + 6, hq => simp [g_tys] at hq
def Kl (p : Program) (l : Launch) (e : Env) (s : State) (m : MethodId) (below : List Frame) (meth : Method) (c : Code) (b o : Nat) (D : va_G) (yy : Nat → ClassId) (cells slots pc : Nat) (Lc : List (Nat × Value)) (st : List Value) (S : List gSh) (w : gW) : Prop :=
  ∀ (H : Heap) (locs : List Loc) (ls : Array Slot), va_P D g_cl (h_ws yy o w S) H → H.size = o + S.length → va_S (fun q => s.heap.size ≤ q) s.heap H locs → lv_has ls 7 Lc → W p l e room_1 s m #[Value.ref b] below meth c H locs cells slots (lw_Z below #[Value.ref b] s) (F0 m pc ls st)
theorem Kl.newO {p : Program} {l : Launch} {e : Env} {s : State} {m : MethodId} {below : List Frame} {meth : Method} {c : Code} {b o LL : Nat} {xs : Nat → Int32} {D : va_G} {yy : Nat → ClassId} {cells slots pc pc' nn N ci idx : Nat} {Lc : List (Nat × Value)} {st : List Value} {S S' : List gSh} {w : gW} {C : String} {T : u_T} {ty : Nat → FieldType} {fs : List (Nat × Nat)} (X : gC p s m meth c b LL xs o D yy) (hlen : S.length = nn) (hcl : g_cl[ci]? = some (C, T, N)) (hin : ∀ w ∈ u_ws C T N, w ∈ g_TB) (hty : ∀ k, k < N → parseFieldDescriptor (T k).2.2.1 = some (ty k)) (hok : ∀ k, k < N → h_okt (ty k) = true) (hfs : fs = (List.range N).map (fun j => h_df (ty j))) (hck : Cond.classLink R_law idx C ∈ g_TB) (hinst : Cond.instantiable C N ∈ g_TB) (hini : Cond.initialized C ∈ g_TB) (hd : decode code pc = .ok (.new idx, 3)) (hp : pc + 3 = pc') (h1 : cells + 1 ≤ 601024) (h2 : slots + N ≤ 7293034) (hz1 : w.1 nn = fun _ => 0) (hz2 : w.2 nn = fun _ => 0) (hS' : S ++ [(0, ci, fs)] = S') (kk : Kl p l e s m below meth c b o D yy (cells + 1) (slots + N) pc' Lc (.ref (o + nn) :: st) S' w) : Kl p l e s m below meth c b o D yy cells slots pc Lc st S w := by
  subst hp
  subst hS'
  subst hlen
  intro H locs ls hP hz hS hl
  obtain ⟨⟨hx1, hb1, hr1, hml, hown, hts0, hXs, hbl, hlocks, hgv⟩, ho, hK⟩ := X
  have hts : ∀ w ∈ g_TB, w.before #[Value.ref b] s = true := fun w h => hts0 w (gl_tbl w h)
  have hKn := hK.1 ci _ hcl
  refine W.newcK hx1 hb1 hown (hts _ hck) (hts _ hinst) (hts _ hini) rfl hd h1 h2 hKn.2.1 rfl fun H1 kC hkC e1 z1 o1 => ?_
  have hb := u_born ty hts hin hKn hkC e1 hty
  have hP1 : va_P D g_cl (h_ws yy o w (S ++ [(0, ci, fs)])) H1 := by
    rw [h_push]
    refine (h_old hP o1).app (h_one ?_)
    rw [← hz]
    refine ⟨_, hcl, hb.to (fun j hj => ?_)⟩
    subst hfs
    show defaultValue (ty j) = ((List.mapIdx _ _ : List Value)).getD j .null
    have hok2 := hok j hj
    rw [List.getD_eq_getElem?_getD, List.getElem?_mapIdx, List.getElem?_map, List.getElem?_range hj]
    show defaultValue (ty j) = h_val o w S.length j (h_df (ty j))
    cases ht : ty j <;> rw [ht] at hok2 <;> first | (cases hok2; done) | (unfold h_val g_val h_df; simp [hz1, hz2, defaultValue]; done) | (unfold h_val h_df; rfl)
  have := kk H1 locs ls hP1 (by rw [z1, List.length_append]; simp; omega) (h_keep hS (by omega) o1) hl
  rw [hz]
  exact this
theorem Kl.ctor {p : Program} {l : Launch} {e : Env} {s : State} {m : MethodId} {below : List Frame} {meth : Method} {c : Code} {b o LL : Nat} {xs : Nat → Int32} {D : va_G} {yy : Nat → ClassId} {cells slots pc pc' mz sz dz idx bb : Nat} {Lc : List (Nat × Value)} {st : List Value} {S S1 : List gSh} {w w1 : gW} {z : gM} (X : gC p s m meth c b LL xs o D yy) (hoe : o = s.heap.size) (hz0 : Hz l z dz mz sz 0 0 0 (lv_args 0 [.ref bb]) [] S w (fun S' w' => S' = S1 ∧ w' = w1)) (ok : h_OkI z 0) (hlk : Cond.methodLink R_law idx z.1 ∈ g_TB) (hnL : (lg_sl [.ref bb]).length ≤ z.2.2.1) (hdz : dz ≤ 100) (hst : (st.map fun v => v.category).sum ≤ 8) (hm1 : cells + mz ≤ 601024) (hm2 : slots + sz ≤ 7293034) (hd : decode code pc = .ok (.invokespecial idx, 3)) (hp : pc + 3 = pc') (kk : Kl p l e s m below meth c b o D yy (cells + mz) (slots + sz) pc' Lc st S1 w1) : Kl p l e s m below meth c b o D yy cells slots pc Lc (.ref (o + bb) :: st) S w := by
  subst hp
  intro H locs ls hP hz hS hl
  obtain ⟨⟨hx1, hb1, hr1, hml, hown, hts0, hXs, hbl, hlocks, hgv⟩, ho, hK⟩ := X
  have hts : ∀ w ∈ g_TB, w.before #[Value.ref b] s = true := fun w h => hts0 w (gl_tbl w h)
  have hao : hAO s := ⟨hts0 _ hl_i, hts0 _ hl_l⟩
  obtain ⟨⟨zc, zn, zd⟩, zcode, znl, zret⟩ := z
  obtain ⟨o1, o2, o3, o4, o5, o6, o7, o8⟩ := ok
  simp only at o3
  subst o3
  have hM := Hz.met o7 hnL hz0 o D yy
  have hrun := va_runI (p := p) (l := l) (e := e) (R := room_1) (s := s) (m := m) (args := #[Value.ref b]) (below := below) (meth := meth) (c := c) (H := H) (locs := locs) (cells := cells) (slots := slots) (cc := code) (nL := 7) (index := idx) (g := F0 m pc ls (.ref (o + bb) :: st)) (As := []) (rest := st) (b := o + bb) (n := 0) (Ts := g_TB) (own := R_law) ⟨hx1, hb1, hml, hown, hts⟩ hM
    ⟨callB_of 0 hts (g_goodIn o5) rfl rfl rfl (hts _ o4) (hts _ hlk) o6 ⟨by show dz + 1 ≤ 2048; omega, by show 8 + (znl + 11) + 60 * dz ≤ 84000; simp only at o8; omega⟩, o2, hts _ o1⟩
    ⟨fun a U g mk q => ⟨q.1, q.2.1, q.2.2.1, q.2.2.2.1, va_K.moved (u := U) (U := U.calling g mk a) (Vm.Alike.refl U.vm) q.2.2.2.2.1, hAO.moved (u := U) (U := U.calling g mk a) (Vm.Alike.refl U.vm) q.2.2.2.2.2⟩, fun U hU hW => ⟨rfl, by rw [hU]; omega, by rw [hU]; exact hP, by rw [hU]; exact hz, va_K.moved hW.alike hK, hAO.moved hW.alike hao⟩⟩
    rfl rfl hl.1 rfl (lv_room hst) hd ⟨hm1, hm2⟩
  intro T hT XX
  obtain ⟨v, s0, t, T', L', h0, X', hL, e1, e2, ⟨⟨S', w', hv, ⟨hv', hw⟩, hb', hsz⟩, hz', hk⟩, stp⟩ := hrun T hT XX
  cases hv
  subst hv'
  subst hw
  rw [h0] at hz' hk
  have hS' : va_S (fun q => s.heap.size ≤ q) s.heap T'.heap (locs ++ L') := ⟨Nat.le_trans hS.1 (by rw [e1]; exact hz'), fun q h1 h2 => by rw [e1, hk q (Nat.lt_of_lt_of_le h1 hS.1) (fun hh => h2 (Nat.le_trans ho hh))]; exact hS.2.1 q h1 h2, fun q hq => by
    rcases List.mem_append.mp hq with h | h
    · exact hS.2.2 q h
    · exact Nat.le_trans ho (hL q h)⟩
  obtain ⟨t2, a1, b1⟩ := kk T'.heap (locs ++ L') ls (by rw [e1]; exact hb') (by rw [e1]; exact hsz) hS' hl T' rfl X'
  exact ⟨t2, stp t2 a1, b1⟩
theorem law_enter {p : Program} {l : Launch} {e : Env} {s : State} {m : MethodId} {below : List Frame} {meth : Method} {c : Code} {b LL : Nat} {xs : Nat → Int32} (C0 : lw_At p s m meth c b LL xs) (kk : ∀ (D : va_G) (yy : Nat → ClassId), gC p s m meth c b LL xs s.heap.size D yy → Gl p l e s m below meth c b s.heap.size D yy 1000 100000 23 [(4, .int 0), (0, .ref b), (1, .ref (s.heap.size + 0)), (2, .ref (s.heap.size + 107)), (3, .ref (s.heap.size + 135))] [] hw4) : W p l e room_1 s m #[Value.ref b] below meth c s.heap [] 0 0 (lw_Z below #[Value.ref b] s) (entryFrame m ([Value.ref b] : List Value).toArray 7) := by
  obtain ⟨D, yy, hK⟩ := h_K C0.2.2.2.2.2.1
  have X : gC p s m meth c b LL xs s.heap.size D yy := ⟨C0, Nat.le_refl _, hK⟩
  have hl := lv_entry ([.ref b]) (n := 7) (Nat.le_of_ble_eq_true rfl)
  rw [lg_entry_eq]
  have key : Kl p l e s m below meth c b s.heap.size D yy 0 0 0 [(0, .ref b)] [] [] hw0 := by
    refine Kl.newO (nn := 0) (idx := 8) (pc' := 3) (ty := g_ty0) (fs := [(4, 0), (4, 0), (4, 0), (4, 0), (4, 0), (4, 0), (4, 0), (4, 0), (4, 0), (4, 0), (4, 0), (1, 0)]) (S' := hs0) X rfl rfl g_ws0 g_tyok0 (by decide +kernel) (by decide +kernel) (g_in1 24 (by decide +kernel) (by decide +kernel)) (g_in1 25 (by decide +kernel) (by decide +kernel)) (g_in1 1 (by decide +kernel) (by decide +kernel)) (by decide +kernel) rfl (by omega) (by omega) rfl rfl rfl ?_
    intro H locs ls hP hz hS hl
    refine lv_dup C0.1 C0.2.1 (by decide +kernel) rfl ?_
    revert H locs ls
    show Kl p l e s m below meth c b s.heap.size D yy (0 + 1) (0 + 12) 4 [(0, .ref b)] [.ref (s.heap.size + 0), .ref (s.heap.size + 0)] hs0 hw0
    refine Kl.ctor (z := m_X_init) (idx := 15) (pc' := 7) X rfl hc_X ok_m_X_init (g_in1 26 (by decide +kernel) (by decide +kernel)) (Nat.le_of_ble_eq_true rfl) (by omega) (Nat.le_of_ble_eq_true rfl) (by omega) (by omega) (by decide +kernel) rfl ?_
    intro H locs ls hP hz hS hl
    refine lv_astore_n (k := (1 : Fin 4)) (i := 1) (lv' := [(1, .ref (s.heap.size + 0)), (0, .ref b)]) C0.1 C0.2.1 (by decide +kernel) rfl hl (by decide) rfl (fun ls hl => ?_)
    revert H locs ls
    intro H locs hP hz hS ls hl
    refine (show Kl p l e s m below meth c b s.heap.size D yy (0 + 1 + 106) (0 + 12 + 16797) 8 [(1, .ref (s.heap.size + 0)), (0, .ref b)] [] hs104 hw3 from ?_) H locs ls hP hz hS hl
    refine Kl.newO (nn := 107) (idx := 16) (pc' := 11) (ty := g_ty11) (fs := [(1, 0), (4, 0), (4, 0), (4, 0), (4, 0), (1, 0), (1, 0), (1, 0), (1, 0), (1, 0), (1, 0), (1, 0), (4, 0), (1, 0), (1, 0), (4, 0), (4, 0), (4, 0), (4, 0), (4, 0), (4, 0), (1, 0), (1, 0), (1, 0), (1, 0), (4, 0), (1, 0), (4, 0), (4, 0), (4, 0), (4, 0), (4, 0), (4, 0), (4, 0), (4, 0), (1, 0), (1, 0), (1, 0), (4, 0), (1, 0), (1, 0), (1, 0), (1, 0), (1, 0), (1, 0), (4, 0), (1, 0), (1, 0), (1, 0), (4, 0), (4, 0), (4, 0), (4, 0), (4, 0), (4, 0), (1, 0), (1, 0), (1, 0), (1, 0)]) (S' := hs105) X (by decide +kernel) rfl g_ws11 g_tyok11 (by decide +kernel) (by decide +kernel) (g_in6 183 (by decide +kernel) (by decide +kernel)) (g_in6 184 (by decide +kernel) (by decide +kernel)) (g_in1 13 (by decide +kernel) (by decide +kernel)) (by decide +kernel) rfl (by omega) (by omega) rfl rfl rfl ?_
    intro H locs ls hP hz hS hl
    refine lv_dup C0.1 C0.2.1 (by decide +kernel) rfl ?_
    refine (show Kl p l e s m below meth c b s.heap.size D yy (0 + 1 + 106 + 1) (0 + 12 + 16797 + 59) 12 [(1, .ref (s.heap.size + 0)), (0, .ref b)] [.ref (s.heap.size + 107), .ref (s.heap.size + 107)] hs105 hw3 from ?_) H locs ls hP hz hS hl
    refine Kl.ctor (z := m_M_init) (idx := 18) (pc' := 15) X rfl hc_M ok_m_M_init (g_in6 185 (by decide +kernel) (by decide +kernel)) (Nat.le_of_ble_eq_true rfl) (by omega) (Nat.le_of_ble_eq_true rfl) (by omega) (by omega) (by decide +kernel) rfl ?_
    intro H locs ls hP hz hS hl
    refine lv_astore_n (k := (2 : Fin 4)) (i := 2) (lv' := [(2, .ref (s.heap.size + 107)), (1, .ref (s.heap.size + 0)), (0, .ref b)]) C0.1 C0.2.1 (by decide +kernel) rfl hl (by decide) rfl (fun ls hl => ?_)
    refine lv_iconst (n := 1) (v := 1) C0.1 C0.2.1 (by decide +kernel) rfl ?_
    have hts : ∀ w ∈ g_TB, w.before #[Value.ref b] s = true := fun w h => C0.2.2.2.2.2.1 w (gl_tbl w h)
    refine va_newaK (atype := .long) (N := 1) C0.1 C0.2.1 (hts _ ac_long) rfl (show decode code 17 = .ok (.newarray .long, 2) by decide +kernel) rfl (by decide) rfl (Nat.le_of_ble_eq_true rfl) (by show 0 + 1 + 106 + 1 + 27 + 1 ≤ 601024; omega) (by show 0 + 12 + 16797 + 59 + 68719 + 1 ≤ 7293034; omega) rfl fun H1 cA e1 z1 o1 hAr hNm => ?_
    have hc := h_kid hK (kd := 1) (ty := .long) rfl (fun _ z => by cases z) hNm
    have hP1 : va_P D g_cl (g_ws yy s.heap.size hw4) H1 := by
      rw [← h_end, show g_shl = hs160 ++ [(2, 1, [])] by decide +kernel, h_push]
      refine (h_old hP o1).app (h_one ?_)
      rw [← hz]
      show H1[H.size]? = some (vp_cell _ _)
      rw [e1, hc]; rfl
    have hsz : H.size = s.heap.size + 135 := hz.trans (by rw [show hs160.length = 135 by decide +kernel])
    rw [hsz]
    refine lv_astore_n (k := (3 : Fin 4)) (i := 3) (lv' := [(3, .ref (s.heap.size + 135)), (2, .ref (s.heap.size + 107)), (1, .ref (s.heap.size + 0)), (0, .ref b)]) C0.1 C0.2.1 (show decode code 19 = .ok (.astore_n 3, 1) by decide +kernel) rfl hl (by decide) rfl (fun ls hl => ?_)
    refine lv_iconst (n := 0) (v := 0) C0.1 C0.2.1 (show decode code 20 = .ok (.iconst 0, 1) by decide +kernel) rfl ?_
    refine lv_istore (i := 4) (lv' := [(4, .int 0), (3, .ref (s.heap.size + 135)), (2, .ref (s.heap.size + 107)), (1, .ref (s.heap.size + 0)), (0, .ref b)]) C0.1 C0.2.1 (show decode code 21 = .ok (.istore 4, 2) by decide +kernel) hl (by decide) rfl (fun ls hl => ?_)
    refine W.widen (k := 1000) (n := 100000) (by omega) (by omega) ?_
    exact kk D yy X H1 locs ls hP1 (h_keep hS (by omega) o1) (lv_sub hl [0, 4, 3, 2, 1] rfl)
  exact key s.heap [] _ (fun k q h => by simp [h_ws] at h) rfl va_S.rf hl
