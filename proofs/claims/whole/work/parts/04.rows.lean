/-! THE LOGIC, second part: fields, arrays, answers, calls -/
def g_Fd (own : String) (idx ci j : Nat) (ft : FieldType) (fin : Bool) : Prop := ∃ (C : String) (T : u_T) (N : Nat) (ty : Nat → FieldType), g_cl[ci]? = some (C, T, N) ∧ j < N ∧ Cond.fieldLink own idx (T j).1 (T j).2.1 (T j).2.2.1 ∈ g_TB ∧ (∀ w ∈ u_ws C T N, w ∈ g_TB) ∧ (∀ k, k < N → parseFieldDescriptor (T k).2.2.1 = some (ty k)) ∧ (∀ a, a < N → ∀ b, b < N → a ≠ b → (T a).2.1 ≠ (T b).2.1) ∧ ty j = ft ∧ (T j).2.2.2 = fin
theorem g_fs_at {o : Nat} {w : gW} {k j : Nat} {fs : List (Nat × Nat)} {f : Nat × Nat} (h : fs[j]? = some f) : (g_fs o w k fs)[j]? = some (g_val o w k j f) := by
  unfold g_fs
  rw [List.getElem?_mapIdx, h]; rfl
theorem g_obj {yy : Nat → ClassId} {o : Nat} {w : gW} {k ci : Nat} {fs : List (Nat × Nat)} (h : g_sh k = (0, ci, fs)) : (g_ws yy o w)[k]? = some (o + k, .inr (ci, g_fs o w k fs)) := by
  rw [g_ws_at (g_sh_lt h (by omega))]
  unfold g_cell
  rw [h]; rfl
theorem g_fs_set {o : Nat} {w w' : gW} {k j : Nat} {fs : List (Nat × Nat)} {f : Nat × Nat} (h : fs[j]? = some f) {v : Value} (hv : g_val o w' k j f = v) (hn : ∀ i, i ≠ j → w'.1 k i = w.1 k i ∧ w'.2 k i = w.2 k i) : (g_fs o w k fs).set j v = g_fs o w' k fs := by
  apply List.ext_getElem?
  intro i
  by_cases hi : i = j
  · subst hi
    have hl := (List.getElem?_eq_some_iff.mp h).1
    rw [List.getElem?_set_self (by unfold g_fs; rw [List.length_mapIdx]; exact hl), g_fs_at h, hv]
  · rw [List.getElem?_set_ne (Ne.symm hi)]
    unfold g_fs
    rw [List.getElem?_mapIdx, List.getElem?_mapIdx]
    unfold g_val
    rw [(hn i hi).1, (hn i hi).2]
theorem g_arr {yy : Nat → ClassId} {o : Nat} {w : gW} {k kd n : Nat} {i : Int32} (h : inb i (g_len kd k)) (hk : kd = 1 ∨ kd = 3 ∨ kd = 4) (hn : g_len kd k = n) : k < gN ∧ (g_ws yy o w)[k]? = some (o + k, .inl (yy kd, n, .inl (w.1 k))) ∧ vp_in i n := by
  have hpos : (g_sh k).1 = kd := by
    by_cases q : (g_sh k).1 = kd
    · exact q
    · unfold g_len at h; rw [if_neg q] at h; exact absurd h (by unfold inb; omega)
  have hl : k < gN := g_sh_lt (k := k) (a := kd) (b := (g_sh k).2) (by rw [← hpos]) (by omega)
  have e : (g_sh k).2.1 = n := by rw [← hn]; unfold g_len; rw [if_pos hpos]
  refine ⟨hl, ?_, ?_⟩
  · rw [g_ws_at hl]
    unfold g_cell
    rw [hpos, if_neg (by omega), if_neg (by omega), if_pos hk, e]
  · rw [vp_in_iff]
    rw [hn] at h
    exact h
theorem g_arrL {yy : Nat → ClassId} {o : Nat} {w : gW} {k n : Nat} {i : Int32} (h : inb i (g_len 2 k)) (hn : g_len 2 k = n) : k < gN ∧ (g_ws yy o w)[k]? = some (o + k, .inl (yy 2, n, .inr (.inl (w.2 k)))) ∧ vp_in i n := by
  have hpos : (g_sh k).1 = 2 := by
    by_cases q : (g_sh k).1 = 2
    · exact q
    · unfold g_len at h; rw [if_neg q] at h; exact absurd h (by unfold inb; omega)
  have hl : k < gN := g_sh_lt (k := k) (a := 2) (b := (g_sh k).2) (by rw [← hpos]) (by omega)
  have e : (g_sh k).2.1 = n := by rw [← hn]; unfold g_len; rw [if_pos hpos]
  refine ⟨hl, ?_, ?_⟩
  · rw [g_ws_at hl]
    unfold g_cell
    rw [hpos, if_neg (by omega), if_pos rfl, e]
  · rw [vp_in_iff]
    rw [hn] at h
    exact h
theorem g_arrR {yy : Nat → ClassId} {o : Nat} {w : gW} {k kd n : Nat} {i : Int32} (h : inb i (g_len kd k)) (hk : kd = 5 ∨ kd = 6) (hn : g_len kd k = n) : (g_ws yy o w)[k]? = some (o + k, .inl (yy kd, n, .inr (.inr (.inr (.inr (fun j => some (o + (k + 1 + j)))))))) ∧ vp_in i n := by
  have hpos : (g_sh k).1 = kd := by
    by_cases q : (g_sh k).1 = kd
    · exact q
    · unfold g_len at h; rw [if_neg q] at h; exact absurd h (by unfold inb; omega)
  have hl : k < gN := g_sh_lt (k := k) (a := kd) (b := (g_sh k).2) (by rw [← hpos]) (by omega)
  have e : (g_sh k).2.1 = n := by rw [← hn]; unfold g_len; rw [if_pos hpos]
  refine ⟨?_, ?_⟩
  · rw [g_ws_at hl]
    unfold g_cell
    rw [hpos, if_neg (by omega), if_neg (by omega), if_neg (by omega), e]
  · rw [vp_in_iff]
    rw [hn] at h
    exact h
theorem zsI_other (w : gW) (k j : Nat) (v : Int32) : ∀ a, a ≠ k → (zsI w k j v).1 a = w.1 a ∧ (zsI w k j v).2 a = w.2 a := by
  intro a ha
  refine ⟨?_, rfl⟩
  funext b
  show (if a = k ∧ b = j then v else w.1 a b) = w.1 a b
  rw [if_neg (fun q => ha q.1)]
theorem zsL_other (w : gW) (k j : Nat) (v : Int64) : ∀ a, a ≠ k → (zsL w k j v).1 a = w.1 a ∧ (zsL w k j v).2 a = w.2 a := by
  intro a ha
  refine ⟨rfl, ?_⟩
  funext b
  show (if a = k ∧ b = j then v else w.2 a b) = w.2 a b
  rw [if_neg (fun q => ha q.1)]
theorem zsI_self (w : gW) (k j : Nat) (v : Int32) : (zsI w k j v).1 k = upd (w.1 k) j v := by
  funext b
  show (if k = k ∧ b = j then v else w.1 k b) = _
  unfold upd
  by_cases h : b = j
  · rw [if_pos ⟨rfl, h⟩, if_pos h]
  · rw [if_neg (fun q => h q.2), if_neg h]
theorem zsL_self (w : gW) (k j : Nat) (v : Int64) : (zsL w k j v).2 k = vp_updL (w.2 k) j v := by
  funext b
  show (if k = k ∧ b = j then v else w.2 k b) = _
  unfold vp_updL
  by_cases h : b = j
  · rw [if_pos ⟨rfl, h⟩, if_pos h]
  · rw [if_neg (fun q => h q.2), if_neg h]
theorem g_kd {k kd : Nat} {i : Int32} (h : inb i (g_len kd k)) : (g_sh k).1 = kd := by
  by_cases q : (g_sh k).1 = kd
  · exact q
  · unfold g_len at h; rw [if_neg q] at h; exact absurd h (by unfold inb; omega)
theorem g_setI {yy : Nat → ClassId} {o : Nat} {w : gW} {k kd n : Nat} {i : Int32} (h : inb i (g_len kd k)) (hk : kd = 1 ∨ kd = 3 ∨ kd = 4) (hn : g_len kd k = n) (v : Int32) : (g_ws yy o w).set k (o + k, .inl (yy kd, n, .inl (upd (w.1 k) i.toNatClampNeg v))) = g_ws yy o (zsI w k (ix i) v) := by
  refine g_ws_set (g_arr (yy := yy) (o := o) (w := w) h hk hn).1 _ ?_ (zsI_other w k _ v)
  have hpos := g_kd h
  have e : (g_sh k).2.1 = n := by rw [← hn]; unfold g_len; rw [if_pos hpos]
  unfold g_cell
  rw [hpos, if_neg (by omega), if_neg (by omega), if_pos hk, e, zsI_self]
theorem g_setL {yy : Nat → ClassId} {o : Nat} {w : gW} {k n : Nat} {i : Int32} (h : inb i (g_len 2 k)) (hn : g_len 2 k = n) (v : Int64) : (g_ws yy o w).set k (o + k, .inl (yy 2, n, .inr (.inl (vp_updL (w.2 k) i.toNatClampNeg v)))) = g_ws yy o (zsL w k (ix i) v) := by
  refine g_ws_set (g_arrL (yy := yy) (o := o) (w := w) h hn).1 _ ?_ (zsL_other w k _ v)
  have hpos := g_kd h
  have e : (g_sh k).2.1 = n := by rw [← hn]; unfold g_len; rw [if_pos hpos]
  unfold g_cell
  rw [hpos, if_neg (by omega), if_pos rfl, e, zsL_self]
theorem z_and1 {v : Int32} (h : v &&& 1 = v) : v = 0 ∨ v = 1 := by
  have e := pk_and v (m := 1) 1 rfl
  rw [h] at e
  rcases (by omega : v.toBitVec.toNat % 2 ^ 1 = 0 ∨ v.toBitVec.toNat % 2 ^ 1 = 1) with q | q
  · rw [q] at e; exact Or.inl e
  · rw [q] at e; exact Or.inr e
section GY
variable {l : Launch} {M : gM} {d pc : Nat} {L : List (Nat × Value)} {st : List Value} {w : gW} {Q : Option Value → gW → Prop}
theorem Gz.getf {pc' : Nat} {k j ci idx : Nat} {fs : List (Nat × Nat)} {f : Nat × Nat} {ft : FieldType} {fin : Bool} {v : Value} (F : g_Fd M.1.cls idx ci j ft fin) (hk : g_sh k = (0, ci, fs)) (hf : fs[j]? = some f) (hd : decode M.2.1 pc = .ok (.getfield idx, 3)) (hp : pc + 3 = pc') (hv : ∀ o : Nat, g_val o w k j f = g_tr o v) (kk : Gz l M d pc' L (v :: st) w Q) : Gz l M d pc L (.ref k :: st) w Q := by
  subst hp
  intro p e s m args below meth c H locs ls o D yy X hP hS hl
  obtain ⟨C, T, N, ty, hcl, hj, hlk, hin, -⟩ := F
  have hts := X.2.2.2.2.2.2.1
  refine va_get (ref := (T j).1) X.1 X.2.1 hts hin X.2.2.2.2.2.1 X.2.2.2.2.2.2.2 hP k (g_obj hk) hcl j hj (hts _ hlk) (fun _ h => h) (g_fs_at hf) hd ?_
  rw [hv o]
  exact kk p e s m args below meth c H locs ls o D yy X hP hS hl
theorem Gz.getI {pc' : Nat} {k j ci idx t : Nat} {fs : List (Nat × Nat)} {ft : FieldType} {fin : Bool} (F : g_Fd M.1.cls idx ci j ft fin) (hk : g_sh k = (0, ci, fs)) (hf : fs[j]? = some (1, t)) (hd : decode M.2.1 pc = .ok (.getfield idx, 3)) (hp : pc + 3 = pc') (kk : Gz l M d pc' L (.int (w.1 k j) :: st) w Q) : Gz l M d pc L (.ref k :: st) w Q := Gz.getf F hk hf hd hp (fun _ => rfl) kk
theorem Gz.getJ {pc' : Nat} {k j ci idx t : Nat} {fs : List (Nat × Nat)} {ft : FieldType} {fin : Bool} (F : g_Fd M.1.cls idx ci j ft fin) (hk : g_sh k = (0, ci, fs)) (hf : fs[j]? = some (2, t)) (hd : decode M.2.1 pc = .ok (.getfield idx, 3)) (hp : pc + 3 = pc') (kk : Gz l M d pc' L (.long (w.2 k j) :: st) w Q) : Gz l M d pc L (.ref k :: st) w Q := Gz.getf F hk hf hd hp (fun _ => rfl) kk
theorem Gz.getR {pc' : Nat} {k j ci idx : Nat} (t : Nat) {fs : List (Nat × Nat)} {ft : FieldType} {fin : Bool} (F : g_Fd M.1.cls idx ci j ft fin) (hk : g_sh k = (0, ci, fs)) (hf : fs[j]? = some (0, t)) (hd : decode M.2.1 pc = .ok (.getfield idx, 3)) (hp : pc + 3 = pc') (kk : Gz l M d pc' L (.ref t :: st) w Q) : Gz l M d pc L (.ref k :: st) w Q := Gz.getf F hk hf hd hp (fun _ => rfl) kk
theorem Gz.getV {pc' : Nat} {k j ci idx t : Nat} {fs : List (Nat × Nat)} {ft : FieldType} {fin : Bool} (F : g_Fd M.1.cls idx ci j ft fin) (hk : g_sh k = (0, ci, fs)) (hf : fs[j]? = some (3, t)) (hd : decode M.2.1 pc = .ok (.getfield idx, 3)) (hp : pc + 3 = pc') (kk : Gz l M d pc' L (.ref (ix (w.1 k j)) :: st) w Q) : Gz l M d pc L (.ref k :: st) w Q := Gz.getf F hk hf hd hp (fun _ => rfl) kk
theorem Gz.putf {pc' : Nat} {k j ci idx : Nat} {fs : List (Nat × Nat)} {f : Nat × Nat} {ft : FieldType} {v : Value} {w' : gW} (F : g_Fd M.1.cls idx ci j ft false) (hk : g_sh k = (0, ci, fs)) (hf : fs[j]? = some f) (hd : decode M.2.1 pc = .ok (.putfield idx, 3)) (hp : pc + 3 = pc') (hn : ∀ o, narrow ft (g_tr o v) = g_tr o v) (hfit : ∀ o, fits ft (g_tr o v) = true) (hv : ∀ o : Nat, g_val o w' k j f = g_tr o v) (h1 : ∀ i, i ≠ j → w'.1 k i = w.1 k i ∧ w'.2 k i = w.2 k i) (h2 : ∀ a, a ≠ k → w'.1 a = w.1 a ∧ w'.2 a = w.2 a) (kk : Gz l M d pc' L st w' Q) : Gz l M d pc L (v :: .ref k :: st) w Q := by
  subst hp
  intro p e s m args below meth c H locs ls o D yy X hP hS hl
  obtain ⟨C, T, N, ty, hcl, hj, hlk, hin, hty, hnm, hft, hfin⟩ := F
  have hts := X.2.2.2.2.2.2.1
  have hjl : j < (g_fs o w k fs).length := by unfold g_fs; rw [List.length_mapIdx]; exact (List.getElem?_eq_some_iff.mp hf).1
  refine va_put (ref := (T j).1) X.1 X.2.1 hts hin ty hty hnm X.2.2.2.2.2.1 X.2.2.2.2.2.2.2 hP (g_D yy o w) hS k (g_obj hk) hcl j hj (hts _ hlk) (fun _ h => h) hfin ((hty j hj).trans (congrArg some hft)) (hn o) (hfit o) hjl hd (fun H1 locs1 hP1 _ hS1 => ?_)
  rw [g_fs_set hf (hv o) h1, g_ws_set (w' := w') (g_sh_lt hk (by omega)) _ (by unfold g_cell; rw [hk]; rfl) h2] at hP1
  exact kk p e s m args below meth c H1 locs1 ls o D yy X hP1 hS1 hl
theorem zsI_at (w : gW) (k j : Nat) (v : Int32) : (zsI w k j v).1 k j = v := if_pos ⟨rfl, rfl⟩
theorem zsI_ne (w : gW) (k j : Nat) (v : Int32) : ∀ i, i ≠ j → (zsI w k j v).1 k i = w.1 k i ∧ (zsI w k j v).2 k i = w.2 k i := fun i h => ⟨if_neg (fun q => h q.2), rfl⟩
theorem zsL_at (w : gW) (k j : Nat) (v : Int64) : (zsL w k j v).2 k j = v := if_pos ⟨rfl, rfl⟩
theorem zsL_ne (w : gW) (k j : Nat) (v : Int64) : ∀ i, i ≠ j → (zsL w k j v).1 k i = w.1 k i ∧ (zsL w k j v).2 k i = w.2 k i := fun i h => ⟨rfl, if_neg (fun q => h q.2)⟩
theorem Gz.putI {pc' : Nat} {k j ci idx t : Nat} {fs : List (Nat × Nat)} {x : Int32} (F : g_Fd M.1.cls idx ci j .int false) (hk : g_sh k = (0, ci, fs)) (hf : fs[j]? = some (1, t)) (hd : decode M.2.1 pc = .ok (.putfield idx, 3)) (hp : pc + 3 = pc') (kk : Gz l M d pc' L st (zsI w k j x) Q) : Gz l M d pc L (.int x :: .ref k :: st) w Q := Gz.putf F hk hf hd hp (fun _ => rfl) (fun _ => rfl) (fun o => by show Value.int _ = Value.int x; rw [zsI_at]) (zsI_ne w k j x) (zsI_other w k j x) kk
theorem Gz.putZ {pc' : Nat} {k j ci idx t : Nat} {fs : List (Nat × Nat)} {x : Int32} (F : g_Fd M.1.cls idx ci j .boolean false) (hk : g_sh k = (0, ci, fs)) (hf : fs[j]? = some (1, t)) (hd : decode M.2.1 pc = .ok (.putfield idx, 3)) (hp : pc + 3 = pc') (hx : x &&& 1 = x) (kk : Gz l M d pc' L st (zsI w k j x) Q) : Gz l M d pc L (.int x :: .ref k :: st) w Q := Gz.putf F hk hf hd hp (fun _ => by show Value.int (x &&& 1) = Value.int x; rw [hx]) (fun _ => by rcases z_and1 hx with q | q <;> subst q <;> rfl) (fun o => by show Value.int _ = Value.int x; rw [zsI_at]) (zsI_ne w k j x) (zsI_other w k j x) kk
theorem Gz.putJ {pc' : Nat} {k j ci idx t : Nat} {fs : List (Nat × Nat)} {x : Int64} (F : g_Fd M.1.cls idx ci j .long false) (hk : g_sh k = (0, ci, fs)) (hf : fs[j]? = some (2, t)) (hd : decode M.2.1 pc = .ok (.putfield idx, 3)) (hp : pc + 3 = pc') (kk : Gz l M d pc' L st (zsL w k j x) Q) : Gz l M d pc L (.long x :: .ref k :: st) w Q := Gz.putf F hk hf hd hp (fun _ => rfl) (fun _ => rfl) (fun o => by show Value.long _ = Value.long x; rw [zsL_at]) (zsL_ne w k j x) (zsL_other w k j x) kk
theorem Gz.putV {pc' : Nat} {k j ci idx t x : Nat} {fs : List (Nat × Nat)} {ft : FieldType} (F : g_Fd M.1.cls idx ci j (.array ft) false) (hk : g_sh k = (0, ci, fs)) (hf : fs[j]? = some (3, t)) (hd : decode M.2.1 pc = .ok (.putfield idx, 3)) (hp : pc + 3 = pc') (hx : x < 2 ^ 31) (kk : Gz l M d pc' L st (zsI w k j (nI x)) Q) : Gz l M d pc L (.ref x :: .ref k :: st) w Q := Gz.putf F hk hf hd hp (fun _ => rfl) (fun _ => rfl) (fun o => by show Value.ref _ = Value.ref _; rw [zsI_at, nI_clamp hx]) (zsI_ne w k j _) (zsI_other w k j _) kk
theorem Gz.iald {pc' : Nat} {k n : Nat} {i : Int32} (hd : decode M.2.1 pc = .ok (.iaload, 1)) (hp : pc + 1 = pc') (hn : g_len 1 k = n) (h : inb i n) (kk : Gz l M d pc' L (.int (w.1 k (ix i)) :: st) w Q) : Gz l M d pc L (.int i :: .ref k :: st) w Q := by
  subst hp
  intro p e s m args below meth c H locs ls o D yy X hP hS hl
  obtain ⟨-, ha, hv⟩ := g_arr (yy := yy) (o := o) (w := w) (by rw [hn]; exact h) (Or.inl rfl) hn
  exact va_iald X.1 X.2.1 X.2.2.2.2.2.2.2 hP k 0 ha rfl hv hd (kk p e s m args below meth c H locs ls o D yy X hP hS hl)
theorem Gz.bald {pc' : Nat} {k n : Nat} {i : Int32} (hd : decode M.2.1 pc = .ok (.baload, 1)) (hp : pc + 1 = pc') (hn : g_len 3 k = n) (h : inb i n) (kk : Gz l M d pc' L (.int (w.1 k (ix i)) :: st) w Q) : Gz l M d pc L (.int i :: .ref k :: st) w Q := by
  subst hp
  intro p e s m args below meth c H locs ls o D yy X hP hS hl
  obtain ⟨-, ha, hv⟩ := g_arr (yy := yy) (o := o) (w := w) (by rw [hn]; exact h) (Or.inr (Or.inl rfl)) hn
  exact va_bald X.1 X.2.1 X.2.2.2.2.2.2.2 hP k 2 ha rfl hv hd (kk p e s m args below meth c H locs ls o D yy X hP hS hl)
theorem Gz.zald {pc' : Nat} {k n : Nat} {i : Int32} (hd : decode M.2.1 pc = .ok (.baload, 1)) (hp : pc + 1 = pc') (hn : g_len 4 k = n) (h : inb i n) (kk : Gz l M d pc' L (.int (w.1 k (ix i)) :: st) w Q) : Gz l M d pc L (.int i :: .ref k :: st) w Q := by
  subst hp
  intro p e s m args below meth c H locs ls o D yy X hP hS hl
  obtain ⟨-, ha, hv⟩ := g_arr (yy := yy) (o := o) (w := w) (by rw [hn]; exact h) (Or.inr (Or.inr rfl)) hn
  exact va_zald X.1 X.2.1 X.2.2.2.2.2.2.2 hP k 3 ha rfl hv hd (kk p e s m args below meth c H locs ls o D yy X hP hS hl)
theorem Gz.lald {pc' : Nat} {k n : Nat} {i : Int32} (hd : decode M.2.1 pc = .ok (.laload, 1)) (hp : pc + 1 = pc') (hn : g_len 2 k = n) (h : inb i n) (kk : Gz l M d pc' L (.long (w.2 k (ix i)) :: st) w Q) : Gz l M d pc L (.int i :: .ref k :: st) w Q := by
  subst hp
  intro p e s m args below meth c H locs ls o D yy X hP hS hl
  obtain ⟨-, ha, hv⟩ := g_arrL (yy := yy) (o := o) (w := w) (by rw [hn]; exact h) hn
  exact va_lald X.1 X.2.1 X.2.2.2.2.2.2.2 hP k 1 ha rfl hv hd (kk p e s m args below meth c H locs ls o D yy X hP hS hl)
theorem Gz.aald {pc' : Nat} {kd k n : Nat} {i : Int32} (hd : decode M.2.1 pc = .ok (.aaload, 1)) (hp : pc + 1 = pc') (hkd : kd = 5 ∨ kd = 6) (hn : g_len kd k = n) (h : inb i n) (kk : Gz l M d pc' L (.ref (k + 1 + ix i) :: st) w Q) : Gz l M d pc L (.int i :: .ref k :: st) w Q := by
  subst hp
  intro p e s m args below meth c H locs ls o D yy X hP hS hl
  obtain ⟨ha, hv⟩ := g_arrR (yy := yy) (o := o) (w := w) (by rw [hn]; exact h) hkd hn
  have hlt : i.toNatClampNeg < n := Nat.not_le.mp fun q => hv (Or.inr q)
  have hK := X.2.2.2.2.2.2.2
  have k2 := kk p e s m args below meth c H locs ls o D yy X hP hS hl
  rcases hkd with q | q
  · subst q
    have ht : (g_tys yy)[4]? = some (yy 5, .array .int) := rfl
    exact W.aald (v := va_rf (some (o + (k + 1 + ix i)))) (ty := .array .int) X.1 X.2.1 (hP k _ ha) ((hK.2 4 _ ht).1 n (fun j => va_rf (some (o + (k + 1 + j))))) rfl (fun q => by cases q) (by show ¬ (i < 0 ∨ (arrV _ _ _).slots.size ≤ _); rw [arrV_size]; exact hv) (by show (arrV _ _ _).slots[_]? = _; rw [arrV_read _ _ hlt]) rfl rfl hd k2
  · subst q
    have ht : (g_tys yy)[5]? = some (yy 6, .array .long) := rfl
    exact W.aald (v := va_rf (some (o + (k + 1 + ix i)))) (ty := .array .long) X.1 X.2.1 (hP k _ ha) ((hK.2 5 _ ht).1 n (fun j => va_rf (some (o + (k + 1 + j))))) rfl (fun q => by cases q) (by show ¬ (i < 0 ∨ (arrV _ _ _).slots.size ≤ _); rw [arrV_size]; exact hv) (by show (arrV _ _ _).slots[_]? = _; rw [arrV_read _ _ hlt]) rfl rfl hd k2
theorem Gz.iast {pc' : Nat} {k n : Nat} {i x : Int32} (hd : decode M.2.1 pc = .ok (.iastore, 1)) (hp : pc + 1 = pc') (hn : g_len 1 k = n) (h : inb i n) (kk : Gz l M d pc' L st (zsI w k (ix i) x) Q) : Gz l M d pc L (.int x :: .int i :: .ref k :: st) w Q := by
  subst hp
  intro p e s m args below meth c H locs ls o D yy X hP hS hl
  have h' : inb i (g_len 1 k) := by rw [hn]; exact h
  obtain ⟨-, ha, hv⟩ := g_arr (yy := yy) (o := o) (w := w) h' (Or.inl rfl) hn
  refine va_iast X.1 X.2.1 X.2.2.2.2.2.2.2 hP (g_D yy o w) hS k 0 ha rfl hv hd (fun H1 locs1 hP1 _ hS1 => ?_)
  rw [g_setI h' (Or.inl rfl) hn] at hP1
  exact kk p e s m args below meth c H1 locs1 ls o D yy X hP1 hS1 hl
theorem Gz.bast {pc' : Nat} {k n : Nat} {i x : Int32} (hd : decode M.2.1 pc = .ok (.bastore, 1)) (hp : pc + 1 = pc') (hn : g_len 3 k = n) (h : inb i n) (kk : Gz l M d pc' L st (zsI w k (ix i) x.toInt8.toInt32) Q) : Gz l M d pc L (.int x :: .int i :: .ref k :: st) w Q := by
  subst hp
  intro p e s m args below meth c H locs ls o D yy X hP hS hl
  have h' : inb i (g_len 3 k) := by rw [hn]; exact h
  obtain ⟨-, ha, hv⟩ := g_arr (yy := yy) (o := o) (w := w) h' (Or.inr (Or.inl rfl)) hn
  refine va_bast X.1 X.2.1 X.2.2.2.2.2.2.2 hP (g_D yy o w) hS k 2 ha rfl hv hd (fun H1 locs1 hP1 _ hS1 => ?_)
  rw [g_setI h' (Or.inr (Or.inl rfl)) hn] at hP1
  exact kk p e s m args below meth c H1 locs1 ls o D yy X hP1 hS1 hl
theorem Gz.zast {pc' : Nat} {k n : Nat} {i x : Int32} (hd : decode M.2.1 pc = .ok (.bastore, 1)) (hp : pc + 1 = pc') (hn : g_len 4 k = n) (h : inb i n) (kk : Gz l M d pc' L st (zsI w k (ix i) (x &&& 1)) Q) : Gz l M d pc L (.int x :: .int i :: .ref k :: st) w Q := by
  subst hp
  intro p e s m args below meth c H locs ls o D yy X hP hS hl
  have h' : inb i (g_len 4 k) := by rw [hn]; exact h
  obtain ⟨-, ha, hv⟩ := g_arr (yy := yy) (o := o) (w := w) h' (Or.inr (Or.inr rfl)) hn
  refine va_zast X.1 X.2.1 X.2.2.2.2.2.2.2 hP (g_D yy o w) hS k 3 ha rfl hv hd (fun H1 locs1 hP1 _ hS1 => ?_)
  have hP1 : va_P D g_cl ((g_ws yy o w).set k (o + k, .inl (yy 4, n, .inl (upd (w.1 k) i.toNatClampNeg (x &&& 1))))) H1 := hP1
  rw [g_setI h' (Or.inr (Or.inr rfl)) hn] at hP1
  exact kk p e s m args below meth c H1 locs1 ls o D yy X hP1 hS1 hl
theorem Gz.last {pc' : Nat} {k n : Nat} {i : Int32} {x : Int64} (hd : decode M.2.1 pc = .ok (.lastore, 1)) (hp : pc + 1 = pc') (hn : g_len 2 k = n) (h : inb i n) (kk : Gz l M d pc' L st (zsL w k (ix i) x) Q) : Gz l M d pc L (.long x :: .int i :: .ref k :: st) w Q := by
  subst hp
  intro p e s m args below meth c H locs ls o D yy X hP hS hl
  have h' : inb i (g_len 2 k) := by rw [hn]; exact h
  obtain ⟨-, ha, hv⟩ := g_arrL (yy := yy) (o := o) (w := w) h' hn
  refine va_last X.1 X.2.1 X.2.2.2.2.2.2.2 hP (g_D yy o w) hS k 1 ha rfl hv hd (fun H1 locs1 hP1 _ hS1 => ?_)
  rw [g_setL h' hn] at hP1
  exact kk p e s m args below meth c H1 locs1 ls o D yy X hP1 hS1 hl
theorem Gz.alen {pc' : Nat} {k n : Nat} {kd : Nat} (hd : decode M.2.1 pc = .ok (.arraylength, 1)) (hp : pc + 1 = pc') (hkd : kd = 1 ∨ kd = 2) (h : (g_sh k).1 = kd) (hn : g_len kd k = n) (kk : Gz l M d pc' L (.int (nI n) :: st) w Q) : Gz l M d pc L (.ref k :: st) w Q := by
  subst hp
  intro p e s m args below meth c H locs ls o D yy X hP hS hl
  have hl' : k < gN := g_sh_lt (k := k) (a := kd) (b := (g_sh k).2) (by rw [← h]) (by omega)
  have eN : (g_sh k).2.1 = n := by rw [← hn]; unfold g_len; rw [if_pos h]
  have k2 := kk p e s m args below meth c H locs ls o D yy X hP hS hl
  rcases hkd with q | q
  · subst q
    have ha : (g_ws yy o w)[k]? = some (o + k, .inl (yy 1, n, .inl (w.1 k))) := by
      rw [g_ws_at hl']; unfold g_cell; rw [h, if_neg (by omega), if_neg (by omega), if_pos (Or.inl rfl), eN]
    exact va_alen X.1 X.2.1 X.2.2.2.2.2.2.2 hP k 0 ha (ty := .int) rfl rfl hd k2
  · subst q
    have ha : (g_ws yy o w)[k]? = some (o + k, .inl (yy 2, n, .inr (.inl (w.2 k)))) := by
      rw [g_ws_at hl']; unfold g_cell; rw [h, if_neg (by omega), if_pos rfl, eN]
    exact va_alen X.1 X.2.1 X.2.2.2.2.2.2.2 hP k 1 ha (ty := .long) rfl rfl hd k2
theorem Gz.ldc {pc' : Nat} {idx : Nat} {v : Int32} (hd : decode M.2.1 pc = .ok (.ldc idx, 2)) (hp : pc + 2 = pc') (hc : Cond.constant M.1.cls idx v ∈ g_TB) (kk : Gz l M d pc' L (.int v :: st) w Q) : Gz l M d pc L st w Q := by
  subst hp
  exact fun p e s m args below meth c H locs ls o D yy X hP hS hl => lv_ldc X.1 X.2.1 X.2.2.2.2.2.1 (X.2.2.2.2.2.2.1 _ hc) hd (kk p e s m args below meth c H locs ls o D yy X hP hS hl)
theorem Gz.ldcw {pc' : Nat} {idx : Nat} {v : Int32} (hd : decode M.2.1 pc = .ok (.ldc_w idx, 3)) (hp : pc + 3 = pc') (hc : Cond.constant M.1.cls idx v ∈ g_TB) (kk : Gz l M d pc' L (.int v :: st) w Q) : Gz l M d pc L st w Q := by
  subst hp
  exact fun p e s m args below meth c H locs ls o D yy X hP hS hl => lv_ldcw X.1 X.2.1 X.2.2.2.2.2.1 (X.2.2.2.2.2.2.1 _ hc) hd (kk p e s m args below meth c H locs ls o D yy X hP hS hl)
theorem Gz.ldc2 {pc' : Nat} {idx : Nat} {v : Int64} (hd : decode M.2.1 pc = .ok (.ldc2_w idx, 3)) (hp : pc + 3 = pc') (hc : Cond.constantLong M.1.cls idx v ∈ g_TB) (kk : Gz l M d pc' L (.long v :: st) w Q) : Gz l M d pc L st w Q := by
  subst hp
  exact fun p e s m args below meth c H locs ls o D yy X hP hS hl => lv_ldc2 X.1 X.2.1 X.2.2.2.2.2.1 (X.2.2.2.2.2.2.1 _ hc) hd (kk p e s m args below meth c H locs ls o D yy X hP hS hl)
theorem Gz.ireturn {v : Int32} (hd : decode M.2.1 pc = .ok (.ireturn, 1)) (hr : M.2.2.2 = some .int) (h : Q (some (.int v)) w) : Gz l M d pc L [.int v] w Q := fun p e s m args below meth c H locs ls o D yy X hP hS hl => W.iret X.1 X.2.1 (X.2.2.2.1.trans hr) (fun t ht _ => ⟨⟨some (.int v), w, rfl, h, by rw [ht]; exact hP⟩, hS.F ht⟩) hS.2.2 hd X.2.2.2.2.1
theorem Gz.zreturn {v : Int32} (hd : decode M.2.1 pc = .ok (.ireturn, 1)) (hr : M.2.2.2 = some .boolean) (hv : v &&& 1 = v) (h : Q (some (.int v)) w) : Gz l M d pc L [.int v] w Q := fun p e s m args below meth c H locs ls o D yy X hP hS hl => W.zret X.1 X.2.1 (X.2.2.2.1.trans hr) (by show Value.int (v &&& 1) = _; rw [hv]) (fun t ht _ => ⟨⟨some (.int v), w, rfl, h, by rw [ht]; exact hP⟩, hS.F ht⟩) hS.2.2 hd X.2.2.2.2.1
theorem Gz.lreturn {v : Int64} (hd : decode M.2.1 pc = .ok (.lreturn, 1)) (hr : M.2.2.2 = some .long) (h : Q (some (.long v)) w) : Gz l M d pc L [.long v] w Q := fun p e s m args below meth c H locs ls o D yy X hP hS hl => W.lret X.1 X.2.1 (X.2.2.2.1.trans hr) (fun t ht _ => ⟨⟨some (.long v), w, rfl, h, by rw [ht]; exact hP⟩, hS.F ht⟩) hS.2.2 hd X.2.2.2.2.1
theorem Gz.return_ (hd : decode M.2.1 pc = .ok (.return_, 1)) (hr : M.2.2.2 = none) (h : Q none w) : Gz l M d pc L [] w Q := fun p e s m args below meth c H locs ls o D yy X hP hS hl => W.vret X.1 X.2.1 (X.2.2.2.1.trans hr) (fun t ht _ => ⟨⟨none, w, rfl, h, by rw [ht]; exact hP⟩, hS.F ht⟩) hS.2.2 hd X.2.2.2.2.1
theorem Gz.areturn {k : Nat} {ft : FieldType} (hd : decode M.2.1 pc = .ok (.areturn, 1)) (hr : M.2.2.2 = some (.array ft)) (h : Q (some (.ref k)) w) : Gz l M d pc L [.ref k] w Q := fun p e s m args below meth c H locs ls o D yy X hP hS hl => W.aret (v := .ref (o + k)) X.1 X.2.1 (X.2.2.2.1.trans hr) (Or.inr ⟨ft, rfl⟩) (Or.inr ⟨_, rfl⟩) (fun t ht _ => ⟨⟨some (.ref k), w, rfl, h, by rw [ht]; exact hP⟩, hS.F ht⟩) hS.2.2 hd X.2.2.2.2.1
theorem Gz.mmax {pc' : Nat} {x y : Int32} {idx : Nat} (hd : decode M.2.1 pc = .ok (.invokestatic idx, 3)) (hp : pc + 3 = pc') (hlk : Cond.methodLink M.1.cls idx Lib.Math.max.name ∈ g_TB) (hs : Cond.static Lib.Math.max.name ∈ g_TB) (hi : Cond.initialized "java/lang/Math" ∈ g_TB) (hc : Cond.code Lib.Math.max.name Lib.Math.max.code 2 (some .int) ∈ g_TB) (hd1 : 1 ≤ d) (hst : (st.map fun v => v.category).sum ≤ 8) (kk : Gz l M d pc' L (.int (if x < y then y else x) :: st) w Q) : Gz l M d pc L (.int y :: .int x :: st) w Q := by
  subst hp
  exact fun p e s m args below meth c H locs ls o D yy X hP hS hl =>
  have hts := X.2.2.2.2.2.2.1
  va_mmax X.1 X.2.1 (X.2.2.1.trans hl.1.symm) X.2.2.2.2.2.1 (hts _ hlk) (hts _ hs) (hts _ hi) (hts _ hc) hd1 (by rw [List.map_map]; show (st.map fun v => (g_tr o v).category).sum + 13 ≤ 60 * d; simp only [g_tr_cat]; omega) (Nat.le_refl 0) (Nat.le_refl 0) hd (kk p e s m args below meth c H locs ls o D yy X hP hS hl)
theorem Gz.mmin {pc' : Nat} {x y : Int32} {idx : Nat} (hd : decode M.2.1 pc = .ok (.invokestatic idx, 3)) (hp : pc + 3 = pc') (hlk : Cond.methodLink M.1.cls idx Lib.Math.min.name ∈ g_TB) (hs : Cond.static Lib.Math.min.name ∈ g_TB) (hi : Cond.initialized "java/lang/Math" ∈ g_TB) (hc : Cond.code Lib.Math.min.name Lib.Math.min.code 2 (some .int) ∈ g_TB) (hd1 : 1 ≤ d) (hst : (st.map fun v => v.category).sum ≤ 8) (kk : Gz l M d pc' L (.int (if y < x then y else x) :: st) w Q) : Gz l M d pc L (.int y :: .int x :: st) w Q := by
  subst hp
  exact fun p e s m args below meth c H locs ls o D yy X hP hS hl =>
  have hts := X.2.2.2.2.2.2.1
  va_mmin X.1 X.2.1 (X.2.2.1.trans hl.1.symm) X.2.2.2.2.2.1 (hts _ hlk) (hts _ hs) (hts _ hi) (hts _ hc) hd1 (by rw [List.map_map]; show (st.map fun v => (g_tr o v).category).sum + 13 ≤ 60 * d; simp only [g_tr_cat]; omega) (Nat.le_refl 0) (Nat.le_refl 0) hd (kk p e s m args below meth c H locs ls o D yy X hP hS hl)
end GY

