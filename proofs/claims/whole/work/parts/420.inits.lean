/-! THE CONSTRUCTORS, walked one behind another. Printed by program (wip/whole/mk_inits.py) -/
theorem Hz.newO' {l : Launch} {M : gM} {d mc ms cells slots pc pc' : Nat} {L : List (Nat × Value)} {st : List Value} {S : List gSh} {w : gW} {Q : List gSh → gW → Prop} (nn : Nat) {C : String} {T : u_T} {N ci idx : Nat} {ty : Nat → FieldType} {fs : List (Nat × Nat)} {S' : List gSh} (hlen : S.length = nn) (hcl : g_cl[ci]? = some (C, T, N)) (hin : ∀ w ∈ u_ws C T N, w ∈ g_TB) (hty : ∀ k, k < N → parseFieldDescriptor (T k).2.2.1 = some (ty k)) (hok : ∀ k, k < N → h_okt (ty k) = true) (hfs : fs = (List.range N).map (fun j => h_df (ty j))) (hck : Cond.classLink M.1.cls idx C ∈ g_TB) (hinst : Cond.instantiable C N ∈ g_TB) (hini : Cond.initialized C ∈ g_TB) (hd : decode M.2.1 pc = .ok (.new idx, 3)) (hp : pc + 3 = pc') (h1 : cells + 1 ≤ mc) (h2 : slots + N ≤ ms) (hz1 : w.1 nn = fun _ => 0) (hz2 : w.2 nn = fun _ => 0) (hS' : S ++ [(0, ci, fs)] = S') (kk : Hz l M d mc ms (cells + 1) (slots + N) pc' L (.ref nn :: st) S' w Q) : Hz l M d mc ms cells slots pc L st S w Q := Hz.newO hcl hin hty hok hfs hck hinst hini hd hp h1 h2 (by rw [hlen]; exact hz1) (by rw [hlen]; exact hz2) hS' (by rw [hlen]; exact kk)
theorem Hz.newA' {l : Launch} {M : gM} {d mc ms cells slots pc pc' : Nat} {L : List (Nat × Value)} {st : List Value} {S S' : List gSh} {w : gW} {Q : List gSh → gW → Prop} (nn : Nat) {kd n : Nat} {at_ : ArrayType} {i : Int32} (hlen : S.length = nn) (hkd : kd = 1 ∨ kd = 2 ∨ kd = 3 ∨ kd = 4) (hat : (g_tys (fun k => k))[kd - 1]? = some (kd, newarray.typeOf at_)) (harr : Cond.arrayClass (newarray.typeOf at_) ∈ g_TB) (hd : decode M.2.1 pc = .ok (.newarray at_, 2)) (hp : pc + 2 = pc') (hn : ¬ i < 0) (hN : i.toNatClampNeg = n) (hb : n * componentBytes (newarray.typeOf at_) ≤ 536870912) (h1 : cells + 1 ≤ mc) (h2 : slots + n ≤ ms) (hz1 : w.1 nn = fun _ => 0) (hz2 : w.2 nn = fun _ => 0) (hS' : S ++ [(kd, n, [])] = S') (kk : Hz l M d mc ms (cells + 1) (slots + n) pc' L (.ref nn :: st) S' w Q) : Hz l M d mc ms cells slots pc L (.int i :: st) S w Q := Hz.newA (a0 := (0, .inl (fun _ => 0))) hkd hat harr hd hp hn hN hb h1 h2 (by rw [hlen]; exact hz1) (by rw [hlen]; exact hz2) (by rw [hlen, hS']; exact kk)
theorem Hz.newM' {l : Launch} {M : gM} {d mc ms cells slots pc pc' : Nat} {L : List (Nat × Value)} {st : List Value} {S S' : List gSh} {w : gW} {Q : List gSh → gW → Prop} (nn : Nat) {kd kd' n mN idx : Nat} {ty : FieldType} {i1 i2 : Int32} (hlen : S.length = nn) (hkd : (kd = 5 ∧ kd' = 1 ∧ ty = .int) ∨ (kd = 6 ∧ kd' = 2 ∧ ty = .long)) (hck : Cond.classLink M.1.cls idx ("[" ++ (FieldType.array ty).toString) ∈ g_TB) (harr : Cond.arrayClass ty ∈ g_TB) (hd : decode M.2.1 pc = .ok (.multianewarray idx 2, 4)) (hp : pc + 4 = pc') (hn : ¬ i1 < 0) (hn2 : ¬ i2 < 0) (hN : i1.toNatClampNeg = n) (hM2 : i2.toNatClampNeg = mN) (hb : n * 4 ≤ 536870912 ∧ mN * componentBytes ty ≤ 536870912 ∧ mN ≤ 536870912) (h1 : cells + (1 + n) ≤ mc) (h2 : slots + (n + n * mN) ≤ ms) (hz1 : ∀ j, nn ≤ j → w.1 j = fun _ => 0) (hz2 : ∀ j, nn ≤ j → w.2 j = fun _ => 0) (hS' : S ++ (kd, n, []) :: List.replicate n (kd', mN, []) = S') (kk : Hz l M d mc ms (cells + 1 + n) (slots + n + n * mN) pc' L (.ref nn :: st) S' w Q) : Hz l M d mc ms cells slots pc L (.int i2 :: .int i1 :: st) S w Q := Hz.newM hkd hck harr hd hp hn hn2 hN hM2 hb h1 h2 (by rw [hlen]; exact hz1) (by rw [hlen]; exact hz2) hS' (by rw [hlen]; exact kk)
def zfi (w : gW) (k n : Nat) (v : Int32) : gW := (fun a b => if a = k ∧ b < n then v else w.1 a b, w.2)
theorem zfi_0 (w : gW) (k : Nat) (v : Int32) : zfi w k 0 v = w := by
  unfold zfi
  congr 1
  funext a b
  exact if_neg (fun h => Nat.not_lt_zero _ h.2)
theorem zfi_s (w : gW) (k n : Nat) (v : Int32) : zsI (zfi w k n v) k n v = zfi w k (n + 1) v := by
  unfold zfi zsI
  congr 1
  funext a b
  show (if a = k ∧ b = n then v else if a = k ∧ b < n then v else w.1 a b) = if a = k ∧ b < n + 1 then v else w.1 a b
  by_cases h1 : a = k
  · by_cases h2 : b = n
    · rw [if_pos ⟨h1, h2⟩, if_pos ⟨h1, by omega⟩]
    · rw [if_neg (fun h => h2 h.2)]
      by_cases h3 : b < n
      · rw [if_pos ⟨h1, h3⟩, if_pos ⟨h1, by omega⟩]
      · rw [if_neg (fun h => h3 h.2), if_neg (fun h => h3 (by omega))]
  · rw [if_neg (fun h => h1 h.1), if_neg (fun h => h1 h.1), if_neg (fun h => h1 h.1)]
theorem hc_fill_loop {l : Launch} {S : List gSh} {w : gW} {k n : Nat} (v : Int32) (hk : S[k]? = some (1, n, [])) (hn : n < 2 ^ 31) : ∀ (r i : Nat), i + r = n → Hz l m_Arr_fill_AII 1 0 0 0 0 5 [(2, .int (nI i)), (3, .int (nI n)), (0, .ref k), (1, .int v)] [] S (zfi w k i v) (fun S' w' => S' = S ∧ w' = zfi w k n v) := by
  intro r
  induction r with
  | zero =>
    intro i hi
    refine Hz.iload_n (q := 2) (pc' := 6) (by decide +kernel) rfl 0 rfl ?_
    refine Hz.iload_n (q := 3) (pc' := 7) (by decide +kernel) rfl 1 rfl ?_
    refine Hz.icmp_ge (off := 13) (tgt := 20) (pc' := 10) (by decide +kernel) (by decide) rfl (fun c => ?_) (fun c => absurd (nI_le (by omega) (by omega)) c)
    have e : i = n := by omega
    subst e
    exact Hz.ret (by decide +kernel) rfl rfl rfl ⟨rfl, rfl⟩
  | succ r ih =>
    intro i hi
    refine Hz.iload_n (q := 2) (pc' := 6) (by decide +kernel) rfl 0 rfl ?_
    refine Hz.iload_n (q := 3) (pc' := 7) (by decide +kernel) rfl 1 rfl ?_
    refine Hz.icmp_ge (off := 13) (tgt := 20) (pc' := 10) (by decide +kernel) (by decide) rfl (fun c => absurd c (nI_ge (by omega) (by omega))) (fun c => ?_)
    refine Hz.aload_n (q := 0) (pc' := 11) (by decide +kernel) rfl 2 rfl ?_
    refine Hz.iload_n (q := 2) (pc' := 12) (by decide +kernel) rfl 0 rfl ?_
    refine Hz.iload_n (q := 1) (pc' := 13) (by decide +kernel) rfl 3 rfl ?_
    refine Hz.iast (pc' := 14) (by decide +kernel) rfl hk (vp_in_nI (by omega) (by omega)) ?_
    rw [show ix (nI i) = i from nI_clamp (by omega), zfi_s]
    refine Hz.iinc (i := 2) (n := 1) (pc' := 17) (L' := [(2, .int (nI (i + 1))), (3, .int (nI n)), (0, .ref k), (1, .int v)]) (nI (i + 1)) (by decide +kernel) rfl 0 rfl (nI_1 i) (by decide) rfl ?_
    refine Hz.goto (off := -12) (tgt := 5) (by decide +kernel) (by decide) ?_
    exact ih (i + 1) (by omega)
theorem hc_fill {l : Launch} {S : List gSh} {w : gW} {k n : Nat} (v : Int32) (hk : S[k]? = some (1, n, [])) (hn : n < 2 ^ 31) : Hz l m_Arr_fill_AII 1 0 0 0 0 0 (lv_args 0 [.ref k, .int v]) [] S w (fun S' w' => S' = S ∧ w' = zfi w k n v) := by
  show Hz l m_Arr_fill_AII 1 0 0 0 0 0 [(0, .ref k), (1, .int v)] [] S w _
  refine Hz.iconst (n := 0) (v := nI 0) (pc' := 1) (by decide +kernel) rfl rfl ?_
  refine Hz.istore_n (q := 2) (pc' := 2) (L' := [(2, .int (nI 0)), (0, .ref k), (1, .int v)]) (by decide +kernel) rfl (by decide) rfl ?_
  refine Hz.aload_n (q := 0) (pc' := 3) (by decide +kernel) rfl 1 rfl ?_
  refine Hz.alen (pc' := 4) (kd := 1) (by decide +kernel) rfl hk ?_
  refine Hz.istore_n (q := 3) (pc' := 5) (L' := [(3, .int (nI n)), (2, .int (nI 0)), (0, .ref k), (1, .int v)]) (by decide +kernel) rfl (by decide) rfl ?_
  refine Hz.sub (L' := [(2, .int (nI 0)), (3, .int (nI n)), (0, .ref k), (1, .int v)]) [1, 0, 2, 3] rfl ?_
  have h := hc_fill_loop (l := l) (w := w) v hk hn n 0 (by omega)
  rw [zfi_0] at h
  exact h
def hs0 : List gSh := [(0, 0, [(4, 0), (4, 0), (4, 0), (4, 0), (4, 0), (4, 0), (4, 0), (4, 0), (4, 0), (4, 0), (4, 0), (1, 0)])]
def hw0 : gW := (fun _ _ => 0, fun _ _ => 0)
theorem ob_i : Cond.instanceMethod objectInit ∈ g_TB := g_in1 30 (by decide +kernel) (by decide +kernel)
theorem ob_c : Cond.code objectInit ⟨#[0xb1]⟩ 1 none ∈ g_TB := g_in1 31 (by decide +kernel) (by decide +kernel)
theorem ac_int : Cond.arrayClass .int ∈ g_TB := g_in1 48 (by decide +kernel) (by decide +kernel)
theorem ac_long : Cond.arrayClass .long ∈ g_TB := g_in1 119 (by decide +kernel) (by decide +kernel)
theorem ac_byte : Cond.arrayClass .byte ∈ g_TB := g_in6 181 (by decide +kernel) (by decide +kernel)
theorem ac_boolean : Cond.arrayClass .boolean ∈ g_TB := g_in1 154 (by decide +kernel) (by decide +kernel)
def m_X_init : gM := (⟨"OathYesterday", "<init>", "()V"⟩, prog_1_method_1_code, 1, none)
theorem ok_m_X_init : h_OkI m_X_init 0 := ⟨g_in1 27 (by decide +kernel) (by decide +kernel), rfl, rfl, g_in1 1 (by decide +kernel) (by decide +kernel), g_in1 28 (by decide +kernel) (by decide +kernel), ⟨by decide +kernel, by decide +kernel, by decide +kernel⟩, by decide +kernel, Nat.le_of_ble_eq_true rfl⟩
def m_Tp_init : gM := (⟨"OathYesterday$Tape", "<init>", "()V"⟩, prog_12_method_1_code, 1, none)
theorem ok_m_Tp_init : h_OkI m_Tp_init 0 := ⟨g_in1 35 (by decide +kernel) (by decide +kernel), rfl, rfl, g_in1 2 (by decide +kernel) (by decide +kernel), g_in1 36 (by decide +kernel) (by decide +kernel), ⟨by decide +kernel, by decide +kernel, by decide +kernel⟩, by decide +kernel, Nat.le_of_ble_eq_true rfl⟩
def m_Rd_init : gM := (⟨"OathYesterday$LandReader", "<init>", "()V"⟩, prog_8_method_1_code, 1, none)
theorem ok_m_Rd_init : h_OkI m_Rd_init 0 := ⟨g_in1 52 (by decide +kernel) (by decide +kernel), rfl, rfl, g_in1 3 (by decide +kernel) (by decide +kernel), g_in1 53 (by decide +kernel) (by decide +kernel), ⟨by decide +kernel, by decide +kernel, by decide +kernel⟩, by decide +kernel, Nat.le_of_ble_eq_true rfl⟩
def m_Oa_init : gM := (⟨"OathYesterday$Oaths", "<init>", "()V"⟩, prog_10_method_1_code, 1, none)
theorem ok_m_Oa_init : h_OkI m_Oa_init 0 := ⟨g_in1 68 (by decide +kernel) (by decide +kernel), rfl, rfl, g_in1 4 (by decide +kernel) (by decide +kernel), g_in1 69 (by decide +kernel) (by decide +kernel), ⟨by decide +kernel, by decide +kernel, by decide +kernel⟩, by decide +kernel, Nat.le_of_ble_eq_true rfl⟩
def m_La_init : gM := (⟨"OathYesterday$Land", "<init>", "()V"⟩, prog_7_method_1_code, 1, none)
theorem ok_m_La_init : h_OkI m_La_init 0 := ⟨g_in1 92 (by decide +kernel) (by decide +kernel), rfl, rfl, g_in1 5 (by decide +kernel) (by decide +kernel), g_in1 93 (by decide +kernel) (by decide +kernel), ⟨by decide +kernel, by decide +kernel, by decide +kernel⟩, by decide +kernel, Nat.le_of_ble_eq_true rfl⟩
def m_An_init : gM := (⟨"OathYesterday$Annals", "<init>", "()V"⟩, prog_2_method_1_code, 1, none)
theorem ok_m_An_init : h_OkI m_An_init 0 := ⟨g_in1 123 (by decide +kernel) (by decide +kernel), rfl, rfl, g_in1 6 (by decide +kernel) (by decide +kernel), g_in1 124 (by decide +kernel) (by decide +kernel), ⟨by decide +kernel, by decide +kernel, by decide +kernel⟩, by decide +kernel, Nat.le_of_ble_eq_true rfl⟩
def m_Co_init : gM := (⟨"OathYesterday$Court", "<init>", "(LOathYesterday$Land;LOathYesterday$Oaths;LOathYesterday$Annals;)V"⟩, prog_5_method_1_code, 4, none)
theorem ok_m_Co_init : h_OkI m_Co_init 3 := ⟨g_in1 158 (by decide +kernel) (by decide +kernel), rfl, rfl, g_in1 8 (by decide +kernel) (by decide +kernel), g_in1 159 (by decide +kernel) (by decide +kernel), ⟨by decide +kernel, by decide +kernel, by decide +kernel⟩, by decide +kernel, Nat.le_of_ble_eq_true rfl⟩
def m_Cs_init : gM := (⟨"OathYesterday$Counsel", "<init>", "(LOathYesterday$Land;LOathYesterday$Oaths;LOathYesterday$Court;)V"⟩, prog_4_method_1_code, 4, none)
theorem ok_m_Cs_init : h_OkI m_Cs_init 3 := ⟨g_in1 187 (by decide +kernel) (by decide +kernel), rfl, rfl, g_in1 9 (by decide +kernel) (by decide +kernel), g_in1 188 (by decide +kernel) (by decide +kernel), ⟨by decide +kernel, by decide +kernel, by decide +kernel⟩, by decide +kernel, Nat.le_of_ble_eq_true rfl⟩
def m_Le_init : gM := (⟨"OathYesterday$Ledger", "<init>", "(LOathYesterday$Land;LOathYesterday$Oaths;LOathYesterday$Annals;LOathYesterday$Court;)V"⟩, prog_9_method_1_code, 5, none)
theorem ok_m_Le_init : h_OkI m_Le_init 4 := ⟨g_in1 210 (by decide +kernel) (by decide +kernel), rfl, rfl, g_in1 10 (by decide +kernel) (by decide +kernel), g_in1 211 (by decide +kernel) (by decide +kernel), ⟨by decide +kernel, by decide +kernel, by decide +kernel⟩, by decide +kernel, Nat.le_of_ble_eq_true rfl⟩
def m_Ch_init : gM := (⟨"OathYesterday$Chances", "<init>", "(LOathYesterday$Land;LOathYesterday$Annals;LOathYesterday$Court;)V"⟩, prog_3_method_1_code, 4, none)
theorem ok_m_Ch_init : h_OkI m_Ch_init 3 := ⟨g_in2 1 (by decide +kernel) (by decide +kernel), rfl, rfl, g_in1 11 (by decide +kernel) (by decide +kernel), g_in2 2 (by decide +kernel) (by decide +kernel), ⟨by decide +kernel, by decide +kernel, by decide +kernel⟩, by decide +kernel, Nat.le_of_ble_eq_true rfl⟩
def m_Ga_init : gM := (⟨"OathYesterday$Game", "<init>", "(LOathYesterday$Oaths;LOathYesterday$Counsel;)V"⟩, prog_6_method_1_code, 3, none)
theorem ok_m_Ga_init : h_OkI m_Ga_init 2 := ⟨g_in2 29 (by decide +kernel) (by decide +kernel), rfl, rfl, g_in1 12 (by decide +kernel) (by decide +kernel), g_in2 30 (by decide +kernel) (by decide +kernel), ⟨by decide +kernel, by decide +kernel, by decide +kernel⟩, by decide +kernel, Nat.le_of_ble_eq_true rfl⟩
def m_M_init : gM := (⟨"OathYesterdayModel", "<init>", "()V"⟩, prog_14_method_1_code, 1, none)
theorem ok_m_M_init : h_OkI m_M_init 0 := ⟨g_in6 186 (by decide +kernel) (by decide +kernel), rfl, rfl, g_in1 13 (by decide +kernel) (by decide +kernel), g_in6 187 (by decide +kernel) (by decide +kernel), ⟨by decide +kernel, by decide +kernel, by decide +kernel⟩, by decide +kernel, Nat.le_of_ble_eq_true rfl⟩
theorem fi_X_12 : g_Fd "OathYesterday" 12 0 0 (.object "OathYesterday$Tape") true := ⟨_, g_T0, 12, g_ty0, rfl, Nat.le_of_ble_eq_true rfl, g_in2 45 (by decide +kernel) (by decide +kernel), g_ws0, g_tyok0, g_nm0, rfl, rfl⟩
theorem fi_X_19 : g_Fd "OathYesterday" 19 0 1 (.object "OathYesterday$LandReader") true := ⟨_, g_T0, 12, g_ty0, rfl, Nat.le_of_ble_eq_true rfl, g_in2 46 (by decide +kernel) (by decide +kernel), g_ws0, g_tyok0, g_nm0, rfl, rfl⟩
theorem fi_X_26 : g_Fd "OathYesterday" 26 0 2 (.object "OathYesterday$Oaths") true := ⟨_, g_T0, 12, g_ty0, rfl, Nat.le_of_ble_eq_true rfl, g_in2 47 (by decide +kernel) (by decide +kernel), g_ws0, g_tyok0, g_nm0, rfl, rfl⟩
theorem fi_X_33 : g_Fd "OathYesterday" 33 0 3 (.object "OathYesterday$Land") true := ⟨_, g_T0, 12, g_ty0, rfl, Nat.le_of_ble_eq_true rfl, g_in2 48 (by decide +kernel) (by decide +kernel), g_ws0, g_tyok0, g_nm0, rfl, rfl⟩
theorem fi_X_40 : g_Fd "OathYesterday" 40 0 4 (.object "OathYesterday$Annals") true := ⟨_, g_T0, 12, g_ty0, rfl, Nat.le_of_ble_eq_true rfl, g_in2 49 (by decide +kernel) (by decide +kernel), g_ws0, g_tyok0, g_nm0, rfl, rfl⟩
theorem fi_X_44 : g_Fd "OathYesterday" 44 0 5 (.object "OathYesterday$Annals") true := ⟨_, g_T0, 12, g_ty0, rfl, Nat.le_of_ble_eq_true rfl, g_in2 50 (by decide +kernel) (by decide +kernel), g_ws0, g_tyok0, g_nm0, rfl, rfl⟩
theorem fi_X_52 : g_Fd "OathYesterday" 52 0 6 (.object "OathYesterday$Court") true := ⟨_, g_T0, 12, g_ty0, rfl, Nat.le_of_ble_eq_true rfl, g_in2 51 (by decide +kernel) (by decide +kernel), g_ws0, g_tyok0, g_nm0, rfl, rfl⟩
theorem fi_X_61 : g_Fd "OathYesterday" 61 0 7 (.object "OathYesterday$Counsel") true := ⟨_, g_T0, 12, g_ty0, rfl, Nat.le_of_ble_eq_true rfl, g_in2 52 (by decide +kernel) (by decide +kernel), g_ws0, g_tyok0, g_nm0, rfl, rfl⟩
theorem fi_X_70 : g_Fd "OathYesterday" 70 0 8 (.object "OathYesterday$Ledger") true := ⟨_, g_T0, 12, g_ty0, rfl, Nat.le_of_ble_eq_true rfl, g_in2 53 (by decide +kernel) (by decide +kernel), g_ws0, g_tyok0, g_nm0, rfl, rfl⟩
theorem fi_X_79 : g_Fd "OathYesterday" 79 0 9 (.object "OathYesterday$Chances") true := ⟨_, g_T0, 12, g_ty0, rfl, Nat.le_of_ble_eq_true rfl, g_in2 54 (by decide +kernel) (by decide +kernel), g_ws0, g_tyok0, g_nm0, rfl, rfl⟩
theorem fi_X_88 : g_Fd "OathYesterday" 88 0 10 (.object "OathYesterday$Game") true := ⟨_, g_T0, 12, g_ty0, rfl, Nat.le_of_ble_eq_true rfl, g_in2 55 (by decide +kernel) (by decide +kernel), g_ws0, g_tyok0, g_nm0, rfl, rfl⟩
theorem fi_X_92 : g_Fd "OathYesterday" 92 0 11 .boolean false := ⟨_, g_T0, 12, g_ty0, rfl, Nat.le_of_ble_eq_true rfl, g_in2 56 (by decide +kernel) (by decide +kernel), g_ws0, g_tyok0, g_nm0, rfl, rfl⟩
theorem fi_An_11 : g_Fd "OathYesterday$Annals" 11 5 0 (.array .int) true := ⟨_, g_T5, 8, g_ty5, rfl, Nat.le_of_ble_eq_true rfl, g_in1 129 (by decide +kernel) (by decide +kernel), g_ws5, g_tyok5, g_nm5, rfl, rfl⟩
theorem fi_An_15 : g_Fd "OathYesterday$Annals" 15 5 1 (.array .int) true := ⟨_, g_T5, 8, g_ty5, rfl, Nat.le_of_ble_eq_true rfl, g_in1 130 (by decide +kernel) (by decide +kernel), g_ws5, g_tyok5, g_nm5, rfl, rfl⟩
theorem fi_An_18 : g_Fd "OathYesterday$Annals" 18 5 2 (.array .int) true := ⟨_, g_T5, 8, g_ty5, rfl, Nat.le_of_ble_eq_true rfl, g_in1 131 (by decide +kernel) (by decide +kernel), g_ws5, g_tyok5, g_nm5, rfl, rfl⟩
theorem fi_An_21 : g_Fd "OathYesterday$Annals" 21 5 3 (.array .boolean) true := ⟨_, g_T5, 8, g_ty5, rfl, Nat.le_of_ble_eq_true rfl, g_in1 132 (by decide +kernel) (by decide +kernel), g_ws5, g_tyok5, g_nm5, rfl, rfl⟩
theorem fi_An_25 : g_Fd "OathYesterday$Annals" 25 5 4 (.array .int) true := ⟨_, g_T5, 8, g_ty5, rfl, Nat.le_of_ble_eq_true rfl, g_in1 133 (by decide +kernel) (by decide +kernel), g_ws5, g_tyok5, g_nm5, rfl, rfl⟩
theorem fi_An_28 : g_Fd "OathYesterday$Annals" 28 5 5 (.array .int) true := ⟨_, g_T5, 8, g_ty5, rfl, Nat.le_of_ble_eq_true rfl, g_in1 134 (by decide +kernel) (by decide +kernel), g_ws5, g_tyok5, g_nm5, rfl, rfl⟩
theorem fi_Ch_9 : g_Fd "OathYesterday$Chances" 9 9 3 (.array .long) true := ⟨_, g_T9, 7, g_ty9, rfl, Nat.le_of_ble_eq_true rfl, g_in2 7 (by decide +kernel) (by decide +kernel), g_ws9, g_tyok9, g_nm9, rfl, rfl⟩
theorem fi_Ch_15 : g_Fd "OathYesterday$Chances" 15 9 4 (.array .long) true := ⟨_, g_T9, 7, g_ty9, rfl, Nat.le_of_ble_eq_true rfl, g_in2 8 (by decide +kernel) (by decide +kernel), g_ws9, g_tyok9, g_nm9, rfl, rfl⟩
theorem fi_Ch_18 : g_Fd "OathYesterday$Chances" 18 9 0 (.object "OathYesterday$Land") true := ⟨_, g_T9, 7, g_ty9, rfl, Nat.le_of_ble_eq_true rfl, g_in2 4 (by decide +kernel) (by decide +kernel), g_ws9, g_tyok9, g_nm9, rfl, rfl⟩
theorem fi_Ch_22 : g_Fd "OathYesterday$Chances" 22 9 1 (.object "OathYesterday$Annals") true := ⟨_, g_T9, 7, g_ty9, rfl, Nat.le_of_ble_eq_true rfl, g_in2 5 (by decide +kernel) (by decide +kernel), g_ws9, g_tyok9, g_nm9, rfl, rfl⟩
theorem fi_Ch_26 : g_Fd "OathYesterday$Chances" 26 9 2 (.object "OathYesterday$Court") true := ⟨_, g_T9, 7, g_ty9, rfl, Nat.le_of_ble_eq_true rfl, g_in2 6 (by decide +kernel) (by decide +kernel), g_ws9, g_tyok9, g_nm9, rfl, rfl⟩
theorem fi_Cs_9 : g_Fd "OathYesterday$Counsel" 9 7 3 (.array .long) true := ⟨_, g_T7, 5, g_ty7, rfl, Nat.le_of_ble_eq_true rfl, g_in1 194 (by decide +kernel) (by decide +kernel), g_ws7, g_tyok7, g_nm7, rfl, rfl⟩
theorem fi_Cs_17 : g_Fd "OathYesterday$Counsel" 17 7 4 (.array (.array .long)) true := ⟨_, g_T7, 5, g_ty7, rfl, Nat.le_of_ble_eq_true rfl, g_in1 195 (by decide +kernel) (by decide +kernel), g_ws7, g_tyok7, g_nm7, rfl, rfl⟩
theorem fi_Cs_20 : g_Fd "OathYesterday$Counsel" 20 7 0 (.object "OathYesterday$Land") true := ⟨_, g_T7, 5, g_ty7, rfl, Nat.le_of_ble_eq_true rfl, g_in1 191 (by decide +kernel) (by decide +kernel), g_ws7, g_tyok7, g_nm7, rfl, rfl⟩
theorem fi_Cs_24 : g_Fd "OathYesterday$Counsel" 24 7 1 (.object "OathYesterday$Oaths") true := ⟨_, g_T7, 5, g_ty7, rfl, Nat.le_of_ble_eq_true rfl, g_in1 192 (by decide +kernel) (by decide +kernel), g_ws7, g_tyok7, g_nm7, rfl, rfl⟩
theorem fi_Cs_28 : g_Fd "OathYesterday$Counsel" 28 7 2 (.object "OathYesterday$Court") true := ⟨_, g_T7, 5, g_ty7, rfl, Nat.le_of_ble_eq_true rfl, g_in1 193 (by decide +kernel) (by decide +kernel), g_ws7, g_tyok7, g_nm7, rfl, rfl⟩
theorem fi_Co_11 : g_Fd "OathYesterday$Court" 11 6 3 (.array .long) true := ⟨_, g_T6, 7, g_ty6, rfl, Nat.le_of_ble_eq_true rfl, g_in1 165 (by decide +kernel) (by decide +kernel), g_ws6, g_tyok6, g_nm6, rfl, rfl⟩
theorem fi_Co_15 : g_Fd "OathYesterday$Court" 15 6 4 (.array .long) true := ⟨_, g_T6, 7, g_ty6, rfl, Nat.le_of_ble_eq_true rfl, g_in1 166 (by decide +kernel) (by decide +kernel), g_ws6, g_tyok6, g_nm6, rfl, rfl⟩
theorem fi_Co_18 : g_Fd "OathYesterday$Court" 18 6 5 (.array .long) true := ⟨_, g_T6, 7, g_ty6, rfl, Nat.le_of_ble_eq_true rfl, g_in1 167 (by decide +kernel) (by decide +kernel), g_ws6, g_tyok6, g_nm6, rfl, rfl⟩
theorem fi_Co_23 : g_Fd "OathYesterday$Court" 23 6 6 (.array (.array .long)) true := ⟨_, g_T6, 7, g_ty6, rfl, Nat.le_of_ble_eq_true rfl, g_in1 168 (by decide +kernel) (by decide +kernel), g_ws6, g_tyok6, g_nm6, rfl, rfl⟩
theorem fi_Co_26 : g_Fd "OathYesterday$Court" 26 6 0 (.object "OathYesterday$Land") true := ⟨_, g_T6, 7, g_ty6, rfl, Nat.le_of_ble_eq_true rfl, g_in1 162 (by decide +kernel) (by decide +kernel), g_ws6, g_tyok6, g_nm6, rfl, rfl⟩
theorem fi_Co_30 : g_Fd "OathYesterday$Court" 30 6 1 (.object "OathYesterday$Oaths") true := ⟨_, g_T6, 7, g_ty6, rfl, Nat.le_of_ble_eq_true rfl, g_in1 163 (by decide +kernel) (by decide +kernel), g_ws6, g_tyok6, g_nm6, rfl, rfl⟩
theorem fi_Co_34 : g_Fd "OathYesterday$Court" 34 6 2 (.object "OathYesterday$Annals") true := ⟨_, g_T6, 7, g_ty6, rfl, Nat.le_of_ble_eq_true rfl, g_in1 164 (by decide +kernel) (by decide +kernel), g_ws6, g_tyok6, g_nm6, rfl, rfl⟩
theorem fi_Ga_9 : g_Fd "OathYesterday$Game" 9 10 2 (.array .int) true := ⟨_, g_T10, 4, g_ty10, rfl, Nat.le_of_ble_eq_true rfl, g_in2 34 (by decide +kernel) (by decide +kernel), g_ws10, g_tyok10, g_nm10, rfl, rfl⟩
theorem fi_Ga_15 : g_Fd "OathYesterday$Game" 15 10 0 (.object "OathYesterday$Oaths") true := ⟨_, g_T10, 4, g_ty10, rfl, Nat.le_of_ble_eq_true rfl, g_in2 32 (by decide +kernel) (by decide +kernel), g_ws10, g_tyok10, g_nm10, rfl, rfl⟩
theorem fi_Ga_19 : g_Fd "OathYesterday$Game" 19 10 1 (.object "OathYesterday$Counsel") true := ⟨_, g_T10, 4, g_ty10, rfl, Nat.le_of_ble_eq_true rfl, g_in2 33 (by decide +kernel) (by decide +kernel), g_ws10, g_tyok10, g_nm10, rfl, rfl⟩
theorem fi_La_11 : g_Fd "OathYesterday$Land" 11 4 0 (.array .int) true := ⟨_, g_T4, 7, g_ty4, rfl, Nat.le_of_ble_eq_true rfl, g_in1 97 (by decide +kernel) (by decide +kernel), g_ws4, g_tyok4, g_nm4, rfl, rfl⟩
theorem fi_La_17 : g_Fd "OathYesterday$Land" 17 4 1 (.array .int) true := ⟨_, g_T4, 7, g_ty4, rfl, Nat.le_of_ble_eq_true rfl, g_in1 98 (by decide +kernel) (by decide +kernel), g_ws4, g_tyok4, g_nm4, rfl, rfl⟩
theorem fi_La_20 : g_Fd "OathYesterday$Land" 20 4 2 (.array .int) true := ⟨_, g_T4, 7, g_ty4, rfl, Nat.le_of_ble_eq_true rfl, g_in1 99 (by decide +kernel) (by decide +kernel), g_ws4, g_tyok4, g_nm4, rfl, rfl⟩
theorem fi_La_25 : g_Fd "OathYesterday$Land" 25 4 3 (.array (.array .long)) true := ⟨_, g_T4, 7, g_ty4, rfl, Nat.le_of_ble_eq_true rfl, g_in1 100 (by decide +kernel) (by decide +kernel), g_ws4, g_tyok4, g_nm4, rfl, rfl⟩
theorem fi_Rd_11 : g_Fd "OathYesterday$LandReader" 11 2 0 (.array .int) true := ⟨_, g_T2, 3, g_ty2, rfl, Nat.le_of_ble_eq_true rfl, g_in1 55 (by decide +kernel) (by decide +kernel), g_ws2, g_tyok2, g_nm2, rfl, rfl⟩
theorem fi_Le_9 : g_Fd "OathYesterday$Ledger" 9 8 4 (.array .long) true := ⟨_, g_T8, 8, g_ty8, rfl, Nat.le_of_ble_eq_true rfl, g_in1 217 (by decide +kernel) (by decide +kernel), g_ws8, g_tyok8, g_nm8, rfl, rfl⟩
theorem fi_Le_15 : g_Fd "OathYesterday$Ledger" 15 8 5 (.array .long) true := ⟨_, g_T8, 8, g_ty8, rfl, Nat.le_of_ble_eq_true rfl, g_in1 218 (by decide +kernel) (by decide +kernel), g_ws8, g_tyok8, g_nm8, rfl, rfl⟩
theorem fi_Le_18 : g_Fd "OathYesterday$Ledger" 18 8 0 (.object "OathYesterday$Land") true := ⟨_, g_T8, 8, g_ty8, rfl, Nat.le_of_ble_eq_true rfl, g_in1 213 (by decide +kernel) (by decide +kernel), g_ws8, g_tyok8, g_nm8, rfl, rfl⟩
theorem fi_Le_22 : g_Fd "OathYesterday$Ledger" 22 8 1 (.object "OathYesterday$Oaths") true := ⟨_, g_T8, 8, g_ty8, rfl, Nat.le_of_ble_eq_true rfl, g_in1 214 (by decide +kernel) (by decide +kernel), g_ws8, g_tyok8, g_nm8, rfl, rfl⟩
theorem fi_Le_26 : g_Fd "OathYesterday$Ledger" 26 8 2 (.object "OathYesterday$Annals") true := ⟨_, g_T8, 8, g_ty8, rfl, Nat.le_of_ble_eq_true rfl, g_in1 215 (by decide +kernel) (by decide +kernel), g_ws8, g_tyok8, g_nm8, rfl, rfl⟩
theorem fi_Le_30 : g_Fd "OathYesterday$Ledger" 30 8 3 (.object "OathYesterday$Court") true := ⟨_, g_T8, 8, g_ty8, rfl, Nat.le_of_ble_eq_true rfl, g_in1 216 (by decide +kernel) (by decide +kernel), g_ws8, g_tyok8, g_nm8, rfl, rfl⟩
theorem fi_Oa_11 : g_Fd "OathYesterday$Oaths" 11 3 0 (.array (.array .int)) true := ⟨_, g_T3, 5, g_ty3, rfl, Nat.le_of_ble_eq_true rfl, g_in1 73 (by decide +kernel) (by decide +kernel), g_ws3, g_tyok3, g_nm3, rfl, rfl⟩
theorem fi_Oa_16 : g_Fd "OathYesterday$Oaths" 16 3 1 (.array .int) true := ⟨_, g_T3, 5, g_ty3, rfl, Nat.le_of_ble_eq_true rfl, g_in1 74 (by decide +kernel) (by decide +kernel), g_ws3, g_tyok3, g_nm3, rfl, rfl⟩
theorem fi_Oa_20 : g_Fd "OathYesterday$Oaths" 20 3 2 (.array .int) true := ⟨_, g_T3, 5, g_ty3, rfl, Nat.le_of_ble_eq_true rfl, g_in1 75 (by decide +kernel) (by decide +kernel), g_ws3, g_tyok3, g_nm3, rfl, rfl⟩
theorem fi_Oa_23 : g_Fd "OathYesterday$Oaths" 23 3 3 (.array .int) true := ⟨_, g_T3, 5, g_ty3, rfl, Nat.le_of_ble_eq_true rfl, g_in1 76 (by decide +kernel) (by decide +kernel), g_ws3, g_tyok3, g_nm3, rfl, rfl⟩
theorem fi_Tp_9 : g_Fd "OathYesterday$Tape" 9 1 0 (.array .int) true := ⟨_, g_T1, 3, g_ty1, rfl, Nat.le_of_ble_eq_true rfl, g_in1 38 (by decide +kernel) (by decide +kernel), g_ws1, g_tyok1, g_nm1, rfl, rfl⟩
theorem fi_M_9 : g_Fd "OathYesterdayModel" 9 11 1 (.array .byte) true := ⟨_, g_T11, 59, g_ty11, rfl, Nat.le_of_ble_eq_true rfl, g_in6 190 (by decide +kernel) (by decide +kernel), g_ws11, g_tyok11, g_nm11, rfl, rfl⟩
theorem fi_M_13 : g_Fd "OathYesterdayModel" 13 11 2 (.array .byte) true := ⟨_, g_T11, 59, g_ty11, rfl, Nat.le_of_ble_eq_true rfl, g_in6 191 (by decide +kernel) (by decide +kernel), g_ws11, g_tyok11, g_nm11, rfl, rfl⟩
theorem fi_M_16 : g_Fd "OathYesterdayModel" 16 11 3 (.array .int) true := ⟨_, g_T11, 59, g_ty11, rfl, Nat.le_of_ble_eq_true rfl, g_in6 192 (by decide +kernel) (by decide +kernel), g_ws11, g_tyok11, g_nm11, rfl, rfl⟩
theorem fi_M_20 : g_Fd "OathYesterdayModel" 20 11 4 (.array .byte) false := ⟨_, g_T11, 59, g_ty11, rfl, Nat.le_of_ble_eq_true rfl, g_in6 193 (by decide +kernel) (by decide +kernel), g_ws11, g_tyok11, g_nm11, rfl, rfl⟩
theorem fi_M_23 : g_Fd "OathYesterdayModel" 23 11 12 (.array .int) true := ⟨_, g_T11, 59, g_ty11, rfl, Nat.le_of_ble_eq_true rfl, g_in6 201 (by decide +kernel) (by decide +kernel), g_ws11, g_tyok11, g_nm11, rfl, rfl⟩
theorem fi_M_26 : g_Fd "OathYesterdayModel" 26 11 15 (.array .int) true := ⟨_, g_T11, 59, g_ty11, rfl, Nat.le_of_ble_eq_true rfl, g_in6 204 (by decide +kernel) (by decide +kernel), g_ws11, g_tyok11, g_nm11, rfl, rfl⟩
theorem fi_M_29 : g_Fd "OathYesterdayModel" 29 11 16 (.array .int) true := ⟨_, g_T11, 59, g_ty11, rfl, Nat.le_of_ble_eq_true rfl, g_in6 205 (by decide +kernel) (by decide +kernel), g_ws11, g_tyok11, g_nm11, rfl, rfl⟩
theorem fi_M_32 : g_Fd "OathYesterdayModel" 32 11 17 (.array .int) true := ⟨_, g_T11, 59, g_ty11, rfl, Nat.le_of_ble_eq_true rfl, g_in6 206 (by decide +kernel) (by decide +kernel), g_ws11, g_tyok11, g_nm11, rfl, rfl⟩
theorem fi_M_35 : g_Fd "OathYesterdayModel" 35 11 18 (.array .int) true := ⟨_, g_T11, 59, g_ty11, rfl, Nat.le_of_ble_eq_true rfl, g_in6 207 (by decide +kernel) (by decide +kernel), g_ws11, g_tyok11, g_nm11, rfl, rfl⟩
theorem fi_M_38 : g_Fd "OathYesterdayModel" 38 11 19 (.array .int) true := ⟨_, g_T11, 59, g_ty11, rfl, Nat.le_of_ble_eq_true rfl, g_in6 208 (by decide +kernel) (by decide +kernel), g_ws11, g_tyok11, g_nm11, rfl, rfl⟩
theorem fi_M_41 : g_Fd "OathYesterdayModel" 41 11 20 (.array .int) true := ⟨_, g_T11, 59, g_ty11, rfl, Nat.le_of_ble_eq_true rfl, g_in6 209 (by decide +kernel) (by decide +kernel), g_ws11, g_tyok11, g_nm11, rfl, rfl⟩
theorem fi_M_44 : g_Fd "OathYesterdayModel" 44 11 25 (.array .int) true := ⟨_, g_T11, 59, g_ty11, rfl, Nat.le_of_ble_eq_true rfl, g_in6 214 (by decide +kernel) (by decide +kernel), g_ws11, g_tyok11, g_nm11, rfl, rfl⟩
theorem fi_M_47 : g_Fd "OathYesterdayModel" 47 11 27 (.array .int) true := ⟨_, g_T11, 59, g_ty11, rfl, Nat.le_of_ble_eq_true rfl, g_in6 216 (by decide +kernel) (by decide +kernel), g_ws11, g_tyok11, g_nm11, rfl, rfl⟩
theorem fi_M_50 : g_Fd "OathYesterdayModel" 50 11 28 (.array .int) true := ⟨_, g_T11, 59, g_ty11, rfl, Nat.le_of_ble_eq_true rfl, g_in6 217 (by decide +kernel) (by decide +kernel), g_ws11, g_tyok11, g_nm11, rfl, rfl⟩
theorem fi_M_53 : g_Fd "OathYesterdayModel" 53 11 29 (.array .int) true := ⟨_, g_T11, 59, g_ty11, rfl, Nat.le_of_ble_eq_true rfl, g_in6 218 (by decide +kernel) (by decide +kernel), g_ws11, g_tyok11, g_nm11, rfl, rfl⟩
theorem fi_M_56 : g_Fd "OathYesterdayModel" 56 11 30 (.array .int) true := ⟨_, g_T11, 59, g_ty11, rfl, Nat.le_of_ble_eq_true rfl, g_in6 219 (by decide +kernel) (by decide +kernel), g_ws11, g_tyok11, g_nm11, rfl, rfl⟩
theorem fi_M_59 : g_Fd "OathYesterdayModel" 59 11 31 (.array .int) true := ⟨_, g_T11, 59, g_ty11, rfl, Nat.le_of_ble_eq_true rfl, g_in6 220 (by decide +kernel) (by decide +kernel), g_ws11, g_tyok11, g_nm11, rfl, rfl⟩
theorem fi_M_62 : g_Fd "OathYesterdayModel" 62 11 32 (.array .int) true := ⟨_, g_T11, 59, g_ty11, rfl, Nat.le_of_ble_eq_true rfl, g_in6 221 (by decide +kernel) (by decide +kernel), g_ws11, g_tyok11, g_nm11, rfl, rfl⟩
theorem fi_M_65 : g_Fd "OathYesterdayModel" 65 11 33 (.array .boolean) true := ⟨_, g_T11, 59, g_ty11, rfl, Nat.le_of_ble_eq_true rfl, g_in6 222 (by decide +kernel) (by decide +kernel), g_ws11, g_tyok11, g_nm11, rfl, rfl⟩
theorem fi_M_69 : g_Fd "OathYesterdayModel" 69 11 34 (.array .boolean) true := ⟨_, g_T11, 59, g_ty11, rfl, Nat.le_of_ble_eq_true rfl, g_in6 223 (by decide +kernel) (by decide +kernel), g_ws11, g_tyok11, g_nm11, rfl, rfl⟩
theorem fi_M_72 : g_Fd "OathYesterdayModel" 72 11 38 (.array .int) true := ⟨_, g_T11, 59, g_ty11, rfl, Nat.le_of_ble_eq_true rfl, g_in6 227 (by decide +kernel) (by decide +kernel), g_ws11, g_tyok11, g_nm11, rfl, rfl⟩
theorem fi_M_75 : g_Fd "OathYesterdayModel" 75 11 45 (.array .int) true := ⟨_, g_T11, 59, g_ty11, rfl, Nat.le_of_ble_eq_true rfl, g_in6 234 (by decide +kernel) (by decide +kernel), g_ws11, g_tyok11, g_nm11, rfl, rfl⟩
theorem fi_M_78 : g_Fd "OathYesterdayModel" 78 11 49 (.array .int) true := ⟨_, g_T11, 59, g_ty11, rfl, Nat.le_of_ble_eq_true rfl, g_in6 238 (by decide +kernel) (by decide +kernel), g_ws11, g_tyok11, g_nm11, rfl, rfl⟩
theorem fi_M_81 : g_Fd "OathYesterdayModel" 81 11 50 (.array .boolean) true := ⟨_, g_T11, 59, g_ty11, rfl, Nat.le_of_ble_eq_true rfl, g_in6 239 (by decide +kernel) (by decide +kernel), g_ws11, g_tyok11, g_nm11, rfl, rfl⟩
theorem fi_M_84 : g_Fd "OathYesterdayModel" 84 11 51 (.array .int) true := ⟨_, g_T11, 59, g_ty11, rfl, Nat.le_of_ble_eq_true rfl, g_in7 0 (by decide +kernel) (by decide +kernel), g_ws11, g_tyok11, g_nm11, rfl, rfl⟩
theorem fi_M_87 : g_Fd "OathYesterdayModel" 87 11 52 (.array .int) true := ⟨_, g_T11, 59, g_ty11, rfl, Nat.le_of_ble_eq_true rfl, g_in7 1 (by decide +kernel) (by decide +kernel), g_ws11, g_tyok11, g_nm11, rfl, rfl⟩
theorem fi_M_90 : g_Fd "OathYesterdayModel" 90 11 53 (.array .boolean) true := ⟨_, g_T11, 59, g_ty11, rfl, Nat.le_of_ble_eq_true rfl, g_in7 2 (by decide +kernel) (by decide +kernel), g_ws11, g_tyok11, g_nm11, rfl, rfl⟩
theorem fi_M_93 : g_Fd "OathYesterdayModel" 93 11 54 (.array .boolean) true := ⟨_, g_T11, 59, g_ty11, rfl, Nat.le_of_ble_eq_true rfl, g_in7 3 (by decide +kernel) (by decide +kernel), g_ws11, g_tyok11, g_nm11, rfl, rfl⟩
def hs1 : List gSh := hs0 ++ [(0, 1, [(4, 0), (1, 0), (1, 0)])]
def hs2 : List gSh := hs1 ++ [(1, 120, [])]
def hs3 : List gSh := hs2.set 1 (0, 1, [(0, 2), (1, 0), (1, 0)])
def hs4 : List gSh := hs3.set 0 (0, 0, [(0, 1), (4, 0), (4, 0), (4, 0), (4, 0), (4, 0), (4, 0), (4, 0), (4, 0), (4, 0), (4, 0), (1, 0)])
def hs5 : List gSh := hs4 ++ [(0, 2, [(4, 0), (1, 0), (1, 0)])]
def hs6 : List gSh := hs5 ++ [(1, 15, [])]
def hs7 : List gSh := hs6.set 3 (0, 2, [(0, 4), (1, 0), (1, 0)])
def hs8 : List gSh := hs7.set 0 (0, 0, [(0, 1), (0, 3), (4, 0), (4, 0), (4, 0), (4, 0), (4, 0), (4, 0), (4, 0), (4, 0), (4, 0), (1, 0)])
def hs9 : List gSh := hs8 ++ [(0, 3, [(4, 0), (4, 0), (4, 0), (4, 0), (1, 0)])]
def hs10 : List gSh := hs9 ++ (5, 9, []) :: List.replicate 9 (1, 120, [])
def hs11 : List gSh := hs10.set 5 (0, 3, [(0, 6), (4, 0), (4, 0), (4, 0), (1, 0)])
def hs12 : List gSh := hs11 ++ [(1, 9, [])]
def hs13 : List gSh := hs12.set 5 (0, 3, [(0, 6), (0, 16), (4, 0), (4, 0), (1, 0)])
def hs14 : List gSh := hs13 ++ [(1, 9, [])]
def hs15 : List gSh := hs14.set 5 (0, 3, [(0, 6), (0, 16), (0, 17), (4, 0), (1, 0)])
def hs16 : List gSh := hs15 ++ [(1, 8, [])]
def hs17 : List gSh := hs16.set 5 (0, 3, [(0, 6), (0, 16), (0, 17), (0, 18), (1, 0)])
def hs18 : List gSh := hs17.set 0 (0, 0, [(0, 1), (0, 3), (0, 5), (4, 0), (4, 0), (4, 0), (4, 0), (4, 0), (4, 0), (4, 0), (4, 0), (1, 0)])
def hs19 : List gSh := hs18 ++ [(0, 4, [(4, 0), (4, 0), (4, 0), (4, 0), (1, 0), (1, 0), (1, 0)])]
def hs20 : List gSh := hs19 ++ [(1, 15, [])]
def hs21 : List gSh := hs20.set 19 (0, 4, [(0, 20), (4, 0), (4, 0), (4, 0), (1, 0), (1, 0), (1, 0)])
def hs22 : List gSh := hs21 ++ [(1, 5, [])]
def hs23 : List gSh := hs22.set 19 (0, 4, [(0, 20), (0, 21), (4, 0), (4, 0), (1, 0), (1, 0), (1, 0)])
def hs24 : List gSh := hs23 ++ [(1, 5, [])]
def hs25 : List gSh := hs24.set 19 (0, 4, [(0, 20), (0, 21), (0, 22), (4, 0), (1, 0), (1, 0), (1, 0)])
def hs26 : List gSh := hs25 ++ (6, 35, []) :: List.replicate 35 (2, 263, [])
def hs27 : List gSh := hs26.set 19 (0, 4, [(0, 20), (0, 21), (0, 22), (0, 23), (1, 0), (1, 0), (1, 0)])
def hs28 : List gSh := hs27.set 0 (0, 0, [(0, 1), (0, 3), (0, 5), (0, 19), (4, 0), (4, 0), (4, 0), (4, 0), (4, 0), (4, 0), (4, 0), (1, 0)])
def hs29 : List gSh := hs28 ++ [(0, 5, [(4, 0), (4, 0), (4, 0), (4, 0), (4, 0), (4, 0), (1, 0), (1, 0)])]
def hs30 : List gSh := hs29 ++ [(1, 40, [])]
def hs31 : List gSh := hs30.set 59 (0, 5, [(0, 60), (4, 0), (4, 0), (4, 0), (4, 0), (4, 0), (1, 0), (1, 0)])
def hs32 : List gSh := hs31 ++ [(1, 20, [])]
def hs33 : List gSh := hs32.set 59 (0, 5, [(0, 60), (0, 61), (4, 0), (4, 0), (4, 0), (4, 0), (1, 0), (1, 0)])
def hs34 : List gSh := hs33 ++ [(1, 20, [])]
def hs35 : List gSh := hs34.set 59 (0, 5, [(0, 60), (0, 61), (0, 62), (4, 0), (4, 0), (4, 0), (1, 0), (1, 0)])
def hs36 : List gSh := hs35 ++ [(4, 20, [])]
def hs37 : List gSh := hs36.set 59 (0, 5, [(0, 60), (0, 61), (0, 62), (0, 63), (4, 0), (4, 0), (1, 0), (1, 0)])
def hs38 : List gSh := hs37 ++ [(1, 30, [])]
def hs39 : List gSh := hs38.set 59 (0, 5, [(0, 60), (0, 61), (0, 62), (0, 63), (0, 64), (4, 0), (1, 0), (1, 0)])
def hs40 : List gSh := hs39 ++ [(1, 50, [])]
def hs41 : List gSh := hs40.set 59 (0, 5, [(0, 60), (0, 61), (0, 62), (0, 63), (0, 64), (0, 65), (1, 0), (1, 0)])
def hw1 : gW := zfi hw0 65 50 (1 : Int32)
def hs42 : List gSh := hs41.set 0 (0, 0, [(0, 1), (0, 3), (0, 5), (0, 19), (0, 59), (4, 0), (4, 0), (4, 0), (4, 0), (4, 0), (4, 0), (1, 0)])
def hs43 : List gSh := hs42 ++ [(0, 5, [(4, 0), (4, 0), (4, 0), (4, 0), (4, 0), (4, 0), (1, 0), (1, 0)])]
def hs44 : List gSh := hs43 ++ [(1, 40, [])]
def hs45 : List gSh := hs44.set 66 (0, 5, [(0, 67), (4, 0), (4, 0), (4, 0), (4, 0), (4, 0), (1, 0), (1, 0)])
def hs46 : List gSh := hs45 ++ [(1, 20, [])]
def hs47 : List gSh := hs46.set 66 (0, 5, [(0, 67), (0, 68), (4, 0), (4, 0), (4, 0), (4, 0), (1, 0), (1, 0)])
def hs48 : List gSh := hs47 ++ [(1, 20, [])]
def hs49 : List gSh := hs48.set 66 (0, 5, [(0, 67), (0, 68), (0, 69), (4, 0), (4, 0), (4, 0), (1, 0), (1, 0)])
def hs50 : List gSh := hs49 ++ [(4, 20, [])]
def hs51 : List gSh := hs50.set 66 (0, 5, [(0, 67), (0, 68), (0, 69), (0, 70), (4, 0), (4, 0), (1, 0), (1, 0)])
def hs52 : List gSh := hs51 ++ [(1, 30, [])]
def hs53 : List gSh := hs52.set 66 (0, 5, [(0, 67), (0, 68), (0, 69), (0, 70), (0, 71), (4, 0), (1, 0), (1, 0)])
def hs54 : List gSh := hs53 ++ [(1, 50, [])]
def hs55 : List gSh := hs54.set 66 (0, 5, [(0, 67), (0, 68), (0, 69), (0, 70), (0, 71), (0, 72), (1, 0), (1, 0)])
def hw2 : gW := zfi hw1 72 50 (1 : Int32)
def hs56 : List gSh := hs55.set 0 (0, 0, [(0, 1), (0, 3), (0, 5), (0, 19), (0, 59), (0, 66), (4, 0), (4, 0), (4, 0), (4, 0), (4, 0), (1, 0)])
def hs57 : List gSh := hs56 ++ [(0, 6, [(4, 0), (4, 0), (4, 0), (4, 0), (4, 0), (4, 0), (4, 0)])]
def hs58 : List gSh := hs57 ++ [(2, 16, [])]
def hs59 : List gSh := hs58.set 73 (0, 6, [(4, 0), (4, 0), (4, 0), (0, 74), (4, 0), (4, 0), (4, 0)])
def hs60 : List gSh := hs59 ++ [(2, 263, [])]
def hs61 : List gSh := hs60.set 73 (0, 6, [(4, 0), (4, 0), (4, 0), (0, 74), (0, 75), (4, 0), (4, 0)])
def hs62 : List gSh := hs61 ++ [(2, 263, [])]
def hs63 : List gSh := hs62.set 73 (0, 6, [(4, 0), (4, 0), (4, 0), (0, 74), (0, 75), (0, 76), (4, 0)])
def hs64 : List gSh := hs63 ++ (6, 10, []) :: List.replicate 10 (2, 263, [])
def hs65 : List gSh := hs64.set 73 (0, 6, [(4, 0), (4, 0), (4, 0), (0, 74), (0, 75), (0, 76), (0, 77)])
def hs66 : List gSh := hs65.set 73 (0, 6, [(0, 19), (4, 0), (4, 0), (0, 74), (0, 75), (0, 76), (0, 77)])
def hs67 : List gSh := hs66.set 73 (0, 6, [(0, 19), (0, 5), (4, 0), (0, 74), (0, 75), (0, 76), (0, 77)])
def hs68 : List gSh := hs67.set 73 (0, 6, [(0, 19), (0, 5), (0, 59), (0, 74), (0, 75), (0, 76), (0, 77)])
def hs69 : List gSh := hs68.set 0 (0, 0, [(0, 1), (0, 3), (0, 5), (0, 19), (0, 59), (0, 66), (0, 73), (4, 0), (4, 0), (4, 0), (4, 0), (1, 0)])
def hs70 : List gSh := hs69 ++ [(0, 7, [(4, 0), (4, 0), (4, 0), (4, 0), (4, 0)])]
def hs71 : List gSh := hs70 ++ [(2, 9, [])]
def hs72 : List gSh := hs71.set 88 (0, 7, [(4, 0), (4, 0), (4, 0), (0, 89), (4, 0)])
def hs73 : List gSh := hs72 ++ (6, 8, []) :: List.replicate 8 (2, 263, [])
def hs74 : List gSh := hs73.set 88 (0, 7, [(4, 0), (4, 0), (4, 0), (0, 89), (0, 90)])
def hs75 : List gSh := hs74.set 88 (0, 7, [(0, 19), (4, 0), (4, 0), (0, 89), (0, 90)])
def hs76 : List gSh := hs75.set 88 (0, 7, [(0, 19), (0, 5), (4, 0), (0, 89), (0, 90)])
def hs77 : List gSh := hs76.set 88 (0, 7, [(0, 19), (0, 5), (0, 73), (0, 89), (0, 90)])
def hs78 : List gSh := hs77.set 0 (0, 0, [(0, 1), (0, 3), (0, 5), (0, 19), (0, 59), (0, 66), (0, 73), (0, 88), (4, 0), (4, 0), (4, 0), (1, 0)])
def hs79 : List gSh := hs78 ++ [(0, 8, [(4, 0), (4, 0), (4, 0), (4, 0), (4, 0), (4, 0), (1, 0), (1, 0)])]
def hs80 : List gSh := hs79 ++ [(2, 10, [])]
def hs81 : List gSh := hs80.set 99 (0, 8, [(4, 0), (4, 0), (4, 0), (4, 0), (0, 100), (4, 0), (1, 0), (1, 0)])
def hs82 : List gSh := hs81 ++ [(2, 263, [])]
def hs83 : List gSh := hs82.set 99 (0, 8, [(4, 0), (4, 0), (4, 0), (4, 0), (0, 100), (0, 101), (1, 0), (1, 0)])
def hs84 : List gSh := hs83.set 99 (0, 8, [(0, 19), (4, 0), (4, 0), (4, 0), (0, 100), (0, 101), (1, 0), (1, 0)])
def hs85 : List gSh := hs84.set 99 (0, 8, [(0, 19), (0, 5), (4, 0), (4, 0), (0, 100), (0, 101), (1, 0), (1, 0)])
def hs86 : List gSh := hs85.set 99 (0, 8, [(0, 19), (0, 5), (0, 59), (4, 0), (0, 100), (0, 101), (1, 0), (1, 0)])
def hs87 : List gSh := hs86.set 99 (0, 8, [(0, 19), (0, 5), (0, 59), (0, 73), (0, 100), (0, 101), (1, 0), (1, 0)])
def hs88 : List gSh := hs87.set 0 (0, 0, [(0, 1), (0, 3), (0, 5), (0, 19), (0, 59), (0, 66), (0, 73), (0, 88), (0, 99), (4, 0), (4, 0), (1, 0)])
def hs89 : List gSh := hs88 ++ [(0, 9, [(4, 0), (4, 0), (4, 0), (4, 0), (4, 0), (2, 0), (1, 0)])]
def hs90 : List gSh := hs89 ++ [(2, 9, [])]
def hs91 : List gSh := hs90.set 102 (0, 9, [(4, 0), (4, 0), (4, 0), (0, 103), (4, 0), (2, 0), (1, 0)])
def hs92 : List gSh := hs91 ++ [(2, 263, [])]
def hs93 : List gSh := hs92.set 102 (0, 9, [(4, 0), (4, 0), (4, 0), (0, 103), (0, 104), (2, 0), (1, 0)])
def hs94 : List gSh := hs93.set 102 (0, 9, [(0, 19), (4, 0), (4, 0), (0, 103), (0, 104), (2, 0), (1, 0)])
def hs95 : List gSh := hs94.set 102 (0, 9, [(0, 19), (0, 59), (4, 0), (0, 103), (0, 104), (2, 0), (1, 0)])
def hs96 : List gSh := hs95.set 102 (0, 9, [(0, 19), (0, 59), (0, 73), (0, 103), (0, 104), (2, 0), (1, 0)])
def hs97 : List gSh := hs96.set 0 (0, 0, [(0, 1), (0, 3), (0, 5), (0, 19), (0, 59), (0, 66), (0, 73), (0, 88), (0, 99), (0, 102), (4, 0), (1, 0)])
def hs98 : List gSh := hs97 ++ [(0, 10, [(4, 0), (4, 0), (4, 0), (1, 0)])]
def hs99 : List gSh := hs98 ++ [(1, 9, [])]
def hs100 : List gSh := hs99.set 105 (0, 10, [(4, 0), (4, 0), (0, 106), (1, 0)])
def hs101 : List gSh := hs100.set 105 (0, 10, [(0, 5), (4, 0), (0, 106), (1, 0)])
def hs102 : List gSh := hs101.set 105 (0, 10, [(0, 5), (0, 88), (0, 106), (1, 0)])
def hs103 : List gSh := hs102.set 0 (0, 0, [(0, 1), (0, 3), (0, 5), (0, 19), (0, 59), (0, 66), (0, 73), (0, 88), (0, 99), (0, 102), (0, 105), (1, 0)])
def hs104 : List gSh := hs103.set 0 (0, 0, [(0, 1), (0, 3), (0, 5), (0, 19), (0, 59), (0, 66), (0, 73), (0, 88), (0, 99), (0, 102), (0, 105), (1, 0)])
def hw3 : gW := zsI hw2 0 11 0
def hs105 : List gSh := hs104 ++ [(0, 11, [(1, 0), (4, 0), (4, 0), (4, 0), (4, 0), (1, 0), (1, 0), (1, 0), (1, 0), (1, 0), (1, 0), (1, 0), (4, 0), (1, 0), (1, 0), (4, 0), (4, 0), (4, 0), (4, 0), (4, 0), (4, 0), (1, 0), (1, 0), (1, 0), (1, 0), (4, 0), (1, 0), (4, 0), (4, 0), (4, 0), (4, 0), (4, 0), (4, 0), (4, 0), (4, 0), (1, 0), (1, 0), (1, 0), (4, 0), (1, 0), (1, 0), (1, 0), (1, 0), (1, 0), (1, 0), (4, 0), (1, 0), (1, 0), (1, 0), (4, 0), (4, 0), (4, 0), (4, 0), (4, 0), (4, 0), (1, 0), (1, 0), (1, 0), (1, 0)])]
def hs106 : List gSh := hs105 ++ [(3, 120, [])]
def hs107 : List gSh := hs106.set 107 (0, 11, [(1, 0), (0, 108), (4, 0), (4, 0), (4, 0), (1, 0), (1, 0), (1, 0), (1, 0), (1, 0), (1, 0), (1, 0), (4, 0), (1, 0), (1, 0), (4, 0), (4, 0), (4, 0), (4, 0), (4, 0), (4, 0), (1, 0), (1, 0), (1, 0), (1, 0), (4, 0), (1, 0), (4, 0), (4, 0), (4, 0), (4, 0), (4, 0), (4, 0), (4, 0), (4, 0), (1, 0), (1, 0), (1, 0), (4, 0), (1, 0), (1, 0), (1, 0), (1, 0), (1, 0), (1, 0), (4, 0), (1, 0), (1, 0), (1, 0), (4, 0), (4, 0), (4, 0), (4, 0), (4, 0), (4, 0), (1, 0), (1, 0), (1, 0), (1, 0)])
def hs108 : List gSh := hs107 ++ [(3, 960, [])]
def hs109 : List gSh := hs108.set 107 (0, 11, [(1, 0), (0, 108), (0, 109), (4, 0), (4, 0), (1, 0), (1, 0), (1, 0), (1, 0), (1, 0), (1, 0), (1, 0), (4, 0), (1, 0), (1, 0), (4, 0), (4, 0), (4, 0), (4, 0), (4, 0), (4, 0), (1, 0), (1, 0), (1, 0), (1, 0), (4, 0), (1, 0), (4, 0), (4, 0), (4, 0), (4, 0), (4, 0), (4, 0), (4, 0), (4, 0), (1, 0), (1, 0), (1, 0), (4, 0), (1, 0), (1, 0), (1, 0), (1, 0), (1, 0), (1, 0), (4, 0), (1, 0), (1, 0), (1, 0), (4, 0), (4, 0), (4, 0), (4, 0), (4, 0), (4, 0), (1, 0), (1, 0), (1, 0), (1, 0)])
def hs110 : List gSh := hs109 ++ [(1, 8, [])]
def hs111 : List gSh := hs110.set 107 (0, 11, [(1, 0), (0, 108), (0, 109), (0, 110), (4, 0), (1, 0), (1, 0), (1, 0), (1, 0), (1, 0), (1, 0), (1, 0), (4, 0), (1, 0), (1, 0), (4, 0), (4, 0), (4, 0), (4, 0), (4, 0), (4, 0), (1, 0), (1, 0), (1, 0), (1, 0), (4, 0), (1, 0), (4, 0), (4, 0), (4, 0), (4, 0), (4, 0), (4, 0), (4, 0), (4, 0), (1, 0), (1, 0), (1, 0), (4, 0), (1, 0), (1, 0), (1, 0), (1, 0), (1, 0), (1, 0), (4, 0), (1, 0), (1, 0), (1, 0), (4, 0), (4, 0), (4, 0), (4, 0), (4, 0), (4, 0), (1, 0), (1, 0), (1, 0), (1, 0)])
def hs112 : List gSh := hs111.set 107 (0, 11, [(1, 0), (0, 108), (0, 109), (0, 110), (3, 0), (1, 0), (1, 0), (1, 0), (1, 0), (1, 0), (1, 0), (1, 0), (4, 0), (1, 0), (1, 0), (4, 0), (4, 0), (4, 0), (4, 0), (4, 0), (4, 0), (1, 0), (1, 0), (1, 0), (1, 0), (4, 0), (1, 0), (4, 0), (4, 0), (4, 0), (4, 0), (4, 0), (4, 0), (4, 0), (4, 0), (1, 0), (1, 0), (1, 0), (4, 0), (1, 0), (1, 0), (1, 0), (1, 0), (1, 0), (1, 0), (4, 0), (1, 0), (1, 0), (1, 0), (4, 0), (4, 0), (4, 0), (4, 0), (4, 0), (4, 0), (1, 0), (1, 0), (1, 0), (1, 0)])
def hw4 : gW := zsI hw3 107 4 (nI 108)
def hs113 : List gSh := hs112 ++ [(1, 5, [])]
def hs114 : List gSh := hs113.set 107 (0, 11, [(1, 0), (0, 108), (0, 109), (0, 110), (3, 0), (1, 0), (1, 0), (1, 0), (1, 0), (1, 0), (1, 0), (1, 0), (0, 111), (1, 0), (1, 0), (4, 0), (4, 0), (4, 0), (4, 0), (4, 0), (4, 0), (1, 0), (1, 0), (1, 0), (1, 0), (4, 0), (1, 0), (4, 0), (4, 0), (4, 0), (4, 0), (4, 0), (4, 0), (4, 0), (4, 0), (1, 0), (1, 0), (1, 0), (4, 0), (1, 0), (1, 0), (1, 0), (1, 0), (1, 0), (1, 0), (4, 0), (1, 0), (1, 0), (1, 0), (4, 0), (4, 0), (4, 0), (4, 0), (4, 0), (4, 0), (1, 0), (1, 0), (1, 0), (1, 0)])
def hs115 : List gSh := hs114 ++ [(1, 5, [])]
def hs116 : List gSh := hs115.set 107 (0, 11, [(1, 0), (0, 108), (0, 109), (0, 110), (3, 0), (1, 0), (1, 0), (1, 0), (1, 0), (1, 0), (1, 0), (1, 0), (0, 111), (1, 0), (1, 0), (0, 112), (4, 0), (4, 0), (4, 0), (4, 0), (4, 0), (1, 0), (1, 0), (1, 0), (1, 0), (4, 0), (1, 0), (4, 0), (4, 0), (4, 0), (4, 0), (4, 0), (4, 0), (4, 0), (4, 0), (1, 0), (1, 0), (1, 0), (4, 0), (1, 0), (1, 0), (1, 0), (1, 0), (1, 0), (1, 0), (4, 0), (1, 0), (1, 0), (1, 0), (4, 0), (4, 0), (4, 0), (4, 0), (4, 0), (4, 0), (1, 0), (1, 0), (1, 0), (1, 0)])
def hs117 : List gSh := hs116 ++ [(1, 5, [])]
def hs118 : List gSh := hs117.set 107 (0, 11, [(1, 0), (0, 108), (0, 109), (0, 110), (3, 0), (1, 0), (1, 0), (1, 0), (1, 0), (1, 0), (1, 0), (1, 0), (0, 111), (1, 0), (1, 0), (0, 112), (0, 113), (4, 0), (4, 0), (4, 0), (4, 0), (1, 0), (1, 0), (1, 0), (1, 0), (4, 0), (1, 0), (4, 0), (4, 0), (4, 0), (4, 0), (4, 0), (4, 0), (4, 0), (4, 0), (1, 0), (1, 0), (1, 0), (4, 0), (1, 0), (1, 0), (1, 0), (1, 0), (1, 0), (1, 0), (4, 0), (1, 0), (1, 0), (1, 0), (4, 0), (4, 0), (4, 0), (4, 0), (4, 0), (4, 0), (1, 0), (1, 0), (1, 0), (1, 0)])
def hs119 : List gSh := hs118 ++ [(1, 5, [])]
def hs120 : List gSh := hs119.set 107 (0, 11, [(1, 0), (0, 108), (0, 109), (0, 110), (3, 0), (1, 0), (1, 0), (1, 0), (1, 0), (1, 0), (1, 0), (1, 0), (0, 111), (1, 0), (1, 0), (0, 112), (0, 113), (0, 114), (4, 0), (4, 0), (4, 0), (1, 0), (1, 0), (1, 0), (1, 0), (4, 0), (1, 0), (4, 0), (4, 0), (4, 0), (4, 0), (4, 0), (4, 0), (4, 0), (4, 0), (1, 0), (1, 0), (1, 0), (4, 0), (1, 0), (1, 0), (1, 0), (1, 0), (1, 0), (1, 0), (4, 0), (1, 0), (1, 0), (1, 0), (4, 0), (4, 0), (4, 0), (4, 0), (4, 0), (4, 0), (1, 0), (1, 0), (1, 0), (1, 0)])
def hs121 : List gSh := hs120 ++ [(1, 5, [])]
def hs122 : List gSh := hs121.set 107 (0, 11, [(1, 0), (0, 108), (0, 109), (0, 110), (3, 0), (1, 0), (1, 0), (1, 0), (1, 0), (1, 0), (1, 0), (1, 0), (0, 111), (1, 0), (1, 0), (0, 112), (0, 113), (0, 114), (0, 115), (4, 0), (4, 0), (1, 0), (1, 0), (1, 0), (1, 0), (4, 0), (1, 0), (4, 0), (4, 0), (4, 0), (4, 0), (4, 0), (4, 0), (4, 0), (4, 0), (1, 0), (1, 0), (1, 0), (4, 0), (1, 0), (1, 0), (1, 0), (1, 0), (1, 0), (1, 0), (4, 0), (1, 0), (1, 0), (1, 0), (4, 0), (4, 0), (4, 0), (4, 0), (4, 0), (4, 0), (1, 0), (1, 0), (1, 0), (1, 0)])
def hs123 : List gSh := hs122 ++ [(1, 5, [])]
def hs124 : List gSh := hs123.set 107 (0, 11, [(1, 0), (0, 108), (0, 109), (0, 110), (3, 0), (1, 0), (1, 0), (1, 0), (1, 0), (1, 0), (1, 0), (1, 0), (0, 111), (1, 0), (1, 0), (0, 112), (0, 113), (0, 114), (0, 115), (0, 116), (4, 0), (1, 0), (1, 0), (1, 0), (1, 0), (4, 0), (1, 0), (4, 0), (4, 0), (4, 0), (4, 0), (4, 0), (4, 0), (4, 0), (4, 0), (1, 0), (1, 0), (1, 0), (4, 0), (1, 0), (1, 0), (1, 0), (1, 0), (1, 0), (1, 0), (4, 0), (1, 0), (1, 0), (1, 0), (4, 0), (4, 0), (4, 0), (4, 0), (4, 0), (4, 0), (1, 0), (1, 0), (1, 0), (1, 0)])
def hs125 : List gSh := hs124 ++ [(1, 5, [])]
def hs126 : List gSh := hs125.set 107 (0, 11, [(1, 0), (0, 108), (0, 109), (0, 110), (3, 0), (1, 0), (1, 0), (1, 0), (1, 0), (1, 0), (1, 0), (1, 0), (0, 111), (1, 0), (1, 0), (0, 112), (0, 113), (0, 114), (0, 115), (0, 116), (0, 117), (1, 0), (1, 0), (1, 0), (1, 0), (4, 0), (1, 0), (4, 0), (4, 0), (4, 0), (4, 0), (4, 0), (4, 0), (4, 0), (4, 0), (1, 0), (1, 0), (1, 0), (4, 0), (1, 0), (1, 0), (1, 0), (1, 0), (1, 0), (1, 0), (4, 0), (1, 0), (1, 0), (1, 0), (4, 0), (4, 0), (4, 0), (4, 0), (4, 0), (4, 0), (1, 0), (1, 0), (1, 0), (1, 0)])
def hs127 : List gSh := hs126 ++ [(1, 16807, [])]
def hs128 : List gSh := hs127.set 107 (0, 11, [(1, 0), (0, 108), (0, 109), (0, 110), (3, 0), (1, 0), (1, 0), (1, 0), (1, 0), (1, 0), (1, 0), (1, 0), (0, 111), (1, 0), (1, 0), (0, 112), (0, 113), (0, 114), (0, 115), (0, 116), (0, 117), (1, 0), (1, 0), (1, 0), (1, 0), (0, 118), (1, 0), (4, 0), (4, 0), (4, 0), (4, 0), (4, 0), (4, 0), (4, 0), (4, 0), (1, 0), (1, 0), (1, 0), (4, 0), (1, 0), (1, 0), (1, 0), (1, 0), (1, 0), (1, 0), (4, 0), (1, 0), (1, 0), (1, 0), (4, 0), (4, 0), (4, 0), (4, 0), (4, 0), (4, 0), (1, 0), (1, 0), (1, 0), (1, 0)])
def hs129 : List gSh := hs128 ++ [(1, 10, [])]
def hs130 : List gSh := hs129.set 107 (0, 11, [(1, 0), (0, 108), (0, 109), (0, 110), (3, 0), (1, 0), (1, 0), (1, 0), (1, 0), (1, 0), (1, 0), (1, 0), (0, 111), (1, 0), (1, 0), (0, 112), (0, 113), (0, 114), (0, 115), (0, 116), (0, 117), (1, 0), (1, 0), (1, 0), (1, 0), (0, 118), (1, 0), (0, 119), (4, 0), (4, 0), (4, 0), (4, 0), (4, 0), (4, 0), (4, 0), (1, 0), (1, 0), (1, 0), (4, 0), (1, 0), (1, 0), (1, 0), (1, 0), (1, 0), (1, 0), (4, 0), (1, 0), (1, 0), (1, 0), (4, 0), (4, 0), (4, 0), (4, 0), (4, 0), (4, 0), (1, 0), (1, 0), (1, 0), (1, 0)])
def hs131 : List gSh := hs130 ++ [(1, 10, [])]
def hs132 : List gSh := hs131.set 107 (0, 11, [(1, 0), (0, 108), (0, 109), (0, 110), (3, 0), (1, 0), (1, 0), (1, 0), (1, 0), (1, 0), (1, 0), (1, 0), (0, 111), (1, 0), (1, 0), (0, 112), (0, 113), (0, 114), (0, 115), (0, 116), (0, 117), (1, 0), (1, 0), (1, 0), (1, 0), (0, 118), (1, 0), (0, 119), (0, 120), (4, 0), (4, 0), (4, 0), (4, 0), (4, 0), (4, 0), (1, 0), (1, 0), (1, 0), (4, 0), (1, 0), (1, 0), (1, 0), (1, 0), (1, 0), (1, 0), (4, 0), (1, 0), (1, 0), (1, 0), (4, 0), (4, 0), (4, 0), (4, 0), (4, 0), (4, 0), (1, 0), (1, 0), (1, 0), (1, 0)])
def hs133 : List gSh := hs132 ++ [(1, 10, [])]
def hs134 : List gSh := hs133.set 107 (0, 11, [(1, 0), (0, 108), (0, 109), (0, 110), (3, 0), (1, 0), (1, 0), (1, 0), (1, 0), (1, 0), (1, 0), (1, 0), (0, 111), (1, 0), (1, 0), (0, 112), (0, 113), (0, 114), (0, 115), (0, 116), (0, 117), (1, 0), (1, 0), (1, 0), (1, 0), (0, 118), (1, 0), (0, 119), (0, 120), (0, 121), (4, 0), (4, 0), (4, 0), (4, 0), (4, 0), (1, 0), (1, 0), (1, 0), (4, 0), (1, 0), (1, 0), (1, 0), (1, 0), (1, 0), (1, 0), (4, 0), (1, 0), (1, 0), (1, 0), (4, 0), (4, 0), (4, 0), (4, 0), (4, 0), (4, 0), (1, 0), (1, 0), (1, 0), (1, 0)])
def hs135 : List gSh := hs134 ++ [(1, 10, [])]
def hs136 : List gSh := hs135.set 107 (0, 11, [(1, 0), (0, 108), (0, 109), (0, 110), (3, 0), (1, 0), (1, 0), (1, 0), (1, 0), (1, 0), (1, 0), (1, 0), (0, 111), (1, 0), (1, 0), (0, 112), (0, 113), (0, 114), (0, 115), (0, 116), (0, 117), (1, 0), (1, 0), (1, 0), (1, 0), (0, 118), (1, 0), (0, 119), (0, 120), (0, 121), (0, 122), (4, 0), (4, 0), (4, 0), (4, 0), (1, 0), (1, 0), (1, 0), (4, 0), (1, 0), (1, 0), (1, 0), (1, 0), (1, 0), (1, 0), (4, 0), (1, 0), (1, 0), (1, 0), (4, 0), (4, 0), (4, 0), (4, 0), (4, 0), (4, 0), (1, 0), (1, 0), (1, 0), (1, 0)])
def hs137 : List gSh := hs136 ++ [(1, 20, [])]
def hs138 : List gSh := hs137.set 107 (0, 11, [(1, 0), (0, 108), (0, 109), (0, 110), (3, 0), (1, 0), (1, 0), (1, 0), (1, 0), (1, 0), (1, 0), (1, 0), (0, 111), (1, 0), (1, 0), (0, 112), (0, 113), (0, 114), (0, 115), (0, 116), (0, 117), (1, 0), (1, 0), (1, 0), (1, 0), (0, 118), (1, 0), (0, 119), (0, 120), (0, 121), (0, 122), (0, 123), (4, 0), (4, 0), (4, 0), (1, 0), (1, 0), (1, 0), (4, 0), (1, 0), (1, 0), (1, 0), (1, 0), (1, 0), (1, 0), (4, 0), (1, 0), (1, 0), (1, 0), (4, 0), (4, 0), (4, 0), (4, 0), (4, 0), (4, 0), (1, 0), (1, 0), (1, 0), (1, 0)])
def hs139 : List gSh := hs138 ++ [(1, 20, [])]
def hs140 : List gSh := hs139.set 107 (0, 11, [(1, 0), (0, 108), (0, 109), (0, 110), (3, 0), (1, 0), (1, 0), (1, 0), (1, 0), (1, 0), (1, 0), (1, 0), (0, 111), (1, 0), (1, 0), (0, 112), (0, 113), (0, 114), (0, 115), (0, 116), (0, 117), (1, 0), (1, 0), (1, 0), (1, 0), (0, 118), (1, 0), (0, 119), (0, 120), (0, 121), (0, 122), (0, 123), (0, 124), (4, 0), (4, 0), (1, 0), (1, 0), (1, 0), (4, 0), (1, 0), (1, 0), (1, 0), (1, 0), (1, 0), (1, 0), (4, 0), (1, 0), (1, 0), (1, 0), (4, 0), (4, 0), (4, 0), (4, 0), (4, 0), (4, 0), (1, 0), (1, 0), (1, 0), (1, 0)])
def hs141 : List gSh := hs140 ++ [(4, 20, [])]
def hs142 : List gSh := hs141.set 107 (0, 11, [(1, 0), (0, 108), (0, 109), (0, 110), (3, 0), (1, 0), (1, 0), (1, 0), (1, 0), (1, 0), (1, 0), (1, 0), (0, 111), (1, 0), (1, 0), (0, 112), (0, 113), (0, 114), (0, 115), (0, 116), (0, 117), (1, 0), (1, 0), (1, 0), (1, 0), (0, 118), (1, 0), (0, 119), (0, 120), (0, 121), (0, 122), (0, 123), (0, 124), (0, 125), (4, 0), (1, 0), (1, 0), (1, 0), (4, 0), (1, 0), (1, 0), (1, 0), (1, 0), (1, 0), (1, 0), (4, 0), (1, 0), (1, 0), (1, 0), (4, 0), (4, 0), (4, 0), (4, 0), (4, 0), (4, 0), (1, 0), (1, 0), (1, 0), (1, 0)])
def hs143 : List gSh := hs142 ++ [(4, 30, [])]
def hs144 : List gSh := hs143.set 107 (0, 11, [(1, 0), (0, 108), (0, 109), (0, 110), (3, 0), (1, 0), (1, 0), (1, 0), (1, 0), (1, 0), (1, 0), (1, 0), (0, 111), (1, 0), (1, 0), (0, 112), (0, 113), (0, 114), (0, 115), (0, 116), (0, 117), (1, 0), (1, 0), (1, 0), (1, 0), (0, 118), (1, 0), (0, 119), (0, 120), (0, 121), (0, 122), (0, 123), (0, 124), (0, 125), (0, 126), (1, 0), (1, 0), (1, 0), (4, 0), (1, 0), (1, 0), (1, 0), (1, 0), (1, 0), (1, 0), (4, 0), (1, 0), (1, 0), (1, 0), (4, 0), (4, 0), (4, 0), (4, 0), (4, 0), (4, 0), (1, 0), (1, 0), (1, 0), (1, 0)])
def hs145 : List gSh := hs144 ++ [(1, 16807, [])]
def hs146 : List gSh := hs145.set 107 (0, 11, [(1, 0), (0, 108), (0, 109), (0, 110), (3, 0), (1, 0), (1, 0), (1, 0), (1, 0), (1, 0), (1, 0), (1, 0), (0, 111), (1, 0), (1, 0), (0, 112), (0, 113), (0, 114), (0, 115), (0, 116), (0, 117), (1, 0), (1, 0), (1, 0), (1, 0), (0, 118), (1, 0), (0, 119), (0, 120), (0, 121), (0, 122), (0, 123), (0, 124), (0, 125), (0, 126), (1, 0), (1, 0), (1, 0), (0, 127), (1, 0), (1, 0), (1, 0), (1, 0), (1, 0), (1, 0), (4, 0), (1, 0), (1, 0), (1, 0), (4, 0), (4, 0), (4, 0), (4, 0), (4, 0), (4, 0), (1, 0), (1, 0), (1, 0), (1, 0)])
def hs147 : List gSh := hs146 ++ [(1, 16807, [])]
def hs148 : List gSh := hs147.set 107 (0, 11, [(1, 0), (0, 108), (0, 109), (0, 110), (3, 0), (1, 0), (1, 0), (1, 0), (1, 0), (1, 0), (1, 0), (1, 0), (0, 111), (1, 0), (1, 0), (0, 112), (0, 113), (0, 114), (0, 115), (0, 116), (0, 117), (1, 0), (1, 0), (1, 0), (1, 0), (0, 118), (1, 0), (0, 119), (0, 120), (0, 121), (0, 122), (0, 123), (0, 124), (0, 125), (0, 126), (1, 0), (1, 0), (1, 0), (0, 127), (1, 0), (1, 0), (1, 0), (1, 0), (1, 0), (1, 0), (0, 128), (1, 0), (1, 0), (1, 0), (4, 0), (4, 0), (4, 0), (4, 0), (4, 0), (4, 0), (1, 0), (1, 0), (1, 0), (1, 0)])
def hs149 : List gSh := hs148 ++ [(1, 50, [])]
def hs150 : List gSh := hs149.set 107 (0, 11, [(1, 0), (0, 108), (0, 109), (0, 110), (3, 0), (1, 0), (1, 0), (1, 0), (1, 0), (1, 0), (1, 0), (1, 0), (0, 111), (1, 0), (1, 0), (0, 112), (0, 113), (0, 114), (0, 115), (0, 116), (0, 117), (1, 0), (1, 0), (1, 0), (1, 0), (0, 118), (1, 0), (0, 119), (0, 120), (0, 121), (0, 122), (0, 123), (0, 124), (0, 125), (0, 126), (1, 0), (1, 0), (1, 0), (0, 127), (1, 0), (1, 0), (1, 0), (1, 0), (1, 0), (1, 0), (0, 128), (1, 0), (1, 0), (1, 0), (0, 129), (4, 0), (4, 0), (4, 0), (4, 0), (4, 0), (1, 0), (1, 0), (1, 0), (1, 0)])
def hs151 : List gSh := hs150 ++ [(4, 16807, [])]
def hs152 : List gSh := hs151.set 107 (0, 11, [(1, 0), (0, 108), (0, 109), (0, 110), (3, 0), (1, 0), (1, 0), (1, 0), (1, 0), (1, 0), (1, 0), (1, 0), (0, 111), (1, 0), (1, 0), (0, 112), (0, 113), (0, 114), (0, 115), (0, 116), (0, 117), (1, 0), (1, 0), (1, 0), (1, 0), (0, 118), (1, 0), (0, 119), (0, 120), (0, 121), (0, 122), (0, 123), (0, 124), (0, 125), (0, 126), (1, 0), (1, 0), (1, 0), (0, 127), (1, 0), (1, 0), (1, 0), (1, 0), (1, 0), (1, 0), (0, 128), (1, 0), (1, 0), (1, 0), (0, 129), (0, 130), (4, 0), (4, 0), (4, 0), (4, 0), (1, 0), (1, 0), (1, 0), (1, 0)])
def hs153 : List gSh := hs152 ++ [(1, 8, [])]
def hs154 : List gSh := hs153.set 107 (0, 11, [(1, 0), (0, 108), (0, 109), (0, 110), (3, 0), (1, 0), (1, 0), (1, 0), (1, 0), (1, 0), (1, 0), (1, 0), (0, 111), (1, 0), (1, 0), (0, 112), (0, 113), (0, 114), (0, 115), (0, 116), (0, 117), (1, 0), (1, 0), (1, 0), (1, 0), (0, 118), (1, 0), (0, 119), (0, 120), (0, 121), (0, 122), (0, 123), (0, 124), (0, 125), (0, 126), (1, 0), (1, 0), (1, 0), (0, 127), (1, 0), (1, 0), (1, 0), (1, 0), (1, 0), (1, 0), (0, 128), (1, 0), (1, 0), (1, 0), (0, 129), (0, 130), (0, 131), (4, 0), (4, 0), (4, 0), (1, 0), (1, 0), (1, 0), (1, 0)])
def hs155 : List gSh := hs154 ++ [(1, 130, [])]
def hs156 : List gSh := hs155.set 107 (0, 11, [(1, 0), (0, 108), (0, 109), (0, 110), (3, 0), (1, 0), (1, 0), (1, 0), (1, 0), (1, 0), (1, 0), (1, 0), (0, 111), (1, 0), (1, 0), (0, 112), (0, 113), (0, 114), (0, 115), (0, 116), (0, 117), (1, 0), (1, 0), (1, 0), (1, 0), (0, 118), (1, 0), (0, 119), (0, 120), (0, 121), (0, 122), (0, 123), (0, 124), (0, 125), (0, 126), (1, 0), (1, 0), (1, 0), (0, 127), (1, 0), (1, 0), (1, 0), (1, 0), (1, 0), (1, 0), (0, 128), (1, 0), (1, 0), (1, 0), (0, 129), (0, 130), (0, 131), (0, 132), (4, 0), (4, 0), (1, 0), (1, 0), (1, 0), (1, 0)])
def hs157 : List gSh := hs156 ++ [(4, 20, [])]
def hs158 : List gSh := hs157.set 107 (0, 11, [(1, 0), (0, 108), (0, 109), (0, 110), (3, 0), (1, 0), (1, 0), (1, 0), (1, 0), (1, 0), (1, 0), (1, 0), (0, 111), (1, 0), (1, 0), (0, 112), (0, 113), (0, 114), (0, 115), (0, 116), (0, 117), (1, 0), (1, 0), (1, 0), (1, 0), (0, 118), (1, 0), (0, 119), (0, 120), (0, 121), (0, 122), (0, 123), (0, 124), (0, 125), (0, 126), (1, 0), (1, 0), (1, 0), (0, 127), (1, 0), (1, 0), (1, 0), (1, 0), (1, 0), (1, 0), (0, 128), (1, 0), (1, 0), (1, 0), (0, 129), (0, 130), (0, 131), (0, 132), (0, 133), (4, 0), (1, 0), (1, 0), (1, 0), (1, 0)])
def hs159 : List gSh := hs158 ++ [(4, 30, [])]
def hs160 : List gSh := hs159.set 107 (0, 11, [(1, 0), (0, 108), (0, 109), (0, 110), (3, 0), (1, 0), (1, 0), (1, 0), (1, 0), (1, 0), (1, 0), (1, 0), (0, 111), (1, 0), (1, 0), (0, 112), (0, 113), (0, 114), (0, 115), (0, 116), (0, 117), (1, 0), (1, 0), (1, 0), (1, 0), (0, 118), (1, 0), (0, 119), (0, 120), (0, 121), (0, 122), (0, 123), (0, 124), (0, 125), (0, 126), (1, 0), (1, 0), (1, 0), (0, 127), (1, 0), (1, 0), (1, 0), (1, 0), (1, 0), (1, 0), (0, 128), (1, 0), (1, 0), (1, 0), (0, 129), (0, 130), (0, 131), (0, 132), (0, 133), (0, 134), (1, 0), (1, 0), (1, 0), (1, 0)])
theorem hwz_hw0 (n : Nat) (_ : 0 ≤ n) : ∀ j, n ≤ j → hw0.1 j = fun _ => 0 := fun _ _ => rfl
theorem hwy_hw0 {n : Nat} : ∀ j, n ≤ j → hw0.2 j = fun _ => 0 := fun _ _ => rfl
theorem hwz_hw2 (n : Nat) (h : 73 ≤ n) : ∀ j, n ≤ j → hw2.1 j = fun _ => 0 := by
  intro j hj
  funext b
  show (if j = 72 ∧ b < 50 then (1 : Int32) else if j = 65 ∧ b < 50 then (1 : Int32) else 0) = 0
  rw [if_neg (by omega), if_neg (by omega)]
theorem hwy_hw2 {n : Nat} : ∀ j, n ≤ j → hw2.2 j = fun _ => 0 := fun _ _ => rfl
set_option maxRecDepth 100000 in
theorem hc_Tp {l : Launch} : Hz l m_Tp_init 1 1 120 0 0 0 (lv_args 0 [.ref 1]) [] hs1 hw0 (fun S w => S = hs3 ∧ w = hw0) := by
  show Hz l m_Tp_init 1 1 120 0 0 0 [(0, .ref 1)] [] hs1 hw0 _
  refine Hz.aload_n (q := 0) (pc' := 1) (by decide +kernel) rfl 0 rfl ?_
  refine Hz.obj (idx := 3) (pc' := 4) (g_in1 37 (by decide +kernel) (by decide +kernel)) ob_i ob_c (by decide +kernel) rfl (Nat.le_of_ble_eq_true rfl) (Nat.le_of_ble_eq_true rfl) ?_
  refine Hz.aload_n (q := 0) (pc' := 5) (by decide +kernel) rfl 0 rfl ?_
  refine Hz.bipush (n := 120) (v := (120 : Int32)) (pc' := 7) (by decide +kernel) rfl rfl ?_
  refine Hz.newA' 2 (kd := 1) (n := 120) (at_ := .int) (pc' := 9) (S' := hs2) (by decide +kernel) (Or.inl rfl) rfl ac_int (by decide +kernel) rfl (by decide) rfl (Nat.le_of_ble_eq_true rfl) (Nat.le_of_ble_eq_true rfl) (Nat.le_of_ble_eq_true rfl) rfl rfl rfl ?_
  refine Hz.putR (pc' := 12) (k := 1) (j := 0) (t := 2) (S' := hs3) (fs := [(4, 0), (1, 0), (1, 0)]) fi_Tp_9 (Or.inr ⟨_, rfl⟩) (fun C T N h => by cases h; rfl) rfl (by decide +kernel) rfl (by decide +kernel) rfl rfl ?_
  exact Hz.ret (by decide +kernel) rfl rfl rfl ⟨rfl, rfl⟩
set_option maxRecDepth 100000 in
theorem hc_Rd {l : Launch} : Hz l m_Rd_init 1 1 15 0 0 0 (lv_args 0 [.ref 3]) [] hs5 hw0 (fun S w => S = hs7 ∧ w = hw0) := by
  show Hz l m_Rd_init 1 1 15 0 0 0 [(0, .ref 3)] [] hs5 hw0 _
  refine Hz.aload_n (q := 0) (pc' := 1) (by decide +kernel) rfl 0 rfl ?_
  refine Hz.obj (idx := 3) (pc' := 4) (g_in1 54 (by decide +kernel) (by decide +kernel)) ob_i ob_c (by decide +kernel) rfl (Nat.le_of_ble_eq_true rfl) (Nat.le_of_ble_eq_true rfl) ?_
  refine Hz.aload_n (q := 0) (pc' := 5) (by decide +kernel) rfl 0 rfl ?_
  refine Hz.bipush (n := 15) (v := (15 : Int32)) (pc' := 7) (by decide +kernel) rfl rfl ?_
  refine Hz.newA' 4 (kd := 1) (n := 15) (at_ := .int) (pc' := 9) (S' := hs6) (by decide +kernel) (Or.inl rfl) rfl ac_int (by decide +kernel) rfl (by decide) rfl (Nat.le_of_ble_eq_true rfl) (Nat.le_of_ble_eq_true rfl) (Nat.le_of_ble_eq_true rfl) rfl rfl rfl ?_
  refine Hz.putR (pc' := 12) (k := 3) (j := 0) (t := 4) (S' := hs7) (fs := [(4, 0), (1, 0), (1, 0)]) fi_Rd_11 (Or.inr ⟨_, rfl⟩) (fun C T N h => by cases h; rfl) rfl (by decide +kernel) rfl (by decide +kernel) rfl rfl ?_
  exact Hz.ret (by decide +kernel) rfl rfl rfl ⟨rfl, rfl⟩
set_option maxRecDepth 100000 in
theorem hc_Oa {l : Launch} : Hz l m_Oa_init 1 13 1115 0 0 0 (lv_args 0 [.ref 5]) [] hs9 hw0 (fun S w => S = hs17 ∧ w = hw0) := by
  show Hz l m_Oa_init 1 13 1115 0 0 0 [(0, .ref 5)] [] hs9 hw0 _
  refine Hz.aload_n (q := 0) (pc' := 1) (by decide +kernel) rfl 0 rfl ?_
  refine Hz.obj (idx := 3) (pc' := 4) (g_in1 70 (by decide +kernel) (by decide +kernel)) ob_i ob_c (by decide +kernel) rfl (Nat.le_of_ble_eq_true rfl) (Nat.le_of_ble_eq_true rfl) ?_
  refine Hz.aload_n (q := 0) (pc' := 5) (by decide +kernel) rfl 0 rfl ?_
  refine Hz.bipush (n := 9) (v := (9 : Int32)) (pc' := 7) (by decide +kernel) rfl rfl ?_
  refine Hz.bipush (n := 120) (v := (120 : Int32)) (pc' := 9) (by decide +kernel) rfl rfl ?_
  refine Hz.newM' 6 (kd := 5) (kd' := 1) (n := 9) (mN := 120) (idx := 9) (ty := .int) (pc' := 13) (S' := hs10) (by decide +kernel) (Or.inl ⟨rfl, rfl, rfl⟩) (g_in1 71 (by decide +kernel) (by decide +kernel)) ac_int (by decide +kernel) rfl (by decide) (by decide) rfl rfl ⟨Nat.le_of_ble_eq_true rfl, Nat.le_of_ble_eq_true rfl, Nat.le_of_ble_eq_true rfl⟩ (Nat.le_of_ble_eq_true rfl) (Nat.le_of_ble_eq_true rfl) (hwz_hw0 6 (by decide)) (hwy_hw0) rfl ?_
  refine Hz.putR (pc' := 16) (k := 5) (j := 0) (t := 6) (S' := hs11) (fs := [(4, 0), (4, 0), (4, 0), (4, 0), (1, 0)]) fi_Oa_11 (Or.inr ⟨_, rfl⟩) (fun C T N h => by cases h; rfl) rfl (by decide +kernel) rfl (by decide +kernel) rfl rfl ?_
  refine Hz.aload_n (q := 0) (pc' := 17) (by decide +kernel) rfl 0 rfl ?_
  refine Hz.bipush (n := 9) (v := (9 : Int32)) (pc' := 19) (by decide +kernel) rfl rfl ?_
  refine Hz.newA' 16 (kd := 1) (n := 9) (at_ := .int) (pc' := 21) (S' := hs12) (by decide +kernel) (Or.inl rfl) rfl ac_int (by decide +kernel) rfl (by decide) rfl (Nat.le_of_ble_eq_true rfl) (Nat.le_of_ble_eq_true rfl) (Nat.le_of_ble_eq_true rfl) rfl rfl rfl ?_
  refine Hz.putR (pc' := 24) (k := 5) (j := 1) (t := 16) (S' := hs13) (fs := [(0, 6), (4, 0), (4, 0), (4, 0), (1, 0)]) fi_Oa_16 (Or.inr ⟨_, rfl⟩) (fun C T N h => by cases h; rfl) rfl (by decide +kernel) rfl (by decide +kernel) rfl rfl ?_
  refine Hz.aload_n (q := 0) (pc' := 25) (by decide +kernel) rfl 0 rfl ?_
  refine Hz.bipush (n := 9) (v := (9 : Int32)) (pc' := 27) (by decide +kernel) rfl rfl ?_
  refine Hz.newA' 17 (kd := 1) (n := 9) (at_ := .int) (pc' := 29) (S' := hs14) (by decide +kernel) (Or.inl rfl) rfl ac_int (by decide +kernel) rfl (by decide) rfl (Nat.le_of_ble_eq_true rfl) (Nat.le_of_ble_eq_true rfl) (Nat.le_of_ble_eq_true rfl) rfl rfl rfl ?_
  refine Hz.putR (pc' := 32) (k := 5) (j := 2) (t := 17) (S' := hs15) (fs := [(0, 6), (0, 16), (4, 0), (4, 0), (1, 0)]) fi_Oa_20 (Or.inr ⟨_, rfl⟩) (fun C T N h => by cases h; rfl) rfl (by decide +kernel) rfl (by decide +kernel) rfl rfl ?_
  refine Hz.aload_n (q := 0) (pc' := 33) (by decide +kernel) rfl 0 rfl ?_
  refine Hz.bipush (n := 8) (v := (8 : Int32)) (pc' := 35) (by decide +kernel) rfl rfl ?_
  refine Hz.newA' 18 (kd := 1) (n := 8) (at_ := .int) (pc' := 37) (S' := hs16) (by decide +kernel) (Or.inl rfl) rfl ac_int (by decide +kernel) rfl (by decide) rfl (Nat.le_of_ble_eq_true rfl) (Nat.le_of_ble_eq_true rfl) (Nat.le_of_ble_eq_true rfl) rfl rfl rfl ?_
  refine Hz.putR (pc' := 40) (k := 5) (j := 3) (t := 18) (S' := hs17) (fs := [(0, 6), (0, 16), (0, 17), (4, 0), (1, 0)]) fi_Oa_23 (Or.inr ⟨_, rfl⟩) (fun C T N h => by cases h; rfl) rfl (by decide +kernel) rfl (by decide +kernel) rfl rfl ?_
  exact Hz.ret (by decide +kernel) rfl rfl rfl ⟨rfl, rfl⟩
set_option maxRecDepth 100000 in
theorem hc_La {l : Launch} : Hz l m_La_init 1 39 9265 0 0 0 (lv_args 0 [.ref 19]) [] hs19 hw0 (fun S w => S = hs27 ∧ w = hw0) := by
  show Hz l m_La_init 1 39 9265 0 0 0 [(0, .ref 19)] [] hs19 hw0 _
  refine Hz.aload_n (q := 0) (pc' := 1) (by decide +kernel) rfl 0 rfl ?_
  refine Hz.obj (idx := 3) (pc' := 4) (g_in1 94 (by decide +kernel) (by decide +kernel)) ob_i ob_c (by decide +kernel) rfl (Nat.le_of_ble_eq_true rfl) (Nat.le_of_ble_eq_true rfl) ?_
  refine Hz.aload_n (q := 0) (pc' := 5) (by decide +kernel) rfl 0 rfl ?_
  refine Hz.bipush (n := 15) (v := (15 : Int32)) (pc' := 7) (by decide +kernel) rfl rfl ?_
  refine Hz.newA' 20 (kd := 1) (n := 15) (at_ := .int) (pc' := 9) (S' := hs20) (by decide +kernel) (Or.inl rfl) rfl ac_int (by decide +kernel) rfl (by decide) rfl (Nat.le_of_ble_eq_true rfl) (Nat.le_of_ble_eq_true rfl) (Nat.le_of_ble_eq_true rfl) rfl rfl rfl ?_
  refine Hz.putR (pc' := 12) (k := 19) (j := 0) (t := 20) (S' := hs21) (fs := [(4, 0), (4, 0), (4, 0), (4, 0), (1, 0), (1, 0), (1, 0)]) fi_La_11 (Or.inr ⟨_, rfl⟩) (fun C T N h => by cases h; rfl) rfl (by decide +kernel) rfl (by decide +kernel) rfl rfl ?_
  refine Hz.aload_n (q := 0) (pc' := 13) (by decide +kernel) rfl 0 rfl ?_
  refine Hz.iconst (n := 5) (v := (5 : Int32)) (pc' := 14) (by decide +kernel) rfl rfl ?_
  refine Hz.newA' 21 (kd := 1) (n := 5) (at_ := .int) (pc' := 16) (S' := hs22) (by decide +kernel) (Or.inl rfl) rfl ac_int (by decide +kernel) rfl (by decide) rfl (Nat.le_of_ble_eq_true rfl) (Nat.le_of_ble_eq_true rfl) (Nat.le_of_ble_eq_true rfl) rfl rfl rfl ?_
  refine Hz.putR (pc' := 19) (k := 19) (j := 1) (t := 21) (S' := hs23) (fs := [(0, 20), (4, 0), (4, 0), (4, 0), (1, 0), (1, 0), (1, 0)]) fi_La_17 (Or.inr ⟨_, rfl⟩) (fun C T N h => by cases h; rfl) rfl (by decide +kernel) rfl (by decide +kernel) rfl rfl ?_
  refine Hz.aload_n (q := 0) (pc' := 20) (by decide +kernel) rfl 0 rfl ?_
  refine Hz.iconst (n := 5) (v := (5 : Int32)) (pc' := 21) (by decide +kernel) rfl rfl ?_
  refine Hz.newA' 22 (kd := 1) (n := 5) (at_ := .int) (pc' := 23) (S' := hs24) (by decide +kernel) (Or.inl rfl) rfl ac_int (by decide +kernel) rfl (by decide) rfl (Nat.le_of_ble_eq_true rfl) (Nat.le_of_ble_eq_true rfl) (Nat.le_of_ble_eq_true rfl) rfl rfl rfl ?_
  refine Hz.putR (pc' := 26) (k := 19) (j := 2) (t := 22) (S' := hs25) (fs := [(0, 20), (0, 21), (4, 0), (4, 0), (1, 0), (1, 0), (1, 0)]) fi_La_20 (Or.inr ⟨_, rfl⟩) (fun C T N h => by cases h; rfl) rfl (by decide +kernel) rfl (by decide +kernel) rfl rfl ?_
  refine Hz.aload_n (q := 0) (pc' := 27) (by decide +kernel) rfl 0 rfl ?_
  refine Hz.bipush (n := 35) (v := (35 : Int32)) (pc' := 29) (by decide +kernel) rfl rfl ?_
  refine Hz.sipush (n := 263) (v := (263 : Int32)) (pc' := 32) (by decide +kernel) rfl rfl ?_
  refine Hz.newM' 23 (kd := 6) (kd' := 2) (n := 35) (mN := 263) (idx := 23) (ty := .long) (pc' := 36) (S' := hs26) (by decide +kernel) (Or.inr ⟨rfl, rfl, rfl⟩) (g_in1 95 (by decide +kernel) (by decide +kernel)) ac_long (by decide +kernel) rfl (by decide) (by decide) rfl rfl ⟨Nat.le_of_ble_eq_true rfl, Nat.le_of_ble_eq_true rfl, Nat.le_of_ble_eq_true rfl⟩ (Nat.le_of_ble_eq_true rfl) (Nat.le_of_ble_eq_true rfl) (hwz_hw0 23 (by decide)) (hwy_hw0) rfl ?_
  refine Hz.putR (pc' := 39) (k := 19) (j := 3) (t := 23) (S' := hs27) (fs := [(0, 20), (0, 21), (0, 22), (4, 0), (1, 0), (1, 0), (1, 0)]) fi_La_25 (Or.inr ⟨_, rfl⟩) (fun C T N h => by cases h; rfl) rfl (by decide +kernel) rfl (by decide +kernel) rfl rfl ?_
  exact Hz.ret (by decide +kernel) rfl rfl rfl ⟨rfl, rfl⟩
set_option maxRecDepth 100000 in
theorem hc_An {l : Launch} : Hz l m_An_init 2 6 180 0 0 0 (lv_args 0 [.ref 59]) [] hs29 hw0 (fun S w => S = hs41 ∧ w = hw1) := by
  show Hz l m_An_init 2 6 180 0 0 0 [(0, .ref 59)] [] hs29 hw0 _
  refine Hz.aload_n (q := 0) (pc' := 1) (by decide +kernel) rfl 0 rfl ?_
  refine Hz.obj (idx := 3) (pc' := 4) (g_in1 125 (by decide +kernel) (by decide +kernel)) ob_i ob_c (by decide +kernel) rfl (Nat.le_of_ble_eq_true rfl) (Nat.le_of_ble_eq_true rfl) ?_
  refine Hz.aload_n (q := 0) (pc' := 5) (by decide +kernel) rfl 0 rfl ?_
  refine Hz.bipush (n := 40) (v := (40 : Int32)) (pc' := 7) (by decide +kernel) rfl rfl ?_
  refine Hz.newA' 60 (kd := 1) (n := 40) (at_ := .int) (pc' := 9) (S' := hs30) (by decide +kernel) (Or.inl rfl) rfl ac_int (by decide +kernel) rfl (by decide) rfl (Nat.le_of_ble_eq_true rfl) (Nat.le_of_ble_eq_true rfl) (Nat.le_of_ble_eq_true rfl) rfl rfl rfl ?_
  refine Hz.putR (pc' := 12) (k := 59) (j := 0) (t := 60) (S' := hs31) (fs := [(4, 0), (4, 0), (4, 0), (4, 0), (4, 0), (4, 0), (1, 0), (1, 0)]) fi_An_11 (Or.inr ⟨_, rfl⟩) (fun C T N h => by cases h; rfl) rfl (by decide +kernel) rfl (by decide +kernel) rfl rfl ?_
  refine Hz.aload_n (q := 0) (pc' := 13) (by decide +kernel) rfl 0 rfl ?_
  refine Hz.bipush (n := 20) (v := (20 : Int32)) (pc' := 15) (by decide +kernel) rfl rfl ?_
  refine Hz.newA' 61 (kd := 1) (n := 20) (at_ := .int) (pc' := 17) (S' := hs32) (by decide +kernel) (Or.inl rfl) rfl ac_int (by decide +kernel) rfl (by decide) rfl (Nat.le_of_ble_eq_true rfl) (Nat.le_of_ble_eq_true rfl) (Nat.le_of_ble_eq_true rfl) rfl rfl rfl ?_
  refine Hz.putR (pc' := 20) (k := 59) (j := 1) (t := 61) (S' := hs33) (fs := [(0, 60), (4, 0), (4, 0), (4, 0), (4, 0), (4, 0), (1, 0), (1, 0)]) fi_An_15 (Or.inr ⟨_, rfl⟩) (fun C T N h => by cases h; rfl) rfl (by decide +kernel) rfl (by decide +kernel) rfl rfl ?_
  refine Hz.aload_n (q := 0) (pc' := 21) (by decide +kernel) rfl 0 rfl ?_
  refine Hz.bipush (n := 20) (v := (20 : Int32)) (pc' := 23) (by decide +kernel) rfl rfl ?_
  refine Hz.newA' 62 (kd := 1) (n := 20) (at_ := .int) (pc' := 25) (S' := hs34) (by decide +kernel) (Or.inl rfl) rfl ac_int (by decide +kernel) rfl (by decide) rfl (Nat.le_of_ble_eq_true rfl) (Nat.le_of_ble_eq_true rfl) (Nat.le_of_ble_eq_true rfl) rfl rfl rfl ?_
  refine Hz.putR (pc' := 28) (k := 59) (j := 2) (t := 62) (S' := hs35) (fs := [(0, 60), (0, 61), (4, 0), (4, 0), (4, 0), (4, 0), (1, 0), (1, 0)]) fi_An_18 (Or.inr ⟨_, rfl⟩) (fun C T N h => by cases h; rfl) rfl (by decide +kernel) rfl (by decide +kernel) rfl rfl ?_
  refine Hz.aload_n (q := 0) (pc' := 29) (by decide +kernel) rfl 0 rfl ?_
  refine Hz.bipush (n := 20) (v := (20 : Int32)) (pc' := 31) (by decide +kernel) rfl rfl ?_
  refine Hz.newA' 63 (kd := 4) (n := 20) (at_ := .boolean) (pc' := 33) (S' := hs36) (by decide +kernel) (Or.inr (Or.inr (Or.inr rfl))) rfl ac_boolean (by decide +kernel) rfl (by decide) rfl (Nat.le_of_ble_eq_true rfl) (Nat.le_of_ble_eq_true rfl) (Nat.le_of_ble_eq_true rfl) rfl rfl rfl ?_
  refine Hz.putR (pc' := 36) (k := 59) (j := 3) (t := 63) (S' := hs37) (fs := [(0, 60), (0, 61), (0, 62), (4, 0), (4, 0), (4, 0), (1, 0), (1, 0)]) fi_An_21 (Or.inr ⟨_, rfl⟩) (fun C T N h => by cases h; rfl) rfl (by decide +kernel) rfl (by decide +kernel) rfl rfl ?_
  refine Hz.aload_n (q := 0) (pc' := 37) (by decide +kernel) rfl 0 rfl ?_
  refine Hz.bipush (n := 30) (v := (30 : Int32)) (pc' := 39) (by decide +kernel) rfl rfl ?_
  refine Hz.newA' 64 (kd := 1) (n := 30) (at_ := .int) (pc' := 41) (S' := hs38) (by decide +kernel) (Or.inl rfl) rfl ac_int (by decide +kernel) rfl (by decide) rfl (Nat.le_of_ble_eq_true rfl) (Nat.le_of_ble_eq_true rfl) (Nat.le_of_ble_eq_true rfl) rfl rfl rfl ?_
  refine Hz.putR (pc' := 44) (k := 59) (j := 4) (t := 64) (S' := hs39) (fs := [(0, 60), (0, 61), (0, 62), (0, 63), (4, 0), (4, 0), (1, 0), (1, 0)]) fi_An_25 (Or.inr ⟨_, rfl⟩) (fun C T N h => by cases h; rfl) rfl (by decide +kernel) rfl (by decide +kernel) rfl rfl ?_
  refine Hz.aload_n (q := 0) (pc' := 45) (by decide +kernel) rfl 0 rfl ?_
  refine Hz.bipush (n := 50) (v := (50 : Int32)) (pc' := 47) (by decide +kernel) rfl rfl ?_
  refine Hz.newA' 65 (kd := 1) (n := 50) (at_ := .int) (pc' := 49) (S' := hs40) (by decide +kernel) (Or.inl rfl) rfl ac_int (by decide +kernel) rfl (by decide) rfl (Nat.le_of_ble_eq_true rfl) (Nat.le_of_ble_eq_true rfl) (Nat.le_of_ble_eq_true rfl) rfl rfl rfl ?_
  refine Hz.putR (pc' := 52) (k := 59) (j := 5) (t := 65) (S' := hs41) (fs := [(0, 60), (0, 61), (0, 62), (0, 63), (0, 64), (4, 0), (1, 0), (1, 0)]) fi_An_28 (Or.inr ⟨_, rfl⟩) (fun C T N h => by cases h; rfl) rfl (by decide +kernel) rfl (by decide +kernel) rfl rfl ?_
  refine Hz.aload_n (q := 0) (pc' := 53) (by decide +kernel) rfl 0 rfl ?_
  refine Hz.getR (pc' := 56) (k := 59) (j := 5) (fs := [(0, 60), (0, 61), (0, 62), (0, 63), (0, 64), (0, 65), (1, 0), (1, 0)]) 65 fi_An_28 (by decide +kernel) rfl (by decide +kernel) rfl ?_
  refine Hz.iconst (n := 1) (v := (1 : Int32)) (pc' := 57) (by decide +kernel) rfl rfl ?_
  refine Hz.stat (z := m_Arr_fill_AII) (st := []) (As := [.ref 65, .int (1 : Int32)]) (S1 := hs41) (w1 := hw1) (idx := 31) (pc' := 60) (hc_fill (n := 50) _ (by decide +kernel) (by decide)) ok_m_Arr_fill_AII (g_in1 126 (by decide +kernel) (by decide +kernel)) rfl (Nat.le_of_ble_eq_true rfl) (Nat.le_of_ble_eq_true rfl) (Nat.le_of_ble_eq_true rfl) (Nat.le_of_ble_eq_true rfl) (Nat.le_of_ble_eq_true rfl) (by decide +kernel) rfl ?_
  exact Hz.ret (by decide +kernel) rfl rfl rfl ⟨rfl, rfl⟩
set_option maxRecDepth 100000 in
theorem hc_An_2 {l : Launch} : Hz l m_An_init 2 6 180 0 0 0 (lv_args 0 [.ref 66]) [] hs43 hw1 (fun S w => S = hs55 ∧ w = hw2) := by
  show Hz l m_An_init 2 6 180 0 0 0 [(0, .ref 66)] [] hs43 hw1 _
  refine Hz.aload_n (q := 0) (pc' := 1) (by decide +kernel) rfl 0 rfl ?_
  refine Hz.obj (idx := 3) (pc' := 4) (g_in1 125 (by decide +kernel) (by decide +kernel)) ob_i ob_c (by decide +kernel) rfl (Nat.le_of_ble_eq_true rfl) (Nat.le_of_ble_eq_true rfl) ?_
  refine Hz.aload_n (q := 0) (pc' := 5) (by decide +kernel) rfl 0 rfl ?_
  refine Hz.bipush (n := 40) (v := (40 : Int32)) (pc' := 7) (by decide +kernel) rfl rfl ?_
  refine Hz.newA' 67 (kd := 1) (n := 40) (at_ := .int) (pc' := 9) (S' := hs44) (by decide +kernel) (Or.inl rfl) rfl ac_int (by decide +kernel) rfl (by decide) rfl (Nat.le_of_ble_eq_true rfl) (Nat.le_of_ble_eq_true rfl) (Nat.le_of_ble_eq_true rfl) rfl rfl rfl ?_
  refine Hz.putR (pc' := 12) (k := 66) (j := 0) (t := 67) (S' := hs45) (fs := [(4, 0), (4, 0), (4, 0), (4, 0), (4, 0), (4, 0), (1, 0), (1, 0)]) fi_An_11 (Or.inr ⟨_, rfl⟩) (fun C T N h => by cases h; rfl) rfl (by decide +kernel) rfl (by decide +kernel) rfl rfl ?_
  refine Hz.aload_n (q := 0) (pc' := 13) (by decide +kernel) rfl 0 rfl ?_
  refine Hz.bipush (n := 20) (v := (20 : Int32)) (pc' := 15) (by decide +kernel) rfl rfl ?_
  refine Hz.newA' 68 (kd := 1) (n := 20) (at_ := .int) (pc' := 17) (S' := hs46) (by decide +kernel) (Or.inl rfl) rfl ac_int (by decide +kernel) rfl (by decide) rfl (Nat.le_of_ble_eq_true rfl) (Nat.le_of_ble_eq_true rfl) (Nat.le_of_ble_eq_true rfl) rfl rfl rfl ?_
  refine Hz.putR (pc' := 20) (k := 66) (j := 1) (t := 68) (S' := hs47) (fs := [(0, 67), (4, 0), (4, 0), (4, 0), (4, 0), (4, 0), (1, 0), (1, 0)]) fi_An_15 (Or.inr ⟨_, rfl⟩) (fun C T N h => by cases h; rfl) rfl (by decide +kernel) rfl (by decide +kernel) rfl rfl ?_
  refine Hz.aload_n (q := 0) (pc' := 21) (by decide +kernel) rfl 0 rfl ?_
  refine Hz.bipush (n := 20) (v := (20 : Int32)) (pc' := 23) (by decide +kernel) rfl rfl ?_
  refine Hz.newA' 69 (kd := 1) (n := 20) (at_ := .int) (pc' := 25) (S' := hs48) (by decide +kernel) (Or.inl rfl) rfl ac_int (by decide +kernel) rfl (by decide) rfl (Nat.le_of_ble_eq_true rfl) (Nat.le_of_ble_eq_true rfl) (Nat.le_of_ble_eq_true rfl) rfl rfl rfl ?_
  refine Hz.putR (pc' := 28) (k := 66) (j := 2) (t := 69) (S' := hs49) (fs := [(0, 67), (0, 68), (4, 0), (4, 0), (4, 0), (4, 0), (1, 0), (1, 0)]) fi_An_18 (Or.inr ⟨_, rfl⟩) (fun C T N h => by cases h; rfl) rfl (by decide +kernel) rfl (by decide +kernel) rfl rfl ?_
  refine Hz.aload_n (q := 0) (pc' := 29) (by decide +kernel) rfl 0 rfl ?_
  refine Hz.bipush (n := 20) (v := (20 : Int32)) (pc' := 31) (by decide +kernel) rfl rfl ?_
  refine Hz.newA' 70 (kd := 4) (n := 20) (at_ := .boolean) (pc' := 33) (S' := hs50) (by decide +kernel) (Or.inr (Or.inr (Or.inr rfl))) rfl ac_boolean (by decide +kernel) rfl (by decide) rfl (Nat.le_of_ble_eq_true rfl) (Nat.le_of_ble_eq_true rfl) (Nat.le_of_ble_eq_true rfl) rfl rfl rfl ?_
  refine Hz.putR (pc' := 36) (k := 66) (j := 3) (t := 70) (S' := hs51) (fs := [(0, 67), (0, 68), (0, 69), (4, 0), (4, 0), (4, 0), (1, 0), (1, 0)]) fi_An_21 (Or.inr ⟨_, rfl⟩) (fun C T N h => by cases h; rfl) rfl (by decide +kernel) rfl (by decide +kernel) rfl rfl ?_
  refine Hz.aload_n (q := 0) (pc' := 37) (by decide +kernel) rfl 0 rfl ?_
  refine Hz.bipush (n := 30) (v := (30 : Int32)) (pc' := 39) (by decide +kernel) rfl rfl ?_
  refine Hz.newA' 71 (kd := 1) (n := 30) (at_ := .int) (pc' := 41) (S' := hs52) (by decide +kernel) (Or.inl rfl) rfl ac_int (by decide +kernel) rfl (by decide) rfl (Nat.le_of_ble_eq_true rfl) (Nat.le_of_ble_eq_true rfl) (Nat.le_of_ble_eq_true rfl) rfl rfl rfl ?_
  refine Hz.putR (pc' := 44) (k := 66) (j := 4) (t := 71) (S' := hs53) (fs := [(0, 67), (0, 68), (0, 69), (0, 70), (4, 0), (4, 0), (1, 0), (1, 0)]) fi_An_25 (Or.inr ⟨_, rfl⟩) (fun C T N h => by cases h; rfl) rfl (by decide +kernel) rfl (by decide +kernel) rfl rfl ?_
  refine Hz.aload_n (q := 0) (pc' := 45) (by decide +kernel) rfl 0 rfl ?_
  refine Hz.bipush (n := 50) (v := (50 : Int32)) (pc' := 47) (by decide +kernel) rfl rfl ?_
  refine Hz.newA' 72 (kd := 1) (n := 50) (at_ := .int) (pc' := 49) (S' := hs54) (by decide +kernel) (Or.inl rfl) rfl ac_int (by decide +kernel) rfl (by decide) rfl (Nat.le_of_ble_eq_true rfl) (Nat.le_of_ble_eq_true rfl) (Nat.le_of_ble_eq_true rfl) rfl rfl rfl ?_
  refine Hz.putR (pc' := 52) (k := 66) (j := 5) (t := 72) (S' := hs55) (fs := [(0, 67), (0, 68), (0, 69), (0, 70), (0, 71), (4, 0), (1, 0), (1, 0)]) fi_An_28 (Or.inr ⟨_, rfl⟩) (fun C T N h => by cases h; rfl) rfl (by decide +kernel) rfl (by decide +kernel) rfl rfl ?_
  refine Hz.aload_n (q := 0) (pc' := 53) (by decide +kernel) rfl 0 rfl ?_
  refine Hz.getR (pc' := 56) (k := 66) (j := 5) (fs := [(0, 67), (0, 68), (0, 69), (0, 70), (0, 71), (0, 72), (1, 0), (1, 0)]) 72 fi_An_28 (by decide +kernel) rfl (by decide +kernel) rfl ?_
  refine Hz.iconst (n := 1) (v := (1 : Int32)) (pc' := 57) (by decide +kernel) rfl rfl ?_
  refine Hz.stat (z := m_Arr_fill_AII) (st := []) (As := [.ref 72, .int (1 : Int32)]) (S1 := hs55) (w1 := hw2) (idx := 31) (pc' := 60) (hc_fill (n := 50) _ (by decide +kernel) (by decide)) ok_m_Arr_fill_AII (g_in1 126 (by decide +kernel) (by decide +kernel)) rfl (Nat.le_of_ble_eq_true rfl) (Nat.le_of_ble_eq_true rfl) (Nat.le_of_ble_eq_true rfl) (Nat.le_of_ble_eq_true rfl) (Nat.le_of_ble_eq_true rfl) (by decide +kernel) rfl ?_
  exact Hz.ret (by decide +kernel) rfl rfl rfl ⟨rfl, rfl⟩
set_option maxRecDepth 100000 in
theorem hc_Co {l : Launch} : Hz l m_Co_init 1 14 3182 0 0 0 (lv_args 0 [.ref 73, .ref 19, .ref 5, .ref 59]) [] hs57 hw2 (fun S w => S = hs68 ∧ w = hw2) := by
  show Hz l m_Co_init 1 14 3182 0 0 0 [(0, .ref 73), (1, .ref 19), (2, .ref 5), (3, .ref 59)] [] hs57 hw2 _
  refine Hz.aload_n (q := 0) (pc' := 1) (by decide +kernel) rfl 0 rfl ?_
  refine Hz.obj (idx := 3) (pc' := 4) (g_in1 160 (by decide +kernel) (by decide +kernel)) ob_i ob_c (by decide +kernel) rfl (Nat.le_of_ble_eq_true rfl) (Nat.le_of_ble_eq_true rfl) ?_
  refine Hz.aload_n (q := 0) (pc' := 5) (by decide +kernel) rfl 0 rfl ?_
  refine Hz.bipush (n := 16) (v := (16 : Int32)) (pc' := 7) (by decide +kernel) rfl rfl ?_
  refine Hz.newA' 74 (kd := 2) (n := 16) (at_ := .long) (pc' := 9) (S' := hs58) (by decide +kernel) (Or.inr (Or.inl rfl)) rfl ac_long (by decide +kernel) rfl (by decide) rfl (Nat.le_of_ble_eq_true rfl) (Nat.le_of_ble_eq_true rfl) (Nat.le_of_ble_eq_true rfl) rfl rfl rfl ?_
  refine Hz.putR (pc' := 12) (k := 73) (j := 3) (t := 74) (S' := hs59) (fs := [(4, 0), (4, 0), (4, 0), (4, 0), (4, 0), (4, 0), (4, 0)]) fi_Co_11 (Or.inr ⟨_, rfl⟩) (fun C T N h => by cases h; rfl) rfl (by decide +kernel) rfl (by decide +kernel) rfl rfl ?_
  refine Hz.aload_n (q := 0) (pc' := 13) (by decide +kernel) rfl 0 rfl ?_
  refine Hz.sipush (n := 263) (v := (263 : Int32)) (pc' := 16) (by decide +kernel) rfl rfl ?_
  refine Hz.newA' 75 (kd := 2) (n := 263) (at_ := .long) (pc' := 18) (S' := hs60) (by decide +kernel) (Or.inr (Or.inl rfl)) rfl ac_long (by decide +kernel) rfl (by decide) rfl (Nat.le_of_ble_eq_true rfl) (Nat.le_of_ble_eq_true rfl) (Nat.le_of_ble_eq_true rfl) rfl rfl rfl ?_
  refine Hz.putR (pc' := 21) (k := 73) (j := 4) (t := 75) (S' := hs61) (fs := [(4, 0), (4, 0), (4, 0), (0, 74), (4, 0), (4, 0), (4, 0)]) fi_Co_15 (Or.inr ⟨_, rfl⟩) (fun C T N h => by cases h; rfl) rfl (by decide +kernel) rfl (by decide +kernel) rfl rfl ?_
  refine Hz.aload_n (q := 0) (pc' := 22) (by decide +kernel) rfl 0 rfl ?_
  refine Hz.sipush (n := 263) (v := (263 : Int32)) (pc' := 25) (by decide +kernel) rfl rfl ?_
  refine Hz.newA' 76 (kd := 2) (n := 263) (at_ := .long) (pc' := 27) (S' := hs62) (by decide +kernel) (Or.inr (Or.inl rfl)) rfl ac_long (by decide +kernel) rfl (by decide) rfl (Nat.le_of_ble_eq_true rfl) (Nat.le_of_ble_eq_true rfl) (Nat.le_of_ble_eq_true rfl) rfl rfl rfl ?_
  refine Hz.putR (pc' := 30) (k := 73) (j := 5) (t := 76) (S' := hs63) (fs := [(4, 0), (4, 0), (4, 0), (0, 74), (0, 75), (4, 0), (4, 0)]) fi_Co_18 (Or.inr ⟨_, rfl⟩) (fun C T N h => by cases h; rfl) rfl (by decide +kernel) rfl (by decide +kernel) rfl rfl ?_
  refine Hz.aload_n (q := 0) (pc' := 31) (by decide +kernel) rfl 0 rfl ?_
  refine Hz.bipush (n := 10) (v := (10 : Int32)) (pc' := 33) (by decide +kernel) rfl rfl ?_
  refine Hz.sipush (n := 263) (v := (263 : Int32)) (pc' := 36) (by decide +kernel) rfl rfl ?_
  refine Hz.newM' 77 (kd := 6) (kd' := 2) (n := 10) (mN := 263) (idx := 21) (ty := .long) (pc' := 40) (S' := hs64) (by decide +kernel) (Or.inr ⟨rfl, rfl, rfl⟩) (g_in1 161 (by decide +kernel) (by decide +kernel)) ac_long (by decide +kernel) rfl (by decide) (by decide) rfl rfl ⟨Nat.le_of_ble_eq_true rfl, Nat.le_of_ble_eq_true rfl, Nat.le_of_ble_eq_true rfl⟩ (Nat.le_of_ble_eq_true rfl) (Nat.le_of_ble_eq_true rfl) (hwz_hw2 77 (by decide)) (hwy_hw2) rfl ?_
  refine Hz.putR (pc' := 43) (k := 73) (j := 6) (t := 77) (S' := hs65) (fs := [(4, 0), (4, 0), (4, 0), (0, 74), (0, 75), (0, 76), (4, 0)]) fi_Co_23 (Or.inr ⟨_, rfl⟩) (fun C T N h => by cases h; rfl) rfl (by decide +kernel) rfl (by decide +kernel) rfl rfl ?_
  refine Hz.aload_n (q := 0) (pc' := 44) (by decide +kernel) rfl 0 rfl ?_
  refine Hz.aload_n (q := 1) (pc' := 45) (by decide +kernel) rfl 1 rfl ?_
  refine Hz.putR (pc' := 48) (k := 73) (j := 0) (t := 19) (S' := hs66) (fs := [(4, 0), (4, 0), (4, 0), (0, 74), (0, 75), (0, 76), (0, 77)]) fi_Co_26 (Or.inl ⟨_, rfl⟩) (fun C T N h => by cases h; rfl) rfl (by decide +kernel) rfl (by decide +kernel) rfl rfl ?_
  refine Hz.aload_n (q := 0) (pc' := 49) (by decide +kernel) rfl 0 rfl ?_
  refine Hz.aload_n (q := 2) (pc' := 50) (by decide +kernel) rfl 2 rfl ?_
  refine Hz.putR (pc' := 53) (k := 73) (j := 1) (t := 5) (S' := hs67) (fs := [(0, 19), (4, 0), (4, 0), (0, 74), (0, 75), (0, 76), (0, 77)]) fi_Co_30 (Or.inl ⟨_, rfl⟩) (fun C T N h => by cases h; rfl) rfl (by decide +kernel) rfl (by decide +kernel) rfl rfl ?_
  refine Hz.aload_n (q := 0) (pc' := 54) (by decide +kernel) rfl 0 rfl ?_
  refine Hz.aload_n (q := 3) (pc' := 55) (by decide +kernel) rfl 3 rfl ?_
  refine Hz.putR (pc' := 58) (k := 73) (j := 2) (t := 59) (S' := hs68) (fs := [(0, 19), (0, 5), (4, 0), (0, 74), (0, 75), (0, 76), (0, 77)]) fi_Co_34 (Or.inl ⟨_, rfl⟩) (fun C T N h => by cases h; rfl) rfl (by decide +kernel) rfl (by decide +kernel) rfl rfl ?_
  exact Hz.ret (by decide +kernel) rfl rfl rfl ⟨rfl, rfl⟩
set_option maxRecDepth 100000 in
theorem hc_Cs {l : Launch} : Hz l m_Cs_init 1 10 2121 0 0 0 (lv_args 0 [.ref 88, .ref 19, .ref 5, .ref 73]) [] hs70 hw2 (fun S w => S = hs77 ∧ w = hw2) := by
  show Hz l m_Cs_init 1 10 2121 0 0 0 [(0, .ref 88), (1, .ref 19), (2, .ref 5), (3, .ref 73)] [] hs70 hw2 _
  refine Hz.aload_n (q := 0) (pc' := 1) (by decide +kernel) rfl 0 rfl ?_
  refine Hz.obj (idx := 3) (pc' := 4) (g_in1 189 (by decide +kernel) (by decide +kernel)) ob_i ob_c (by decide +kernel) rfl (Nat.le_of_ble_eq_true rfl) (Nat.le_of_ble_eq_true rfl) ?_
  refine Hz.aload_n (q := 0) (pc' := 5) (by decide +kernel) rfl 0 rfl ?_
  refine Hz.bipush (n := 9) (v := (9 : Int32)) (pc' := 7) (by decide +kernel) rfl rfl ?_
  refine Hz.newA' 89 (kd := 2) (n := 9) (at_ := .long) (pc' := 9) (S' := hs71) (by decide +kernel) (Or.inr (Or.inl rfl)) rfl ac_long (by decide +kernel) rfl (by decide) rfl (Nat.le_of_ble_eq_true rfl) (Nat.le_of_ble_eq_true rfl) (Nat.le_of_ble_eq_true rfl) rfl rfl rfl ?_
  refine Hz.putR (pc' := 12) (k := 88) (j := 3) (t := 89) (S' := hs72) (fs := [(4, 0), (4, 0), (4, 0), (4, 0), (4, 0)]) fi_Cs_9 (Or.inr ⟨_, rfl⟩) (fun C T N h => by cases h; rfl) rfl (by decide +kernel) rfl (by decide +kernel) rfl rfl ?_
  refine Hz.aload_n (q := 0) (pc' := 13) (by decide +kernel) rfl 0 rfl ?_
  refine Hz.bipush (n := 8) (v := (8 : Int32)) (pc' := 15) (by decide +kernel) rfl rfl ?_
  refine Hz.sipush (n := 263) (v := (263 : Int32)) (pc' := 18) (by decide +kernel) rfl rfl ?_
  refine Hz.newM' 90 (kd := 6) (kd' := 2) (n := 8) (mN := 263) (idx := 15) (ty := .long) (pc' := 22) (S' := hs73) (by decide +kernel) (Or.inr ⟨rfl, rfl, rfl⟩) (g_in1 190 (by decide +kernel) (by decide +kernel)) ac_long (by decide +kernel) rfl (by decide) (by decide) rfl rfl ⟨Nat.le_of_ble_eq_true rfl, Nat.le_of_ble_eq_true rfl, Nat.le_of_ble_eq_true rfl⟩ (Nat.le_of_ble_eq_true rfl) (Nat.le_of_ble_eq_true rfl) (hwz_hw2 90 (by decide)) (hwy_hw2) rfl ?_
  refine Hz.putR (pc' := 25) (k := 88) (j := 4) (t := 90) (S' := hs74) (fs := [(4, 0), (4, 0), (4, 0), (0, 89), (4, 0)]) fi_Cs_17 (Or.inr ⟨_, rfl⟩) (fun C T N h => by cases h; rfl) rfl (by decide +kernel) rfl (by decide +kernel) rfl rfl ?_
  refine Hz.aload_n (q := 0) (pc' := 26) (by decide +kernel) rfl 0 rfl ?_
  refine Hz.aload_n (q := 1) (pc' := 27) (by decide +kernel) rfl 1 rfl ?_
  refine Hz.putR (pc' := 30) (k := 88) (j := 0) (t := 19) (S' := hs75) (fs := [(4, 0), (4, 0), (4, 0), (0, 89), (0, 90)]) fi_Cs_20 (Or.inl ⟨_, rfl⟩) (fun C T N h => by cases h; rfl) rfl (by decide +kernel) rfl (by decide +kernel) rfl rfl ?_
  refine Hz.aload_n (q := 0) (pc' := 31) (by decide +kernel) rfl 0 rfl ?_
  refine Hz.aload_n (q := 2) (pc' := 32) (by decide +kernel) rfl 2 rfl ?_
  refine Hz.putR (pc' := 35) (k := 88) (j := 1) (t := 5) (S' := hs76) (fs := [(0, 19), (4, 0), (4, 0), (0, 89), (0, 90)]) fi_Cs_24 (Or.inl ⟨_, rfl⟩) (fun C T N h => by cases h; rfl) rfl (by decide +kernel) rfl (by decide +kernel) rfl rfl ?_
  refine Hz.aload_n (q := 0) (pc' := 36) (by decide +kernel) rfl 0 rfl ?_
  refine Hz.aload_n (q := 3) (pc' := 37) (by decide +kernel) rfl 3 rfl ?_
  refine Hz.putR (pc' := 40) (k := 88) (j := 2) (t := 73) (S' := hs77) (fs := [(0, 19), (0, 5), (4, 0), (0, 89), (0, 90)]) fi_Cs_28 (Or.inl ⟨_, rfl⟩) (fun C T N h => by cases h; rfl) rfl (by decide +kernel) rfl (by decide +kernel) rfl rfl ?_
  exact Hz.ret (by decide +kernel) rfl rfl rfl ⟨rfl, rfl⟩
set_option maxRecDepth 100000 in
theorem hc_Le {l : Launch} : Hz l m_Le_init 1 2 273 0 0 0 (lv_args 0 [.ref 99, .ref 19, .ref 5, .ref 59, .ref 73]) [] hs79 hw2 (fun S w => S = hs87 ∧ w = hw2) := by
  show Hz l m_Le_init 1 2 273 0 0 0 [(0, .ref 99), (1, .ref 19), (2, .ref 5), (3, .ref 59), (4, .ref 73)] [] hs79 hw2 _
  refine Hz.aload_n (q := 0) (pc' := 1) (by decide +kernel) rfl 0 rfl ?_
  refine Hz.obj (idx := 3) (pc' := 4) (g_in1 212 (by decide +kernel) (by decide +kernel)) ob_i ob_c (by decide +kernel) rfl (Nat.le_of_ble_eq_true rfl) (Nat.le_of_ble_eq_true rfl) ?_
  refine Hz.aload_n (q := 0) (pc' := 5) (by decide +kernel) rfl 0 rfl ?_
  refine Hz.bipush (n := 10) (v := (10 : Int32)) (pc' := 7) (by decide +kernel) rfl rfl ?_
  refine Hz.newA' 100 (kd := 2) (n := 10) (at_ := .long) (pc' := 9) (S' := hs80) (by decide +kernel) (Or.inr (Or.inl rfl)) rfl ac_long (by decide +kernel) rfl (by decide) rfl (Nat.le_of_ble_eq_true rfl) (Nat.le_of_ble_eq_true rfl) (Nat.le_of_ble_eq_true rfl) rfl rfl rfl ?_
  refine Hz.putR (pc' := 12) (k := 99) (j := 4) (t := 100) (S' := hs81) (fs := [(4, 0), (4, 0), (4, 0), (4, 0), (4, 0), (4, 0), (1, 0), (1, 0)]) fi_Le_9 (Or.inr ⟨_, rfl⟩) (fun C T N h => by cases h; rfl) rfl (by decide +kernel) rfl (by decide +kernel) rfl rfl ?_
  refine Hz.aload_n (q := 0) (pc' := 13) (by decide +kernel) rfl 0 rfl ?_
  refine Hz.sipush (n := 263) (v := (263 : Int32)) (pc' := 16) (by decide +kernel) rfl rfl ?_
  refine Hz.newA' 101 (kd := 2) (n := 263) (at_ := .long) (pc' := 18) (S' := hs82) (by decide +kernel) (Or.inr (Or.inl rfl)) rfl ac_long (by decide +kernel) rfl (by decide) rfl (Nat.le_of_ble_eq_true rfl) (Nat.le_of_ble_eq_true rfl) (Nat.le_of_ble_eq_true rfl) rfl rfl rfl ?_
  refine Hz.putR (pc' := 21) (k := 99) (j := 5) (t := 101) (S' := hs83) (fs := [(4, 0), (4, 0), (4, 0), (4, 0), (0, 100), (4, 0), (1, 0), (1, 0)]) fi_Le_15 (Or.inr ⟨_, rfl⟩) (fun C T N h => by cases h; rfl) rfl (by decide +kernel) rfl (by decide +kernel) rfl rfl ?_
  refine Hz.aload_n (q := 0) (pc' := 22) (by decide +kernel) rfl 0 rfl ?_
  refine Hz.aload_n (q := 1) (pc' := 23) (by decide +kernel) rfl 1 rfl ?_
  refine Hz.putR (pc' := 26) (k := 99) (j := 0) (t := 19) (S' := hs84) (fs := [(4, 0), (4, 0), (4, 0), (4, 0), (0, 100), (0, 101), (1, 0), (1, 0)]) fi_Le_18 (Or.inl ⟨_, rfl⟩) (fun C T N h => by cases h; rfl) rfl (by decide +kernel) rfl (by decide +kernel) rfl rfl ?_
  refine Hz.aload_n (q := 0) (pc' := 27) (by decide +kernel) rfl 0 rfl ?_
  refine Hz.aload_n (q := 2) (pc' := 28) (by decide +kernel) rfl 2 rfl ?_
  refine Hz.putR (pc' := 31) (k := 99) (j := 1) (t := 5) (S' := hs85) (fs := [(0, 19), (4, 0), (4, 0), (4, 0), (0, 100), (0, 101), (1, 0), (1, 0)]) fi_Le_22 (Or.inl ⟨_, rfl⟩) (fun C T N h => by cases h; rfl) rfl (by decide +kernel) rfl (by decide +kernel) rfl rfl ?_
  refine Hz.aload_n (q := 0) (pc' := 32) (by decide +kernel) rfl 0 rfl ?_
  refine Hz.aload_n (q := 3) (pc' := 33) (by decide +kernel) rfl 3 rfl ?_
  refine Hz.putR (pc' := 36) (k := 99) (j := 2) (t := 59) (S' := hs86) (fs := [(0, 19), (0, 5), (4, 0), (4, 0), (0, 100), (0, 101), (1, 0), (1, 0)]) fi_Le_26 (Or.inl ⟨_, rfl⟩) (fun C T N h => by cases h; rfl) rfl (by decide +kernel) rfl (by decide +kernel) rfl rfl ?_
  refine Hz.aload_n (q := 0) (pc' := 37) (by decide +kernel) rfl 0 rfl ?_
  refine Hz.aload (i := 4) (pc' := 39) (by decide +kernel) rfl 4 rfl ?_
  refine Hz.putR (pc' := 42) (k := 99) (j := 3) (t := 73) (S' := hs87) (fs := [(0, 19), (0, 5), (0, 59), (4, 0), (0, 100), (0, 101), (1, 0), (1, 0)]) fi_Le_30 (Or.inl ⟨_, rfl⟩) (fun C T N h => by cases h; rfl) rfl (by decide +kernel) rfl (by decide +kernel) rfl rfl ?_
  exact Hz.ret (by decide +kernel) rfl rfl rfl ⟨rfl, rfl⟩
set_option maxRecDepth 100000 in
theorem hc_Ch {l : Launch} : Hz l m_Ch_init 1 2 272 0 0 0 (lv_args 0 [.ref 102, .ref 19, .ref 59, .ref 73]) [] hs89 hw2 (fun S w => S = hs96 ∧ w = hw2) := by
  show Hz l m_Ch_init 1 2 272 0 0 0 [(0, .ref 102), (1, .ref 19), (2, .ref 59), (3, .ref 73)] [] hs89 hw2 _
  refine Hz.aload_n (q := 0) (pc' := 1) (by decide +kernel) rfl 0 rfl ?_
  refine Hz.obj (idx := 3) (pc' := 4) (g_in2 3 (by decide +kernel) (by decide +kernel)) ob_i ob_c (by decide +kernel) rfl (Nat.le_of_ble_eq_true rfl) (Nat.le_of_ble_eq_true rfl) ?_
  refine Hz.aload_n (q := 0) (pc' := 5) (by decide +kernel) rfl 0 rfl ?_
  refine Hz.bipush (n := 9) (v := (9 : Int32)) (pc' := 7) (by decide +kernel) rfl rfl ?_
  refine Hz.newA' 103 (kd := 2) (n := 9) (at_ := .long) (pc' := 9) (S' := hs90) (by decide +kernel) (Or.inr (Or.inl rfl)) rfl ac_long (by decide +kernel) rfl (by decide) rfl (Nat.le_of_ble_eq_true rfl) (Nat.le_of_ble_eq_true rfl) (Nat.le_of_ble_eq_true rfl) rfl rfl rfl ?_
  refine Hz.putR (pc' := 12) (k := 102) (j := 3) (t := 103) (S' := hs91) (fs := [(4, 0), (4, 0), (4, 0), (4, 0), (4, 0), (2, 0), (1, 0)]) fi_Ch_9 (Or.inr ⟨_, rfl⟩) (fun C T N h => by cases h; rfl) rfl (by decide +kernel) rfl (by decide +kernel) rfl rfl ?_
  refine Hz.aload_n (q := 0) (pc' := 13) (by decide +kernel) rfl 0 rfl ?_
  refine Hz.sipush (n := 263) (v := (263 : Int32)) (pc' := 16) (by decide +kernel) rfl rfl ?_
  refine Hz.newA' 104 (kd := 2) (n := 263) (at_ := .long) (pc' := 18) (S' := hs92) (by decide +kernel) (Or.inr (Or.inl rfl)) rfl ac_long (by decide +kernel) rfl (by decide) rfl (Nat.le_of_ble_eq_true rfl) (Nat.le_of_ble_eq_true rfl) (Nat.le_of_ble_eq_true rfl) rfl rfl rfl ?_
  refine Hz.putR (pc' := 21) (k := 102) (j := 4) (t := 104) (S' := hs93) (fs := [(4, 0), (4, 0), (4, 0), (0, 103), (4, 0), (2, 0), (1, 0)]) fi_Ch_15 (Or.inr ⟨_, rfl⟩) (fun C T N h => by cases h; rfl) rfl (by decide +kernel) rfl (by decide +kernel) rfl rfl ?_
  refine Hz.aload_n (q := 0) (pc' := 22) (by decide +kernel) rfl 0 rfl ?_
  refine Hz.aload_n (q := 1) (pc' := 23) (by decide +kernel) rfl 1 rfl ?_
  refine Hz.putR (pc' := 26) (k := 102) (j := 0) (t := 19) (S' := hs94) (fs := [(4, 0), (4, 0), (4, 0), (0, 103), (0, 104), (2, 0), (1, 0)]) fi_Ch_18 (Or.inl ⟨_, rfl⟩) (fun C T N h => by cases h; rfl) rfl (by decide +kernel) rfl (by decide +kernel) rfl rfl ?_
  refine Hz.aload_n (q := 0) (pc' := 27) (by decide +kernel) rfl 0 rfl ?_
  refine Hz.aload_n (q := 2) (pc' := 28) (by decide +kernel) rfl 2 rfl ?_
  refine Hz.putR (pc' := 31) (k := 102) (j := 1) (t := 59) (S' := hs95) (fs := [(0, 19), (4, 0), (4, 0), (0, 103), (0, 104), (2, 0), (1, 0)]) fi_Ch_22 (Or.inl ⟨_, rfl⟩) (fun C T N h => by cases h; rfl) rfl (by decide +kernel) rfl (by decide +kernel) rfl rfl ?_
  refine Hz.aload_n (q := 0) (pc' := 32) (by decide +kernel) rfl 0 rfl ?_
  refine Hz.aload_n (q := 3) (pc' := 33) (by decide +kernel) rfl 3 rfl ?_
  refine Hz.putR (pc' := 36) (k := 102) (j := 2) (t := 73) (S' := hs96) (fs := [(0, 19), (0, 59), (4, 0), (0, 103), (0, 104), (2, 0), (1, 0)]) fi_Ch_26 (Or.inl ⟨_, rfl⟩) (fun C T N h => by cases h; rfl) rfl (by decide +kernel) rfl (by decide +kernel) rfl rfl ?_
  exact Hz.ret (by decide +kernel) rfl rfl rfl ⟨rfl, rfl⟩
set_option maxRecDepth 100000 in
theorem hc_Ga {l : Launch} : Hz l m_Ga_init 1 1 9 0 0 0 (lv_args 0 [.ref 105, .ref 5, .ref 88]) [] hs98 hw2 (fun S w => S = hs102 ∧ w = hw2) := by
  show Hz l m_Ga_init 1 1 9 0 0 0 [(0, .ref 105), (1, .ref 5), (2, .ref 88)] [] hs98 hw2 _
  refine Hz.aload_n (q := 0) (pc' := 1) (by decide +kernel) rfl 0 rfl ?_
  refine Hz.obj (idx := 3) (pc' := 4) (g_in2 31 (by decide +kernel) (by decide +kernel)) ob_i ob_c (by decide +kernel) rfl (Nat.le_of_ble_eq_true rfl) (Nat.le_of_ble_eq_true rfl) ?_
  refine Hz.aload_n (q := 0) (pc' := 5) (by decide +kernel) rfl 0 rfl ?_
  refine Hz.bipush (n := 9) (v := (9 : Int32)) (pc' := 7) (by decide +kernel) rfl rfl ?_
  refine Hz.newA' 106 (kd := 1) (n := 9) (at_ := .int) (pc' := 9) (S' := hs99) (by decide +kernel) (Or.inl rfl) rfl ac_int (by decide +kernel) rfl (by decide) rfl (Nat.le_of_ble_eq_true rfl) (Nat.le_of_ble_eq_true rfl) (Nat.le_of_ble_eq_true rfl) rfl rfl rfl ?_
  refine Hz.putR (pc' := 12) (k := 105) (j := 2) (t := 106) (S' := hs100) (fs := [(4, 0), (4, 0), (4, 0), (1, 0)]) fi_Ga_9 (Or.inr ⟨_, rfl⟩) (fun C T N h => by cases h; rfl) rfl (by decide +kernel) rfl (by decide +kernel) rfl rfl ?_
  refine Hz.aload_n (q := 0) (pc' := 13) (by decide +kernel) rfl 0 rfl ?_
  refine Hz.aload_n (q := 1) (pc' := 14) (by decide +kernel) rfl 1 rfl ?_
  refine Hz.putR (pc' := 17) (k := 105) (j := 0) (t := 5) (S' := hs101) (fs := [(4, 0), (4, 0), (0, 106), (1, 0)]) fi_Ga_15 (Or.inl ⟨_, rfl⟩) (fun C T N h => by cases h; rfl) rfl (by decide +kernel) rfl (by decide +kernel) rfl rfl ?_
  refine Hz.aload_n (q := 0) (pc' := 18) (by decide +kernel) rfl 0 rfl ?_
  refine Hz.aload_n (q := 2) (pc' := 19) (by decide +kernel) rfl 2 rfl ?_
  refine Hz.putR (pc' := 22) (k := 105) (j := 1) (t := 88) (S' := hs102) (fs := [(0, 5), (4, 0), (0, 106), (1, 0)]) fi_Ga_19 (Or.inl ⟨_, rfl⟩) (fun C T N h => by cases h; rfl) rfl (by decide +kernel) rfl (by decide +kernel) rfl rfl ?_
  exact Hz.ret (by decide +kernel) rfl rfl rfl ⟨rfl, rfl⟩
set_option maxRecDepth 100000 in
theorem hc_X {l : Launch} : Hz l m_X_init 3 106 16797 0 0 0 (lv_args 0 [.ref 0]) [] hs0 hw0 (fun S w => S = hs104 ∧ w = hw3) := by
  show Hz l m_X_init 3 106 16797 0 0 0 [(0, .ref 0)] [] hs0 hw0 _
  refine Hz.aload_n (q := 0) (pc' := 1) (by decide +kernel) rfl 0 rfl ?_
  refine Hz.obj (idx := 3) (pc' := 4) (g_in1 29 (by decide +kernel) (by decide +kernel)) ob_i ob_c (by decide +kernel) rfl (Nat.le_of_ble_eq_true rfl) (Nat.le_of_ble_eq_true rfl) ?_
  refine Hz.aload_n (q := 0) (pc' := 5) (by decide +kernel) rfl 0 rfl ?_
  refine Hz.newO' 1 (idx := 9) (pc' := 8) (ty := g_ty1) (fs := [(4, 0), (1, 0), (1, 0)]) (S' := hs1) (by decide +kernel) rfl g_ws1 g_tyok1 (by decide +kernel) (by decide +kernel) (g_in1 32 (by decide +kernel) (by decide +kernel)) (g_in1 33 (by decide +kernel) (by decide +kernel)) (g_in1 2 (by decide +kernel) (by decide +kernel)) (by decide +kernel) rfl (Nat.le_of_ble_eq_true rfl) (Nat.le_of_ble_eq_true rfl) rfl rfl rfl ?_
  refine Hz.dup (pc' := 9) (by decide +kernel) rfl rfl ?_
  refine Hz.ctor (z := m_Tp_init) (st := [.ref 1, .ref 0]) (b := 1) (As := []) (idx := 11) (pc' := 12) hc_Tp ok_m_Tp_init (g_in1 34 (by decide +kernel) (by decide +kernel)) rfl (Nat.le_of_ble_eq_true rfl) (Nat.le_of_ble_eq_true rfl) (Nat.le_of_ble_eq_true rfl) (Nat.le_of_ble_eq_true rfl) (Nat.le_of_ble_eq_true rfl) (by decide +kernel) rfl ?_
  refine Hz.putR (pc' := 15) (k := 0) (j := 0) (t := 1) (S' := hs4) (fs := [(4, 0), (4, 0), (4, 0), (4, 0), (4, 0), (4, 0), (4, 0), (4, 0), (4, 0), (4, 0), (4, 0), (1, 0)]) fi_X_12 (Or.inl ⟨_, rfl⟩) (fun C T N h => by cases h; rfl) rfl (by decide +kernel) rfl (by decide +kernel) rfl rfl ?_
  refine Hz.aload_n (q := 0) (pc' := 16) (by decide +kernel) rfl 0 rfl ?_
  refine Hz.newO' 3 (idx := 16) (pc' := 19) (ty := g_ty2) (fs := [(4, 0), (1, 0), (1, 0)]) (S' := hs5) (by decide +kernel) rfl g_ws2 g_tyok2 (by decide +kernel) (by decide +kernel) (g_in1 49 (by decide +kernel) (by decide +kernel)) (g_in1 50 (by decide +kernel) (by decide +kernel)) (g_in1 3 (by decide +kernel) (by decide +kernel)) (by decide +kernel) rfl (Nat.le_of_ble_eq_true rfl) (Nat.le_of_ble_eq_true rfl) rfl rfl rfl ?_
  refine Hz.dup (pc' := 20) (by decide +kernel) rfl rfl ?_
  refine Hz.ctor (z := m_Rd_init) (st := [.ref 3, .ref 0]) (b := 3) (As := []) (idx := 18) (pc' := 23) hc_Rd ok_m_Rd_init (g_in1 51 (by decide +kernel) (by decide +kernel)) rfl (Nat.le_of_ble_eq_true rfl) (Nat.le_of_ble_eq_true rfl) (Nat.le_of_ble_eq_true rfl) (Nat.le_of_ble_eq_true rfl) (Nat.le_of_ble_eq_true rfl) (by decide +kernel) rfl ?_
  refine Hz.putR (pc' := 26) (k := 0) (j := 1) (t := 3) (S' := hs8) (fs := [(0, 1), (4, 0), (4, 0), (4, 0), (4, 0), (4, 0), (4, 0), (4, 0), (4, 0), (4, 0), (4, 0), (1, 0)]) fi_X_19 (Or.inl ⟨_, rfl⟩) (fun C T N h => by cases h; rfl) rfl (by decide +kernel) rfl (by decide +kernel) rfl rfl ?_
  refine Hz.aload_n (q := 0) (pc' := 27) (by decide +kernel) rfl 0 rfl ?_
  refine Hz.newO' 5 (idx := 23) (pc' := 30) (ty := g_ty3) (fs := [(4, 0), (4, 0), (4, 0), (4, 0), (1, 0)]) (S' := hs9) (by decide +kernel) rfl g_ws3 g_tyok3 (by decide +kernel) (by decide +kernel) (g_in1 65 (by decide +kernel) (by decide +kernel)) (g_in1 66 (by decide +kernel) (by decide +kernel)) (g_in1 4 (by decide +kernel) (by decide +kernel)) (by decide +kernel) rfl (Nat.le_of_ble_eq_true rfl) (Nat.le_of_ble_eq_true rfl) rfl rfl rfl ?_
  refine Hz.dup (pc' := 31) (by decide +kernel) rfl rfl ?_
  refine Hz.ctor (z := m_Oa_init) (st := [.ref 5, .ref 0]) (b := 5) (As := []) (idx := 25) (pc' := 34) hc_Oa ok_m_Oa_init (g_in1 67 (by decide +kernel) (by decide +kernel)) rfl (Nat.le_of_ble_eq_true rfl) (Nat.le_of_ble_eq_true rfl) (Nat.le_of_ble_eq_true rfl) (Nat.le_of_ble_eq_true rfl) (Nat.le_of_ble_eq_true rfl) (by decide +kernel) rfl ?_
  refine Hz.putR (pc' := 37) (k := 0) (j := 2) (t := 5) (S' := hs18) (fs := [(0, 1), (0, 3), (4, 0), (4, 0), (4, 0), (4, 0), (4, 0), (4, 0), (4, 0), (4, 0), (4, 0), (1, 0)]) fi_X_26 (Or.inl ⟨_, rfl⟩) (fun C T N h => by cases h; rfl) rfl (by decide +kernel) rfl (by decide +kernel) rfl rfl ?_
  refine Hz.aload_n (q := 0) (pc' := 38) (by decide +kernel) rfl 0 rfl ?_
  refine Hz.newO' 19 (idx := 30) (pc' := 41) (ty := g_ty4) (fs := [(4, 0), (4, 0), (4, 0), (4, 0), (1, 0), (1, 0), (1, 0)]) (S' := hs19) (by decide +kernel) rfl g_ws4 g_tyok4 (by decide +kernel) (by decide +kernel) (g_in1 89 (by decide +kernel) (by decide +kernel)) (g_in1 90 (by decide +kernel) (by decide +kernel)) (g_in1 5 (by decide +kernel) (by decide +kernel)) (by decide +kernel) rfl (Nat.le_of_ble_eq_true rfl) (Nat.le_of_ble_eq_true rfl) rfl rfl rfl ?_
  refine Hz.dup (pc' := 42) (by decide +kernel) rfl rfl ?_
  refine Hz.ctor (z := m_La_init) (st := [.ref 19, .ref 0]) (b := 19) (As := []) (idx := 32) (pc' := 45) hc_La ok_m_La_init (g_in1 91 (by decide +kernel) (by decide +kernel)) rfl (Nat.le_of_ble_eq_true rfl) (Nat.le_of_ble_eq_true rfl) (Nat.le_of_ble_eq_true rfl) (Nat.le_of_ble_eq_true rfl) (Nat.le_of_ble_eq_true rfl) (by decide +kernel) rfl ?_
  refine Hz.putR (pc' := 48) (k := 0) (j := 3) (t := 19) (S' := hs28) (fs := [(0, 1), (0, 3), (0, 5), (4, 0), (4, 0), (4, 0), (4, 0), (4, 0), (4, 0), (4, 0), (4, 0), (1, 0)]) fi_X_33 (Or.inl ⟨_, rfl⟩) (fun C T N h => by cases h; rfl) rfl (by decide +kernel) rfl (by decide +kernel) rfl rfl ?_
  refine Hz.aload_n (q := 0) (pc' := 49) (by decide +kernel) rfl 0 rfl ?_
  refine Hz.newO' 59 (idx := 37) (pc' := 52) (ty := g_ty5) (fs := [(4, 0), (4, 0), (4, 0), (4, 0), (4, 0), (4, 0), (1, 0), (1, 0)]) (S' := hs29) (by decide +kernel) rfl g_ws5 g_tyok5 (by decide +kernel) (by decide +kernel) (g_in1 120 (by decide +kernel) (by decide +kernel)) (g_in1 121 (by decide +kernel) (by decide +kernel)) (g_in1 6 (by decide +kernel) (by decide +kernel)) (by decide +kernel) rfl (Nat.le_of_ble_eq_true rfl) (Nat.le_of_ble_eq_true rfl) rfl rfl rfl ?_
  refine Hz.dup (pc' := 53) (by decide +kernel) rfl rfl ?_
  refine Hz.ctor (z := m_An_init) (st := [.ref 59, .ref 0]) (b := 59) (As := []) (idx := 39) (pc' := 56) hc_An ok_m_An_init (g_in1 122 (by decide +kernel) (by decide +kernel)) rfl (Nat.le_of_ble_eq_true rfl) (Nat.le_of_ble_eq_true rfl) (Nat.le_of_ble_eq_true rfl) (Nat.le_of_ble_eq_true rfl) (Nat.le_of_ble_eq_true rfl) (by decide +kernel) rfl ?_
  refine Hz.putR (pc' := 59) (k := 0) (j := 4) (t := 59) (S' := hs42) (fs := [(0, 1), (0, 3), (0, 5), (0, 19), (4, 0), (4, 0), (4, 0), (4, 0), (4, 0), (4, 0), (4, 0), (1, 0)]) fi_X_40 (Or.inl ⟨_, rfl⟩) (fun C T N h => by cases h; rfl) rfl (by decide +kernel) rfl (by decide +kernel) rfl rfl ?_
  refine Hz.aload_n (q := 0) (pc' := 60) (by decide +kernel) rfl 0 rfl ?_
  refine Hz.newO' 66 (idx := 37) (pc' := 63) (ty := g_ty5) (fs := [(4, 0), (4, 0), (4, 0), (4, 0), (4, 0), (4, 0), (1, 0), (1, 0)]) (S' := hs43) (by decide +kernel) rfl g_ws5 g_tyok5 (by decide +kernel) (by decide +kernel) (g_in1 120 (by decide +kernel) (by decide +kernel)) (g_in1 121 (by decide +kernel) (by decide +kernel)) (g_in1 6 (by decide +kernel) (by decide +kernel)) (by decide +kernel) rfl (Nat.le_of_ble_eq_true rfl) (Nat.le_of_ble_eq_true rfl) rfl rfl rfl ?_
  refine Hz.dup (pc' := 64) (by decide +kernel) rfl rfl ?_
  refine Hz.ctor (z := m_An_init) (st := [.ref 66, .ref 0]) (b := 66) (As := []) (idx := 39) (pc' := 67) hc_An_2 ok_m_An_init (g_in1 122 (by decide +kernel) (by decide +kernel)) rfl (Nat.le_of_ble_eq_true rfl) (Nat.le_of_ble_eq_true rfl) (Nat.le_of_ble_eq_true rfl) (Nat.le_of_ble_eq_true rfl) (Nat.le_of_ble_eq_true rfl) (by decide +kernel) rfl ?_
  refine Hz.putR (pc' := 70) (k := 0) (j := 5) (t := 66) (S' := hs56) (fs := [(0, 1), (0, 3), (0, 5), (0, 19), (0, 59), (4, 0), (4, 0), (4, 0), (4, 0), (4, 0), (4, 0), (1, 0)]) fi_X_44 (Or.inl ⟨_, rfl⟩) (fun C T N h => by cases h; rfl) rfl (by decide +kernel) rfl (by decide +kernel) rfl rfl ?_
  refine Hz.aload_n (q := 0) (pc' := 71) (by decide +kernel) rfl 0 rfl ?_
  refine Hz.newO' 73 (idx := 47) (pc' := 74) (ty := g_ty6) (fs := [(4, 0), (4, 0), (4, 0), (4, 0), (4, 0), (4, 0), (4, 0)]) (S' := hs57) (by decide +kernel) rfl g_ws6 g_tyok6 (by decide +kernel) (by decide +kernel) (g_in1 155 (by decide +kernel) (by decide +kernel)) (g_in1 156 (by decide +kernel) (by decide +kernel)) (g_in1 8 (by decide +kernel) (by decide +kernel)) (by decide +kernel) rfl (Nat.le_of_ble_eq_true rfl) (Nat.le_of_ble_eq_true rfl) rfl rfl rfl ?_
  refine Hz.dup (pc' := 75) (by decide +kernel) rfl rfl ?_
  refine Hz.aload_n (q := 0) (pc' := 76) (by decide +kernel) rfl 0 rfl ?_
  refine Hz.getR (pc' := 79) (k := 0) (j := 3) (fs := [(0, 1), (0, 3), (0, 5), (0, 19), (0, 59), (0, 66), (4, 0), (4, 0), (4, 0), (4, 0), (4, 0), (1, 0)]) 19 fi_X_33 (by decide +kernel) rfl (by decide +kernel) rfl ?_
  refine Hz.aload_n (q := 0) (pc' := 80) (by decide +kernel) rfl 0 rfl ?_
  refine Hz.getR (pc' := 83) (k := 0) (j := 2) (fs := [(0, 1), (0, 3), (0, 5), (0, 19), (0, 59), (0, 66), (4, 0), (4, 0), (4, 0), (4, 0), (4, 0), (1, 0)]) 5 fi_X_26 (by decide +kernel) rfl (by decide +kernel) rfl ?_
  refine Hz.aload_n (q := 0) (pc' := 84) (by decide +kernel) rfl 0 rfl ?_
  refine Hz.getR (pc' := 87) (k := 0) (j := 4) (fs := [(0, 1), (0, 3), (0, 5), (0, 19), (0, 59), (0, 66), (4, 0), (4, 0), (4, 0), (4, 0), (4, 0), (1, 0)]) 59 fi_X_40 (by decide +kernel) rfl (by decide +kernel) rfl ?_
  refine Hz.ctor (z := m_Co_init) (st := [.ref 73, .ref 0]) (b := 73) (As := [.ref 19, .ref 5, .ref 59]) (idx := 49) (pc' := 90) hc_Co ok_m_Co_init (g_in1 157 (by decide +kernel) (by decide +kernel)) rfl (Nat.le_of_ble_eq_true rfl) (Nat.le_of_ble_eq_true rfl) (Nat.le_of_ble_eq_true rfl) (Nat.le_of_ble_eq_true rfl) (Nat.le_of_ble_eq_true rfl) (by decide +kernel) rfl ?_
  refine Hz.putR (pc' := 93) (k := 0) (j := 6) (t := 73) (S' := hs69) (fs := [(0, 1), (0, 3), (0, 5), (0, 19), (0, 59), (0, 66), (4, 0), (4, 0), (4, 0), (4, 0), (4, 0), (1, 0)]) fi_X_52 (Or.inl ⟨_, rfl⟩) (fun C T N h => by cases h; rfl) rfl (by decide +kernel) rfl (by decide +kernel) rfl rfl ?_
  refine Hz.aload_n (q := 0) (pc' := 94) (by decide +kernel) rfl 0 rfl ?_
  refine Hz.newO' 88 (idx := 56) (pc' := 97) (ty := g_ty7) (fs := [(4, 0), (4, 0), (4, 0), (4, 0), (4, 0)]) (S' := hs70) (by decide +kernel) rfl g_ws7 g_tyok7 (by decide +kernel) (by decide +kernel) (g_in1 184 (by decide +kernel) (by decide +kernel)) (g_in1 185 (by decide +kernel) (by decide +kernel)) (g_in1 9 (by decide +kernel) (by decide +kernel)) (by decide +kernel) rfl (Nat.le_of_ble_eq_true rfl) (Nat.le_of_ble_eq_true rfl) rfl rfl rfl ?_
  refine Hz.dup (pc' := 98) (by decide +kernel) rfl rfl ?_
  refine Hz.aload_n (q := 0) (pc' := 99) (by decide +kernel) rfl 0 rfl ?_
  refine Hz.getR (pc' := 102) (k := 0) (j := 3) (fs := [(0, 1), (0, 3), (0, 5), (0, 19), (0, 59), (0, 66), (0, 73), (4, 0), (4, 0), (4, 0), (4, 0), (1, 0)]) 19 fi_X_33 (by decide +kernel) rfl (by decide +kernel) rfl ?_
  refine Hz.aload_n (q := 0) (pc' := 103) (by decide +kernel) rfl 0 rfl ?_
  refine Hz.getR (pc' := 106) (k := 0) (j := 2) (fs := [(0, 1), (0, 3), (0, 5), (0, 19), (0, 59), (0, 66), (0, 73), (4, 0), (4, 0), (4, 0), (4, 0), (1, 0)]) 5 fi_X_26 (by decide +kernel) rfl (by decide +kernel) rfl ?_
  refine Hz.aload_n (q := 0) (pc' := 107) (by decide +kernel) rfl 0 rfl ?_
  refine Hz.getR (pc' := 110) (k := 0) (j := 6) (fs := [(0, 1), (0, 3), (0, 5), (0, 19), (0, 59), (0, 66), (0, 73), (4, 0), (4, 0), (4, 0), (4, 0), (1, 0)]) 73 fi_X_52 (by decide +kernel) rfl (by decide +kernel) rfl ?_
  refine Hz.ctor (z := m_Cs_init) (st := [.ref 88, .ref 0]) (b := 88) (As := [.ref 19, .ref 5, .ref 73]) (idx := 58) (pc' := 113) hc_Cs ok_m_Cs_init (g_in1 186 (by decide +kernel) (by decide +kernel)) rfl (Nat.le_of_ble_eq_true rfl) (Nat.le_of_ble_eq_true rfl) (Nat.le_of_ble_eq_true rfl) (Nat.le_of_ble_eq_true rfl) (Nat.le_of_ble_eq_true rfl) (by decide +kernel) rfl ?_
  refine Hz.putR (pc' := 116) (k := 0) (j := 7) (t := 88) (S' := hs78) (fs := [(0, 1), (0, 3), (0, 5), (0, 19), (0, 59), (0, 66), (0, 73), (4, 0), (4, 0), (4, 0), (4, 0), (1, 0)]) fi_X_61 (Or.inl ⟨_, rfl⟩) (fun C T N h => by cases h; rfl) rfl (by decide +kernel) rfl (by decide +kernel) rfl rfl ?_
  refine Hz.aload_n (q := 0) (pc' := 117) (by decide +kernel) rfl 0 rfl ?_
  refine Hz.newO' 99 (idx := 65) (pc' := 120) (ty := g_ty8) (fs := [(4, 0), (4, 0), (4, 0), (4, 0), (4, 0), (4, 0), (1, 0), (1, 0)]) (S' := hs79) (by decide +kernel) rfl g_ws8 g_tyok8 (by decide +kernel) (by decide +kernel) (g_in1 207 (by decide +kernel) (by decide +kernel)) (g_in1 208 (by decide +kernel) (by decide +kernel)) (g_in1 10 (by decide +kernel) (by decide +kernel)) (by decide +kernel) rfl (Nat.le_of_ble_eq_true rfl) (Nat.le_of_ble_eq_true rfl) rfl rfl rfl ?_
  refine Hz.dup (pc' := 121) (by decide +kernel) rfl rfl ?_
  refine Hz.aload_n (q := 0) (pc' := 122) (by decide +kernel) rfl 0 rfl ?_
  refine Hz.getR (pc' := 125) (k := 0) (j := 3) (fs := [(0, 1), (0, 3), (0, 5), (0, 19), (0, 59), (0, 66), (0, 73), (0, 88), (4, 0), (4, 0), (4, 0), (1, 0)]) 19 fi_X_33 (by decide +kernel) rfl (by decide +kernel) rfl ?_
  refine Hz.aload_n (q := 0) (pc' := 126) (by decide +kernel) rfl 0 rfl ?_
  refine Hz.getR (pc' := 129) (k := 0) (j := 2) (fs := [(0, 1), (0, 3), (0, 5), (0, 19), (0, 59), (0, 66), (0, 73), (0, 88), (4, 0), (4, 0), (4, 0), (1, 0)]) 5 fi_X_26 (by decide +kernel) rfl (by decide +kernel) rfl ?_
  refine Hz.aload_n (q := 0) (pc' := 130) (by decide +kernel) rfl 0 rfl ?_
  refine Hz.getR (pc' := 133) (k := 0) (j := 4) (fs := [(0, 1), (0, 3), (0, 5), (0, 19), (0, 59), (0, 66), (0, 73), (0, 88), (4, 0), (4, 0), (4, 0), (1, 0)]) 59 fi_X_40 (by decide +kernel) rfl (by decide +kernel) rfl ?_
  refine Hz.aload_n (q := 0) (pc' := 134) (by decide +kernel) rfl 0 rfl ?_
  refine Hz.getR (pc' := 137) (k := 0) (j := 6) (fs := [(0, 1), (0, 3), (0, 5), (0, 19), (0, 59), (0, 66), (0, 73), (0, 88), (4, 0), (4, 0), (4, 0), (1, 0)]) 73 fi_X_52 (by decide +kernel) rfl (by decide +kernel) rfl ?_
  refine Hz.ctor (z := m_Le_init) (st := [.ref 99, .ref 0]) (b := 99) (As := [.ref 19, .ref 5, .ref 59, .ref 73]) (idx := 67) (pc' := 140) hc_Le ok_m_Le_init (g_in1 209 (by decide +kernel) (by decide +kernel)) rfl (Nat.le_of_ble_eq_true rfl) (Nat.le_of_ble_eq_true rfl) (Nat.le_of_ble_eq_true rfl) (Nat.le_of_ble_eq_true rfl) (Nat.le_of_ble_eq_true rfl) (by decide +kernel) rfl ?_
  refine Hz.putR (pc' := 143) (k := 0) (j := 8) (t := 99) (S' := hs88) (fs := [(0, 1), (0, 3), (0, 5), (0, 19), (0, 59), (0, 66), (0, 73), (0, 88), (4, 0), (4, 0), (4, 0), (1, 0)]) fi_X_70 (Or.inl ⟨_, rfl⟩) (fun C T N h => by cases h; rfl) rfl (by decide +kernel) rfl (by decide +kernel) rfl rfl ?_
  refine Hz.aload_n (q := 0) (pc' := 144) (by decide +kernel) rfl 0 rfl ?_
  refine Hz.newO' 102 (idx := 74) (pc' := 147) (ty := g_ty9) (fs := [(4, 0), (4, 0), (4, 0), (4, 0), (4, 0), (2, 0), (1, 0)]) (S' := hs89) (by decide +kernel) rfl g_ws9 g_tyok9 (by decide +kernel) (by decide +kernel) (g_in1 238 (by decide +kernel) (by decide +kernel)) (g_in1 239 (by decide +kernel) (by decide +kernel)) (g_in1 11 (by decide +kernel) (by decide +kernel)) (by decide +kernel) rfl (Nat.le_of_ble_eq_true rfl) (Nat.le_of_ble_eq_true rfl) rfl rfl rfl ?_
  refine Hz.dup (pc' := 148) (by decide +kernel) rfl rfl ?_
  refine Hz.aload_n (q := 0) (pc' := 149) (by decide +kernel) rfl 0 rfl ?_
  refine Hz.getR (pc' := 152) (k := 0) (j := 3) (fs := [(0, 1), (0, 3), (0, 5), (0, 19), (0, 59), (0, 66), (0, 73), (0, 88), (0, 99), (4, 0), (4, 0), (1, 0)]) 19 fi_X_33 (by decide +kernel) rfl (by decide +kernel) rfl ?_
  refine Hz.aload_n (q := 0) (pc' := 153) (by decide +kernel) rfl 0 rfl ?_
  refine Hz.getR (pc' := 156) (k := 0) (j := 4) (fs := [(0, 1), (0, 3), (0, 5), (0, 19), (0, 59), (0, 66), (0, 73), (0, 88), (0, 99), (4, 0), (4, 0), (1, 0)]) 59 fi_X_40 (by decide +kernel) rfl (by decide +kernel) rfl ?_
  refine Hz.aload_n (q := 0) (pc' := 157) (by decide +kernel) rfl 0 rfl ?_
  refine Hz.getR (pc' := 160) (k := 0) (j := 6) (fs := [(0, 1), (0, 3), (0, 5), (0, 19), (0, 59), (0, 66), (0, 73), (0, 88), (0, 99), (4, 0), (4, 0), (1, 0)]) 73 fi_X_52 (by decide +kernel) rfl (by decide +kernel) rfl ?_
  refine Hz.ctor (z := m_Ch_init) (st := [.ref 102, .ref 0]) (b := 102) (As := [.ref 19, .ref 59, .ref 73]) (idx := 76) (pc' := 163) hc_Ch ok_m_Ch_init (g_in2 0 (by decide +kernel) (by decide +kernel)) rfl (Nat.le_of_ble_eq_true rfl) (Nat.le_of_ble_eq_true rfl) (Nat.le_of_ble_eq_true rfl) (Nat.le_of_ble_eq_true rfl) (Nat.le_of_ble_eq_true rfl) (by decide +kernel) rfl ?_
  refine Hz.putR (pc' := 166) (k := 0) (j := 9) (t := 102) (S' := hs97) (fs := [(0, 1), (0, 3), (0, 5), (0, 19), (0, 59), (0, 66), (0, 73), (0, 88), (0, 99), (4, 0), (4, 0), (1, 0)]) fi_X_79 (Or.inl ⟨_, rfl⟩) (fun C T N h => by cases h; rfl) rfl (by decide +kernel) rfl (by decide +kernel) rfl rfl ?_
  refine Hz.aload_n (q := 0) (pc' := 167) (by decide +kernel) rfl 0 rfl ?_
  refine Hz.newO' 105 (idx := 83) (pc' := 170) (ty := g_ty10) (fs := [(4, 0), (4, 0), (4, 0), (1, 0)]) (S' := hs98) (by decide +kernel) rfl g_ws10 g_tyok10 (by decide +kernel) (by decide +kernel) (g_in2 26 (by decide +kernel) (by decide +kernel)) (g_in2 27 (by decide +kernel) (by decide +kernel)) (g_in1 12 (by decide +kernel) (by decide +kernel)) (by decide +kernel) rfl (Nat.le_of_ble_eq_true rfl) (Nat.le_of_ble_eq_true rfl) rfl rfl rfl ?_
  refine Hz.dup (pc' := 171) (by decide +kernel) rfl rfl ?_
  refine Hz.aload_n (q := 0) (pc' := 172) (by decide +kernel) rfl 0 rfl ?_
  refine Hz.getR (pc' := 175) (k := 0) (j := 2) (fs := [(0, 1), (0, 3), (0, 5), (0, 19), (0, 59), (0, 66), (0, 73), (0, 88), (0, 99), (0, 102), (4, 0), (1, 0)]) 5 fi_X_26 (by decide +kernel) rfl (by decide +kernel) rfl ?_
  refine Hz.aload_n (q := 0) (pc' := 176) (by decide +kernel) rfl 0 rfl ?_
  refine Hz.getR (pc' := 179) (k := 0) (j := 7) (fs := [(0, 1), (0, 3), (0, 5), (0, 19), (0, 59), (0, 66), (0, 73), (0, 88), (0, 99), (0, 102), (4, 0), (1, 0)]) 88 fi_X_61 (by decide +kernel) rfl (by decide +kernel) rfl ?_
  refine Hz.ctor (z := m_Ga_init) (st := [.ref 105, .ref 0]) (b := 105) (As := [.ref 5, .ref 88]) (idx := 85) (pc' := 182) hc_Ga ok_m_Ga_init (g_in2 28 (by decide +kernel) (by decide +kernel)) rfl (Nat.le_of_ble_eq_true rfl) (Nat.le_of_ble_eq_true rfl) (Nat.le_of_ble_eq_true rfl) (Nat.le_of_ble_eq_true rfl) (Nat.le_of_ble_eq_true rfl) (by decide +kernel) rfl ?_
  refine Hz.putR (pc' := 185) (k := 0) (j := 10) (t := 105) (S' := hs103) (fs := [(0, 1), (0, 3), (0, 5), (0, 19), (0, 59), (0, 66), (0, 73), (0, 88), (0, 99), (0, 102), (4, 0), (1, 0)]) fi_X_88 (Or.inl ⟨_, rfl⟩) (fun C T N h => by cases h; rfl) rfl (by decide +kernel) rfl (by decide +kernel) rfl rfl ?_
  refine Hz.aload_n (q := 0) (pc' := 186) (by decide +kernel) rfl 0 rfl ?_
  refine Hz.iconst (n := 0) (v := (0 : Int32)) (pc' := 187) (by decide +kernel) rfl rfl ?_
  refine Hz.putN (pc' := 190) (k := 0) (j := 11) (f1 := (1, 0)) (S' := hs104) (w' := hw3) (fs := [(0, 1), (0, 3), (0, 5), (0, 19), (0, 59), (0, 66), (0, 73), (0, 88), (0, 99), (0, 102), (0, 105), (1, 0)]) fi_X_92 (by decide +kernel) rfl (by decide +kernel) rfl (fun _ => rfl) (fun _ => rfl) (fun _ => rfl) (zsI_ne _ _ _ _) (zsI_other _ _ _ _) rfl ?_
  exact Hz.ret (by decide +kernel) rfl rfl rfl ⟨rfl, rfl⟩
set_option maxRecDepth 100000 in
theorem hc_M {l : Launch} : Hz l m_M_init 1 27 68719 0 0 0 (lv_args 0 [.ref 107]) [] hs105 hw3 (fun S w => S = hs160 ∧ w = hw4) := by
  show Hz l m_M_init 1 27 68719 0 0 0 [(0, .ref 107)] [] hs105 hw3 _
  refine Hz.aload_n (q := 0) (pc' := 1) (by decide +kernel) rfl 0 rfl ?_
  refine Hz.obj (idx := 1) (pc' := 4) (g_in6 188 (by decide +kernel) (by decide +kernel)) ob_i ob_c (by decide +kernel) rfl (Nat.le_of_ble_eq_true rfl) (Nat.le_of_ble_eq_true rfl) ?_
  refine Hz.aload_n (q := 0) (pc' := 5) (by decide +kernel) rfl 0 rfl ?_
  refine Hz.bipush (n := 120) (v := (120 : Int32)) (pc' := 7) (by decide +kernel) rfl rfl ?_
  refine Hz.newA' 108 (kd := 3) (n := 120) (at_ := .byte) (pc' := 9) (S' := hs106) (by decide +kernel) (Or.inr (Or.inr (Or.inl rfl))) rfl ac_byte (by decide +kernel) rfl (by decide) rfl (Nat.le_of_ble_eq_true rfl) (Nat.le_of_ble_eq_true rfl) (Nat.le_of_ble_eq_true rfl) rfl rfl rfl ?_
  refine Hz.putR (pc' := 12) (k := 107) (j := 1) (t := 108) (S' := hs107) (fs := [(1, 0), (4, 0), (4, 0), (4, 0), (4, 0), (1, 0), (1, 0), (1, 0), (1, 0), (1, 0), (1, 0), (1, 0), (4, 0), (1, 0), (1, 0), (4, 0), (4, 0), (4, 0), (4, 0), (4, 0), (4, 0), (1, 0), (1, 0), (1, 0), (1, 0), (4, 0), (1, 0), (4, 0), (4, 0), (4, 0), (4, 0), (4, 0), (4, 0), (4, 0), (4, 0), (1, 0), (1, 0), (1, 0), (4, 0), (1, 0), (1, 0), (1, 0), (1, 0), (1, 0), (1, 0), (4, 0), (1, 0), (1, 0), (1, 0), (4, 0), (4, 0), (4, 0), (4, 0), (4, 0), (4, 0), (1, 0), (1, 0), (1, 0), (1, 0)]) fi_M_9 (Or.inr ⟨_, rfl⟩) (fun C T N h => by cases h; rfl) rfl (by decide +kernel) rfl (by decide +kernel) rfl rfl ?_
  refine Hz.aload_n (q := 0) (pc' := 13) (by decide +kernel) rfl 0 rfl ?_
  refine Hz.sipush (n := 960) (v := (960 : Int32)) (pc' := 16) (by decide +kernel) rfl rfl ?_
  refine Hz.newA' 109 (kd := 3) (n := 960) (at_ := .byte) (pc' := 18) (S' := hs108) (by decide +kernel) (Or.inr (Or.inr (Or.inl rfl))) rfl ac_byte (by decide +kernel) rfl (by decide) rfl (Nat.le_of_ble_eq_true rfl) (Nat.le_of_ble_eq_true rfl) (Nat.le_of_ble_eq_true rfl) rfl rfl rfl ?_
  refine Hz.putR (pc' := 21) (k := 107) (j := 2) (t := 109) (S' := hs109) (fs := [(1, 0), (0, 108), (4, 0), (4, 0), (4, 0), (1, 0), (1, 0), (1, 0), (1, 0), (1, 0), (1, 0), (1, 0), (4, 0), (1, 0), (1, 0), (4, 0), (4, 0), (4, 0), (4, 0), (4, 0), (4, 0), (1, 0), (1, 0), (1, 0), (1, 0), (4, 0), (1, 0), (4, 0), (4, 0), (4, 0), (4, 0), (4, 0), (4, 0), (4, 0), (4, 0), (1, 0), (1, 0), (1, 0), (4, 0), (1, 0), (1, 0), (1, 0), (1, 0), (1, 0), (1, 0), (4, 0), (1, 0), (1, 0), (1, 0), (4, 0), (4, 0), (4, 0), (4, 0), (4, 0), (4, 0), (1, 0), (1, 0), (1, 0), (1, 0)]) fi_M_13 (Or.inr ⟨_, rfl⟩) (fun C T N h => by cases h; rfl) rfl (by decide +kernel) rfl (by decide +kernel) rfl rfl ?_
  refine Hz.aload_n (q := 0) (pc' := 22) (by decide +kernel) rfl 0 rfl ?_
  refine Hz.bipush (n := 8) (v := (8 : Int32)) (pc' := 24) (by decide +kernel) rfl rfl ?_
  refine Hz.newA' 110 (kd := 1) (n := 8) (at_ := .int) (pc' := 26) (S' := hs110) (by decide +kernel) (Or.inl rfl) rfl ac_int (by decide +kernel) rfl (by decide) rfl (Nat.le_of_ble_eq_true rfl) (Nat.le_of_ble_eq_true rfl) (Nat.le_of_ble_eq_true rfl) rfl rfl rfl ?_
  refine Hz.putR (pc' := 29) (k := 107) (j := 3) (t := 110) (S' := hs111) (fs := [(1, 0), (0, 108), (0, 109), (4, 0), (4, 0), (1, 0), (1, 0), (1, 0), (1, 0), (1, 0), (1, 0), (1, 0), (4, 0), (1, 0), (1, 0), (4, 0), (4, 0), (4, 0), (4, 0), (4, 0), (4, 0), (1, 0), (1, 0), (1, 0), (1, 0), (4, 0), (1, 0), (4, 0), (4, 0), (4, 0), (4, 0), (4, 0), (4, 0), (4, 0), (4, 0), (1, 0), (1, 0), (1, 0), (4, 0), (1, 0), (1, 0), (1, 0), (1, 0), (1, 0), (1, 0), (4, 0), (1, 0), (1, 0), (1, 0), (4, 0), (4, 0), (4, 0), (4, 0), (4, 0), (4, 0), (1, 0), (1, 0), (1, 0), (1, 0)]) fi_M_16 (Or.inr ⟨_, rfl⟩) (fun C T N h => by cases h; rfl) rfl (by decide +kernel) rfl (by decide +kernel) rfl rfl ?_
  refine Hz.aload_n (q := 0) (pc' := 30) (by decide +kernel) rfl 0 rfl ?_
  refine Hz.aload_n (q := 0) (pc' := 31) (by decide +kernel) rfl 0 rfl ?_
  refine Hz.getR (pc' := 34) (k := 107) (j := 1) (fs := [(1, 0), (0, 108), (0, 109), (0, 110), (4, 0), (1, 0), (1, 0), (1, 0), (1, 0), (1, 0), (1, 0), (1, 0), (4, 0), (1, 0), (1, 0), (4, 0), (4, 0), (4, 0), (4, 0), (4, 0), (4, 0), (1, 0), (1, 0), (1, 0), (1, 0), (4, 0), (1, 0), (4, 0), (4, 0), (4, 0), (4, 0), (4, 0), (4, 0), (4, 0), (4, 0), (1, 0), (1, 0), (1, 0), (4, 0), (1, 0), (1, 0), (1, 0), (1, 0), (1, 0), (1, 0), (4, 0), (1, 0), (1, 0), (1, 0), (4, 0), (4, 0), (4, 0), (4, 0), (4, 0), (4, 0), (1, 0), (1, 0), (1, 0), (1, 0)]) 108 fi_M_9 (by decide +kernel) rfl (by decide +kernel) rfl ?_
  refine Hz.putN (pc' := 37) (k := 107) (j := 4) (f1 := (3, 0)) (S' := hs112) (w' := hw4) (fs := [(1, 0), (0, 108), (0, 109), (0, 110), (4, 0), (1, 0), (1, 0), (1, 0), (1, 0), (1, 0), (1, 0), (1, 0), (4, 0), (1, 0), (1, 0), (4, 0), (4, 0), (4, 0), (4, 0), (4, 0), (4, 0), (1, 0), (1, 0), (1, 0), (1, 0), (4, 0), (1, 0), (4, 0), (4, 0), (4, 0), (4, 0), (4, 0), (4, 0), (4, 0), (4, 0), (1, 0), (1, 0), (1, 0), (4, 0), (1, 0), (1, 0), (1, 0), (1, 0), (1, 0), (1, 0), (4, 0), (1, 0), (1, 0), (1, 0), (4, 0), (4, 0), (4, 0), (4, 0), (4, 0), (4, 0), (1, 0), (1, 0), (1, 0), (1, 0)]) fi_M_20 (by decide +kernel) rfl (by decide +kernel) rfl (fun _ => rfl) (fun _ => rfl) (fun _ => rfl) (zsI_ne _ _ _ _) (zsI_other _ _ _ _) rfl ?_
  refine Hz.aload_n (q := 0) (pc' := 38) (by decide +kernel) rfl 0 rfl ?_
  refine Hz.iconst (n := 5) (v := (5 : Int32)) (pc' := 39) (by decide +kernel) rfl rfl ?_
  refine Hz.newA' 111 (kd := 1) (n := 5) (at_ := .int) (pc' := 41) (S' := hs113) (by decide +kernel) (Or.inl rfl) rfl ac_int (by decide +kernel) rfl (by decide) rfl (Nat.le_of_ble_eq_true rfl) (Nat.le_of_ble_eq_true rfl) (Nat.le_of_ble_eq_true rfl) rfl rfl rfl ?_
  refine Hz.putR (pc' := 44) (k := 107) (j := 12) (t := 111) (S' := hs114) (fs := [(1, 0), (0, 108), (0, 109), (0, 110), (3, 0), (1, 0), (1, 0), (1, 0), (1, 0), (1, 0), (1, 0), (1, 0), (4, 0), (1, 0), (1, 0), (4, 0), (4, 0), (4, 0), (4, 0), (4, 0), (4, 0), (1, 0), (1, 0), (1, 0), (1, 0), (4, 0), (1, 0), (4, 0), (4, 0), (4, 0), (4, 0), (4, 0), (4, 0), (4, 0), (4, 0), (1, 0), (1, 0), (1, 0), (4, 0), (1, 0), (1, 0), (1, 0), (1, 0), (1, 0), (1, 0), (4, 0), (1, 0), (1, 0), (1, 0), (4, 0), (4, 0), (4, 0), (4, 0), (4, 0), (4, 0), (1, 0), (1, 0), (1, 0), (1, 0)]) fi_M_23 (Or.inr ⟨_, rfl⟩) (fun C T N h => by cases h; rfl) rfl (by decide +kernel) rfl (by decide +kernel) rfl rfl ?_
  refine Hz.aload_n (q := 0) (pc' := 45) (by decide +kernel) rfl 0 rfl ?_
  refine Hz.iconst (n := 5) (v := (5 : Int32)) (pc' := 46) (by decide +kernel) rfl rfl ?_
  refine Hz.newA' 112 (kd := 1) (n := 5) (at_ := .int) (pc' := 48) (S' := hs115) (by decide +kernel) (Or.inl rfl) rfl ac_int (by decide +kernel) rfl (by decide) rfl (Nat.le_of_ble_eq_true rfl) (Nat.le_of_ble_eq_true rfl) (Nat.le_of_ble_eq_true rfl) rfl rfl rfl ?_
  refine Hz.putR (pc' := 51) (k := 107) (j := 15) (t := 112) (S' := hs116) (fs := [(1, 0), (0, 108), (0, 109), (0, 110), (3, 0), (1, 0), (1, 0), (1, 0), (1, 0), (1, 0), (1, 0), (1, 0), (0, 111), (1, 0), (1, 0), (4, 0), (4, 0), (4, 0), (4, 0), (4, 0), (4, 0), (1, 0), (1, 0), (1, 0), (1, 0), (4, 0), (1, 0), (4, 0), (4, 0), (4, 0), (4, 0), (4, 0), (4, 0), (4, 0), (4, 0), (1, 0), (1, 0), (1, 0), (4, 0), (1, 0), (1, 0), (1, 0), (1, 0), (1, 0), (1, 0), (4, 0), (1, 0), (1, 0), (1, 0), (4, 0), (4, 0), (4, 0), (4, 0), (4, 0), (4, 0), (1, 0), (1, 0), (1, 0), (1, 0)]) fi_M_26 (Or.inr ⟨_, rfl⟩) (fun C T N h => by cases h; rfl) rfl (by decide +kernel) rfl (by decide +kernel) rfl rfl ?_
  refine Hz.aload_n (q := 0) (pc' := 52) (by decide +kernel) rfl 0 rfl ?_
  refine Hz.iconst (n := 5) (v := (5 : Int32)) (pc' := 53) (by decide +kernel) rfl rfl ?_
  refine Hz.newA' 113 (kd := 1) (n := 5) (at_ := .int) (pc' := 55) (S' := hs117) (by decide +kernel) (Or.inl rfl) rfl ac_int (by decide +kernel) rfl (by decide) rfl (Nat.le_of_ble_eq_true rfl) (Nat.le_of_ble_eq_true rfl) (Nat.le_of_ble_eq_true rfl) rfl rfl rfl ?_
  refine Hz.putR (pc' := 58) (k := 107) (j := 16) (t := 113) (S' := hs118) (fs := [(1, 0), (0, 108), (0, 109), (0, 110), (3, 0), (1, 0), (1, 0), (1, 0), (1, 0), (1, 0), (1, 0), (1, 0), (0, 111), (1, 0), (1, 0), (0, 112), (4, 0), (4, 0), (4, 0), (4, 0), (4, 0), (1, 0), (1, 0), (1, 0), (1, 0), (4, 0), (1, 0), (4, 0), (4, 0), (4, 0), (4, 0), (4, 0), (4, 0), (4, 0), (4, 0), (1, 0), (1, 0), (1, 0), (4, 0), (1, 0), (1, 0), (1, 0), (1, 0), (1, 0), (1, 0), (4, 0), (1, 0), (1, 0), (1, 0), (4, 0), (4, 0), (4, 0), (4, 0), (4, 0), (4, 0), (1, 0), (1, 0), (1, 0), (1, 0)]) fi_M_29 (Or.inr ⟨_, rfl⟩) (fun C T N h => by cases h; rfl) rfl (by decide +kernel) rfl (by decide +kernel) rfl rfl ?_
  refine Hz.aload_n (q := 0) (pc' := 59) (by decide +kernel) rfl 0 rfl ?_
  refine Hz.iconst (n := 5) (v := (5 : Int32)) (pc' := 60) (by decide +kernel) rfl rfl ?_
  refine Hz.newA' 114 (kd := 1) (n := 5) (at_ := .int) (pc' := 62) (S' := hs119) (by decide +kernel) (Or.inl rfl) rfl ac_int (by decide +kernel) rfl (by decide) rfl (Nat.le_of_ble_eq_true rfl) (Nat.le_of_ble_eq_true rfl) (Nat.le_of_ble_eq_true rfl) rfl rfl rfl ?_
  refine Hz.putR (pc' := 65) (k := 107) (j := 17) (t := 114) (S' := hs120) (fs := [(1, 0), (0, 108), (0, 109), (0, 110), (3, 0), (1, 0), (1, 0), (1, 0), (1, 0), (1, 0), (1, 0), (1, 0), (0, 111), (1, 0), (1, 0), (0, 112), (0, 113), (4, 0), (4, 0), (4, 0), (4, 0), (1, 0), (1, 0), (1, 0), (1, 0), (4, 0), (1, 0), (4, 0), (4, 0), (4, 0), (4, 0), (4, 0), (4, 0), (4, 0), (4, 0), (1, 0), (1, 0), (1, 0), (4, 0), (1, 0), (1, 0), (1, 0), (1, 0), (1, 0), (1, 0), (4, 0), (1, 0), (1, 0), (1, 0), (4, 0), (4, 0), (4, 0), (4, 0), (4, 0), (4, 0), (1, 0), (1, 0), (1, 0), (1, 0)]) fi_M_32 (Or.inr ⟨_, rfl⟩) (fun C T N h => by cases h; rfl) rfl (by decide +kernel) rfl (by decide +kernel) rfl rfl ?_
  refine Hz.aload_n (q := 0) (pc' := 66) (by decide +kernel) rfl 0 rfl ?_
  refine Hz.iconst (n := 5) (v := (5 : Int32)) (pc' := 67) (by decide +kernel) rfl rfl ?_
  refine Hz.newA' 115 (kd := 1) (n := 5) (at_ := .int) (pc' := 69) (S' := hs121) (by decide +kernel) (Or.inl rfl) rfl ac_int (by decide +kernel) rfl (by decide) rfl (Nat.le_of_ble_eq_true rfl) (Nat.le_of_ble_eq_true rfl) (Nat.le_of_ble_eq_true rfl) rfl rfl rfl ?_
  refine Hz.putR (pc' := 72) (k := 107) (j := 18) (t := 115) (S' := hs122) (fs := [(1, 0), (0, 108), (0, 109), (0, 110), (3, 0), (1, 0), (1, 0), (1, 0), (1, 0), (1, 0), (1, 0), (1, 0), (0, 111), (1, 0), (1, 0), (0, 112), (0, 113), (0, 114), (4, 0), (4, 0), (4, 0), (1, 0), (1, 0), (1, 0), (1, 0), (4, 0), (1, 0), (4, 0), (4, 0), (4, 0), (4, 0), (4, 0), (4, 0), (4, 0), (4, 0), (1, 0), (1, 0), (1, 0), (4, 0), (1, 0), (1, 0), (1, 0), (1, 0), (1, 0), (1, 0), (4, 0), (1, 0), (1, 0), (1, 0), (4, 0), (4, 0), (4, 0), (4, 0), (4, 0), (4, 0), (1, 0), (1, 0), (1, 0), (1, 0)]) fi_M_35 (Or.inr ⟨_, rfl⟩) (fun C T N h => by cases h; rfl) rfl (by decide +kernel) rfl (by decide +kernel) rfl rfl ?_
  refine Hz.aload_n (q := 0) (pc' := 73) (by decide +kernel) rfl 0 rfl ?_
  refine Hz.iconst (n := 5) (v := (5 : Int32)) (pc' := 74) (by decide +kernel) rfl rfl ?_
  refine Hz.newA' 116 (kd := 1) (n := 5) (at_ := .int) (pc' := 76) (S' := hs123) (by decide +kernel) (Or.inl rfl) rfl ac_int (by decide +kernel) rfl (by decide) rfl (Nat.le_of_ble_eq_true rfl) (Nat.le_of_ble_eq_true rfl) (Nat.le_of_ble_eq_true rfl) rfl rfl rfl ?_
  refine Hz.putR (pc' := 79) (k := 107) (j := 19) (t := 116) (S' := hs124) (fs := [(1, 0), (0, 108), (0, 109), (0, 110), (3, 0), (1, 0), (1, 0), (1, 0), (1, 0), (1, 0), (1, 0), (1, 0), (0, 111), (1, 0), (1, 0), (0, 112), (0, 113), (0, 114), (0, 115), (4, 0), (4, 0), (1, 0), (1, 0), (1, 0), (1, 0), (4, 0), (1, 0), (4, 0), (4, 0), (4, 0), (4, 0), (4, 0), (4, 0), (4, 0), (4, 0), (1, 0), (1, 0), (1, 0), (4, 0), (1, 0), (1, 0), (1, 0), (1, 0), (1, 0), (1, 0), (4, 0), (1, 0), (1, 0), (1, 0), (4, 0), (4, 0), (4, 0), (4, 0), (4, 0), (4, 0), (1, 0), (1, 0), (1, 0), (1, 0)]) fi_M_38 (Or.inr ⟨_, rfl⟩) (fun C T N h => by cases h; rfl) rfl (by decide +kernel) rfl (by decide +kernel) rfl rfl ?_
  refine Hz.aload_n (q := 0) (pc' := 80) (by decide +kernel) rfl 0 rfl ?_
  refine Hz.iconst (n := 5) (v := (5 : Int32)) (pc' := 81) (by decide +kernel) rfl rfl ?_
  refine Hz.newA' 117 (kd := 1) (n := 5) (at_ := .int) (pc' := 83) (S' := hs125) (by decide +kernel) (Or.inl rfl) rfl ac_int (by decide +kernel) rfl (by decide) rfl (Nat.le_of_ble_eq_true rfl) (Nat.le_of_ble_eq_true rfl) (Nat.le_of_ble_eq_true rfl) rfl rfl rfl ?_
  refine Hz.putR (pc' := 86) (k := 107) (j := 20) (t := 117) (S' := hs126) (fs := [(1, 0), (0, 108), (0, 109), (0, 110), (3, 0), (1, 0), (1, 0), (1, 0), (1, 0), (1, 0), (1, 0), (1, 0), (0, 111), (1, 0), (1, 0), (0, 112), (0, 113), (0, 114), (0, 115), (0, 116), (4, 0), (1, 0), (1, 0), (1, 0), (1, 0), (4, 0), (1, 0), (4, 0), (4, 0), (4, 0), (4, 0), (4, 0), (4, 0), (4, 0), (4, 0), (1, 0), (1, 0), (1, 0), (4, 0), (1, 0), (1, 0), (1, 0), (1, 0), (1, 0), (1, 0), (4, 0), (1, 0), (1, 0), (1, 0), (4, 0), (4, 0), (4, 0), (4, 0), (4, 0), (4, 0), (1, 0), (1, 0), (1, 0), (1, 0)]) fi_M_41 (Or.inr ⟨_, rfl⟩) (fun C T N h => by cases h; rfl) rfl (by decide +kernel) rfl (by decide +kernel) rfl rfl ?_
  refine Hz.aload_n (q := 0) (pc' := 87) (by decide +kernel) rfl 0 rfl ?_
  refine Hz.sipush (n := 16807) (v := (16807 : Int32)) (pc' := 90) (by decide +kernel) rfl rfl ?_
  refine Hz.newA' 118 (kd := 1) (n := 16807) (at_ := .int) (pc' := 92) (S' := hs127) (by decide +kernel) (Or.inl rfl) rfl ac_int (by decide +kernel) rfl (by decide) rfl (Nat.le_of_ble_eq_true rfl) (Nat.le_of_ble_eq_true rfl) (Nat.le_of_ble_eq_true rfl) rfl rfl rfl ?_
  refine Hz.putR (pc' := 95) (k := 107) (j := 25) (t := 118) (S' := hs128) (fs := [(1, 0), (0, 108), (0, 109), (0, 110), (3, 0), (1, 0), (1, 0), (1, 0), (1, 0), (1, 0), (1, 0), (1, 0), (0, 111), (1, 0), (1, 0), (0, 112), (0, 113), (0, 114), (0, 115), (0, 116), (0, 117), (1, 0), (1, 0), (1, 0), (1, 0), (4, 0), (1, 0), (4, 0), (4, 0), (4, 0), (4, 0), (4, 0), (4, 0), (4, 0), (4, 0), (1, 0), (1, 0), (1, 0), (4, 0), (1, 0), (1, 0), (1, 0), (1, 0), (1, 0), (1, 0), (4, 0), (1, 0), (1, 0), (1, 0), (4, 0), (4, 0), (4, 0), (4, 0), (4, 0), (4, 0), (1, 0), (1, 0), (1, 0), (1, 0)]) fi_M_44 (Or.inr ⟨_, rfl⟩) (fun C T N h => by cases h; rfl) rfl (by decide +kernel) rfl (by decide +kernel) rfl rfl ?_
  refine Hz.aload_n (q := 0) (pc' := 96) (by decide +kernel) rfl 0 rfl ?_
  refine Hz.bipush (n := 10) (v := (10 : Int32)) (pc' := 98) (by decide +kernel) rfl rfl ?_
  refine Hz.newA' 119 (kd := 1) (n := 10) (at_ := .int) (pc' := 100) (S' := hs129) (by decide +kernel) (Or.inl rfl) rfl ac_int (by decide +kernel) rfl (by decide) rfl (Nat.le_of_ble_eq_true rfl) (Nat.le_of_ble_eq_true rfl) (Nat.le_of_ble_eq_true rfl) rfl rfl rfl ?_
  refine Hz.putR (pc' := 103) (k := 107) (j := 27) (t := 119) (S' := hs130) (fs := [(1, 0), (0, 108), (0, 109), (0, 110), (3, 0), (1, 0), (1, 0), (1, 0), (1, 0), (1, 0), (1, 0), (1, 0), (0, 111), (1, 0), (1, 0), (0, 112), (0, 113), (0, 114), (0, 115), (0, 116), (0, 117), (1, 0), (1, 0), (1, 0), (1, 0), (0, 118), (1, 0), (4, 0), (4, 0), (4, 0), (4, 0), (4, 0), (4, 0), (4, 0), (4, 0), (1, 0), (1, 0), (1, 0), (4, 0), (1, 0), (1, 0), (1, 0), (1, 0), (1, 0), (1, 0), (4, 0), (1, 0), (1, 0), (1, 0), (4, 0), (4, 0), (4, 0), (4, 0), (4, 0), (4, 0), (1, 0), (1, 0), (1, 0), (1, 0)]) fi_M_47 (Or.inr ⟨_, rfl⟩) (fun C T N h => by cases h; rfl) rfl (by decide +kernel) rfl (by decide +kernel) rfl rfl ?_
  refine Hz.aload_n (q := 0) (pc' := 104) (by decide +kernel) rfl 0 rfl ?_
  refine Hz.bipush (n := 10) (v := (10 : Int32)) (pc' := 106) (by decide +kernel) rfl rfl ?_
  refine Hz.newA' 120 (kd := 1) (n := 10) (at_ := .int) (pc' := 108) (S' := hs131) (by decide +kernel) (Or.inl rfl) rfl ac_int (by decide +kernel) rfl (by decide) rfl (Nat.le_of_ble_eq_true rfl) (Nat.le_of_ble_eq_true rfl) (Nat.le_of_ble_eq_true rfl) rfl rfl rfl ?_
  refine Hz.putR (pc' := 111) (k := 107) (j := 28) (t := 120) (S' := hs132) (fs := [(1, 0), (0, 108), (0, 109), (0, 110), (3, 0), (1, 0), (1, 0), (1, 0), (1, 0), (1, 0), (1, 0), (1, 0), (0, 111), (1, 0), (1, 0), (0, 112), (0, 113), (0, 114), (0, 115), (0, 116), (0, 117), (1, 0), (1, 0), (1, 0), (1, 0), (0, 118), (1, 0), (0, 119), (4, 0), (4, 0), (4, 0), (4, 0), (4, 0), (4, 0), (4, 0), (1, 0), (1, 0), (1, 0), (4, 0), (1, 0), (1, 0), (1, 0), (1, 0), (1, 0), (1, 0), (4, 0), (1, 0), (1, 0), (1, 0), (4, 0), (4, 0), (4, 0), (4, 0), (4, 0), (4, 0), (1, 0), (1, 0), (1, 0), (1, 0)]) fi_M_50 (Or.inr ⟨_, rfl⟩) (fun C T N h => by cases h; rfl) rfl (by decide +kernel) rfl (by decide +kernel) rfl rfl ?_
  refine Hz.aload_n (q := 0) (pc' := 112) (by decide +kernel) rfl 0 rfl ?_
  refine Hz.bipush (n := 10) (v := (10 : Int32)) (pc' := 114) (by decide +kernel) rfl rfl ?_
  refine Hz.newA' 121 (kd := 1) (n := 10) (at_ := .int) (pc' := 116) (S' := hs133) (by decide +kernel) (Or.inl rfl) rfl ac_int (by decide +kernel) rfl (by decide) rfl (Nat.le_of_ble_eq_true rfl) (Nat.le_of_ble_eq_true rfl) (Nat.le_of_ble_eq_true rfl) rfl rfl rfl ?_
  refine Hz.putR (pc' := 119) (k := 107) (j := 29) (t := 121) (S' := hs134) (fs := [(1, 0), (0, 108), (0, 109), (0, 110), (3, 0), (1, 0), (1, 0), (1, 0), (1, 0), (1, 0), (1, 0), (1, 0), (0, 111), (1, 0), (1, 0), (0, 112), (0, 113), (0, 114), (0, 115), (0, 116), (0, 117), (1, 0), (1, 0), (1, 0), (1, 0), (0, 118), (1, 0), (0, 119), (0, 120), (4, 0), (4, 0), (4, 0), (4, 0), (4, 0), (4, 0), (1, 0), (1, 0), (1, 0), (4, 0), (1, 0), (1, 0), (1, 0), (1, 0), (1, 0), (1, 0), (4, 0), (1, 0), (1, 0), (1, 0), (4, 0), (4, 0), (4, 0), (4, 0), (4, 0), (4, 0), (1, 0), (1, 0), (1, 0), (1, 0)]) fi_M_53 (Or.inr ⟨_, rfl⟩) (fun C T N h => by cases h; rfl) rfl (by decide +kernel) rfl (by decide +kernel) rfl rfl ?_
  refine Hz.aload_n (q := 0) (pc' := 120) (by decide +kernel) rfl 0 rfl ?_
  refine Hz.bipush (n := 10) (v := (10 : Int32)) (pc' := 122) (by decide +kernel) rfl rfl ?_
  refine Hz.newA' 122 (kd := 1) (n := 10) (at_ := .int) (pc' := 124) (S' := hs135) (by decide +kernel) (Or.inl rfl) rfl ac_int (by decide +kernel) rfl (by decide) rfl (Nat.le_of_ble_eq_true rfl) (Nat.le_of_ble_eq_true rfl) (Nat.le_of_ble_eq_true rfl) rfl rfl rfl ?_
  refine Hz.putR (pc' := 127) (k := 107) (j := 30) (t := 122) (S' := hs136) (fs := [(1, 0), (0, 108), (0, 109), (0, 110), (3, 0), (1, 0), (1, 0), (1, 0), (1, 0), (1, 0), (1, 0), (1, 0), (0, 111), (1, 0), (1, 0), (0, 112), (0, 113), (0, 114), (0, 115), (0, 116), (0, 117), (1, 0), (1, 0), (1, 0), (1, 0), (0, 118), (1, 0), (0, 119), (0, 120), (0, 121), (4, 0), (4, 0), (4, 0), (4, 0), (4, 0), (1, 0), (1, 0), (1, 0), (4, 0), (1, 0), (1, 0), (1, 0), (1, 0), (1, 0), (1, 0), (4, 0), (1, 0), (1, 0), (1, 0), (4, 0), (4, 0), (4, 0), (4, 0), (4, 0), (4, 0), (1, 0), (1, 0), (1, 0), (1, 0)]) fi_M_56 (Or.inr ⟨_, rfl⟩) (fun C T N h => by cases h; rfl) rfl (by decide +kernel) rfl (by decide +kernel) rfl rfl ?_
  refine Hz.aload_n (q := 0) (pc' := 128) (by decide +kernel) rfl 0 rfl ?_
  refine Hz.bipush (n := 20) (v := (20 : Int32)) (pc' := 130) (by decide +kernel) rfl rfl ?_
  refine Hz.newA' 123 (kd := 1) (n := 20) (at_ := .int) (pc' := 132) (S' := hs137) (by decide +kernel) (Or.inl rfl) rfl ac_int (by decide +kernel) rfl (by decide) rfl (Nat.le_of_ble_eq_true rfl) (Nat.le_of_ble_eq_true rfl) (Nat.le_of_ble_eq_true rfl) rfl rfl rfl ?_
  refine Hz.putR (pc' := 135) (k := 107) (j := 31) (t := 123) (S' := hs138) (fs := [(1, 0), (0, 108), (0, 109), (0, 110), (3, 0), (1, 0), (1, 0), (1, 0), (1, 0), (1, 0), (1, 0), (1, 0), (0, 111), (1, 0), (1, 0), (0, 112), (0, 113), (0, 114), (0, 115), (0, 116), (0, 117), (1, 0), (1, 0), (1, 0), (1, 0), (0, 118), (1, 0), (0, 119), (0, 120), (0, 121), (0, 122), (4, 0), (4, 0), (4, 0), (4, 0), (1, 0), (1, 0), (1, 0), (4, 0), (1, 0), (1, 0), (1, 0), (1, 0), (1, 0), (1, 0), (4, 0), (1, 0), (1, 0), (1, 0), (4, 0), (4, 0), (4, 0), (4, 0), (4, 0), (4, 0), (1, 0), (1, 0), (1, 0), (1, 0)]) fi_M_59 (Or.inr ⟨_, rfl⟩) (fun C T N h => by cases h; rfl) rfl (by decide +kernel) rfl (by decide +kernel) rfl rfl ?_
  refine Hz.aload_n (q := 0) (pc' := 136) (by decide +kernel) rfl 0 rfl ?_
  refine Hz.bipush (n := 20) (v := (20 : Int32)) (pc' := 138) (by decide +kernel) rfl rfl ?_
  refine Hz.newA' 124 (kd := 1) (n := 20) (at_ := .int) (pc' := 140) (S' := hs139) (by decide +kernel) (Or.inl rfl) rfl ac_int (by decide +kernel) rfl (by decide) rfl (Nat.le_of_ble_eq_true rfl) (Nat.le_of_ble_eq_true rfl) (Nat.le_of_ble_eq_true rfl) rfl rfl rfl ?_
  refine Hz.putR (pc' := 143) (k := 107) (j := 32) (t := 124) (S' := hs140) (fs := [(1, 0), (0, 108), (0, 109), (0, 110), (3, 0), (1, 0), (1, 0), (1, 0), (1, 0), (1, 0), (1, 0), (1, 0), (0, 111), (1, 0), (1, 0), (0, 112), (0, 113), (0, 114), (0, 115), (0, 116), (0, 117), (1, 0), (1, 0), (1, 0), (1, 0), (0, 118), (1, 0), (0, 119), (0, 120), (0, 121), (0, 122), (0, 123), (4, 0), (4, 0), (4, 0), (1, 0), (1, 0), (1, 0), (4, 0), (1, 0), (1, 0), (1, 0), (1, 0), (1, 0), (1, 0), (4, 0), (1, 0), (1, 0), (1, 0), (4, 0), (4, 0), (4, 0), (4, 0), (4, 0), (4, 0), (1, 0), (1, 0), (1, 0), (1, 0)]) fi_M_62 (Or.inr ⟨_, rfl⟩) (fun C T N h => by cases h; rfl) rfl (by decide +kernel) rfl (by decide +kernel) rfl rfl ?_
  refine Hz.aload_n (q := 0) (pc' := 144) (by decide +kernel) rfl 0 rfl ?_
  refine Hz.bipush (n := 20) (v := (20 : Int32)) (pc' := 146) (by decide +kernel) rfl rfl ?_
  refine Hz.newA' 125 (kd := 4) (n := 20) (at_ := .boolean) (pc' := 148) (S' := hs141) (by decide +kernel) (Or.inr (Or.inr (Or.inr rfl))) rfl ac_boolean (by decide +kernel) rfl (by decide) rfl (Nat.le_of_ble_eq_true rfl) (Nat.le_of_ble_eq_true rfl) (Nat.le_of_ble_eq_true rfl) rfl rfl rfl ?_
  refine Hz.putR (pc' := 151) (k := 107) (j := 33) (t := 125) (S' := hs142) (fs := [(1, 0), (0, 108), (0, 109), (0, 110), (3, 0), (1, 0), (1, 0), (1, 0), (1, 0), (1, 0), (1, 0), (1, 0), (0, 111), (1, 0), (1, 0), (0, 112), (0, 113), (0, 114), (0, 115), (0, 116), (0, 117), (1, 0), (1, 0), (1, 0), (1, 0), (0, 118), (1, 0), (0, 119), (0, 120), (0, 121), (0, 122), (0, 123), (0, 124), (4, 0), (4, 0), (1, 0), (1, 0), (1, 0), (4, 0), (1, 0), (1, 0), (1, 0), (1, 0), (1, 0), (1, 0), (4, 0), (1, 0), (1, 0), (1, 0), (4, 0), (4, 0), (4, 0), (4, 0), (4, 0), (4, 0), (1, 0), (1, 0), (1, 0), (1, 0)]) fi_M_65 (Or.inr ⟨_, rfl⟩) (fun C T N h => by cases h; rfl) rfl (by decide +kernel) rfl (by decide +kernel) rfl rfl ?_
  refine Hz.aload_n (q := 0) (pc' := 152) (by decide +kernel) rfl 0 rfl ?_
  refine Hz.bipush (n := 30) (v := (30 : Int32)) (pc' := 154) (by decide +kernel) rfl rfl ?_
  refine Hz.newA' 126 (kd := 4) (n := 30) (at_ := .boolean) (pc' := 156) (S' := hs143) (by decide +kernel) (Or.inr (Or.inr (Or.inr rfl))) rfl ac_boolean (by decide +kernel) rfl (by decide) rfl (Nat.le_of_ble_eq_true rfl) (Nat.le_of_ble_eq_true rfl) (Nat.le_of_ble_eq_true rfl) rfl rfl rfl ?_
  refine Hz.putR (pc' := 159) (k := 107) (j := 34) (t := 126) (S' := hs144) (fs := [(1, 0), (0, 108), (0, 109), (0, 110), (3, 0), (1, 0), (1, 0), (1, 0), (1, 0), (1, 0), (1, 0), (1, 0), (0, 111), (1, 0), (1, 0), (0, 112), (0, 113), (0, 114), (0, 115), (0, 116), (0, 117), (1, 0), (1, 0), (1, 0), (1, 0), (0, 118), (1, 0), (0, 119), (0, 120), (0, 121), (0, 122), (0, 123), (0, 124), (0, 125), (4, 0), (1, 0), (1, 0), (1, 0), (4, 0), (1, 0), (1, 0), (1, 0), (1, 0), (1, 0), (1, 0), (4, 0), (1, 0), (1, 0), (1, 0), (4, 0), (4, 0), (4, 0), (4, 0), (4, 0), (4, 0), (1, 0), (1, 0), (1, 0), (1, 0)]) fi_M_69 (Or.inr ⟨_, rfl⟩) (fun C T N h => by cases h; rfl) rfl (by decide +kernel) rfl (by decide +kernel) rfl rfl ?_
  refine Hz.aload_n (q := 0) (pc' := 160) (by decide +kernel) rfl 0 rfl ?_
  refine Hz.sipush (n := 16807) (v := (16807 : Int32)) (pc' := 163) (by decide +kernel) rfl rfl ?_
  refine Hz.newA' 127 (kd := 1) (n := 16807) (at_ := .int) (pc' := 165) (S' := hs145) (by decide +kernel) (Or.inl rfl) rfl ac_int (by decide +kernel) rfl (by decide) rfl (Nat.le_of_ble_eq_true rfl) (Nat.le_of_ble_eq_true rfl) (Nat.le_of_ble_eq_true rfl) rfl rfl rfl ?_
  refine Hz.putR (pc' := 168) (k := 107) (j := 38) (t := 127) (S' := hs146) (fs := [(1, 0), (0, 108), (0, 109), (0, 110), (3, 0), (1, 0), (1, 0), (1, 0), (1, 0), (1, 0), (1, 0), (1, 0), (0, 111), (1, 0), (1, 0), (0, 112), (0, 113), (0, 114), (0, 115), (0, 116), (0, 117), (1, 0), (1, 0), (1, 0), (1, 0), (0, 118), (1, 0), (0, 119), (0, 120), (0, 121), (0, 122), (0, 123), (0, 124), (0, 125), (0, 126), (1, 0), (1, 0), (1, 0), (4, 0), (1, 0), (1, 0), (1, 0), (1, 0), (1, 0), (1, 0), (4, 0), (1, 0), (1, 0), (1, 0), (4, 0), (4, 0), (4, 0), (4, 0), (4, 0), (4, 0), (1, 0), (1, 0), (1, 0), (1, 0)]) fi_M_72 (Or.inr ⟨_, rfl⟩) (fun C T N h => by cases h; rfl) rfl (by decide +kernel) rfl (by decide +kernel) rfl rfl ?_
  refine Hz.aload_n (q := 0) (pc' := 169) (by decide +kernel) rfl 0 rfl ?_
  refine Hz.sipush (n := 16807) (v := (16807 : Int32)) (pc' := 172) (by decide +kernel) rfl rfl ?_
  refine Hz.newA' 128 (kd := 1) (n := 16807) (at_ := .int) (pc' := 174) (S' := hs147) (by decide +kernel) (Or.inl rfl) rfl ac_int (by decide +kernel) rfl (by decide) rfl (Nat.le_of_ble_eq_true rfl) (Nat.le_of_ble_eq_true rfl) (Nat.le_of_ble_eq_true rfl) rfl rfl rfl ?_
  refine Hz.putR (pc' := 177) (k := 107) (j := 45) (t := 128) (S' := hs148) (fs := [(1, 0), (0, 108), (0, 109), (0, 110), (3, 0), (1, 0), (1, 0), (1, 0), (1, 0), (1, 0), (1, 0), (1, 0), (0, 111), (1, 0), (1, 0), (0, 112), (0, 113), (0, 114), (0, 115), (0, 116), (0, 117), (1, 0), (1, 0), (1, 0), (1, 0), (0, 118), (1, 0), (0, 119), (0, 120), (0, 121), (0, 122), (0, 123), (0, 124), (0, 125), (0, 126), (1, 0), (1, 0), (1, 0), (0, 127), (1, 0), (1, 0), (1, 0), (1, 0), (1, 0), (1, 0), (4, 0), (1, 0), (1, 0), (1, 0), (4, 0), (4, 0), (4, 0), (4, 0), (4, 0), (4, 0), (1, 0), (1, 0), (1, 0), (1, 0)]) fi_M_75 (Or.inr ⟨_, rfl⟩) (fun C T N h => by cases h; rfl) rfl (by decide +kernel) rfl (by decide +kernel) rfl rfl ?_
  refine Hz.aload_n (q := 0) (pc' := 178) (by decide +kernel) rfl 0 rfl ?_
  refine Hz.bipush (n := 50) (v := (50 : Int32)) (pc' := 180) (by decide +kernel) rfl rfl ?_
  refine Hz.newA' 129 (kd := 1) (n := 50) (at_ := .int) (pc' := 182) (S' := hs149) (by decide +kernel) (Or.inl rfl) rfl ac_int (by decide +kernel) rfl (by decide) rfl (Nat.le_of_ble_eq_true rfl) (Nat.le_of_ble_eq_true rfl) (Nat.le_of_ble_eq_true rfl) rfl rfl rfl ?_
  refine Hz.putR (pc' := 185) (k := 107) (j := 49) (t := 129) (S' := hs150) (fs := [(1, 0), (0, 108), (0, 109), (0, 110), (3, 0), (1, 0), (1, 0), (1, 0), (1, 0), (1, 0), (1, 0), (1, 0), (0, 111), (1, 0), (1, 0), (0, 112), (0, 113), (0, 114), (0, 115), (0, 116), (0, 117), (1, 0), (1, 0), (1, 0), (1, 0), (0, 118), (1, 0), (0, 119), (0, 120), (0, 121), (0, 122), (0, 123), (0, 124), (0, 125), (0, 126), (1, 0), (1, 0), (1, 0), (0, 127), (1, 0), (1, 0), (1, 0), (1, 0), (1, 0), (1, 0), (0, 128), (1, 0), (1, 0), (1, 0), (4, 0), (4, 0), (4, 0), (4, 0), (4, 0), (4, 0), (1, 0), (1, 0), (1, 0), (1, 0)]) fi_M_78 (Or.inr ⟨_, rfl⟩) (fun C T N h => by cases h; rfl) rfl (by decide +kernel) rfl (by decide +kernel) rfl rfl ?_
  refine Hz.aload_n (q := 0) (pc' := 186) (by decide +kernel) rfl 0 rfl ?_
  refine Hz.sipush (n := 16807) (v := (16807 : Int32)) (pc' := 189) (by decide +kernel) rfl rfl ?_
  refine Hz.newA' 130 (kd := 4) (n := 16807) (at_ := .boolean) (pc' := 191) (S' := hs151) (by decide +kernel) (Or.inr (Or.inr (Or.inr rfl))) rfl ac_boolean (by decide +kernel) rfl (by decide) rfl (Nat.le_of_ble_eq_true rfl) (Nat.le_of_ble_eq_true rfl) (Nat.le_of_ble_eq_true rfl) rfl rfl rfl ?_
  refine Hz.putR (pc' := 194) (k := 107) (j := 50) (t := 130) (S' := hs152) (fs := [(1, 0), (0, 108), (0, 109), (0, 110), (3, 0), (1, 0), (1, 0), (1, 0), (1, 0), (1, 0), (1, 0), (1, 0), (0, 111), (1, 0), (1, 0), (0, 112), (0, 113), (0, 114), (0, 115), (0, 116), (0, 117), (1, 0), (1, 0), (1, 0), (1, 0), (0, 118), (1, 0), (0, 119), (0, 120), (0, 121), (0, 122), (0, 123), (0, 124), (0, 125), (0, 126), (1, 0), (1, 0), (1, 0), (0, 127), (1, 0), (1, 0), (1, 0), (1, 0), (1, 0), (1, 0), (0, 128), (1, 0), (1, 0), (1, 0), (0, 129), (4, 0), (4, 0), (4, 0), (4, 0), (4, 0), (1, 0), (1, 0), (1, 0), (1, 0)]) fi_M_81 (Or.inr ⟨_, rfl⟩) (fun C T N h => by cases h; rfl) rfl (by decide +kernel) rfl (by decide +kernel) rfl rfl ?_
  refine Hz.aload_n (q := 0) (pc' := 195) (by decide +kernel) rfl 0 rfl ?_
  refine Hz.bipush (n := 8) (v := (8 : Int32)) (pc' := 197) (by decide +kernel) rfl rfl ?_
  refine Hz.newA' 131 (kd := 1) (n := 8) (at_ := .int) (pc' := 199) (S' := hs153) (by decide +kernel) (Or.inl rfl) rfl ac_int (by decide +kernel) rfl (by decide) rfl (Nat.le_of_ble_eq_true rfl) (Nat.le_of_ble_eq_true rfl) (Nat.le_of_ble_eq_true rfl) rfl rfl rfl ?_
  refine Hz.putR (pc' := 202) (k := 107) (j := 51) (t := 131) (S' := hs154) (fs := [(1, 0), (0, 108), (0, 109), (0, 110), (3, 0), (1, 0), (1, 0), (1, 0), (1, 0), (1, 0), (1, 0), (1, 0), (0, 111), (1, 0), (1, 0), (0, 112), (0, 113), (0, 114), (0, 115), (0, 116), (0, 117), (1, 0), (1, 0), (1, 0), (1, 0), (0, 118), (1, 0), (0, 119), (0, 120), (0, 121), (0, 122), (0, 123), (0, 124), (0, 125), (0, 126), (1, 0), (1, 0), (1, 0), (0, 127), (1, 0), (1, 0), (1, 0), (1, 0), (1, 0), (1, 0), (0, 128), (1, 0), (1, 0), (1, 0), (0, 129), (0, 130), (4, 0), (4, 0), (4, 0), (4, 0), (1, 0), (1, 0), (1, 0), (1, 0)]) fi_M_84 (Or.inr ⟨_, rfl⟩) (fun C T N h => by cases h; rfl) rfl (by decide +kernel) rfl (by decide +kernel) rfl rfl ?_
  refine Hz.aload_n (q := 0) (pc' := 203) (by decide +kernel) rfl 0 rfl ?_
  refine Hz.sipush (n := 130) (v := (130 : Int32)) (pc' := 206) (by decide +kernel) rfl rfl ?_
  refine Hz.newA' 132 (kd := 1) (n := 130) (at_ := .int) (pc' := 208) (S' := hs155) (by decide +kernel) (Or.inl rfl) rfl ac_int (by decide +kernel) rfl (by decide) rfl (Nat.le_of_ble_eq_true rfl) (Nat.le_of_ble_eq_true rfl) (Nat.le_of_ble_eq_true rfl) rfl rfl rfl ?_
  refine Hz.putR (pc' := 211) (k := 107) (j := 52) (t := 132) (S' := hs156) (fs := [(1, 0), (0, 108), (0, 109), (0, 110), (3, 0), (1, 0), (1, 0), (1, 0), (1, 0), (1, 0), (1, 0), (1, 0), (0, 111), (1, 0), (1, 0), (0, 112), (0, 113), (0, 114), (0, 115), (0, 116), (0, 117), (1, 0), (1, 0), (1, 0), (1, 0), (0, 118), (1, 0), (0, 119), (0, 120), (0, 121), (0, 122), (0, 123), (0, 124), (0, 125), (0, 126), (1, 0), (1, 0), (1, 0), (0, 127), (1, 0), (1, 0), (1, 0), (1, 0), (1, 0), (1, 0), (0, 128), (1, 0), (1, 0), (1, 0), (0, 129), (0, 130), (0, 131), (4, 0), (4, 0), (4, 0), (1, 0), (1, 0), (1, 0), (1, 0)]) fi_M_87 (Or.inr ⟨_, rfl⟩) (fun C T N h => by cases h; rfl) rfl (by decide +kernel) rfl (by decide +kernel) rfl rfl ?_
  refine Hz.aload_n (q := 0) (pc' := 212) (by decide +kernel) rfl 0 rfl ?_
  refine Hz.bipush (n := 20) (v := (20 : Int32)) (pc' := 214) (by decide +kernel) rfl rfl ?_
  refine Hz.newA' 133 (kd := 4) (n := 20) (at_ := .boolean) (pc' := 216) (S' := hs157) (by decide +kernel) (Or.inr (Or.inr (Or.inr rfl))) rfl ac_boolean (by decide +kernel) rfl (by decide) rfl (Nat.le_of_ble_eq_true rfl) (Nat.le_of_ble_eq_true rfl) (Nat.le_of_ble_eq_true rfl) rfl rfl rfl ?_
  refine Hz.putR (pc' := 219) (k := 107) (j := 53) (t := 133) (S' := hs158) (fs := [(1, 0), (0, 108), (0, 109), (0, 110), (3, 0), (1, 0), (1, 0), (1, 0), (1, 0), (1, 0), (1, 0), (1, 0), (0, 111), (1, 0), (1, 0), (0, 112), (0, 113), (0, 114), (0, 115), (0, 116), (0, 117), (1, 0), (1, 0), (1, 0), (1, 0), (0, 118), (1, 0), (0, 119), (0, 120), (0, 121), (0, 122), (0, 123), (0, 124), (0, 125), (0, 126), (1, 0), (1, 0), (1, 0), (0, 127), (1, 0), (1, 0), (1, 0), (1, 0), (1, 0), (1, 0), (0, 128), (1, 0), (1, 0), (1, 0), (0, 129), (0, 130), (0, 131), (0, 132), (4, 0), (4, 0), (1, 0), (1, 0), (1, 0), (1, 0)]) fi_M_90 (Or.inr ⟨_, rfl⟩) (fun C T N h => by cases h; rfl) rfl (by decide +kernel) rfl (by decide +kernel) rfl rfl ?_
  refine Hz.aload_n (q := 0) (pc' := 220) (by decide +kernel) rfl 0 rfl ?_
  refine Hz.bipush (n := 30) (v := (30 : Int32)) (pc' := 222) (by decide +kernel) rfl rfl ?_
  refine Hz.newA' 134 (kd := 4) (n := 30) (at_ := .boolean) (pc' := 224) (S' := hs159) (by decide +kernel) (Or.inr (Or.inr (Or.inr rfl))) rfl ac_boolean (by decide +kernel) rfl (by decide) rfl (Nat.le_of_ble_eq_true rfl) (Nat.le_of_ble_eq_true rfl) (Nat.le_of_ble_eq_true rfl) rfl rfl rfl ?_
  refine Hz.putR (pc' := 227) (k := 107) (j := 54) (t := 134) (S' := hs160) (fs := [(1, 0), (0, 108), (0, 109), (0, 110), (3, 0), (1, 0), (1, 0), (1, 0), (1, 0), (1, 0), (1, 0), (1, 0), (0, 111), (1, 0), (1, 0), (0, 112), (0, 113), (0, 114), (0, 115), (0, 116), (0, 117), (1, 0), (1, 0), (1, 0), (1, 0), (0, 118), (1, 0), (0, 119), (0, 120), (0, 121), (0, 122), (0, 123), (0, 124), (0, 125), (0, 126), (1, 0), (1, 0), (1, 0), (0, 127), (1, 0), (1, 0), (1, 0), (1, 0), (1, 0), (1, 0), (0, 128), (1, 0), (1, 0), (1, 0), (0, 129), (0, 130), (0, 131), (0, 132), (0, 133), (4, 0), (1, 0), (1, 0), (1, 0), (1, 0)]) fi_M_93 (Or.inr ⟨_, rfl⟩) (fun C T N h => by cases h; rfl) rfl (by decide +kernel) rfl (by decide +kernel) rfl rfl ?_
  exact Hz.ret (by decide +kernel) rfl rfl rfl ⟨rfl, rfl⟩
