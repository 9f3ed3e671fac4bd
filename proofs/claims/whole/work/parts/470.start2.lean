/-! THE WHOLE OUT OF WHAT IS PURE: an invariant I with all calls' steps -/
theorem dd_start {p : Program} {s : State} {m : MethodId} {meth : Method} {c : Code} {b L : Nat} {xs : Nat → Int32} (C0 : lw_At p s m meth c b L xs) : ∃ sa : Nat, ddS s sa := by
  obtain ⟨-, -, -, -, hown, hts0, -, -, -, hgv⟩ := C0
  have hin : ∀ w : Cond, tables_1.elem w = true → w.before #[Value.ref b] s = true := fun w h => hts0 w (List.mem_append_right _ (by simpa using h))
  have hq := flat_of_before _ hgv
  obtain ⟨sa, c2, cA, kA, q1, -⟩ := Cond.exactly_spec (args := #[Value.ref b]) (first := s) (o := none) (s := s) (idx := []) (t := Term.string "OathYesterday" 134) (cls := "java/lang/String") (hq (.exactly (.string "OathYesterday" 134) "java/lang/String") (by decide +kernel))
  refine ⟨sa, ?_, ?_, ?_, ?_⟩
  · exact vx_Zqof (hin _ (by decide +kernel)) (hin _ (by decide +kernel)) (hq (.isRef (.static Bundle.tN "UNASSIGNED_STACK" Bundle.steD)) (by decide +kernel)) (fun a h => Nat.not_le.mpr h)
  · exact vx_Zqof (hin _ (by decide +kernel)) (hin _ (by decide +kernel)) (hq (.isRef (.static Bundle.tN "SUPPRESSED_SENTINEL" Bundle.listD)) (by decide +kernel)) (fun a h => Nat.not_le.mpr h)
  · exact vk_R.of (hin _ (by decide +kernel)) q1
  · intro w hw
    have h1 := hin w (List.all_eq_true.mp dd_wt w hw)
    simp only [ddW, List.mem_cons, List.not_mem_nil, or_false] at hw
    rcases hw with rfl | rfl | rfl | rfl <;> exact va_tabs rfl rfl h1
theorem whole_by {I : gW → Prop} (hI : zAll I) (hd : zSt_deed I) (h0 : I hw4) (l : Launch) (hflags : l.flags = flags0) {p : Program} {e : Env} {s : State} {m : MethodId} {below : List Frame} {meth : Method} {c : Code} {b L : Nat} {xs : Nat → Int32} (hL : L ≤ 3072) (C0 : lw_At p s m meth c b L xs) : W p l e room_1 s m #[Value.ref b] below meth c s.heap [] 0 0 (lw_Z below #[Value.ref b] s) (entryFrame m ([Value.ref b] : List Value).toArray 7) := by
  obtain ⟨sa, hs⟩ := dd_start C0
  have hl : l.stackTraces = false := by unfold Launch.stackTraces; rw [hflags]; decide
  exact law_enter C0 (fun D yy X => law_loop X hL hI (law_deed X hl hs hd) 600 0 0 hw4 (by omega) (by omega) rfl h0)
