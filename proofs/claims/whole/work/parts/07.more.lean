/-! THE LOGIC, what was wanting -/
section GM
variable {l : Launch} {M : gM} {d pc : Nat} {L : List (Nat × Value)} {st : List Value} {w : gW} {Q : Option Value → gW → Prop}
theorem Gz.alenR {pc' : Nat} {k n : Nat} {kd : Nat} (hd : decode M.2.1 pc = .ok (.arraylength, 1)) (hp : pc + 1 = pc') (hkd : kd = 5 ∨ kd = 6) (h : (g_sh k).1 = kd) (hn : g_len kd k = n) (kk : Gz l M d pc' L (.int (nI n) :: st) w Q) : Gz l M d pc L (.ref k :: st) w Q := by
  subst hp
  intro p e s m args below meth c H locs ls o D yy X hP hS hl
  have hl' : k < gN := g_sh_lt (k := k) (a := kd) (b := (g_sh k).2) (by rw [← h]) (by omega)
  have eN : (g_sh k).2.1 = n := by rw [← hn]; unfold g_len; rw [if_pos h]
  have k2 := kk p e s m args below meth c H locs ls o D yy X hP hS hl
  rcases hkd with q | q
  · subst q
    have ha : (g_ws yy o w)[k]? = some (o + k, .inl (yy 5, n, .inr (.inr (.inr (.inr (fun j => some (o + (k + 1 + j)))))))) := by
      rw [g_ws_at hl']; unfold g_cell; rw [h, if_neg (by omega), if_neg (by omega), if_neg (by omega), eN]
    exact va_alen X.1 X.2.1 X.2.2.2.2.2.2.2 hP k 4 ha (ty := .array .int) rfl rfl hd k2
  · subst q
    have ha : (g_ws yy o w)[k]? = some (o + k, .inl (yy 6, n, .inr (.inr (.inr (.inr (fun j => some (o + (k + 1 + j)))))))) := by
      rw [g_ws_at hl']; unfold g_cell; rw [h, if_neg (by omega), if_neg (by omega), if_neg (by omega), eN]
    exact va_alen X.1 X.2.1 X.2.2.2.2.2.2.2 hP k 5 ha (ty := .array .long) rfl rfl hd k2
end GM
