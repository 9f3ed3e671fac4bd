/-! THE WHOLE: the invariant holds at the start, and every call keeps it -/
theorem z_feed : zSt_feed zI := fun a1 a2 a3 a4 a5 w h => by
  obtain ⟨r, w1, w2, e1, e2, e3⟩ := t_feed (zI_J.mp h) a1 a2 a3 a4 a5
  exact ⟨r, w1, w2, e1, e2, zI_J.mpr e3⟩
theorem z_end : zSt_end zI := fun a1 w h => by
  obtain ⟨r, w1, w2, e1, e2, e3⟩ := t_end (zI_J.mp h) a1
  exact ⟨r, w1, w2, e1, e2, zI_J.mpr e3⟩
theorem z_fault : zSt_fault zI := fun a1 w h => by
  obtain ⟨r, w1, w2, e1, e2, e3⟩ := t_fault (zI_J.mp h) a1
  exact ⟨r, w1, w2, e1, e2, zI_J.mpr e3⟩
theorem z_text : zSt_text zI := fun a1 w h => by
  obtain ⟨r, w1, w2, e1, e2, e3⟩ := t_text (zI_J.mp h) a1
  exact ⟨r, w1, w2, e1, e2, zI_J.mpr e3⟩
theorem z_swear : zSt_swear zI := fun a1 a2 a3 a4 w h => by
  obtain ⟨r, w1, w2, e1, e2, e3⟩ := q_swear (zI_J.mp h) a1 a2 a3 a4
  exact ⟨r, w1, w2, e1, e2, zI_J.mpr e3⟩
theorem z_sworn : zSt_sworn zI := fun a1 a2 w h => by
  obtain ⟨r, w1, w2, e1, e2, e3⟩ := t_sworn (zI_J.mp h) a1 a2
  exact ⟨r, w1, w2, e1, e2, zI_J.mpr e3⟩
theorem z_fact : zSt_fact zI := fun a1 a2 a3 hb3 w h => by
  obtain ⟨r, w1, w2, e1, e2, e3⟩ := q_fact (zI_J.mp h) a1 a2 a3 hb3
  exact ⟨r, w1, w2, e1, e2, zI_J.mpr e3⟩
theorem z_undo : zSt_undo zI := fun w h => by
  obtain ⟨r, w1, w2, e1, e2, e3⟩ := q_undo (zI_J.mp h)
  exact ⟨r, w1, w2, e1, e2, zI_J.mpr e3⟩
theorem z_lives : zSt_lives zI := fun a1 a2 hb1 w h => h.q (q_lives h a1 a2)
theorem z_holds : zSt_holds zI := fun a1 a2 a3 w h => h.q (q_holds h a1 a2 a3)
theorem z_when : zSt_when zI := fun a1 w h => h.q (q_when h a1)
theorem z_breaks : zSt_breaks zI := fun w h => h.q (q_breaks h)
theorem z_clash : zSt_clash zI := fun w h => h.q (q_clash h)
theorem z_may : zSt_may zI := fun a1 w h => h.q (q_may h a1)
theorem z_most : zSt_most zI := fun a1 a2 w h => h.q (q_most h a1 a2)
theorem z_hinders : zSt_hinders zI := fun a1 w h => h.q (q_hinders h a1)
theorem z_must : zSt_must zI := fun a1 w h => h.q (q_must h a1)
theorem z_care : zSt_care zI := fun a1 a2 a3 w h => h.q (q_care h a1 a2 a3)
theorem z_perjured : zSt_perjured zI := fun a1 w h => h.q (q_perjured h a1)
theorem z_guilt : zSt_guilt zI := fun a1 w h => h.q (q_guilt h a1)
theorem z_blame : zSt_blame zI := fun a1 w h => h.q (q_blame h a1)
theorem z_worth : zSt_worth zI := fun a1 a2 a3 a4 hb4 w h => h.q (q_worth h a1 a2 a3 a4 hb4)
theorem z_weigh : zSt_weigh zI := fun a1 a2 a3 w h => by
  obtain ⟨r, w1, w2, e1, e2, e3⟩ := t_weigh (zI_J.mp h) a1 a2 a3
  exact ⟨r, w1, w2, e1, e2, zI_J.mpr e3⟩
theorem z_odds : zSt_odds zI := fun a1 a2 a3 w h => h.q (q_odds h a1 a2 a3)
theorem z_question : zSt_question zI := fun a1 w h => h.q (q_question h a1)
theorem z_settled : zSt_settled zI := fun a1 a2 w h => h.q (q_settled h a1 a2)
theorem z_rings : zSt_rings zI := fun a1 a2 w h => h.q (q_rings h a1 a2)
theorem z_fall : zSt_fall zI := fun a1 w h => h.q (q_fall h a1)
theorem z_stake : zSt_stake zI := fun a1 a2 w h => by
  obtain ⟨r, w1, w2, e1, e2, e3⟩ := t_stake (zI_J.mp h) a1 a2
  exact ⟨r, w1, w2, e1, e2, zI_J.mpr e3⟩
theorem z_duel : zSt_duel zI := fun a1 a2 a3 w h => h.q (q_duel h a1 a2 a3)
theorem z_bait : zSt_bait zI := fun a1 a2 w h => h.q (q_bait h a1 a2)
theorem z_plan : zSt_plan zI := fun a1 a2 a3 w h => h.q (q_plan h a1 a2 a3)
theorem z_implies : zSt_implies zI := fun a1 a2 a3 w h => h.q (q_implies h a1 a2 a3)
theorem z_same : zSt_same zI := fun a1 a2 w h => h.q (q_same h a1 a2)
theorem z_days : zSt_days zI := fun a1 w h => h.q (q_days h a1)
theorem z_near : zSt_near zI := fun a1 a2 w h => h.q (q_near h a1 a2)
theorem z_alibi : zSt_alibi zI := fun a1 a2 w h => h.q (q_alibi h a1 a2)
theorem z_hands : zSt_hands zI := fun w h => h.q (q_hands h)
theorem z_mean : zSt_mean zI := fun a1 w h => h.q (q_mean h a1)
theorem z_likeliest : zSt_likeliest zI := fun w h => h.q (q_likeliest h)
theorem z_drawn : zSt_drawn zI := fun a1 w h => h.q (q_drawn h a1)
theorem z_busy : zSt_busy zI := fun a1 w h => h.q (q_busy h a1)
theorem z_rows : zSt_rows zI := fun a1 a2 a3 w h => h.q (q_rows h a1 a2 a3)
theorem z_image : zSt_image zI := fun w h => by
  obtain ⟨r, w1, w2, e1, e2, e3⟩ := t_image (zI_J.mp h)
  exact ⟨r, w1, w2, e1, e2, zI_J.mpr e3⟩
theorem z_back : zSt_back zI := fun w h => by
  obtain ⟨r, w1, w2, e1, e2, e3⟩ := t_back (zI_J.mp h)
  exact ⟨r, w1, w2, e1, e2, zI_J.mpr e3⟩
theorem z_count : zSt_count zI := fun a1 w h => by
  obtain ⟨r, w1, w2, e1, e2, e3⟩ := t_count (zI_J.mp h) a1
  exact ⟨r, w1, w2, e1, e2, zI_J.mpr e3⟩
theorem z_deed : zSt_deed zI := fun x y w h => by
  obtain ⟨out, w1, v, w2, w3, e1, e2, e3, e4, e5⟩ := t_deed (zI_J.mp h) x y
  exact ⟨out, w1, v, w2, w3, e1, e2, e3, e4, zI_J.mpr e5⟩
theorem z_all : zAll zI := ⟨z_feed, z_end, z_fault, z_text, z_swear, z_sworn, z_fact, z_undo, z_lives, z_holds, z_when, z_breaks, z_clash, z_may, z_most, z_hinders, z_must, z_care, z_perjured, z_guilt, z_blame, z_worth, z_weigh, z_odds, z_question, z_settled, z_rings, z_fall, z_stake, z_duel, z_bait, z_plan, z_implies, z_same, z_days, z_near, z_alibi, z_hands, z_mean, z_likeliest, z_drawn, z_busy, z_rows, z_image, z_back, z_count⟩
theorem hw4_J : zJ hw4 := by
  have eD : yD hw4 = 0 := rfl
  have eY : yY hw4 = 0 := rfl
  have eO : yO hw4 = 0 := rfl
  have eS : yS hw4 = 0 := rfl
  have eF : yF hw4 = 0 := rfl
  have eT : yT hw4 = 0 := by unfold yT; rw [if_pos eD]
  refine ⟨⟨⟨?_, Or.inl ⟨eD, eY, eS, eF⟩⟩, ⟨?_, ?_, ?_, ?_, ?_, ?_, ?_⟩, ?_⟩, ⟨?_, ?_, ?_, ?_⟩, ⟨?_, ?_, ?_⟩, ⟨0, fun _ => 0, Nat.zero_le _, rfl, rfl, fun j hj => absurd hj (Nat.not_lt_zero j)⟩, ?_, Or.inl ⟨rfl, rfl⟩⟩
  · rw [eD, eY, eO, eS, eF]
    exact ⟨⟨by decide, by decide, by decide, by decide, by decide⟩, ⟨rfl, rfl⟩, ⟨rfl, rfl⟩, ⟨rfl, rfl⟩, ⟨rfl, rfl⟩, ⟨rfl, rfl⟩, rfl⟩
  · rw [eD]; exact fun j hj => absurd hj (Nat.not_lt_zero j)
  · rw [eD]; exact fun j hj => absurd hj (Nat.not_lt_zero j)
  · rw [eD]; exact fun j hj => absurd hj (Nat.not_lt_zero j)
  · rw [eT]; rfl
  · rw [eT]; rfl
  · rw [eT]; exact fun j hj => absurd hj (Nat.not_lt_zero j)
  · rw [eD]; exact fun j hj => absurd hj (Nat.not_lt_zero j)
  · intro o ho; rw [eO] at ho; exact absurd ho (Nat.not_lt_zero o)
  · rw [eS]; exact fun j hj => absurd hj (Nat.not_lt_zero j)
  · rw [eF]; exact fun j hj => absurd hj (Nat.not_lt_zero j)
  · rw [eS, eF]; exact ⟨fun j hj => absurd hj (Nat.not_lt_zero j), rfl⟩
  · rw [eD]; exact fun h => absurd h (Nat.not_lt_zero 0)
  · intro k _
    rw [eT, decide_eq_false (Nat.not_lt_zero k), Bool.false_and]
    exact bL_0 _
  · intro k _
    rw [eT, decide_eq_false (Nat.not_lt_zero k), Bool.false_and]
    exact bL_0 _
  · intro i hi; rw [eS] at hi; exact absurd hi (Nat.not_lt_zero i)
  · intro j _
    exact ⟨rfl, rfl, Nat.zero_le _⟩
theorem whole_start {p : Program} {e : Env} {s : State} {m : MethodId} {below : List Frame} {meth : Method} {c : Code} (l : Launch) (hflags : l.flags = flags0) {b L : Nat} {xs : Nat → Int32} (hL : L ≤ 3072) (C0 : lw_At p s m meth c b L xs) : W p l e room_1 s m #[Value.ref b] below meth c s.heap [] 0 0 (lw_Z below #[Value.ref b] s) (entryFrame m ([Value.ref b] : List Value).toArray 7) := whole_by z_all z_deed (zI_J.mpr hw4_J) l hflags hL C0
