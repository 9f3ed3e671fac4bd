/-! THE LAW: its loop over the cases (deed as a hypothesis). Printed by program (wip/whole/mk_loop.py) -/
def zAll (I : gW → Prop) : Prop := zSt_feed I ∧ zSt_end I ∧ zSt_fault I ∧ zSt_text I ∧ zSt_swear I ∧ zSt_sworn I ∧ zSt_fact I ∧ zSt_undo I ∧ zSt_lives I ∧ zSt_holds I ∧ zSt_when I ∧ zSt_breaks I ∧ zSt_clash I ∧ zSt_may I ∧ zSt_most I ∧ zSt_hinders I ∧ zSt_must I ∧ zSt_care I ∧ zSt_perjured I ∧ zSt_guilt I ∧ zSt_blame I ∧ zSt_worth I ∧ zSt_weigh I ∧ zSt_odds I ∧ zSt_question I ∧ zSt_settled I ∧ zSt_rings I ∧ zSt_fall I ∧ zSt_stake I ∧ zSt_duel I ∧ zSt_bait I ∧ zSt_plan I ∧ zSt_implies I ∧ zSt_same I ∧ zSt_days I ∧ zSt_near I ∧ zSt_alibi I ∧ zSt_hands I ∧ zSt_mean I ∧ zSt_likeliest I ∧ zSt_drawn I ∧ zSt_busy I ∧ zSt_rows I ∧ zSt_image I ∧ zSt_back I ∧ zSt_count I
theorem zAll.feed {I : gW → Prop} (h : zAll I) : zSt_feed I := h.1
theorem zAll.end {I : gW → Prop} (h : zAll I) : zSt_end I := h.2.1
theorem zAll.fault {I : gW → Prop} (h : zAll I) : zSt_fault I := h.2.2.1
theorem zAll.text {I : gW → Prop} (h : zAll I) : zSt_text I := h.2.2.2.1
theorem zAll.swear {I : gW → Prop} (h : zAll I) : zSt_swear I := h.2.2.2.2.1
theorem zAll.sworn {I : gW → Prop} (h : zAll I) : zSt_sworn I := h.2.2.2.2.2.1
theorem zAll.fact {I : gW → Prop} (h : zAll I) : zSt_fact I := h.2.2.2.2.2.2.1
theorem zAll.undo {I : gW → Prop} (h : zAll I) : zSt_undo I := h.2.2.2.2.2.2.2.1
theorem zAll.lives {I : gW → Prop} (h : zAll I) : zSt_lives I := h.2.2.2.2.2.2.2.2.1
theorem zAll.holds {I : gW → Prop} (h : zAll I) : zSt_holds I := h.2.2.2.2.2.2.2.2.2.1
theorem zAll.when {I : gW → Prop} (h : zAll I) : zSt_when I := h.2.2.2.2.2.2.2.2.2.2.1
theorem zAll.breaks {I : gW → Prop} (h : zAll I) : zSt_breaks I := h.2.2.2.2.2.2.2.2.2.2.2.1
theorem zAll.clash {I : gW → Prop} (h : zAll I) : zSt_clash I := h.2.2.2.2.2.2.2.2.2.2.2.2.1
theorem zAll.may {I : gW → Prop} (h : zAll I) : zSt_may I := h.2.2.2.2.2.2.2.2.2.2.2.2.2.1
theorem zAll.most {I : gW → Prop} (h : zAll I) : zSt_most I := h.2.2.2.2.2.2.2.2.2.2.2.2.2.2.1
theorem zAll.hinders {I : gW → Prop} (h : zAll I) : zSt_hinders I := h.2.2.2.2.2.2.2.2.2.2.2.2.2.2.2.1
theorem zAll.must {I : gW → Prop} (h : zAll I) : zSt_must I := h.2.2.2.2.2.2.2.2.2.2.2.2.2.2.2.2.1
theorem zAll.care {I : gW → Prop} (h : zAll I) : zSt_care I := h.2.2.2.2.2.2.2.2.2.2.2.2.2.2.2.2.2.1
theorem zAll.perjured {I : gW → Prop} (h : zAll I) : zSt_perjured I := h.2.2.2.2.2.2.2.2.2.2.2.2.2.2.2.2.2.2.1
theorem zAll.guilt {I : gW → Prop} (h : zAll I) : zSt_guilt I := h.2.2.2.2.2.2.2.2.2.2.2.2.2.2.2.2.2.2.2.1
theorem zAll.blame {I : gW → Prop} (h : zAll I) : zSt_blame I := h.2.2.2.2.2.2.2.2.2.2.2.2.2.2.2.2.2.2.2.2.1
theorem zAll.worth {I : gW → Prop} (h : zAll I) : zSt_worth I := h.2.2.2.2.2.2.2.2.2.2.2.2.2.2.2.2.2.2.2.2.2.1
theorem zAll.weigh {I : gW → Prop} (h : zAll I) : zSt_weigh I := h.2.2.2.2.2.2.2.2.2.2.2.2.2.2.2.2.2.2.2.2.2.2.1
theorem zAll.odds {I : gW → Prop} (h : zAll I) : zSt_odds I := h.2.2.2.2.2.2.2.2.2.2.2.2.2.2.2.2.2.2.2.2.2.2.2.1
theorem zAll.question {I : gW → Prop} (h : zAll I) : zSt_question I := h.2.2.2.2.2.2.2.2.2.2.2.2.2.2.2.2.2.2.2.2.2.2.2.2.1
theorem zAll.settled {I : gW → Prop} (h : zAll I) : zSt_settled I := h.2.2.2.2.2.2.2.2.2.2.2.2.2.2.2.2.2.2.2.2.2.2.2.2.2.1
theorem zAll.rings {I : gW → Prop} (h : zAll I) : zSt_rings I := h.2.2.2.2.2.2.2.2.2.2.2.2.2.2.2.2.2.2.2.2.2.2.2.2.2.2.1
theorem zAll.fall {I : gW → Prop} (h : zAll I) : zSt_fall I := h.2.2.2.2.2.2.2.2.2.2.2.2.2.2.2.2.2.2.2.2.2.2.2.2.2.2.2.1
theorem zAll.stake {I : gW → Prop} (h : zAll I) : zSt_stake I := h.2.2.2.2.2.2.2.2.2.2.2.2.2.2.2.2.2.2.2.2.2.2.2.2.2.2.2.2.1
theorem zAll.duel {I : gW → Prop} (h : zAll I) : zSt_duel I := h.2.2.2.2.2.2.2.2.2.2.2.2.2.2.2.2.2.2.2.2.2.2.2.2.2.2.2.2.2.1
theorem zAll.bait {I : gW → Prop} (h : zAll I) : zSt_bait I := h.2.2.2.2.2.2.2.2.2.2.2.2.2.2.2.2.2.2.2.2.2.2.2.2.2.2.2.2.2.2.1
theorem zAll.plan {I : gW → Prop} (h : zAll I) : zSt_plan I := h.2.2.2.2.2.2.2.2.2.2.2.2.2.2.2.2.2.2.2.2.2.2.2.2.2.2.2.2.2.2.2.1
theorem zAll.implies {I : gW → Prop} (h : zAll I) : zSt_implies I := h.2.2.2.2.2.2.2.2.2.2.2.2.2.2.2.2.2.2.2.2.2.2.2.2.2.2.2.2.2.2.2.2.1
theorem zAll.same {I : gW → Prop} (h : zAll I) : zSt_same I := h.2.2.2.2.2.2.2.2.2.2.2.2.2.2.2.2.2.2.2.2.2.2.2.2.2.2.2.2.2.2.2.2.2.1
theorem zAll.days {I : gW → Prop} (h : zAll I) : zSt_days I := h.2.2.2.2.2.2.2.2.2.2.2.2.2.2.2.2.2.2.2.2.2.2.2.2.2.2.2.2.2.2.2.2.2.2.1
theorem zAll.near {I : gW → Prop} (h : zAll I) : zSt_near I := h.2.2.2.2.2.2.2.2.2.2.2.2.2.2.2.2.2.2.2.2.2.2.2.2.2.2.2.2.2.2.2.2.2.2.2.1
theorem zAll.alibi {I : gW → Prop} (h : zAll I) : zSt_alibi I := h.2.2.2.2.2.2.2.2.2.2.2.2.2.2.2.2.2.2.2.2.2.2.2.2.2.2.2.2.2.2.2.2.2.2.2.2.1
theorem zAll.hands {I : gW → Prop} (h : zAll I) : zSt_hands I := h.2.2.2.2.2.2.2.2.2.2.2.2.2.2.2.2.2.2.2.2.2.2.2.2.2.2.2.2.2.2.2.2.2.2.2.2.2.1
theorem zAll.mean {I : gW → Prop} (h : zAll I) : zSt_mean I := h.2.2.2.2.2.2.2.2.2.2.2.2.2.2.2.2.2.2.2.2.2.2.2.2.2.2.2.2.2.2.2.2.2.2.2.2.2.2.1
theorem zAll.likeliest {I : gW → Prop} (h : zAll I) : zSt_likeliest I := h.2.2.2.2.2.2.2.2.2.2.2.2.2.2.2.2.2.2.2.2.2.2.2.2.2.2.2.2.2.2.2.2.2.2.2.2.2.2.2.1
theorem zAll.drawn {I : gW → Prop} (h : zAll I) : zSt_drawn I := h.2.2.2.2.2.2.2.2.2.2.2.2.2.2.2.2.2.2.2.2.2.2.2.2.2.2.2.2.2.2.2.2.2.2.2.2.2.2.2.2.1
theorem zAll.busy {I : gW → Prop} (h : zAll I) : zSt_busy I := h.2.2.2.2.2.2.2.2.2.2.2.2.2.2.2.2.2.2.2.2.2.2.2.2.2.2.2.2.2.2.2.2.2.2.2.2.2.2.2.2.2.1
theorem zAll.rows {I : gW → Prop} (h : zAll I) : zSt_rows I := h.2.2.2.2.2.2.2.2.2.2.2.2.2.2.2.2.2.2.2.2.2.2.2.2.2.2.2.2.2.2.2.2.2.2.2.2.2.2.2.2.2.2.1
theorem zAll.image {I : gW → Prop} (h : zAll I) : zSt_image I := h.2.2.2.2.2.2.2.2.2.2.2.2.2.2.2.2.2.2.2.2.2.2.2.2.2.2.2.2.2.2.2.2.2.2.2.2.2.2.2.2.2.2.2.1
theorem zAll.back {I : gW → Prop} (h : zAll I) : zSt_back I := h.2.2.2.2.2.2.2.2.2.2.2.2.2.2.2.2.2.2.2.2.2.2.2.2.2.2.2.2.2.2.2.2.2.2.2.2.2.2.2.2.2.2.2.2.1
theorem zAll.count {I : gW → Prop} (h : zAll I) : zSt_count I := h.2.2.2.2.2.2.2.2.2.2.2.2.2.2.2.2.2.2.2.2.2.2.2.2.2.2.2.2.2.2.2.2.2.2.2.2.2.2.2.2.2.2.2.2.2
def zLC (x4 : Int32) (b o : Nat) : List (Nat × Value) := [(4, .int x4), (0, .ref b), (1, .ref (o + 0)), (2, .ref (o + 107)), (3, .ref (o + 135))]
def zDeed (p : Program) (l : Launch) (e : Env) (s : State) (m : MethodId) (below : List Frame) (meth : Method) (c : Code) (b o LL : Nat) (D : va_G) (yy : Nat → ClassId) (I : gW → Prop) : Prop := ∀ (k cells slots : Nat) (x4 : Int32), 6 * k + 6 ≤ LL ∧ LL ≤ 3072 → x4 = nI (6 * k) → cells + 1 ≤ 601024 ∧ slots + 64 ≤ 7293034 → (∀ w : gW, I w → Gl p l e s m below meth c b o D yy (cells + 1) (slots + 64) 1916 [(4, .int x4), (0, .ref b), (1, .ref (o + 0)), (2, .ref (o + 107)), (3, .ref (o + 135))] [] w) → ∀ w : gW, I w → Gl p l e s m below meth c b o D yy (cells) (slots) 392 [(4, .int x4), (0, .ref b), (1, .ref (o + 0)), (2, .ref (o + 107)), (3, .ref (o + 135))] [] w
theorem gl_over {LL k : Nat} {x4 : Int32} (h : LL < 6 * k + 6) (hL : LL ≤ 3072) (e4 : x4 = nI (6 * k)) (hk : 6 * k ≤ LL + 5) : nI LL - (6 : Int32) < x4 := by
  rw [e4]
  show nI LL - nI 6 < _
  rw [i_lt, pk_sub_toInt (by omega) (by omega), i_nI (by omega)]
  omega
theorem law_switch {p : Program} {l : Launch} {e : Env} {s : State} {m : MethodId} {below : List Frame} {meth : Method} {c : Code} {b o LL : Nat} {xs : Nat → Int32} {D : va_G} {yy : Nat → ClassId} {cells slots : Nat} (X : gC p s m meth c b LL xs o D yy) {k : Nat} {x4 : Int32} (hk : 6 * k + 6 ≤ LL ∧ LL ≤ 3072) (e4 : x4 = nI (6 * k)) (hcs : cells + 1 ≤ 601024 ∧ slots + 64 ≤ 7293034) {I : gW → Prop} (hI : zAll I) (hdeed : zDeed p l e s m below meth c b o LL D yy I) (hcont : ∀ w : gW, I w → Gl p l e s m below meth c b o D yy (cells + 1) (slots + 64) 1916 [(4, .int x4), (0, .ref b), (1, .ref (o + 0)), (2, .ref (o + 107)), (3, .ref (o + 135))] [] w) (v : Int32) (w : gW) (hw : I w) : Gl p l e s m below meth c b o D yy (cells) (slots) 40 [(4, .int x4), (0, .ref b), (1, .ref (o + 0)), (2, .ref (o + 107)), (3, .ref (o + 135))] [.int v] w := by
  have hc0 : cells ≤ 601024 ∧ slots ≤ 7293034 := ⟨by omega, by omega⟩
  have hcont0 : ∀ w : gW, I w → Gl p l e s m below meth c b o D yy (cells) (slots) 1916 [(4, .int x4), (0, .ref b), (1, .ref (o + 0)), (2, .ref (o + 107)), (3, .ref (o + 135))] [] w := fun w hw => Gl.widen (Nat.le_add_right _ 1) (Nat.le_add_right _ 64) (hcont w hw)
  by_cases c0 : v = nI 0
  · refine Gl.tin X (dflt := 1876) (lo := 0) (hi := 46) (offs := #[204, 277, 302, 327, 352, 420, 481, 518, 583, 596, 649, 698, 723, 736, 749, 774, 811, 836, 861, 910, 935, 960, 985, 1062, 1111, 1161, 1186, 1223, 1260, 1285, 1322, 1371, 1408, 1457, 1506, 1543, 1568, 1605, 1642, 1655, 1681, 1694, 1751, 1776, 1825, 1838, 1851]) (len := 204) (off := 204) (tgt := 244) (by decide +kernel) (by rw [c0]; decide +kernel) (by rw [c0]; decide +kernel) (by rw [c0]; decide +kernel) (by decide) ?_
    exact law_feed X hk e4 hc0 hI.feed hcont0 w hw
  by_cases c1 : v = nI 1
  · refine Gl.tin X (dflt := 1876) (lo := 0) (hi := 46) (offs := #[204, 277, 302, 327, 352, 420, 481, 518, 583, 596, 649, 698, 723, 736, 749, 774, 811, 836, 861, 910, 935, 960, 985, 1062, 1111, 1161, 1186, 1223, 1260, 1285, 1322, 1371, 1408, 1457, 1506, 1543, 1568, 1605, 1642, 1655, 1681, 1694, 1751, 1776, 1825, 1838, 1851]) (len := 204) (off := 277) (tgt := 317) (by decide +kernel) (by rw [c1]; decide +kernel) (by rw [c1]; decide +kernel) (by rw [c1]; decide +kernel) (by decide) ?_
    exact law_end X hk e4 hc0 hI.end hcont0 w hw
  by_cases c2 : v = nI 2
  · refine Gl.tin X (dflt := 1876) (lo := 0) (hi := 46) (offs := #[204, 277, 302, 327, 352, 420, 481, 518, 583, 596, 649, 698, 723, 736, 749, 774, 811, 836, 861, 910, 935, 960, 985, 1062, 1111, 1161, 1186, 1223, 1260, 1285, 1322, 1371, 1408, 1457, 1506, 1543, 1568, 1605, 1642, 1655, 1681, 1694, 1751, 1776, 1825, 1838, 1851]) (len := 204) (off := 302) (tgt := 342) (by decide +kernel) (by rw [c2]; decide +kernel) (by rw [c2]; decide +kernel) (by rw [c2]; decide +kernel) (by decide) ?_
    exact law_fault X hk e4 hc0 hI.fault hcont0 w hw
  by_cases c3 : v = nI 3
  · refine Gl.tin X (dflt := 1876) (lo := 0) (hi := 46) (offs := #[204, 277, 302, 327, 352, 420, 481, 518, 583, 596, 649, 698, 723, 736, 749, 774, 811, 836, 861, 910, 935, 960, 985, 1062, 1111, 1161, 1186, 1223, 1260, 1285, 1322, 1371, 1408, 1457, 1506, 1543, 1568, 1605, 1642, 1655, 1681, 1694, 1751, 1776, 1825, 1838, 1851]) (len := 204) (off := 327) (tgt := 367) (by decide +kernel) (by rw [c3]; decide +kernel) (by rw [c3]; decide +kernel) (by rw [c3]; decide +kernel) (by decide) ?_
    exact law_text X hk e4 hc0 hI.text hcont0 w hw
  by_cases c4 : v = nI 4
  · refine Gl.tin X (dflt := 1876) (lo := 0) (hi := 46) (offs := #[204, 277, 302, 327, 352, 420, 481, 518, 583, 596, 649, 698, 723, 736, 749, 774, 811, 836, 861, 910, 935, 960, 985, 1062, 1111, 1161, 1186, 1223, 1260, 1285, 1322, 1371, 1408, 1457, 1506, 1543, 1568, 1605, 1642, 1655, 1681, 1694, 1751, 1776, 1825, 1838, 1851]) (len := 204) (off := 352) (tgt := 392) (by decide +kernel) (by rw [c4]; decide +kernel) (by rw [c4]; decide +kernel) (by rw [c4]; decide +kernel) (by decide) ?_
    exact hdeed k cells slots x4 hk e4 hcs hcont w hw
  by_cases c5 : v = nI 5
  · refine Gl.tin X (dflt := 1876) (lo := 0) (hi := 46) (offs := #[204, 277, 302, 327, 352, 420, 481, 518, 583, 596, 649, 698, 723, 736, 749, 774, 811, 836, 861, 910, 935, 960, 985, 1062, 1111, 1161, 1186, 1223, 1260, 1285, 1322, 1371, 1408, 1457, 1506, 1543, 1568, 1605, 1642, 1655, 1681, 1694, 1751, 1776, 1825, 1838, 1851]) (len := 204) (off := 420) (tgt := 460) (by decide +kernel) (by rw [c5]; decide +kernel) (by rw [c5]; decide +kernel) (by rw [c5]; decide +kernel) (by decide) ?_
    exact law_swear X hk e4 hc0 hI.swear hcont0 w hw
  by_cases c6 : v = nI 6
  · refine Gl.tin X (dflt := 1876) (lo := 0) (hi := 46) (offs := #[204, 277, 302, 327, 352, 420, 481, 518, 583, 596, 649, 698, 723, 736, 749, 774, 811, 836, 861, 910, 935, 960, 985, 1062, 1111, 1161, 1186, 1223, 1260, 1285, 1322, 1371, 1408, 1457, 1506, 1543, 1568, 1605, 1642, 1655, 1681, 1694, 1751, 1776, 1825, 1838, 1851]) (len := 204) (off := 481) (tgt := 521) (by decide +kernel) (by rw [c6]; decide +kernel) (by rw [c6]; decide +kernel) (by rw [c6]; decide +kernel) (by decide) ?_
    exact law_sworn X hk e4 hc0 hI.sworn hcont0 w hw
  by_cases c7 : v = nI 7
  · refine Gl.tin X (dflt := 1876) (lo := 0) (hi := 46) (offs := #[204, 277, 302, 327, 352, 420, 481, 518, 583, 596, 649, 698, 723, 736, 749, 774, 811, 836, 861, 910, 935, 960, 985, 1062, 1111, 1161, 1186, 1223, 1260, 1285, 1322, 1371, 1408, 1457, 1506, 1543, 1568, 1605, 1642, 1655, 1681, 1694, 1751, 1776, 1825, 1838, 1851]) (len := 204) (off := 518) (tgt := 558) (by decide +kernel) (by rw [c7]; decide +kernel) (by rw [c7]; decide +kernel) (by rw [c7]; decide +kernel) (by decide) ?_
    exact law_fact X hk e4 hc0 hI.fact hcont0 w hw
  by_cases c8 : v = nI 8
  · refine Gl.tin X (dflt := 1876) (lo := 0) (hi := 46) (offs := #[204, 277, 302, 327, 352, 420, 481, 518, 583, 596, 649, 698, 723, 736, 749, 774, 811, 836, 861, 910, 935, 960, 985, 1062, 1111, 1161, 1186, 1223, 1260, 1285, 1322, 1371, 1408, 1457, 1506, 1543, 1568, 1605, 1642, 1655, 1681, 1694, 1751, 1776, 1825, 1838, 1851]) (len := 204) (off := 583) (tgt := 623) (by decide +kernel) (by rw [c8]; decide +kernel) (by rw [c8]; decide +kernel) (by rw [c8]; decide +kernel) (by decide) ?_
    exact law_undo X hk e4 hc0 hI.undo hcont0 w hw
  by_cases c9 : v = nI 9
  · refine Gl.tin X (dflt := 1876) (lo := 0) (hi := 46) (offs := #[204, 277, 302, 327, 352, 420, 481, 518, 583, 596, 649, 698, 723, 736, 749, 774, 811, 836, 861, 910, 935, 960, 985, 1062, 1111, 1161, 1186, 1223, 1260, 1285, 1322, 1371, 1408, 1457, 1506, 1543, 1568, 1605, 1642, 1655, 1681, 1694, 1751, 1776, 1825, 1838, 1851]) (len := 204) (off := 596) (tgt := 636) (by decide +kernel) (by rw [c9]; decide +kernel) (by rw [c9]; decide +kernel) (by rw [c9]; decide +kernel) (by decide) ?_
    exact law_lives X hk e4 hc0 hI.lives hcont0 w hw
  by_cases c10 : v = nI 10
  · refine Gl.tin X (dflt := 1876) (lo := 0) (hi := 46) (offs := #[204, 277, 302, 327, 352, 420, 481, 518, 583, 596, 649, 698, 723, 736, 749, 774, 811, 836, 861, 910, 935, 960, 985, 1062, 1111, 1161, 1186, 1223, 1260, 1285, 1322, 1371, 1408, 1457, 1506, 1543, 1568, 1605, 1642, 1655, 1681, 1694, 1751, 1776, 1825, 1838, 1851]) (len := 204) (off := 649) (tgt := 689) (by decide +kernel) (by rw [c10]; decide +kernel) (by rw [c10]; decide +kernel) (by rw [c10]; decide +kernel) (by decide) ?_
    exact law_holds X hk e4 hc0 hI.holds hcont0 w hw
  by_cases c11 : v = nI 11
  · refine Gl.tin X (dflt := 1876) (lo := 0) (hi := 46) (offs := #[204, 277, 302, 327, 352, 420, 481, 518, 583, 596, 649, 698, 723, 736, 749, 774, 811, 836, 861, 910, 935, 960, 985, 1062, 1111, 1161, 1186, 1223, 1260, 1285, 1322, 1371, 1408, 1457, 1506, 1543, 1568, 1605, 1642, 1655, 1681, 1694, 1751, 1776, 1825, 1838, 1851]) (len := 204) (off := 698) (tgt := 738) (by decide +kernel) (by rw [c11]; decide +kernel) (by rw [c11]; decide +kernel) (by rw [c11]; decide +kernel) (by decide) ?_
    exact law_when X hk e4 hc0 hI.when hcont0 w hw
  by_cases c12 : v = nI 12
  · refine Gl.tin X (dflt := 1876) (lo := 0) (hi := 46) (offs := #[204, 277, 302, 327, 352, 420, 481, 518, 583, 596, 649, 698, 723, 736, 749, 774, 811, 836, 861, 910, 935, 960, 985, 1062, 1111, 1161, 1186, 1223, 1260, 1285, 1322, 1371, 1408, 1457, 1506, 1543, 1568, 1605, 1642, 1655, 1681, 1694, 1751, 1776, 1825, 1838, 1851]) (len := 204) (off := 723) (tgt := 763) (by decide +kernel) (by rw [c12]; decide +kernel) (by rw [c12]; decide +kernel) (by rw [c12]; decide +kernel) (by decide) ?_
    exact law_breaks X hk e4 hc0 hI.breaks hcont0 w hw
  by_cases c13 : v = nI 13
  · refine Gl.tin X (dflt := 1876) (lo := 0) (hi := 46) (offs := #[204, 277, 302, 327, 352, 420, 481, 518, 583, 596, 649, 698, 723, 736, 749, 774, 811, 836, 861, 910, 935, 960, 985, 1062, 1111, 1161, 1186, 1223, 1260, 1285, 1322, 1371, 1408, 1457, 1506, 1543, 1568, 1605, 1642, 1655, 1681, 1694, 1751, 1776, 1825, 1838, 1851]) (len := 204) (off := 736) (tgt := 776) (by decide +kernel) (by rw [c13]; decide +kernel) (by rw [c13]; decide +kernel) (by rw [c13]; decide +kernel) (by decide) ?_
    exact law_clash X hk e4 hc0 hI.clash hcont0 w hw
  by_cases c14 : v = nI 14
  · refine Gl.tin X (dflt := 1876) (lo := 0) (hi := 46) (offs := #[204, 277, 302, 327, 352, 420, 481, 518, 583, 596, 649, 698, 723, 736, 749, 774, 811, 836, 861, 910, 935, 960, 985, 1062, 1111, 1161, 1186, 1223, 1260, 1285, 1322, 1371, 1408, 1457, 1506, 1543, 1568, 1605, 1642, 1655, 1681, 1694, 1751, 1776, 1825, 1838, 1851]) (len := 204) (off := 749) (tgt := 789) (by decide +kernel) (by rw [c14]; decide +kernel) (by rw [c14]; decide +kernel) (by rw [c14]; decide +kernel) (by decide) ?_
    exact law_may X hk e4 hc0 hI.may hcont0 w hw
  by_cases c15 : v = nI 15
  · refine Gl.tin X (dflt := 1876) (lo := 0) (hi := 46) (offs := #[204, 277, 302, 327, 352, 420, 481, 518, 583, 596, 649, 698, 723, 736, 749, 774, 811, 836, 861, 910, 935, 960, 985, 1062, 1111, 1161, 1186, 1223, 1260, 1285, 1322, 1371, 1408, 1457, 1506, 1543, 1568, 1605, 1642, 1655, 1681, 1694, 1751, 1776, 1825, 1838, 1851]) (len := 204) (off := 774) (tgt := 814) (by decide +kernel) (by rw [c15]; decide +kernel) (by rw [c15]; decide +kernel) (by rw [c15]; decide +kernel) (by decide) ?_
    exact law_most X hk e4 hc0 hI.most hcont0 w hw
  by_cases c16 : v = nI 16
  · refine Gl.tin X (dflt := 1876) (lo := 0) (hi := 46) (offs := #[204, 277, 302, 327, 352, 420, 481, 518, 583, 596, 649, 698, 723, 736, 749, 774, 811, 836, 861, 910, 935, 960, 985, 1062, 1111, 1161, 1186, 1223, 1260, 1285, 1322, 1371, 1408, 1457, 1506, 1543, 1568, 1605, 1642, 1655, 1681, 1694, 1751, 1776, 1825, 1838, 1851]) (len := 204) (off := 811) (tgt := 851) (by decide +kernel) (by rw [c16]; decide +kernel) (by rw [c16]; decide +kernel) (by rw [c16]; decide +kernel) (by decide) ?_
    exact law_hinders X hk e4 hc0 hI.hinders hcont0 w hw
  by_cases c17 : v = nI 17
  · refine Gl.tin X (dflt := 1876) (lo := 0) (hi := 46) (offs := #[204, 277, 302, 327, 352, 420, 481, 518, 583, 596, 649, 698, 723, 736, 749, 774, 811, 836, 861, 910, 935, 960, 985, 1062, 1111, 1161, 1186, 1223, 1260, 1285, 1322, 1371, 1408, 1457, 1506, 1543, 1568, 1605, 1642, 1655, 1681, 1694, 1751, 1776, 1825, 1838, 1851]) (len := 204) (off := 836) (tgt := 876) (by decide +kernel) (by rw [c17]; decide +kernel) (by rw [c17]; decide +kernel) (by rw [c17]; decide +kernel) (by decide) ?_
    exact law_must X hk e4 hc0 hI.must hcont0 w hw
  by_cases c18 : v = nI 18
  · refine Gl.tin X (dflt := 1876) (lo := 0) (hi := 46) (offs := #[204, 277, 302, 327, 352, 420, 481, 518, 583, 596, 649, 698, 723, 736, 749, 774, 811, 836, 861, 910, 935, 960, 985, 1062, 1111, 1161, 1186, 1223, 1260, 1285, 1322, 1371, 1408, 1457, 1506, 1543, 1568, 1605, 1642, 1655, 1681, 1694, 1751, 1776, 1825, 1838, 1851]) (len := 204) (off := 861) (tgt := 901) (by decide +kernel) (by rw [c18]; decide +kernel) (by rw [c18]; decide +kernel) (by rw [c18]; decide +kernel) (by decide) ?_
    exact law_care X hk e4 hc0 hI.care hcont0 w hw
  by_cases c19 : v = nI 19
  · refine Gl.tin X (dflt := 1876) (lo := 0) (hi := 46) (offs := #[204, 277, 302, 327, 352, 420, 481, 518, 583, 596, 649, 698, 723, 736, 749, 774, 811, 836, 861, 910, 935, 960, 985, 1062, 1111, 1161, 1186, 1223, 1260, 1285, 1322, 1371, 1408, 1457, 1506, 1543, 1568, 1605, 1642, 1655, 1681, 1694, 1751, 1776, 1825, 1838, 1851]) (len := 204) (off := 910) (tgt := 950) (by decide +kernel) (by rw [c19]; decide +kernel) (by rw [c19]; decide +kernel) (by rw [c19]; decide +kernel) (by decide) ?_
    exact law_perjured X hk e4 hc0 hI.perjured hcont0 w hw
  by_cases c20 : v = nI 20
  · refine Gl.tin X (dflt := 1876) (lo := 0) (hi := 46) (offs := #[204, 277, 302, 327, 352, 420, 481, 518, 583, 596, 649, 698, 723, 736, 749, 774, 811, 836, 861, 910, 935, 960, 985, 1062, 1111, 1161, 1186, 1223, 1260, 1285, 1322, 1371, 1408, 1457, 1506, 1543, 1568, 1605, 1642, 1655, 1681, 1694, 1751, 1776, 1825, 1838, 1851]) (len := 204) (off := 935) (tgt := 975) (by decide +kernel) (by rw [c20]; decide +kernel) (by rw [c20]; decide +kernel) (by rw [c20]; decide +kernel) (by decide) ?_
    exact law_guilt X hk e4 hc0 hI.guilt hcont0 w hw
  by_cases c21 : v = nI 21
  · refine Gl.tin X (dflt := 1876) (lo := 0) (hi := 46) (offs := #[204, 277, 302, 327, 352, 420, 481, 518, 583, 596, 649, 698, 723, 736, 749, 774, 811, 836, 861, 910, 935, 960, 985, 1062, 1111, 1161, 1186, 1223, 1260, 1285, 1322, 1371, 1408, 1457, 1506, 1543, 1568, 1605, 1642, 1655, 1681, 1694, 1751, 1776, 1825, 1838, 1851]) (len := 204) (off := 960) (tgt := 1000) (by decide +kernel) (by rw [c21]; decide +kernel) (by rw [c21]; decide +kernel) (by rw [c21]; decide +kernel) (by decide) ?_
    exact law_blame X hk e4 hc0 hI.blame hcont0 w hw
  by_cases c22 : v = nI 22
  · refine Gl.tin X (dflt := 1876) (lo := 0) (hi := 46) (offs := #[204, 277, 302, 327, 352, 420, 481, 518, 583, 596, 649, 698, 723, 736, 749, 774, 811, 836, 861, 910, 935, 960, 985, 1062, 1111, 1161, 1186, 1223, 1260, 1285, 1322, 1371, 1408, 1457, 1506, 1543, 1568, 1605, 1642, 1655, 1681, 1694, 1751, 1776, 1825, 1838, 1851]) (len := 204) (off := 985) (tgt := 1025) (by decide +kernel) (by rw [c22]; decide +kernel) (by rw [c22]; decide +kernel) (by rw [c22]; decide +kernel) (by decide) ?_
    exact law_worth X hk e4 hc0 hI.worth hcont0 w hw
  by_cases c23 : v = nI 23
  · refine Gl.tin X (dflt := 1876) (lo := 0) (hi := 46) (offs := #[204, 277, 302, 327, 352, 420, 481, 518, 583, 596, 649, 698, 723, 736, 749, 774, 811, 836, 861, 910, 935, 960, 985, 1062, 1111, 1161, 1186, 1223, 1260, 1285, 1322, 1371, 1408, 1457, 1506, 1543, 1568, 1605, 1642, 1655, 1681, 1694, 1751, 1776, 1825, 1838, 1851]) (len := 204) (off := 1062) (tgt := 1102) (by decide +kernel) (by rw [c23]; decide +kernel) (by rw [c23]; decide +kernel) (by rw [c23]; decide +kernel) (by decide) ?_
    exact law_weigh X hk e4 hc0 hI.weigh hcont0 w hw
  by_cases c24 : v = nI 24
  · refine Gl.tin X (dflt := 1876) (lo := 0) (hi := 46) (offs := #[204, 277, 302, 327, 352, 420, 481, 518, 583, 596, 649, 698, 723, 736, 749, 774, 811, 836, 861, 910, 935, 960, 985, 1062, 1111, 1161, 1186, 1223, 1260, 1285, 1322, 1371, 1408, 1457, 1506, 1543, 1568, 1605, 1642, 1655, 1681, 1694, 1751, 1776, 1825, 1838, 1851]) (len := 204) (off := 1111) (tgt := 1151) (by decide +kernel) (by rw [c24]; decide +kernel) (by rw [c24]; decide +kernel) (by rw [c24]; decide +kernel) (by decide) ?_
    exact law_odds X hk e4 hc0 hI.odds hcont0 w hw
  by_cases c25 : v = nI 25
  · refine Gl.tin X (dflt := 1876) (lo := 0) (hi := 46) (offs := #[204, 277, 302, 327, 352, 420, 481, 518, 583, 596, 649, 698, 723, 736, 749, 774, 811, 836, 861, 910, 935, 960, 985, 1062, 1111, 1161, 1186, 1223, 1260, 1285, 1322, 1371, 1408, 1457, 1506, 1543, 1568, 1605, 1642, 1655, 1681, 1694, 1751, 1776, 1825, 1838, 1851]) (len := 204) (off := 1161) (tgt := 1201) (by decide +kernel) (by rw [c25]; decide +kernel) (by rw [c25]; decide +kernel) (by rw [c25]; decide +kernel) (by decide) ?_
    exact law_question X hk e4 hc0 hI.question hcont0 w hw
  by_cases c26 : v = nI 26
  · refine Gl.tin X (dflt := 1876) (lo := 0) (hi := 46) (offs := #[204, 277, 302, 327, 352, 420, 481, 518, 583, 596, 649, 698, 723, 736, 749, 774, 811, 836, 861, 910, 935, 960, 985, 1062, 1111, 1161, 1186, 1223, 1260, 1285, 1322, 1371, 1408, 1457, 1506, 1543, 1568, 1605, 1642, 1655, 1681, 1694, 1751, 1776, 1825, 1838, 1851]) (len := 204) (off := 1186) (tgt := 1226) (by decide +kernel) (by rw [c26]; decide +kernel) (by rw [c26]; decide +kernel) (by rw [c26]; decide +kernel) (by decide) ?_
    exact law_settled X hk e4 hc0 hI.settled hcont0 w hw
  by_cases c27 : v = nI 27
  · refine Gl.tin X (dflt := 1876) (lo := 0) (hi := 46) (offs := #[204, 277, 302, 327, 352, 420, 481, 518, 583, 596, 649, 698, 723, 736, 749, 774, 811, 836, 861, 910, 935, 960, 985, 1062, 1111, 1161, 1186, 1223, 1260, 1285, 1322, 1371, 1408, 1457, 1506, 1543, 1568, 1605, 1642, 1655, 1681, 1694, 1751, 1776, 1825, 1838, 1851]) (len := 204) (off := 1223) (tgt := 1263) (by decide +kernel) (by rw [c27]; decide +kernel) (by rw [c27]; decide +kernel) (by rw [c27]; decide +kernel) (by decide) ?_
    exact law_rings X hk e4 hc0 hI.rings hcont0 w hw
  by_cases c28 : v = nI 28
  · refine Gl.tin X (dflt := 1876) (lo := 0) (hi := 46) (offs := #[204, 277, 302, 327, 352, 420, 481, 518, 583, 596, 649, 698, 723, 736, 749, 774, 811, 836, 861, 910, 935, 960, 985, 1062, 1111, 1161, 1186, 1223, 1260, 1285, 1322, 1371, 1408, 1457, 1506, 1543, 1568, 1605, 1642, 1655, 1681, 1694, 1751, 1776, 1825, 1838, 1851]) (len := 204) (off := 1260) (tgt := 1300) (by decide +kernel) (by rw [c28]; decide +kernel) (by rw [c28]; decide +kernel) (by rw [c28]; decide +kernel) (by decide) ?_
    exact law_fall X hk e4 hc0 hI.fall hcont0 w hw
  by_cases c29 : v = nI 29
  · refine Gl.tin X (dflt := 1876) (lo := 0) (hi := 46) (offs := #[204, 277, 302, 327, 352, 420, 481, 518, 583, 596, 649, 698, 723, 736, 749, 774, 811, 836, 861, 910, 935, 960, 985, 1062, 1111, 1161, 1186, 1223, 1260, 1285, 1322, 1371, 1408, 1457, 1506, 1543, 1568, 1605, 1642, 1655, 1681, 1694, 1751, 1776, 1825, 1838, 1851]) (len := 204) (off := 1285) (tgt := 1325) (by decide +kernel) (by rw [c29]; decide +kernel) (by rw [c29]; decide +kernel) (by rw [c29]; decide +kernel) (by decide) ?_
    exact law_stake X hk e4 hc0 hI.stake hcont0 w hw
  by_cases c30 : v = nI 30
  · refine Gl.tin X (dflt := 1876) (lo := 0) (hi := 46) (offs := #[204, 277, 302, 327, 352, 420, 481, 518, 583, 596, 649, 698, 723, 736, 749, 774, 811, 836, 861, 910, 935, 960, 985, 1062, 1111, 1161, 1186, 1223, 1260, 1285, 1322, 1371, 1408, 1457, 1506, 1543, 1568, 1605, 1642, 1655, 1681, 1694, 1751, 1776, 1825, 1838, 1851]) (len := 204) (off := 1322) (tgt := 1362) (by decide +kernel) (by rw [c30]; decide +kernel) (by rw [c30]; decide +kernel) (by rw [c30]; decide +kernel) (by decide) ?_
    exact law_duel X hk e4 hc0 hI.duel hcont0 w hw
  by_cases c31 : v = nI 31
  · refine Gl.tin X (dflt := 1876) (lo := 0) (hi := 46) (offs := #[204, 277, 302, 327, 352, 420, 481, 518, 583, 596, 649, 698, 723, 736, 749, 774, 811, 836, 861, 910, 935, 960, 985, 1062, 1111, 1161, 1186, 1223, 1260, 1285, 1322, 1371, 1408, 1457, 1506, 1543, 1568, 1605, 1642, 1655, 1681, 1694, 1751, 1776, 1825, 1838, 1851]) (len := 204) (off := 1371) (tgt := 1411) (by decide +kernel) (by rw [c31]; decide +kernel) (by rw [c31]; decide +kernel) (by rw [c31]; decide +kernel) (by decide) ?_
    exact law_bait X hk e4 hc0 hI.bait hcont0 w hw
  by_cases c32 : v = nI 32
  · refine Gl.tin X (dflt := 1876) (lo := 0) (hi := 46) (offs := #[204, 277, 302, 327, 352, 420, 481, 518, 583, 596, 649, 698, 723, 736, 749, 774, 811, 836, 861, 910, 935, 960, 985, 1062, 1111, 1161, 1186, 1223, 1260, 1285, 1322, 1371, 1408, 1457, 1506, 1543, 1568, 1605, 1642, 1655, 1681, 1694, 1751, 1776, 1825, 1838, 1851]) (len := 204) (off := 1408) (tgt := 1448) (by decide +kernel) (by rw [c32]; decide +kernel) (by rw [c32]; decide +kernel) (by rw [c32]; decide +kernel) (by decide) ?_
    exact law_plan X hk e4 hc0 hI.plan hcont0 w hw
  by_cases c33 : v = nI 33
  · refine Gl.tin X (dflt := 1876) (lo := 0) (hi := 46) (offs := #[204, 277, 302, 327, 352, 420, 481, 518, 583, 596, 649, 698, 723, 736, 749, 774, 811, 836, 861, 910, 935, 960, 985, 1062, 1111, 1161, 1186, 1223, 1260, 1285, 1322, 1371, 1408, 1457, 1506, 1543, 1568, 1605, 1642, 1655, 1681, 1694, 1751, 1776, 1825, 1838, 1851]) (len := 204) (off := 1457) (tgt := 1497) (by decide +kernel) (by rw [c33]; decide +kernel) (by rw [c33]; decide +kernel) (by rw [c33]; decide +kernel) (by decide) ?_
    exact law_implies X hk e4 hc0 hI.implies hcont0 w hw
  by_cases c34 : v = nI 34
  · refine Gl.tin X (dflt := 1876) (lo := 0) (hi := 46) (offs := #[204, 277, 302, 327, 352, 420, 481, 518, 583, 596, 649, 698, 723, 736, 749, 774, 811, 836, 861, 910, 935, 960, 985, 1062, 1111, 1161, 1186, 1223, 1260, 1285, 1322, 1371, 1408, 1457, 1506, 1543, 1568, 1605, 1642, 1655, 1681, 1694, 1751, 1776, 1825, 1838, 1851]) (len := 204) (off := 1506) (tgt := 1546) (by decide +kernel) (by rw [c34]; decide +kernel) (by rw [c34]; decide +kernel) (by rw [c34]; decide +kernel) (by decide) ?_
    exact law_same X hk e4 hc0 hI.same hcont0 w hw
  by_cases c35 : v = nI 35
  · refine Gl.tin X (dflt := 1876) (lo := 0) (hi := 46) (offs := #[204, 277, 302, 327, 352, 420, 481, 518, 583, 596, 649, 698, 723, 736, 749, 774, 811, 836, 861, 910, 935, 960, 985, 1062, 1111, 1161, 1186, 1223, 1260, 1285, 1322, 1371, 1408, 1457, 1506, 1543, 1568, 1605, 1642, 1655, 1681, 1694, 1751, 1776, 1825, 1838, 1851]) (len := 204) (off := 1543) (tgt := 1583) (by decide +kernel) (by rw [c35]; decide +kernel) (by rw [c35]; decide +kernel) (by rw [c35]; decide +kernel) (by decide) ?_
    exact law_days X hk e4 hc0 hI.days hcont0 w hw
  by_cases c36 : v = nI 36
  · refine Gl.tin X (dflt := 1876) (lo := 0) (hi := 46) (offs := #[204, 277, 302, 327, 352, 420, 481, 518, 583, 596, 649, 698, 723, 736, 749, 774, 811, 836, 861, 910, 935, 960, 985, 1062, 1111, 1161, 1186, 1223, 1260, 1285, 1322, 1371, 1408, 1457, 1506, 1543, 1568, 1605, 1642, 1655, 1681, 1694, 1751, 1776, 1825, 1838, 1851]) (len := 204) (off := 1568) (tgt := 1608) (by decide +kernel) (by rw [c36]; decide +kernel) (by rw [c36]; decide +kernel) (by rw [c36]; decide +kernel) (by decide) ?_
    exact law_near X hk e4 hc0 hI.near hcont0 w hw
  by_cases c37 : v = nI 37
  · refine Gl.tin X (dflt := 1876) (lo := 0) (hi := 46) (offs := #[204, 277, 302, 327, 352, 420, 481, 518, 583, 596, 649, 698, 723, 736, 749, 774, 811, 836, 861, 910, 935, 960, 985, 1062, 1111, 1161, 1186, 1223, 1260, 1285, 1322, 1371, 1408, 1457, 1506, 1543, 1568, 1605, 1642, 1655, 1681, 1694, 1751, 1776, 1825, 1838, 1851]) (len := 204) (off := 1605) (tgt := 1645) (by decide +kernel) (by rw [c37]; decide +kernel) (by rw [c37]; decide +kernel) (by rw [c37]; decide +kernel) (by decide) ?_
    exact law_alibi X hk e4 hc0 hI.alibi hcont0 w hw
  by_cases c38 : v = nI 38
  · refine Gl.tin X (dflt := 1876) (lo := 0) (hi := 46) (offs := #[204, 277, 302, 327, 352, 420, 481, 518, 583, 596, 649, 698, 723, 736, 749, 774, 811, 836, 861, 910, 935, 960, 985, 1062, 1111, 1161, 1186, 1223, 1260, 1285, 1322, 1371, 1408, 1457, 1506, 1543, 1568, 1605, 1642, 1655, 1681, 1694, 1751, 1776, 1825, 1838, 1851]) (len := 204) (off := 1642) (tgt := 1682) (by decide +kernel) (by rw [c38]; decide +kernel) (by rw [c38]; decide +kernel) (by rw [c38]; decide +kernel) (by decide) ?_
    exact law_hands X hk e4 hc0 hI.hands hcont0 w hw
  by_cases c39 : v = nI 39
  · refine Gl.tin X (dflt := 1876) (lo := 0) (hi := 46) (offs := #[204, 277, 302, 327, 352, 420, 481, 518, 583, 596, 649, 698, 723, 736, 749, 774, 811, 836, 861, 910, 935, 960, 985, 1062, 1111, 1161, 1186, 1223, 1260, 1285, 1322, 1371, 1408, 1457, 1506, 1543, 1568, 1605, 1642, 1655, 1681, 1694, 1751, 1776, 1825, 1838, 1851]) (len := 204) (off := 1655) (tgt := 1695) (by decide +kernel) (by rw [c39]; decide +kernel) (by rw [c39]; decide +kernel) (by rw [c39]; decide +kernel) (by decide) ?_
    exact law_mean X hk e4 hc0 hI.mean hcont0 w hw
  by_cases c40 : v = nI 40
  · refine Gl.tin X (dflt := 1876) (lo := 0) (hi := 46) (offs := #[204, 277, 302, 327, 352, 420, 481, 518, 583, 596, 649, 698, 723, 736, 749, 774, 811, 836, 861, 910, 935, 960, 985, 1062, 1111, 1161, 1186, 1223, 1260, 1285, 1322, 1371, 1408, 1457, 1506, 1543, 1568, 1605, 1642, 1655, 1681, 1694, 1751, 1776, 1825, 1838, 1851]) (len := 204) (off := 1681) (tgt := 1721) (by decide +kernel) (by rw [c40]; decide +kernel) (by rw [c40]; decide +kernel) (by rw [c40]; decide +kernel) (by decide) ?_
    exact law_likeliest X hk e4 hc0 hI.likeliest hcont0 w hw
  by_cases c41 : v = nI 41
  · refine Gl.tin X (dflt := 1876) (lo := 0) (hi := 46) (offs := #[204, 277, 302, 327, 352, 420, 481, 518, 583, 596, 649, 698, 723, 736, 749, 774, 811, 836, 861, 910, 935, 960, 985, 1062, 1111, 1161, 1186, 1223, 1260, 1285, 1322, 1371, 1408, 1457, 1506, 1543, 1568, 1605, 1642, 1655, 1681, 1694, 1751, 1776, 1825, 1838, 1851]) (len := 204) (off := 1694) (tgt := 1734) (by decide +kernel) (by rw [c41]; decide +kernel) (by rw [c41]; decide +kernel) (by rw [c41]; decide +kernel) (by decide) ?_
    exact law_drawn X hk e4 hc0 hI.drawn hcont0 w hw
  by_cases c42 : v = nI 42
  · refine Gl.tin X (dflt := 1876) (lo := 0) (hi := 46) (offs := #[204, 277, 302, 327, 352, 420, 481, 518, 583, 596, 649, 698, 723, 736, 749, 774, 811, 836, 861, 910, 935, 960, 985, 1062, 1111, 1161, 1186, 1223, 1260, 1285, 1322, 1371, 1408, 1457, 1506, 1543, 1568, 1605, 1642, 1655, 1681, 1694, 1751, 1776, 1825, 1838, 1851]) (len := 204) (off := 1751) (tgt := 1791) (by decide +kernel) (by rw [c42]; decide +kernel) (by rw [c42]; decide +kernel) (by rw [c42]; decide +kernel) (by decide) ?_
    exact law_busy X hk e4 hc0 hI.busy hcont0 w hw
  by_cases c43 : v = nI 43
  · refine Gl.tin X (dflt := 1876) (lo := 0) (hi := 46) (offs := #[204, 277, 302, 327, 352, 420, 481, 518, 583, 596, 649, 698, 723, 736, 749, 774, 811, 836, 861, 910, 935, 960, 985, 1062, 1111, 1161, 1186, 1223, 1260, 1285, 1322, 1371, 1408, 1457, 1506, 1543, 1568, 1605, 1642, 1655, 1681, 1694, 1751, 1776, 1825, 1838, 1851]) (len := 204) (off := 1776) (tgt := 1816) (by decide +kernel) (by rw [c43]; decide +kernel) (by rw [c43]; decide +kernel) (by rw [c43]; decide +kernel) (by decide) ?_
    exact law_rows X hk e4 hc0 hI.rows hcont0 w hw
  by_cases c44 : v = nI 44
  · refine Gl.tin X (dflt := 1876) (lo := 0) (hi := 46) (offs := #[204, 277, 302, 327, 352, 420, 481, 518, 583, 596, 649, 698, 723, 736, 749, 774, 811, 836, 861, 910, 935, 960, 985, 1062, 1111, 1161, 1186, 1223, 1260, 1285, 1322, 1371, 1408, 1457, 1506, 1543, 1568, 1605, 1642, 1655, 1681, 1694, 1751, 1776, 1825, 1838, 1851]) (len := 204) (off := 1825) (tgt := 1865) (by decide +kernel) (by rw [c44]; decide +kernel) (by rw [c44]; decide +kernel) (by rw [c44]; decide +kernel) (by decide) ?_
    exact law_image X hk e4 hc0 hI.image hcont0 w hw
  by_cases c45 : v = nI 45
  · refine Gl.tin X (dflt := 1876) (lo := 0) (hi := 46) (offs := #[204, 277, 302, 327, 352, 420, 481, 518, 583, 596, 649, 698, 723, 736, 749, 774, 811, 836, 861, 910, 935, 960, 985, 1062, 1111, 1161, 1186, 1223, 1260, 1285, 1322, 1371, 1408, 1457, 1506, 1543, 1568, 1605, 1642, 1655, 1681, 1694, 1751, 1776, 1825, 1838, 1851]) (len := 204) (off := 1838) (tgt := 1878) (by decide +kernel) (by rw [c45]; decide +kernel) (by rw [c45]; decide +kernel) (by rw [c45]; decide +kernel) (by decide) ?_
    exact law_back X hk e4 hc0 hI.back hcont0 w hw
  by_cases c46 : v = nI 46
  · refine Gl.tin X (dflt := 1876) (lo := 0) (hi := 46) (offs := #[204, 277, 302, 327, 352, 420, 481, 518, 583, 596, 649, 698, 723, 736, 749, 774, 811, 836, 861, 910, 935, 960, 985, 1062, 1111, 1161, 1186, 1223, 1260, 1285, 1322, 1371, 1408, 1457, 1506, 1543, 1568, 1605, 1642, 1655, 1681, 1694, 1751, 1776, 1825, 1838, 1851]) (len := 204) (off := 1851) (tgt := 1891) (by decide +kernel) (by rw [c46]; decide +kernel) (by rw [c46]; decide +kernel) (by rw [c46]; decide +kernel) (by decide) ?_
    exact law_count X hk e4 hc0 hI.count hcont0 w hw
  have hsw : ∀ k : Nat, k ≤ 46 → ¬ v = nI k := by
    intro k hk
    rcases (show k = 0 ∨ k = 1 ∨ k = 2 ∨ k = 3 ∨ k = 4 ∨ k = 5 ∨ k = 6 ∨ k = 7 ∨ k = 8 ∨ k = 9 ∨ k = 10 ∨ k = 11 ∨ k = 12 ∨ k = 13 ∨ k = 14 ∨ k = 15 ∨ k = 16 ∨ k = 17 ∨ k = 18 ∨ k = 19 ∨ k = 20 ∨ k = 21 ∨ k = 22 ∨ k = 23 ∨ k = 24 ∨ k = 25 ∨ k = 26 ∨ k = 27 ∨ k = 28 ∨ k = 29 ∨ k = 30 ∨ k = 31 ∨ k = 32 ∨ k = 33 ∨ k = 34 ∨ k = 35 ∨ k = 36 ∨ k = 37 ∨ k = 38 ∨ k = 39 ∨ k = 40 ∨ k = 41 ∨ k = 42 ∨ k = 43 ∨ k = 44 ∨ k = 45 ∨ k = 46 by omega) with q | q | q | q | q | q | q | q | q | q | q | q | q | q | q | q | q | q | q | q | q | q | q | q | q | q | q | q | q | q | q | q | q | q | q | q | q | q | q | q | q | q | q | q | q | q | q
    · rw [q]; exact c0
    · rw [q]; exact c1
    · rw [q]; exact c2
    · rw [q]; exact c3
    · rw [q]; exact c4
    · rw [q]; exact c5
    · rw [q]; exact c6
    · rw [q]; exact c7
    · rw [q]; exact c8
    · rw [q]; exact c9
    · rw [q]; exact c10
    · rw [q]; exact c11
    · rw [q]; exact c12
    · rw [q]; exact c13
    · rw [q]; exact c14
    · rw [q]; exact c15
    · rw [q]; exact c16
    · rw [q]; exact c17
    · rw [q]; exact c18
    · rw [q]; exact c19
    · rw [q]; exact c20
    · rw [q]; exact c21
    · rw [q]; exact c22
    · rw [q]; exact c23
    · rw [q]; exact c24
    · rw [q]; exact c25
    · rw [q]; exact c26
    · rw [q]; exact c27
    · rw [q]; exact c28
    · rw [q]; exact c29
    · rw [q]; exact c30
    · rw [q]; exact c31
    · rw [q]; exact c32
    · rw [q]; exact c33
    · rw [q]; exact c34
    · rw [q]; exact c35
    · rw [q]; exact c36
    · rw [q]; exact c37
    · rw [q]; exact c38
    · rw [q]; exact c39
    · rw [q]; exact c40
    · rw [q]; exact c41
    · rw [q]; exact c42
    · rw [q]; exact c43
    · rw [q]; exact c44
    · rw [q]; exact c45
    · rw [q]; exact c46
  refine Gl.tout X (dflt := 1876) (lo := 0) (hi := 46) (offs := #[204, 277, 302, 327, 352, 420, 481, 518, 583, 596, 649, 698, 723, 736, 749, 774, 811, 836, 861, 910, 935, 960, 985, 1062, 1111, 1161, 1186, 1223, 1260, 1285, 1322, 1371, 1408, 1457, 1506, 1543, 1568, 1605, 1642, 1655, 1681, 1694, 1751, 1776, 1825, 1838, 1851]) (len := 204) (tgt := 1916) (by decide +kernel) (z_sw 46 (by decide) hsw) (by decide) ?_
  exact hcont0 w hw
theorem law_loop {p : Program} {l : Launch} {e : Env} {s : State} {m : MethodId} {below : List Frame} {meth : Method} {c : Code} {b o LL : Nat} {xs : Nat → Int32} {D : va_G} {yy : Nat → ClassId} (X : gC p s m meth c b LL xs o D yy) (hL : LL ≤ 3072) {I : gW → Prop} (hI : zAll I) (hdeed : zDeed p l e s m below meth c b o LL D yy I) : ∀ (n k : Nat) (x4 : Int32) (w : gW), LL < 6 * (k + n) → 6 * k ≤ LL + 5 → x4 = nI (6 * k) → I w → Gl p l e s m below meth c b o D yy (1000 + k) (100000 + 64 * k) 23 [(4, .int x4), (0, .ref b), (1, .ref (o + 0)), (2, .ref (o + 107)), (3, .ref (o + 135))] [] w := by
  intro n
  induction n with
  | zero =>
    intro k x4 w h1 h2 e4 hw
    refine Gl.iload X (i := 4) (pc' := 25) (by decide +kernel) rfl 0 rfl ?_
    refine Gl.aload_n X (q := 0) (pc' := 26) (by decide +kernel) rfl 1 rfl ?_
    refine Gl.alen X (pc' := 27) (by decide +kernel) rfl ?_
    refine Gl.bipush X (n := 6) (v := (6 : Int32)) (pc' := 29) (by decide +kernel) rfl rfl ?_
    refine Gl.isub X (pc' := 30) (by decide +kernel) rfl ?_
    refine Gl.icmp_gt X (off := 1892) (tgt := 1922) (pc' := 33) (by decide +kernel) (by decide) rfl (fun c1 => ?_) (fun c1 => absurd (gl_over (by omega) hL e4 h2) c1)
    refine Gl.iconst X (n := 1) (v := (1 : Int32)) (pc' := 1923) (by decide +kernel) rfl rfl ?_
    exact Gl.done X (by omega) (by omega) (by decide +kernel)
  | succ n ih =>
    intro k x4 w h1 h2 e4 hw
    refine Gl.iload X (i := 4) (pc' := 25) (by decide +kernel) rfl 0 rfl ?_
    refine Gl.aload_n X (q := 0) (pc' := 26) (by decide +kernel) rfl 1 rfl ?_
    refine Gl.alen X (pc' := 27) (by decide +kernel) rfl ?_
    refine Gl.bipush X (n := 6) (v := (6 : Int32)) (pc' := 29) (by decide +kernel) rfl rfl ?_
    refine Gl.isub X (pc' := 30) (by decide +kernel) rfl ?_
    refine Gl.icmp_gt X (off := 1892) (tgt := 1922) (pc' := 33) (by decide +kernel) (by decide) rfl (fun c1 => ?_) (fun c1 => ?_)
    · refine Gl.iconst X (n := 1) (v := (1 : Int32)) (pc' := 1923) (by decide +kernel) rfl rfl ?_
      exact Gl.done X (by omega) (by omega) (by decide +kernel)
    · have hk : 6 * k + 6 ≤ LL := by
        rcases Nat.lt_or_ge LL (6 * k + 6) with q | q
        · exact absurd (gl_over q hL e4 h2) c1
        · exact q
      refine Gl.aload_n X (q := 0) (pc' := 34) (by decide +kernel) rfl 1 rfl ?_
      refine Gl.iload X (i := 4) (pc' := 36) (by decide +kernel) rfl 0 rfl ?_
      have hin : vp_in x4 LL := by rw [e4]; exact vp_in_nI (by omega) (by omega)
      refine Gl.sld X (i := x4) hin (pc' := 37) (by decide +kernel) rfl ?_
      refine Gl.bipush X (n := 63) (v := (63 : Int32)) (pc' := 39) (by decide +kernel) rfl rfl ?_
      refine Gl.iand X (pc' := 40) (by decide +kernel) rfl ?_
      refine law_switch X (k := k) ⟨hk, hL⟩ e4 ⟨by omega, by omega⟩ hI hdeed (fun w hw => ?_) _ w hw
      refine Gl.iinc X (i := 4) (n := 6) (pc' := 1919) (L' := [(4, .int (nI (6 * (k + 1)))), (0, .ref b), (1, .ref (o + 0)), (2, .ref (o + 107)), (3, .ref (o + 135))]) (nI (6 * (k + 1))) (by decide +kernel) rfl 0 rfl (by rw [e4]; show nI (6 * k) + nI 6 = _; rw [nI_add]; congr 1) (by decide) rfl ?_
      refine Gl.goto X (off := -1896) (tgt := 23) (by decide +kernel) (by decide) ?_
      have h := ih (k + 1) (nI (6 * (k + 1))) w (by omega) (by omega) rfl hw
      rw [show 1000 + (k + 1) = 1000 + k + 1 by omega, show 100000 + 64 * (k + 1) = 100000 + 64 * k + 64 by omega] at h
      exact h
