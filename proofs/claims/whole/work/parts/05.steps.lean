/-! X's execute and Y's step, a lemma an instruction (written by wip/whole/gen05.py) -/
/-- the words with the place moved on and one more instruction executed -/
def pf_w1 (w : Nat → Int32) (a : Nat) : Nat → Int32 := upd (upd w 4 (nI (a + 1))) 5 (w 5 + 1)
theorem pf_fold (w : Nat → Int32) (a : Nat) : upd (upd w 4 (nI (a + 1))) 5 (upd w 4 (nI (a + 1)) 5 + 1) = pf_w1 w a := by
  rw [pk_un (show 5 ≠ 4 by decide)]
  rfl
theorem pf_w14 (w : Nat → Int32) (a : Nat) : pf_w1 w a 4 = nI (a + 1) := by
  unfold pf_w1
  rw [pk_un (show 4 ≠ 5 by decide), pk_us]
theorem pf_w15 (w : Nat → Int32) (a : Nat) : pf_w1 w a 5 = w 5 + 1 := pk_us
theorem pf_w1n {w : Nat → Int32} {a i : Nat} (h4 : i ≠ 4) (h5 : i ≠ 5) : pf_w1 w a i = w i := by
  unfold pf_w1
  rw [pk_un h5, pk_un h4]
theorem pf_w1Z {w : Nat → Int32} {a : Nat} (hz : pf_Z w) : pf_Z (pf_w1 w a) := pf_Zu (pf_Zu hz (by omega)) (by omega)
theorem pf_7 (d : Nat) : 7 + nI d = nI (7 + d) := nI_add 7 d
theorem pf_9 (d : Nat) : 9 + nI d = nI (9 + d) := nI_add 9 d
theorem pf_x0 {post : SX → Prop} {cn gb tl : Int32} {op ax ay az c b w : Nat → Int32} {a r : Nat} (ha : a < 30) (hop : op a = 0) (hx : ax a = nI r) (hr : r < 4)
    (h : post (cn, gb, tl, op, ax, ay, az, c, b, upd (pf_w1 w a) r (ay a))) : wpX_execute post (cn, gb, tl, op, ax, ay, az, c, b, w) (nI a) := by
  have hc := nI_clamp (n := a) (by omega)
  have hi : vp_in (nI a) 30 := vp_in_nI ha (by decide)
  have hrc := nI_clamp (n := r) (by omega)
  have hri : vp_in (nI r) 11 := vp_in_nI (by omega) (by decide)
  simp (decide := true) only [wpX_execute, hc, hi, hop, hx, hrc, hri, forall_eq, nI_1, pf_fold, Int32.reduceLT, Int32.reduceLE, true_implies, false_implies, not_true_eq_false, not_false_eq_true, and_true, true_and, implies_true, forall_const]
  exact h
theorem pf_y0 {post : Int32 → SY → Prop} {cn : Int32} {op ax ay az c rg lf : Nat → Int32} {a r : Nat} (ha : a < 30) (hop : op a = 0) (hx : ax a = nI r) (hr : r < 4)
    (h : post (nI (a + 1)) (cn, op, ax, ay, az, c, upd rg r (ay a), lf)) : wpY_step post (cn, op, ax, ay, az, c, rg, lf) (nI a) := by
  have hc := nI_clamp (n := a) (by omega)
  have hi : vp_in (nI a) 30 := vp_in_nI ha (by decide)
  have hrc := nI_clamp (n := r) (by omega)
  have hri : vp_in (nI r) 4 := vp_in_nI (by omega) (by decide)
  simp (decide := true) only [wpY_step, wY_step_30, wY_step_64, wY_step_98, wY_step_132, wY_step_154, wY_step_176, wY_step_207, wY_step_238, wY_step_264, wY_step_282, hc, hi, hop, hx, hrc, hri, forall_eq, nI_1, pf_fold, Int32.reduceLT, Int32.reduceLE, true_implies, false_implies, not_true_eq_false, not_false_eq_true, and_true, true_and, implies_true, forall_const]
  exact h
theorem pf_x1 {post : SX → Prop} {cn gb tl : Int32} {op ax ay az c b w : Nat → Int32} {a r s t : Nat} (ha : a < 30) (hop : op a = 1) (hx : ax a = nI r) (hr : r < 4) (hy : ay a = nI s) (hs : s < 4) (hzz : az a = nI t) (ht : t < 4)
    (h : post (cn, gb, tl, op, ax, ay, az, c, b, upd (pf_w1 w a) r (pf_w1 w a s + pf_w1 w a t))) : wpX_execute post (cn, gb, tl, op, ax, ay, az, c, b, w) (nI a) := by
  have hc := nI_clamp (n := a) (by omega)
  have hi : vp_in (nI a) 30 := vp_in_nI ha (by decide)
  have hrc := nI_clamp (n := r) (by omega)
  have hri : vp_in (nI r) 11 := vp_in_nI (by omega) (by decide)
  have hsc := nI_clamp (n := s) (by omega)
  have hsi : vp_in (nI s) 11 := vp_in_nI (by omega) (by decide)
  have htc := nI_clamp (n := t) (by omega)
  have hti : vp_in (nI t) 11 := vp_in_nI (by omega) (by decide)
  simp (decide := true) only [wpX_execute, wpX_calculate, hc, hi, hop, hx, hy, hzz, hrc, hri, hsc, hsi, htc, hti, forall_eq, nI_1, pf_fold, Int32.reduceLT, Int32.reduceLE, true_implies, false_implies, not_true_eq_false, not_false_eq_true, and_true, true_and, implies_true, forall_const]
  exact h
theorem pf_y1 {post : Int32 → SY → Prop} {cn : Int32} {op ax ay az c rg lf : Nat → Int32} {a r s t : Nat} (ha : a < 30) (hop : op a = 1) (hx : ax a = nI r) (hr : r < 4) (hy : ay a = nI s) (hs : s < 4) (hzz : az a = nI t) (ht : t < 4)
    (h : post (nI (a + 1)) (cn, op, ax, ay, az, c, upd rg r (rg s + rg t), lf)) : wpY_step post (cn, op, ax, ay, az, c, rg, lf) (nI a) := by
  have hc := nI_clamp (n := a) (by omega)
  have hi : vp_in (nI a) 30 := vp_in_nI ha (by decide)
  have hrc := nI_clamp (n := r) (by omega)
  have hri : vp_in (nI r) 4 := vp_in_nI (by omega) (by decide)
  have hsc := nI_clamp (n := s) (by omega)
  have hsi : vp_in (nI s) 4 := vp_in_nI (by omega) (by decide)
  have htc := nI_clamp (n := t) (by omega)
  have hti : vp_in (nI t) 4 := vp_in_nI (by omega) (by decide)
  simp (decide := true) only [wpY_step, wY_step_30, wY_step_64, wY_step_98, wY_step_132, wY_step_154, wY_step_176, wY_step_207, wY_step_238, wY_step_264, wY_step_282, hc, hi, hop, hx, hy, hzz, hrc, hri, hsc, hsi, htc, hti, forall_eq, nI_1, pf_fold, Int32.reduceLT, Int32.reduceLE, true_implies, false_implies, not_true_eq_false, not_false_eq_true, and_true, true_and, implies_true, forall_const]
  exact h
theorem pf_x2 {post : SX → Prop} {cn gb tl : Int32} {op ax ay az c b w : Nat → Int32} {a r s t : Nat} (ha : a < 30) (hop : op a = 2) (hx : ax a = nI r) (hr : r < 4) (hy : ay a = nI s) (hs : s < 4) (hzz : az a = nI t) (ht : t < 4)
    (h : post (cn, gb, tl, op, ax, ay, az, c, b, upd (pf_w1 w a) r (pf_w1 w a s - pf_w1 w a t))) : wpX_execute post (cn, gb, tl, op, ax, ay, az, c, b, w) (nI a) := by
  have hc := nI_clamp (n := a) (by omega)
  have hi : vp_in (nI a) 30 := vp_in_nI ha (by decide)
  have hrc := nI_clamp (n := r) (by omega)
  have hri : vp_in (nI r) 11 := vp_in_nI (by omega) (by decide)
  have hsc := nI_clamp (n := s) (by omega)
  have hsi : vp_in (nI s) 11 := vp_in_nI (by omega) (by decide)
  have htc := nI_clamp (n := t) (by omega)
  have hti : vp_in (nI t) 11 := vp_in_nI (by omega) (by decide)
  simp (decide := true) only [wpX_execute, wpX_calculate, hc, hi, hop, hx, hy, hzz, hrc, hri, hsc, hsi, htc, hti, forall_eq, nI_1, pf_fold, Int32.reduceLT, Int32.reduceLE, true_implies, false_implies, not_true_eq_false, not_false_eq_true, and_true, true_and, implies_true, forall_const]
  exact h
theorem pf_y2 {post : Int32 → SY → Prop} {cn : Int32} {op ax ay az c rg lf : Nat → Int32} {a r s t : Nat} (ha : a < 30) (hop : op a = 2) (hx : ax a = nI r) (hr : r < 4) (hy : ay a = nI s) (hs : s < 4) (hzz : az a = nI t) (ht : t < 4)
    (h : post (nI (a + 1)) (cn, op, ax, ay, az, c, upd rg r (rg s - rg t), lf)) : wpY_step post (cn, op, ax, ay, az, c, rg, lf) (nI a) := by
  have hc := nI_clamp (n := a) (by omega)
  have hi : vp_in (nI a) 30 := vp_in_nI ha (by decide)
  have hrc := nI_clamp (n := r) (by omega)
  have hri : vp_in (nI r) 4 := vp_in_nI (by omega) (by decide)
  have hsc := nI_clamp (n := s) (by omega)
  have hsi : vp_in (nI s) 4 := vp_in_nI (by omega) (by decide)
  have htc := nI_clamp (n := t) (by omega)
  have hti : vp_in (nI t) 4 := vp_in_nI (by omega) (by decide)
  simp (decide := true) only [wpY_step, wY_step_30, wY_step_64, wY_step_98, wY_step_132, wY_step_154, wY_step_176, wY_step_207, wY_step_238, wY_step_264, wY_step_282, hc, hi, hop, hx, hy, hzz, hrc, hri, hsc, hsi, htc, hti, forall_eq, nI_1, pf_fold, Int32.reduceLT, Int32.reduceLE, true_implies, false_implies, not_true_eq_false, not_false_eq_true, and_true, true_and, implies_true, forall_const]
  exact h
theorem pf_x3 {post : SX → Prop} {cn gb tl : Int32} {op ax ay az c b w : Nat → Int32} {a r s t : Nat} (ha : a < 30) (hop : op a = 3) (hx : ax a = nI r) (hr : r < 4) (hy : ay a = nI s) (hs : s < 4) (hzz : az a = nI t) (ht : t < 4)
    (h : post (cn, gb, tl, op, ax, ay, az, c, b, upd (pf_w1 w a) r (pf_w1 w a s * pf_w1 w a t))) : wpX_execute post (cn, gb, tl, op, ax, ay, az, c, b, w) (nI a) := by
  have hc := nI_clamp (n := a) (by omega)
  have hi : vp_in (nI a) 30 := vp_in_nI ha (by decide)
  have hrc := nI_clamp (n := r) (by omega)
  have hri : vp_in (nI r) 11 := vp_in_nI (by omega) (by decide)
  have hsc := nI_clamp (n := s) (by omega)
  have hsi : vp_in (nI s) 11 := vp_in_nI (by omega) (by decide)
  have htc := nI_clamp (n := t) (by omega)
  have hti : vp_in (nI t) 11 := vp_in_nI (by omega) (by decide)
  simp (decide := true) only [wpX_execute, wpX_calculate, hc, hi, hop, hx, hy, hzz, hrc, hri, hsc, hsi, htc, hti, forall_eq, nI_1, pf_fold, Int32.reduceLT, Int32.reduceLE, true_implies, false_implies, not_true_eq_false, not_false_eq_true, and_true, true_and, implies_true, forall_const]
  exact h
theorem pf_y3 {post : Int32 → SY → Prop} {cn : Int32} {op ax ay az c rg lf : Nat → Int32} {a r s t : Nat} (ha : a < 30) (hop : op a = 3) (hx : ax a = nI r) (hr : r < 4) (hy : ay a = nI s) (hs : s < 4) (hzz : az a = nI t) (ht : t < 4)
    (h : post (nI (a + 1)) (cn, op, ax, ay, az, c, upd rg r (rg s * rg t), lf)) : wpY_step post (cn, op, ax, ay, az, c, rg, lf) (nI a) := by
  have hc := nI_clamp (n := a) (by omega)
  have hi : vp_in (nI a) 30 := vp_in_nI ha (by decide)
  have hrc := nI_clamp (n := r) (by omega)
  have hri : vp_in (nI r) 4 := vp_in_nI (by omega) (by decide)
  have hsc := nI_clamp (n := s) (by omega)
  have hsi : vp_in (nI s) 4 := vp_in_nI (by omega) (by decide)
  have htc := nI_clamp (n := t) (by omega)
  have hti : vp_in (nI t) 4 := vp_in_nI (by omega) (by decide)
  simp (decide := true) only [wpY_step, wY_step_30, wY_step_64, wY_step_98, wY_step_132, wY_step_154, wY_step_176, wY_step_207, wY_step_238, wY_step_264, wY_step_282, hc, hi, hop, hx, hy, hzz, hrc, hri, hsc, hsi, htc, hti, forall_eq, nI_1, pf_fold, Int32.reduceLT, Int32.reduceLE, true_implies, false_implies, not_true_eq_false, not_false_eq_true, and_true, true_and, implies_true, forall_const]
  exact h
theorem pf_x4 {post : SX → Prop} {cn gb : Int32} {op ax ay az c b w : Nat → Int32} {a r j T : Nat} (ha : a < 30) (hT : T + 1 < 2 ^ 31) (hop : op a = 4) (hx : ax a = nI r) (hr : r < 4) (hy : ay a = nI j) (hjl : j < 12)
    (h : post (cn, gb, nI T, op, ax, ay, az, c, b, upd (pf_w1 w a) r (c j))) : wpX_execute post (cn, gb, nI (T + 1), op, ax, ay, az, c, b, w) (nI a) := by
  have hc := nI_clamp (n := a) (by omega)
  have hi : vp_in (nI a) 30 := vp_in_nI ha (by decide)
  have hrc := nI_clamp (n := r) (by omega)
  have hri : vp_in (nI r) 11 := vp_in_nI (by omega) (by decide)
  have hjc := nI_clamp (n := j) (by omega)
  have hji : vp_in (nI j) 12 := vp_in_nI (by omega) (by decide)
  have hTl : (0 : Int32) < nI (T + 1) := nI_lt (a := 0) (by omega) hT
  have hTp := nI_pred T
  simp (decide := true) only [wpX_execute, wpX_moveWord, wX_moveWord_12, wX_moveWord_17, wX_moveWord_37, wX_moveWord_58, wpX_tick, hc, hi, hop, hx, hy, hrc, hri, hjc, hji, hTl, hTp, forall_eq, nI_1, pf_fold, Int32.reduceLT, Int32.reduceLE, true_implies, false_implies, not_true_eq_false, not_false_eq_true, and_true, true_and, implies_true, forall_const]
  exact h
theorem pf_x4z {post : SX → Prop} {cn gb : Int32} {op ax ay az c b w : Nat → Int32} {a r j : Nat} (ha : a < 30) (hop : op a = 4) (hx : ax a = nI r) (hr : r < 4) (hy : ay a = nI j) (hjl : j < 12)
    (h : post (cn, gb, nI 0, op, ax, ay, az, c, b, pf_w1 w a)) : wpX_execute post (cn, gb, nI 0, op, ax, ay, az, c, b, w) (nI a) := by
  have hc := nI_clamp (n := a) (by omega)
  have hi : vp_in (nI a) 30 := vp_in_nI ha (by decide)
  have hrc := nI_clamp (n := r) (by omega)
  have hri : vp_in (nI r) 11 := vp_in_nI (by omega) (by decide)
  have hjc := nI_clamp (n := j) (by omega)
  have hji : vp_in (nI j) 12 := vp_in_nI (by omega) (by decide)
  have hTl := pf_00
  simp (decide := true) only [wpX_execute, wpX_moveWord, wX_moveWord_12, wX_moveWord_17, wX_moveWord_37, wX_moveWord_58, wpX_tick, hc, hi, hop, hx, hy, hrc, hri, hjc, hji, hTl, forall_eq, nI_1, pf_fold, Int32.reduceLT, Int32.reduceLE, true_implies, false_implies, not_true_eq_false, not_false_eq_true, and_true, true_and, implies_true, forall_const]
  exact h
theorem pf_y4 {post : Int32 → SY → Prop} {cn : Int32} {op ax ay az c rg lf : Nat → Int32} {a r j : Nat} (ha : a < 30) (hop : op a = 4) (hx : ax a = nI r) (hr : r < 4) (hy : ay a = nI j) (hjl : j < 12)
    (h : post (nI (a + 1)) (cn, op, ax, ay, az, c, upd rg r (c j), lf)) : wpY_step post (cn, op, ax, ay, az, c, rg, lf) (nI a) := by
  have hc := nI_clamp (n := a) (by omega)
  have hi : vp_in (nI a) 30 := vp_in_nI ha (by decide)
  have hrc := nI_clamp (n := r) (by omega)
  have hri : vp_in (nI r) 4 := vp_in_nI (by omega) (by decide)
  have hjc := nI_clamp (n := j) (by omega)
  have hji : vp_in (nI j) 12 := vp_in_nI (by omega) (by decide)
  simp (decide := true) only [wpY_step, wY_step_30, wY_step_64, wY_step_98, wY_step_132, wY_step_154, wY_step_176, wY_step_207, wY_step_238, wY_step_264, wY_step_282, hc, hi, hop, hx, hy, hrc, hri, hjc, hji, forall_eq, nI_1, pf_fold, Int32.reduceLT, Int32.reduceLE, true_implies, false_implies, not_true_eq_false, not_false_eq_true, and_true, true_and, implies_true, forall_const]
  exact h
theorem pf_x5 {post : SX → Prop} {cn gb : Int32} {op ax ay az c b w : Nat → Int32} {a r j T : Nat} (ha : a < 30) (hT : T + 1 < 2 ^ 31) (hop : op a = 5) (hx : ax a = nI r) (hr : r < 4) (hy : ay a = nI j) (hjl : j < 12)
    (h : post (cn, gb, nI T, op, ax, ay, az, upd c j (pf_w1 w a r), b, pf_w1 w a)) : wpX_execute post (cn, gb, nI (T + 1), op, ax, ay, az, c, b, w) (nI a) := by
  have hc := nI_clamp (n := a) (by omega)
  have hi : vp_in (nI a) 30 := vp_in_nI ha (by decide)
  have hrc := nI_clamp (n := r) (by omega)
  have hri : vp_in (nI r) 11 := vp_in_nI (by omega) (by decide)
  have hjc := nI_clamp (n := j) (by omega)
  have hji : vp_in (nI j) 12 := vp_in_nI (by omega) (by decide)
  have hTl : (0 : Int32) < nI (T + 1) := nI_lt (a := 0) (by omega) hT
  have hTp := nI_pred T
  simp (decide := true) only [wpX_execute, wpX_moveWord, wX_moveWord_12, wX_moveWord_17, wX_moveWord_37, wX_moveWord_58, wpX_tick, hc, hi, hop, hx, hy, hrc, hri, hjc, hji, hTl, hTp, forall_eq, nI_1, pf_fold, Int32.reduceLT, Int32.reduceLE, true_implies, false_implies, not_true_eq_false, not_false_eq_true, and_true, true_and, implies_true, forall_const]
  exact h
theorem pf_x5z {post : SX → Prop} {cn gb : Int32} {op ax ay az c b w : Nat → Int32} {a r j : Nat} (ha : a < 30) (hop : op a = 5) (hx : ax a = nI r) (hr : r < 4) (hy : ay a = nI j) (hjl : j < 12)
    (h : post (cn, gb, nI 0, op, ax, ay, az, c, b, pf_w1 w a)) : wpX_execute post (cn, gb, nI 0, op, ax, ay, az, c, b, w) (nI a) := by
  have hc := nI_clamp (n := a) (by omega)
  have hi : vp_in (nI a) 30 := vp_in_nI ha (by decide)
  have hrc := nI_clamp (n := r) (by omega)
  have hri : vp_in (nI r) 11 := vp_in_nI (by omega) (by decide)
  have hjc := nI_clamp (n := j) (by omega)
  have hji : vp_in (nI j) 12 := vp_in_nI (by omega) (by decide)
  have hTl := pf_00
  simp (decide := true) only [wpX_execute, wpX_moveWord, wX_moveWord_12, wX_moveWord_17, wX_moveWord_37, wX_moveWord_58, wpX_tick, hc, hi, hop, hx, hy, hrc, hri, hjc, hji, hTl, forall_eq, nI_1, pf_fold, Int32.reduceLT, Int32.reduceLE, true_implies, false_implies, not_true_eq_false, not_false_eq_true, and_true, true_and, implies_true, forall_const]
  exact h
theorem pf_y5 {post : Int32 → SY → Prop} {cn : Int32} {op ax ay az c rg lf : Nat → Int32} {a r j : Nat} (ha : a < 30) (hop : op a = 5) (hx : ax a = nI r) (hr : r < 4) (hy : ay a = nI j) (hjl : j < 12)
    (h : post (nI (a + 1)) (cn, op, ax, ay, az, upd c j (rg r), rg, lf)) : wpY_step post (cn, op, ax, ay, az, c, rg, lf) (nI a) := by
  have hc := nI_clamp (n := a) (by omega)
  have hi : vp_in (nI a) 30 := vp_in_nI ha (by decide)
  have hrc := nI_clamp (n := r) (by omega)
  have hri : vp_in (nI r) 4 := vp_in_nI (by omega) (by decide)
  have hjc := nI_clamp (n := j) (by omega)
  have hji : vp_in (nI j) 12 := vp_in_nI (by omega) (by decide)
  simp (decide := true) only [wpY_step, wY_step_30, wY_step_64, wY_step_98, wY_step_132, wY_step_154, wY_step_176, wY_step_207, wY_step_238, wY_step_264, wY_step_282, hc, hi, hop, hx, hy, hrc, hri, hjc, hji, forall_eq, nI_1, pf_fold, Int32.reduceLT, Int32.reduceLE, true_implies, false_implies, not_true_eq_false, not_false_eq_true, and_true, true_and, implies_true, forall_const]
  exact h
theorem pf_x6 {post : SX → Prop} {cn gb : Int32} {op ax ay az c b w : Nat → Int32} {a r y j T : Nat} (ha : a < 30) (hT : T + 1 < 2 ^ 31) (hop : op a = 6) (hx : ax a = nI r) (hr : r < 4) (hy : ay a = nI y) (hyl : y < 4) (hj : pf_w1 w a y &&& 7 = nI j) (hjl : j < 8)
    (h : post (cn, gb, nI T, op, ax, ay, az, c, b, upd (pf_w1 w a) r (c j))) : wpX_execute post (cn, gb, nI (T + 1), op, ax, ay, az, c, b, w) (nI a) := by
  have hc := nI_clamp (n := a) (by omega)
  have hi : vp_in (nI a) 30 := vp_in_nI ha (by decide)
  have hrc := nI_clamp (n := r) (by omega)
  have hri : vp_in (nI r) 11 := vp_in_nI (by omega) (by decide)
  have hyc := nI_clamp (n := y) (by omega)
  have hyi : vp_in (nI y) 11 := vp_in_nI (by omega) (by decide)
  have hjc := nI_clamp (n := j) (by omega)
  have hji : vp_in (nI j) 12 := vp_in_nI (by omega) (by decide)
  have hTl : (0 : Int32) < nI (T + 1) := nI_lt (a := 0) (by omega) hT
  have hTp := nI_pred T
  simp (decide := true) only [wpX_execute, wpX_moveWord, wX_moveWord_12, wX_moveWord_17, wX_moveWord_37, wX_moveWord_58, wpX_tick, hc, hi, hop, hx, hy, hrc, hri, hjc, hji, hyc, hyi, hj, hTl, hTp, forall_eq, nI_1, pf_fold, Int32.reduceLT, Int32.reduceLE, true_implies, false_implies, not_true_eq_false, not_false_eq_true, and_true, true_and, implies_true, forall_const]
  exact h
theorem pf_x6z {post : SX → Prop} {cn gb : Int32} {op ax ay az c b w : Nat → Int32} {a r y j : Nat} (ha : a < 30) (hop : op a = 6) (hx : ax a = nI r) (hr : r < 4) (hy : ay a = nI y) (hyl : y < 4) (hj : pf_w1 w a y &&& 7 = nI j) (hjl : j < 8)
    (h : post (cn, gb, nI 0, op, ax, ay, az, c, b, pf_w1 w a)) : wpX_execute post (cn, gb, nI 0, op, ax, ay, az, c, b, w) (nI a) := by
  have hc := nI_clamp (n := a) (by omega)
  have hi : vp_in (nI a) 30 := vp_in_nI ha (by decide)
  have hrc := nI_clamp (n := r) (by omega)
  have hri : vp_in (nI r) 11 := vp_in_nI (by omega) (by decide)
  have hyc := nI_clamp (n := y) (by omega)
  have hyi : vp_in (nI y) 11 := vp_in_nI (by omega) (by decide)
  have hjc := nI_clamp (n := j) (by omega)
  have hji : vp_in (nI j) 12 := vp_in_nI (by omega) (by decide)
  have hTl := pf_00
  simp (decide := true) only [wpX_execute, wpX_moveWord, wX_moveWord_12, wX_moveWord_17, wX_moveWord_37, wX_moveWord_58, wpX_tick, hc, hi, hop, hx, hy, hrc, hri, hjc, hji, hyc, hyi, hj, hTl, forall_eq, nI_1, pf_fold, Int32.reduceLT, Int32.reduceLE, true_implies, false_implies, not_true_eq_false, not_false_eq_true, and_true, true_and, implies_true, forall_const]
  exact h
theorem pf_y6 {post : Int32 → SY → Prop} {cn : Int32} {op ax ay az c rg lf : Nat → Int32} {a r y j : Nat} (ha : a < 30) (hop : op a = 6) (hx : ax a = nI r) (hr : r < 4) (hy : ay a = nI y) (hyl : y < 4) (hj : rg y &&& 7 = nI j) (hjl : j < 8)
    (h : post (nI (a + 1)) (cn, op, ax, ay, az, c, upd rg r (c j), lf)) : wpY_step post (cn, op, ax, ay, az, c, rg, lf) (nI a) := by
  have hc := nI_clamp (n := a) (by omega)
  have hi : vp_in (nI a) 30 := vp_in_nI ha (by decide)
  have hrc := nI_clamp (n := r) (by omega)
  have hri : vp_in (nI r) 4 := vp_in_nI (by omega) (by decide)
  have hyc := nI_clamp (n := y) (by omega)
  have hyi : vp_in (nI y) 4 := vp_in_nI (by omega) (by decide)
  have hjc := nI_clamp (n := j) (by omega)
  have hji : vp_in (nI j) 12 := vp_in_nI (by omega) (by decide)
  simp (decide := true) only [wpY_step, wY_step_30, wY_step_64, wY_step_98, wY_step_132, wY_step_154, wY_step_176, wY_step_207, wY_step_238, wY_step_264, wY_step_282, hc, hi, hop, hx, hy, hrc, hri, hjc, hji, hyc, hyi, hj, forall_eq, nI_1, pf_fold, Int32.reduceLT, Int32.reduceLE, true_implies, false_implies, not_true_eq_false, not_false_eq_true, and_true, true_and, implies_true, forall_const]
  exact h
theorem pf_x7 {post : SX → Prop} {cn gb : Int32} {op ax ay az c b w : Nat → Int32} {a r y j T : Nat} (ha : a < 30) (hT : T + 1 < 2 ^ 31) (hop : op a = 7) (hx : ax a = nI r) (hr : r < 4) (hy : ay a = nI y) (hyl : y < 4) (hj : pf_w1 w a y &&& 7 = nI j) (hjl : j < 8)
    (h : post (cn, gb, nI T, op, ax, ay, az, upd c j (pf_w1 w a r), b, pf_w1 w a)) : wpX_execute post (cn, gb, nI (T + 1), op, ax, ay, az, c, b, w) (nI a) := by
  have hc := nI_clamp (n := a) (by omega)
  have hi : vp_in (nI a) 30 := vp_in_nI ha (by decide)
  have hrc := nI_clamp (n := r) (by omega)
  have hri : vp_in (nI r) 11 := vp_in_nI (by omega) (by decide)
  have hyc := nI_clamp (n := y) (by omega)
  have hyi : vp_in (nI y) 11 := vp_in_nI (by omega) (by decide)
  have hjc := nI_clamp (n := j) (by omega)
  have hji : vp_in (nI j) 12 := vp_in_nI (by omega) (by decide)
  have hTl : (0 : Int32) < nI (T + 1) := nI_lt (a := 0) (by omega) hT
  have hTp := nI_pred T
  simp (decide := true) only [wpX_execute, wpX_moveWord, wX_moveWord_12, wX_moveWord_17, wX_moveWord_37, wX_moveWord_58, wpX_tick, hc, hi, hop, hx, hy, hrc, hri, hjc, hji, hyc, hyi, hj, hTl, hTp, forall_eq, nI_1, pf_fold, Int32.reduceLT, Int32.reduceLE, true_implies, false_implies, not_true_eq_false, not_false_eq_true, and_true, true_and, implies_true, forall_const]
  exact h
theorem pf_x7z {post : SX → Prop} {cn gb : Int32} {op ax ay az c b w : Nat → Int32} {a r y j : Nat} (ha : a < 30) (hop : op a = 7) (hx : ax a = nI r) (hr : r < 4) (hy : ay a = nI y) (hyl : y < 4) (hj : pf_w1 w a y &&& 7 = nI j) (hjl : j < 8)
    (h : post (cn, gb, nI 0, op, ax, ay, az, c, b, pf_w1 w a)) : wpX_execute post (cn, gb, nI 0, op, ax, ay, az, c, b, w) (nI a) := by
  have hc := nI_clamp (n := a) (by omega)
  have hi : vp_in (nI a) 30 := vp_in_nI ha (by decide)
  have hrc := nI_clamp (n := r) (by omega)
  have hri : vp_in (nI r) 11 := vp_in_nI (by omega) (by decide)
  have hyc := nI_clamp (n := y) (by omega)
  have hyi : vp_in (nI y) 11 := vp_in_nI (by omega) (by decide)
  have hjc := nI_clamp (n := j) (by omega)
  have hji : vp_in (nI j) 12 := vp_in_nI (by omega) (by decide)
  have hTl := pf_00
  simp (decide := true) only [wpX_execute, wpX_moveWord, wX_moveWord_12, wX_moveWord_17, wX_moveWord_37, wX_moveWord_58, wpX_tick, hc, hi, hop, hx, hy, hrc, hri, hjc, hji, hyc, hyi, hj, hTl, forall_eq, nI_1, pf_fold, Int32.reduceLT, Int32.reduceLE, true_implies, false_implies, not_true_eq_false, not_false_eq_true, and_true, true_and, implies_true, forall_const]
  exact h
theorem pf_y7 {post : Int32 → SY → Prop} {cn : Int32} {op ax ay az c rg lf : Nat → Int32} {a r y j : Nat} (ha : a < 30) (hop : op a = 7) (hx : ax a = nI r) (hr : r < 4) (hy : ay a = nI y) (hyl : y < 4) (hj : rg y &&& 7 = nI j) (hjl : j < 8)
    (h : post (nI (a + 1)) (cn, op, ax, ay, az, upd c j (rg r), rg, lf)) : wpY_step post (cn, op, ax, ay, az, c, rg, lf) (nI a) := by
  have hc := nI_clamp (n := a) (by omega)
  have hi : vp_in (nI a) 30 := vp_in_nI ha (by decide)
  have hrc := nI_clamp (n := r) (by omega)
  have hri : vp_in (nI r) 4 := vp_in_nI (by omega) (by decide)
  have hyc := nI_clamp (n := y) (by omega)
  have hyi : vp_in (nI y) 4 := vp_in_nI (by omega) (by decide)
  have hjc := nI_clamp (n := j) (by omega)
  have hji : vp_in (nI j) 12 := vp_in_nI (by omega) (by decide)
  simp (decide := true) only [wpY_step, wY_step_30, wY_step_64, wY_step_98, wY_step_132, wY_step_154, wY_step_176, wY_step_207, wY_step_238, wY_step_264, wY_step_282, hc, hi, hop, hx, hy, hrc, hri, hjc, hji, hyc, hyi, hj, forall_eq, nI_1, pf_fold, Int32.reduceLT, Int32.reduceLE, true_implies, false_implies, not_true_eq_false, not_false_eq_true, and_true, true_and, implies_true, forall_const]
  exact h
theorem pf_x8 {post : SX → Prop} {cn gb tl : Int32} {op ax ay az c b w : Nat → Int32} {a r m : Nat} (ha : a < 30) (hop : op a = 8) (hx : ax a = nI r) (hr : r < 4) (hy : ay a = nI m)
    (h1 : 0 < pf_w1 w a r → post (cn, gb, tl, op, ax, ay, az, c, b, pf_w1 w a)) (h2 : ¬ 0 < pf_w1 w a r → post (cn, gb, tl, op, ax, ay, az, c, b, upd (pf_w1 w a) 4 (nI (a + 1 + m)))) : wpX_execute post (cn, gb, tl, op, ax, ay, az, c, b, w) (nI a) := by
  have hc := nI_clamp (n := a) (by omega)
  have hi : vp_in (nI a) 30 := vp_in_nI ha (by decide)
  have hrc := nI_clamp (n := r) (by omega)
  have hri : vp_in (nI r) 11 := vp_in_nI (by omega) (by decide)
  have h4 := pf_w14 w a
  have ha4 := nI_add (a + 1) m
  simp (decide := true) only [wpX_execute, wpX_leaveOutUnlessPositive, hc, hi, hop, hx, hy, hrc, hri, h4, ha4, forall_eq, nI_1, pf_fold, Int32.reduceLT, Int32.reduceLE, true_implies, false_implies, not_true_eq_false, not_false_eq_true, and_true, true_and, implies_true, forall_const]
  exact ⟨h1, h2⟩
theorem pf_y8 {post : Int32 → SY → Prop} {cn : Int32} {op ax ay az c rg lf : Nat → Int32} {a r m : Nat} (ha : a < 30) (hop : op a = 8) (hx : ax a = nI r) (hr : r < 4) (hy : ay a = nI m)
    (h1 : 0 < rg r → post (nI (a + 1)) (cn, op, ax, ay, az, c, rg, lf)) (h2 : ¬ 0 < rg r → post (nI (a + m + 1)) (cn, op, ax, ay, az, c, rg, lf)) : wpY_step post (cn, op, ax, ay, az, c, rg, lf) (nI a) := by
  have hc := nI_clamp (n := a) (by omega)
  have hi : vp_in (nI a) 30 := vp_in_nI ha (by decide)
  have hrc := nI_clamp (n := r) (by omega)
  have hri : vp_in (nI r) 4 := vp_in_nI (by omega) (by decide)
  have ha4 := nI_add a m
  simp (decide := true) only [wpY_step, wY_step_30, wY_step_64, wY_step_98, wY_step_132, wY_step_154, wY_step_176, wY_step_207, wY_step_238, wY_step_264, wY_step_282, hc, hi, hop, hx, hy, hrc, hri, ha4, forall_eq, nI_1, pf_fold, Int32.reduceLT, Int32.reduceLE, true_implies, false_implies, not_true_eq_false, not_false_eq_true, and_true, true_and, implies_true, forall_const]
  exact ⟨h1, h2⟩
theorem pf_x9 {post : SX → Prop} {cn gb tl : Int32} {op ax ay az c b w : Nat → Int32} {a d : Nat} (ha : a < 30) (hop : op a = 9) (hd : d ≤ 1) (h6 : w 6 = nI d)
    (h : post (cn, gb, tl, op, ax, ay, az, c, b, upd (upd (upd (pf_w1 w a) (7 + d) (ax a)) (9 + d) (nI (a + 1))) 6 (nI (d + 1)))) : wpX_execute post (cn, gb, tl, op, ax, ay, az, c, b, w) (nI a) := by
  have hc := nI_clamp (n := a) (by omega)
  have hi : vp_in (nI a) 30 := vp_in_nI ha (by decide)
  have h6' : pf_w1 w a 6 = nI d := (pf_w1n (by decide) (by decide)).trans h6
  have hd0 : ¬ nI d < 0 := nI_pos (by omega)
  have hd2 : ¬ (2 : Int32) ≤ nI d := nI_ge (b := 2) (by omega) (by decide)
  have e7 := pf_7 d
  have e9 := pf_9 d
  have c7 := nI_clamp (n := 7 + d) (by omega)
  have c9 := nI_clamp (n := 9 + d) (by omega)
  have i7 : vp_in (nI (7 + d)) 11 := vp_in_nI (by omega) (by decide)
  have i9 : vp_in (nI (9 + d)) 11 := vp_in_nI (by omega) (by decide)
  have h4 : upd (pf_w1 w a) (7 + d) (ax a) 4 = nI (a + 1) := by rw [pk_un (by omega), pf_w14]
  simp (decide := true) only [wpX_execute, wpX_openLoop, hc, hi, hop, h6', hd0, hd2, e7, e9, c7, c9, i7, i9, h4, forall_eq, nI_1, pf_fold, Int32.reduceLT, Int32.reduceLE, true_implies, false_implies, not_true_eq_false, not_false_eq_true, and_true, true_and, implies_true, forall_const]
  exact h
theorem pf_y9 {post : Int32 → SY → Prop} {cn : Int32} {op ax ay az c rg lf : Nat → Int32} {a : Nat} (ha : a < 30) (hop : op a = 9)
    (h : post (nI (a + 1)) (cn, op, ax, ay, az, c, rg, upd lf a (ax a))) : wpY_step post (cn, op, ax, ay, az, c, rg, lf) (nI a) := by
  have hc := nI_clamp (n := a) (by omega)
  have hi : vp_in (nI a) 30 := vp_in_nI ha (by decide)
  simp (decide := true) only [wpY_step, wY_step_30, wY_step_64, wY_step_98, wY_step_132, wY_step_154, wY_step_176, wY_step_207, wY_step_238, wY_step_264, wY_step_282, hc, hi, hop, forall_eq, nI_1, pf_fold, Int32.reduceLT, Int32.reduceLE, true_implies, false_implies, not_true_eq_false, not_false_eq_true, and_true, true_and, implies_true, forall_const]
  exact h
theorem pf_xA {post : SX → Prop} {cn gb tl : Int32} {op ax ay az c b w : Nat → Int32} {a t l o : Nat} (ha : a < 30) (hop : op a = 10) (ht : t ≤ 1) (h6 : w 6 = nI (t + 1)) (h7 : w (7 + t) = nI (l + 1)) (hl : 1 ≤ l) (hl6 : l ≤ 6) (h9 : w (9 + t) = nI (o + 1))
    (h : post (cn, gb, tl, op, ax, ay, az, c, b, upd (upd (pf_w1 w a) (7 + t) (nI l)) 4 (nI (o + 1)))) : wpX_execute post (cn, gb, tl, op, ax, ay, az, c, b, w) (nI a) := by
  have hc := nI_clamp (n := a) (by omega)
  have hi : vp_in (nI a) 30 := vp_in_nI ha (by decide)
  have h6' : pf_w1 w a 6 - 1 = nI t := by rw [pf_w1n (by decide) (by decide), h6]; exact nI_pred t
  have hd0 : ¬ nI t < 0 := nI_pos (by omega)
  have hd2 : ¬ (2 : Int32) ≤ nI t := nI_ge (b := 2) (by omega) (by decide)
  have e7 := pf_7 t
  have e9 := pf_9 t
  have c7 := nI_clamp (n := 7 + t) (by omega)
  have c9 := nI_clamp (n := 9 + t) (by omega)
  have i7 : vp_in (nI (7 + t)) 11 := vp_in_nI (by omega) (by decide)
  have i9 : vp_in (nI (9 + t)) 11 := vp_in_nI (by omega) (by decide)
  have h7' : pf_w1 w a (7 + t) - 1 = nI l := by rw [pf_w1n (by omega) (by omega), h7]; exact nI_pred l
  have hu : upd (pf_w1 w a) (7 + t) (nI l) (7 + t) = nI l := pk_us
  have hl0 : ¬ nI l ≤ 0 := nI_nle (by omega) (by omega)
  have h9' : upd (pf_w1 w a) (7 + t) (nI l) (9 + t) = nI (o + 1) := by rw [pk_un (by omega), pf_w1n (by omega) (by omega), h9]
  simp (decide := true) only [wpX_execute, wpX_endPass, hc, hi, hop, h6', hd0, hd2, e7, e9, c7, c9, i7, i9, h7', hu, hl0, h9', forall_eq, nI_1, pf_fold, Int32.reduceLT, Int32.reduceLE, true_implies, false_implies, not_true_eq_false, not_false_eq_true, and_true, true_and, implies_true, forall_const]
  exact h
theorem pf_xB {post : SX → Prop} {cn gb tl : Int32} {op ax ay az c b w : Nat → Int32} {a t : Nat} (ha : a < 30) (hop : op a = 10) (ht : t ≤ 1) (h6 : w 6 = nI (t + 1)) (h7 : w (7 + t) = nI 1)
    (h : post (cn, gb, tl, op, ax, ay, az, c, b, upd (upd (pf_w1 w a) (7 + t) (nI 0)) 6 (nI t))) : wpX_execute post (cn, gb, tl, op, ax, ay, az, c, b, w) (nI a) := by
  have hc := nI_clamp (n := a) (by omega)
  have hi : vp_in (nI a) 30 := vp_in_nI ha (by decide)
  have h6' : pf_w1 w a 6 - 1 = nI t := by rw [pf_w1n (by decide) (by decide), h6]; exact nI_pred t
  have hd0 : ¬ nI t < 0 := nI_pos (by omega)
  have hd2 : ¬ (2 : Int32) ≤ nI t := nI_ge (b := 2) (by omega) (by decide)
  have e7 := pf_7 t
  have e9 := pf_9 t
  have c7 := nI_clamp (n := 7 + t) (by omega)
  have c9 := nI_clamp (n := 9 + t) (by omega)
  have i7 : vp_in (nI (7 + t)) 11 := vp_in_nI (by omega) (by decide)
  have i9 : vp_in (nI (9 + t)) 11 := vp_in_nI (by omega) (by decide)
  have h7' : pf_w1 w a (7 + t) - 1 = nI 0 := by rw [pf_w1n (by omega) (by omega), h7]; exact nI_pred 0
  have hu : upd (pf_w1 w a) (7 + t) (nI 0) (7 + t) = nI 0 := pk_us
  have hl0 : nI 0 ≤ 0 := by decide
  simp (decide := true) only [wpX_execute, wpX_endPass, hc, hi, hop, h6', hd0, hd2, e7, e9, c7, c9, i7, i9, h7', hu, hl0, forall_eq, nI_1, pf_fold, Int32.reduceLT, Int32.reduceLE, true_implies, false_implies, not_true_eq_false, not_false_eq_true, and_true, true_and, implies_true, forall_const]
  exact h
