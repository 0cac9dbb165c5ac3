/-! the owed statements -/
/-- the same program and cells; the good bank holds the registers; each instruction's operands fit -/
def i_Rel (_ : Nat) (u : SX) (v : SY) : Prop := ∃ (n g : Nat) (tl : Int32) (op ax ay az c b w rg lf : Nat → Int32),
  u = (nI n, nI g, tl, op, ax, ay, az, c, b, w) ∧ v = (nI n, op, ax, ay, az, c, rg, lf) ∧ n ≤ 30 ∧ g ≤ 1 ∧ pf_Z w ∧
  (∀ r, r < 4 → rg r = b (11 * g + r)) ∧ ∀ i, i < n → pf_ok (op i) (ax i) (ay i) (az i)
theorem i_up {k : Nat} {u : SX} {v : SY} (h : i_Rel k u v) : i_Rel (k + 5) u v := h
theorem i_vc0 : wpX_init (fun u => wpY_init (fun v => i_Rel 0 u v)) :=
  ⟨0, 0, 0, _, _, _, _, _, _, _, _, _, rfl, rfl, by omega, by omega, fun _ _ => rfl, fun _ _ => rfl, fun _ h => absurd h (by omega)⟩
theorem i_vc_emit {k : Nat} {u : SX} {v : SY} (I : i_Rel k u v) (hk : k + 5 ≤ 2560) (v1 : Int32) (v2 : Int32) (v3 : Int32) (v4 : Int32) : wpX_emit (fun r u' => wpY_emit (fun r' v' => r' = r ∧ i_Rel (k + 5) u' v') v v1 v2 v3 v4) u v1 v2 v3 v4 := by
  obtain ⟨n, g, tl, op, ax, ay, az, c, b, w, rg, lf, rfl, rfl, hn, hg, hz, hr, hok⟩ := I
  have J : i_Rel (k + 5) (nI n, nI g, tl, op, ax, ay, az, c, b, w) (nI n, op, ax, ay, az, c, rg, lf) := ⟨n, g, tl, op, ax, ay, az, c, b, w, rg, lf, rfl, rfl, hn, hg, hz, hr, hok⟩
  by_cases h30 : n = 30
  · subst h30
    exact br_f (by decide) (br_t rfl ⟨rfl, J⟩)
  · have hlt : nI n < 30 := nI_lt (b := 30) (by omega) (by decide)
    have hne : ¬ nI n = 30 := fun e => h30 ((nI_eq (b := 30) (by omega) (by omega)).mp e)
    refine br_t hlt ?_
    by_cases h0 : v1 < 0
    · refine br_t h0 (br_f hne ?_)
      exact br_t h0 (br_t rfl ⟨rfl, J⟩)
    · obtain ⟨q, hq, rfl⟩ := nI_of h0
      by_cases h10 : q ≤ 10
      · obtain ⟨s, hs, hX, hY⟩ := pf_fits (cn := nI n) (op := op) (ax := ax) (ay := ay) (az := az) (c := c) (rg := rg) (lf := lf) v2 v3 v4 h10
        refine br_f h0 (br_f (nI_nlt (a := 10) h10 (by decide)) ?_)
        refine hX _ ?_
        rcases hs with rfl | ⟨rfl, hfit⟩
        · refine br_t rfl (br_f hne ?_)
          refine hY _ ?_
          exact br_t rfl ⟨rfl, J⟩
        · have hv : vp_in (nI n) 30 := vp_in_nI (by omega) (by decide)
          have hc := nI_clamp (n := n) (by omega)
          have e1 : upd op (nI n).toNatClampNeg (nI q) = upd op n (nI q) := by rw [hc]
          have e2 : upd ax (nI n).toNatClampNeg v2 = upd ax n v2 := by rw [hc]
          have e3 : upd ay (nI n).toNatClampNeg v3 = upd ay n v3 := by rw [hc]
          have e4 : upd az (nI n).toNatClampNeg v4 = upd az n v4 := by rw [hc]
          refine br_f pf_10 ⟨hv, nm_r e1 ⟨hv, nm_r e2 ⟨hv, nm_r e3 ⟨hv, nm_r e4 (nm_r (nI_1 n) (br_f hne ?_))⟩⟩⟩⟩
          refine hY _ ?_
          refine br_f pf_10 ⟨hv, nm_r e1 ⟨hv, nm_r e2 ⟨hv, nm_r e3 ⟨hv, nm_r e4 (nm_r (nI_1 n) ⟨rfl, ?_⟩)⟩⟩⟩⟩
          refine ⟨n + 1, g, tl, upd op n (nI q), upd ax n v2, upd ay n v3, upd az n v4, c, b, w, rg, lf, rfl, rfl, by omega, hg, hz, hr, fun i hi => ?_⟩
          by_cases z : i = n
          · rw [z, pk_us, pk_us, pk_us, pk_us]
            exact ⟨q, h10, rfl, hfit⟩
          · rw [pk_un z, pk_un z, pk_un z, pk_un z]
            exact hok i (by omega)
      · refine br_f h0 (br_t (nI_lt (a := 10) (by omega) hq) (br_f hne ?_))
        exact br_f h0 (br_f (nI_ge (a := 10) (by omega) hq) (br_t rfl ⟨rfl, J⟩))
theorem i_vc_retract {k : Nat} {u : SX} {v : SY} (I : i_Rel k u v) (hk : k + 5 ≤ 2560) : wpX_retract (fun r u' => wpY_retract (fun r' v' => r' = r ∧ i_Rel (k + 5) u' v') v) u := by
  obtain ⟨n, g, tl, op, ax, ay, az, c, b, w, rg, lf, rfl, rfl, hn, hg, hz, hr, hok⟩ := I
  by_cases h0 : n = 0
  · subst h0
    exact br_t nI_0 (br_t nI_0 ⟨rfl, 0, g, tl, op, ax, ay, az, c, b, w, rg, lf, rfl, rfl, hn, hg, hz, hr, hok⟩)
  · obtain ⟨m, rfl⟩ : ∃ m, n = m + 1 := ⟨n - 1, by omega⟩
    have hne : ¬ nI (m + 1) = 0 := nI_ne0 (by omega) (by omega)
    exact br_f hne (nm_r (nI_pred m) (br_f hne (nm_r (nI_pred m) ⟨rfl, m, g, tl, op, ax, ay, az, c, b, w, rg, lf, rfl, rfl, by omega, hg, hz, hr, fun i hi => hok i (by omega)⟩)))
theorem i_vc_sound {k : Nat} {u : SX} {v : SY} (I : i_Rel k u v) (hk : k + 5 ≤ 2560) : wpX_sound (fun r => wpY_sound (fun r' => r' = r ∧ i_Rel (k + 5) u v) v) u := by
  have J := i_up I
  obtain ⟨n, g, tl, op, ax, ay, az, c, b, w, rg, lf, rfl, rfl, hn, hg, hz, hr, hok⟩ := I
  obtain ⟨s, hs, hX, hY⟩ := pf_sound (gb := nI g) (tl := tl) (c := c) (b := b) (w := w) (cY := c) (rg := rg) (lf := lf) hn hok
  exact hX _ (hY _ ⟨rfl, J⟩)
theorem i_vc_setCell {k : Nat} {u : SX} {v : SY} (I : i_Rel k u v) (hk : k + 5 ≤ 2560) (v1 : Int32) (v2 : Int32) : wpX_setCell (fun r u' => wpY_setCell (fun r' v' => r' = r ∧ i_Rel (k + 5) u' v') v v1 v2) u v1 v2 := by
  obtain ⟨n, g, tl, op, ax, ay, az, c, b, w, rg, lf, rfl, rfl, hn, hg, hz, hr, hok⟩ := I
  obtain ⟨s, hs, hX, hY⟩ := pf_cel v1
  unfold wpX_setCell
  refine hX _ ?_
  rcases hs with rfl | ⟨rfl, r, hrl, rfl⟩
  · refine br_t rfl ?_
    unfold wpY_setCell
    refine hY _ _ _ _ _ _ _ _ _ ?_
    exact br_t rfl ⟨rfl, n, g, tl, op, ax, ay, az, c, b, w, rg, lf, rfl, rfl, hn, hg, hz, hr, hok⟩
  · have hv : vp_in (nI r) 12 := vp_in_nI hrl (by decide)
    refine br_f pf_10 ⟨hv, nm_e ?_⟩
    unfold wpY_setCell
    refine hY _ _ _ _ _ _ _ _ _ ?_
    exact br_f pf_10 ⟨hv, nm_e ⟨rfl, n, g, tl, op, ax, ay, az, _, b, w, rg, lf, rfl, rfl, hn, hg, hz, hr, hok⟩⟩
theorem i_vc_run {k : Nat} {u : SX} {v : SY} (I : i_Rel k u v) (hk : k + 5 ≤ 2560) (v1 : Int32) : wpX_run (fun r u' => wpY_run (fun r' v' => r' = r ∧ i_Rel (k + 5) u' v') v v1) u v1 := by
  obtain ⟨n, g, tl, op, ax, ay, az, c, b, w, rg, lf, rfl, rfl, hn, hg, hz, hr, hok⟩ := I
  obtain ⟨s, hs, hX, hY⟩ := pf_sound (gb := nI g) (tl := tl) (c := c) (b := b) (w := w) (cY := c) (rg := rg) (lf := lf) hn hok
  unfold wpX_run
  refine hX _ ?_
  rcases hs with rfl | ⟨rfl, hso⟩
  · refine br_t rfl ?_
    unfold wpY_run
    refine hY _ ?_
    exact br_t rfl ⟨rfl, n, g, tl, op, ax, ay, az, c, b, w, rg, lf, rfl, rfl, hn, hg, hz, hr, hok⟩
  · refine br_f pf_10 ?_
    have hst : pf_st op n (fun _ => 0) 0 0 (fun _ => 0) (fun _ => 0) (fun _ => 0) := ⟨rfl, rfl, by omega, by omega, rfl, fun t ht => absurd ht (by omega)⟩
    obtain ⟨K, hK, W, C, hW0, hC0, hR, hKn, hZ⟩ := pf_chain (op := op) (n := n) (pf_R n op ax ay az) (fun m w c h1 h2 h3 => pf_step hn hso hok m w c h1 h2 h3)
      (36 * n) (fun _ => 0) c ⟨0, 0, _, _, _, hst, by rw [pf_bu0]; omega⟩ (fun _ _ => rfl)
    have H : pf_Ch n op ax ay az K W C := ⟨hR, hKn, hZ⟩
    have hK5 : W K 5 = nI K := pf_ch5 H (by rw [hW0]; rfl) K (Nat.le_refl _)
    refine pf_clamp v1 (fun tk ht1 ht2 => ?_)
    refine pf_forget ?_
    refine ⟨K + 1, ?_⟩
    refine pf_runX (K := K) (W := W) (C := C) hn H (by omega) ht1 ht2 (fun g' tl' b' wk' hg' hB' hz' => ?_) (K + 1) 0 0 0 tl _ c w (by omega) (by omega) (by omega) (by omega) ?_ (Or.inl hC0.symm) hz
    · unfold wpY_run
      refine hY _ ?_
      refine br_f pf_10 ?_
      refine pf_zeroY ?_
      refine ⟨K + 1, ?_⟩
      have Y := pf_runY (post := fun r' v' => r' = W K 5 ∧ i_Rel (k + 5) (nI n, nI g', tl', op, ax, ay, az, C K, b', wk') v') hn H (by omega) (fun rg' lf' hY' => ?_)
        (K + 1) 0 (pf_fl rg (fun _ => 0) 4) lf (by omega) (by omega) ⟨fun r hr4 => by rw [hW0]; exact pf_flo hr4, fun t d q h6 hd ht => ?_⟩
      · rw [hW0, hC0] at Y
        exact Y
      · refine ⟨hK5.symm, n, g', tl', op, ax, ay, az, C K, b', wk', rg', lf', rfl, rfl, hn, hg', hz', fun r hr4 => ?_, hok⟩
        rw [hY'.1 r hr4, ← hB', pf_B_lo (by omega)]
      · rw [hW0] at h6
        have : 0 = d := (nI_eq (a := 0) (by omega) (by omega)).mp h6
        omega
    · rw [hW0]
      funext i
      show (if i < 11 then (if 11 * 0 + i < 22 then (0 : Int32) else b (11 * 0 + i)) else 0) = 0
      by_cases hi : i < 11
      · rw [if_pos hi, if_pos (by omega)]
      · rw [if_neg hi]
theorem i_vc_cell {k : Nat} {u : SX} {v : SY} (I : i_Rel k u v) (hk : k + 5 ≤ 2560) (v1 : Int32) : wpX_cell (fun r => wpY_cell (fun r' => r' = r ∧ i_Rel (k + 5) u v) v v1) u v1 := by
  have J := i_up I
  obtain ⟨n, g, tl, op, ax, ay, az, c, b, w, rg, lf, rfl, rfl, hn, hg, hz, hr, hok⟩ := I
  obtain ⟨s, hs, hX, hY⟩ := pf_cel v1
  unfold wpX_cell
  refine hX _ ?_
  rcases hs with rfl | ⟨rfl, r, hrl, rfl⟩
  · refine br_t rfl ?_
    unfold wpY_cell
    refine hY _ _ _ _ _ _ _ _ _ ?_
    exact br_t rfl ⟨rfl, J⟩
  · have hv : vp_in (nI r) 12 := vp_in_nI hrl (by decide)
    refine br_f pf_10 ⟨hv, ?_⟩
    unfold wpY_cell
    refine hY _ _ _ _ _ _ _ _ _ ?_
    exact br_f pf_10 ⟨hv, rfl, J⟩
theorem i_vc_register {k : Nat} {u : SX} {v : SY} (I : i_Rel k u v) (hk : k + 5 ≤ 2560) (v1 : Int32) : wpX_register (fun r => wpY_register (fun r' => r' = r ∧ i_Rel (k + 5) u v) v v1) u v1 := by
  have J := i_up I
  obtain ⟨n, g, tl, op, ax, ay, az, c, b, w, rg, lf, rfl, rfl, hn, hg, hz, hr, hok⟩ := I
  obtain ⟨s, hs, hX, hY⟩ := pf_reg v1
  unfold wpX_register
  refine hX _ ?_
  rcases hs with rfl | ⟨rfl, r, hrl, rfl⟩
  · refine br_t rfl ?_
    unfold wpY_register
    refine hY _ _ _ _ _ _ _ _ _ ?_
    exact br_t rfl ⟨rfl, J⟩
  · have hv : vp_in (nI r) 4 := vp_in_nI hrl (by decide)
    refine br_f pf_10 ?_
    refine pf_kept hg (by omega) ?_
    unfold wpY_register
    refine hY _ _ _ _ _ _ _ _ _ ?_
    refine br_f pf_10 ⟨hv, ?_, J⟩
    rw [nI_clamp (by omega), pf_B_lo (by omega)]
    exact hr r hrl
theorem pf_clX {post : SX → Prop} {cn gb tl : Int32} {op ax ay az c b w : Nat → Int32}
    (h : post (cn, 0, 0, op, ax, ay, az, pf_fl c (fun _ => 0) 12, pf_fl b (fun _ => 0) 22, pf_fl w (fun _ => 0) 11)) : ∃ f, wX_clear_7 post cn gb tl f 0 op ax ay az c b w := by
  have L : ∀ d i, i + d = 12 → wX_clear_7 post cn gb tl (d + 1) (nI i) op ax ay az (pf_fl c (fun _ => 0) i) b w := by
    intro d
    induction d with
    | zero =>
      intro i hi
      obtain rfl : i = 12 := by omega
      refine br_t (nI_le (a := 12) (by omega) (by decide)) ?_
      refine pf_forget ?_
      refine pf_lose ?_
      exact h
    | succ d ih =>
      intro i hi
      refine br_f (nI_ge (b := 12) (by omega) (by decide)) ⟨vp_in_nI (by omega) (by decide), nm_r (e' := pf_fl c (fun _ => 0) (i + 1)) ?_ (nm_r (nI_1 i) (ih (i + 1) (by omega)))⟩
      rw [nI_clamp (by omega)]
      exact pf_flS c (fun _ => 0) i
  have := L 12 0 (by omega)
  rw [pf_fl0, nI_0] at this
  exact ⟨_, this⟩
theorem pf_clY {post : SY → Prop} {cn : Int32} {op ax ay az c rg lf : Nat → Int32}
    (h : post (cn, op, ax, ay, az, pf_fl c (fun _ => 0) 12, pf_fl rg (fun _ => 0) 4, lf)) : ∃ f, wY_clear_7 post cn f 0 op ax ay az c rg lf := by
  have L4 : ∀ d i, i + d = 4 → wY_clear_28 post cn (d + 1) (nI i) op ax ay az (pf_fl c (fun _ => 0) 12) (pf_fl rg (fun _ => 0) i) lf := by
    intro d
    induction d with
    | zero =>
      intro i hi
      obtain rfl : i = 4 := by omega
      exact br_t (nI_le (a := 4) (by omega) (by decide)) h
    | succ d ih =>
      intro i hi
      refine br_f (nI_ge (b := 4) (by omega) (by decide)) ⟨vp_in_nI (by omega) (by decide), nm_r (e' := pf_fl rg (fun _ => 0) (i + 1)) ?_ (nm_r (nI_1 i) (ih (i + 1) (by omega)))⟩
      rw [nI_clamp (by omega)]
      exact pf_flS rg (fun _ => 0) i
  have h4 := L4 4 0 (by omega)
  rw [pf_fl0, nI_0] at h4
  have L : ∀ d i, i + d = 12 → wY_clear_7 post cn (d + 1) (nI i) op ax ay az (pf_fl c (fun _ => 0) i) rg lf := by
    intro d
    induction d with
    | zero =>
      intro i hi
      obtain rfl : i = 12 := by omega
      exact br_t (nI_le (a := 12) (by omega) (by decide)) ⟨_, h4⟩
    | succ d ih =>
      intro i hi
      refine br_f (nI_ge (b := 12) (by omega) (by decide)) ⟨vp_in_nI (by omega) (by decide), nm_r (e' := pf_fl c (fun _ => 0) (i + 1)) ?_ (nm_r (nI_1 i) (ih (i + 1) (by omega)))⟩
      rw [nI_clamp (by omega)]
      exact pf_flS c (fun _ => 0) i
  have := L 12 0 (by omega)
  rw [pf_fl0, nI_0] at this
  exact ⟨_, this⟩
theorem i_vc_clear {k : Nat} {u : SX} {v : SY} (I : i_Rel k u v) (hk : k + 5 ≤ 2560) : wpX_clear (fun u' => wpY_clear (fun v' => i_Rel (k + 5) u' v') v) u := by
  obtain ⟨n, g, tl, op, ax, ay, az, c, b, w, rg, lf, rfl, rfl, hn, hg, hz, hr, hok⟩ := I
  unfold wpX_clear
  refine pf_clX ?_
  unfold wpY_clear
  refine pf_clY ?_
  refine ⟨0, 0, 0, op, ax, ay, az, _, _, _, _, lf, rfl, rfl, by omega, by omega, pf_flZ hz (Nat.le_refl _), fun r hr4 => ?_, fun i hi => absurd hi (by omega)⟩
  rw [pf_flo hr4, pf_flo (by omega)]
