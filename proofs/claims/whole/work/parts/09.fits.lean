/-! emit's operands, X against Y (written by wip/whole/gen09.py) -/
theorem pf_nar {s : Int32} (h : s = 0 ∨ s = 1) : narrow .boolean (.int s) = .int s := by
  rcases h with rfl | rfl
  · rfl
  · rfl
theorem pf_n01 {s : Int32} {P : Prop} (h : s = 0 ∨ s = 1 ∧ P) : s = 0 ∨ s = 1 := by
  rcases h with h | h
  · exact Or.inl h
  · exact Or.inr h.1
theorem pf_reg (x : Int32) : ∃ s : Int32, (s = 0 ∨ s = 1 ∧ ∃ r, r < 4 ∧ x = nI r) ∧ (∀ post : Int32 → Prop, post s → wpX_isRegister post x) ∧
    (∀ (post : Int32 → Prop) (cn : Int32) (op ax ay az c rg lf : Nat → Int32), post s → wpY_in post (cn, op, ax, ay, az, c, rg, lf) x 3) := by
  by_cases h0 : x < 0
  · exact ⟨0, Or.inl rfl, fun post h => br_t h0 h, fun post cn op ax ay az c rg lf h => br_t h0 h⟩
  · obtain ⟨j, hj, rfl⟩ := nI_of h0
    by_cases hl : j < 4
    · exact ⟨1, Or.inr ⟨rfl, j, hl, rfl⟩, fun post h => br_f h0 (br_f (nI_ge (b := 4) hl (by decide)) h), fun post cn op ax ay az c rg lf h => br_f h0 (br_f (nI_nlt (a := 3) (by omega) (by decide)) h)⟩
    · exact ⟨0, Or.inl rfl, fun post h => br_f h0 (br_t (nI_le (a := 4) (by omega) hj) h), fun post cn op ax ay az c rg lf h => br_f h0 (br_t (nI_lt (a := 3) (by omega) hj) h)⟩
theorem pf_cel (x : Int32) : ∃ s : Int32, (s = 0 ∨ s = 1 ∧ ∃ r, r < 12 ∧ x = nI r) ∧ (∀ post : Int32 → Prop, post s → wpX_isCell post x) ∧
    (∀ (post : Int32 → Prop) (cn : Int32) (op ax ay az c rg lf : Nat → Int32), post s → wpY_in post (cn, op, ax, ay, az, c, rg, lf) x 11) := by
  by_cases h0 : x < 0
  · exact ⟨0, Or.inl rfl, fun post h => br_t h0 h, fun post cn op ax ay az c rg lf h => br_t h0 h⟩
  · obtain ⟨j, hj, rfl⟩ := nI_of h0
    by_cases hl : j < 12
    · exact ⟨1, Or.inr ⟨rfl, j, hl, rfl⟩, fun post h => br_f h0 (br_f (nI_ge (b := 12) hl (by decide)) h), fun post cn op ax ay az c rg lf h => br_f h0 (br_f (nI_nlt (a := 11) (by omega) (by decide)) h)⟩
    · exact ⟨0, Or.inl rfl, fun post h => br_f h0 (br_t (nI_le (a := 12) (by omega) hj) h), fun post cn op ax ay az c rg lf h => br_f h0 (br_t (nI_lt (a := 11) (by omega) hj) h)⟩
theorem pf_rep (x : Int32) : ∃ s : Int32, (s = 0 ∨ s = 1 ∧ ∃ m, 1 ≤ m ∧ m ≤ 6 ∧ x = nI m) ∧
    (∀ post : Int32 → Prop, post s → ((x < 1 → post 0) ∧ (¬ x < 1 → ((6 < x → post 0) ∧ (¬ 6 < x → post 1))))) := by
  by_cases h1 : x < 1
  · exact ⟨0, Or.inl rfl, fun post h => br_t h1 h⟩
  · have h0 : ¬ x < 0 := fun z => h1 (Int32.lt_trans z (by decide))
    obtain ⟨j, hj, rfl⟩ := nI_of h0
    have hj1 : 1 ≤ j := by
      by_cases z : j < 1
      · exact absurd (nI_lt (b := 1) z (by decide)) h1
      · omega
    by_cases hl : j ≤ 6
    · exact ⟨1, Or.inr ⟨rfl, j, hj1, hl, rfl⟩, fun post h => br_f h1 (br_f (nI_nlt (a := 6) hl (by decide)) h)⟩
    · exact ⟨0, Or.inl rfl, fun post h => br_f h1 (br_t (nI_lt (a := 6) (by omega) hj) h)⟩
theorem pf_f10 {cn : Int32} {op ax ay az c rg lf : Nat → Int32} (x y z : Int32) : ∃ s : Int32, (s = 0 ∨ s = 1 ∧ pf_fit 10 x y z) ∧ (∀ post : Int32 → Prop, post s → wpX_operandsFit post (nI 10) x y z) ∧
    (∀ post : Int32 → Prop, post s → wpY_fits post (cn, op, ax, ay, az, c, rg, lf) (nI 10) x y z) := by
  refine ⟨1, Or.inr ⟨rfl, Or.inl rfl⟩, fun post h => br_t (by decide) h, fun post h => br_f (by decide) (br_t (by decide) (br_t (by decide) h))⟩
theorem pf_f9 {cn : Int32} {op ax ay az c rg lf : Nat → Int32} (x y z : Int32) : ∃ s : Int32, (s = 0 ∨ s = 1 ∧ pf_fit 9 x y z) ∧ (∀ post : Int32 → Prop, post s → wpX_operandsFit post (nI 9) x y z) ∧
    (∀ post : Int32 → Prop, post s → wpY_fits post (cn, op, ax, ay, az, c, rg, lf) (nI 9) x y z) := by
  obtain ⟨s, hs, hR⟩ := pf_rep x
  refine ⟨s, ?_, fun post h => br_f (by decide) (br_t (by decide) ?_), fun post h => br_f (by decide) (br_t (by decide) (br_f (by decide) (br_t (by decide) (hR post h))))⟩
  · rcases hs with z | ⟨z, m, h1, h2, h3⟩
    · exact Or.inl z
    · exact Or.inr ⟨z, Or.inr (Or.inl ⟨rfl, m, h1, h2, h3⟩)⟩
  · exact hR (fun r => narrow .boolean (.int r) = .int r ∧ post r) ⟨pf_nar (pf_n01 hs), h⟩
theorem pf_f0 {cn : Int32} {op ax ay az c rg lf : Nat → Int32} (x y z : Int32) : ∃ s : Int32, (s = 0 ∨ s = 1 ∧ pf_fit 0 x y z) ∧ (∀ post : Int32 → Prop, post s → wpX_operandsFit post (nI 0) x y z) ∧
    (∀ post : Int32 → Prop, post s → wpY_fits post (cn, op, ax, ay, az, c, rg, lf) (nI 0) x y z) := by
  obtain ⟨sx, hsx, xX, xY⟩ := pf_reg x
  rcases hsx with rfl | ⟨rfl, hx⟩
  · refine ⟨0, Or.inl rfl, fun post h => br_f (by decide) (br_f (by decide) ?_), fun post h => br_f (by decide) (br_t (by decide) (br_f (by decide) (br_f (by decide) ?_)))⟩
    · refine xX _ ?_
      exact br_t rfl h
    · refine xY _ _ _ _ _ _ _ _ _ ?_
      exact br_t rfl h
  · refine ⟨1, Or.inr ⟨rfl, Or.inr (Or.inr ⟨by omega, hx, (fun h => absurd h (by omega)), (fun h => absurd h (by omega)), (fun h => absurd h (by omega)), (fun h => absurd h (by omega))⟩)⟩, fun post h => br_f (by decide) (br_f (by decide) ?_), fun post h => br_f (by decide) (br_t (by decide) (br_f (by decide) (br_f (by decide) ?_)))⟩
    · refine xX _ ?_
      exact br_f pf_10 (br_t (by decide) (h))
    · refine xY _ _ _ _ _ _ _ _ _ ?_
      exact br_f pf_10 (br_t (by decide) (br_f (by decide) (br_f (by decide) (br_f (by decide) (br_f (by decide) (br_f (by decide) (h)))))))
theorem pf_f1 {cn : Int32} {op ax ay az c rg lf : Nat → Int32} (x y z : Int32) : ∃ s : Int32, (s = 0 ∨ s = 1 ∧ pf_fit 1 x y z) ∧ (∀ post : Int32 → Prop, post s → wpX_operandsFit post (nI 1) x y z) ∧
    (∀ post : Int32 → Prop, post s → wpY_fits post (cn, op, ax, ay, az, c, rg, lf) (nI 1) x y z) := by
  obtain ⟨sx, hsx, xX, xY⟩ := pf_reg x
  rcases hsx with rfl | ⟨rfl, hx⟩
  · refine ⟨0, Or.inl rfl, fun post h => br_f (by decide) (br_f (by decide) ?_), fun post h => br_f (by decide) (br_t (by decide) (br_f (by decide) (br_f (by decide) ?_)))⟩
    · refine xX _ ?_
      exact br_t rfl h
    · refine xY _ _ _ _ _ _ _ _ _ ?_
      exact br_t rfl h
  · obtain ⟨sy, hsy, yX, yY⟩ := pf_reg y
    rcases hsy with rfl | ⟨rfl, hy⟩
    · refine ⟨0, Or.inl rfl, fun post h => br_f (by decide) (br_f (by decide) ?_), fun post h => br_f (by decide) (br_t (by decide) (br_f (by decide) (br_f (by decide) ?_)))⟩
      · refine xX _ ?_
        refine br_f pf_10 (br_f (by decide) (br_f (by decide) (br_t (by decide) ?_)))
        unfold wX_operandsFit_76
        refine yX _ ?_
        exact br_t rfl h
      · refine xY _ _ _ _ _ _ _ _ _ ?_
        refine br_f pf_10 (br_f (by decide) (br_f (by decide) ?_))
        refine yY _ _ _ _ _ _ _ _ _ ?_
        exact br_t rfl h
    · obtain ⟨sz, hsz, zX, zY⟩ := pf_reg z
      refine ⟨sz, ?_, fun post h => br_f (by decide) (br_f (by decide) ?_), fun post h => br_f (by decide) (br_t (by decide) (br_f (by decide) (br_f (by decide) ?_)))⟩
      · rcases hsz with e | ⟨e, hz⟩
        · exact Or.inl e
        · exact Or.inr ⟨e, Or.inr (Or.inr ⟨by omega, hx, fun _ _ => ⟨hy, hz⟩, (fun h => absurd h (by omega)), (fun h => absurd h (by omega)), (fun h => absurd h (by omega))⟩)⟩
      · refine xX _ ?_
        refine br_f pf_10 (br_f (by decide) (br_f (by decide) (br_t (by decide) ?_)))
        unfold wX_operandsFit_76
        refine yX _ ?_
        refine br_f pf_10 ?_
        refine zX _ ?_
        rcases pf_n01 hsz with rfl | rfl
        · exact br_t rfl h
        · exact br_f pf_10 h
      · refine xY _ _ _ _ _ _ _ _ _ ?_
        refine br_f pf_10 (br_f (by decide) (br_f (by decide) ?_))
        refine yY _ _ _ _ _ _ _ _ _ ?_
        refine br_f pf_10 ?_
        refine zY _ _ _ _ _ _ _ _ _ ?_
        rcases pf_n01 hsz with rfl | rfl
        · exact br_t rfl h
        · exact br_f pf_10 h
theorem pf_f2 {cn : Int32} {op ax ay az c rg lf : Nat → Int32} (x y z : Int32) : ∃ s : Int32, (s = 0 ∨ s = 1 ∧ pf_fit 2 x y z) ∧ (∀ post : Int32 → Prop, post s → wpX_operandsFit post (nI 2) x y z) ∧
    (∀ post : Int32 → Prop, post s → wpY_fits post (cn, op, ax, ay, az, c, rg, lf) (nI 2) x y z) := by
  obtain ⟨sx, hsx, xX, xY⟩ := pf_reg x
  rcases hsx with rfl | ⟨rfl, hx⟩
  · refine ⟨0, Or.inl rfl, fun post h => br_f (by decide) (br_f (by decide) ?_), fun post h => br_f (by decide) (br_t (by decide) (br_f (by decide) (br_f (by decide) ?_)))⟩
    · refine xX _ ?_
      exact br_t rfl h
    · refine xY _ _ _ _ _ _ _ _ _ ?_
      exact br_t rfl h
  · obtain ⟨sy, hsy, yX, yY⟩ := pf_reg y
    rcases hsy with rfl | ⟨rfl, hy⟩
    · refine ⟨0, Or.inl rfl, fun post h => br_f (by decide) (br_f (by decide) ?_), fun post h => br_f (by decide) (br_t (by decide) (br_f (by decide) (br_f (by decide) ?_)))⟩
      · refine xX _ ?_
        refine br_f pf_10 (br_f (by decide) (br_f (by decide) (br_f (by decide) (br_t (by decide) ?_))))
        unfold wX_operandsFit_76
        refine yX _ ?_
        exact br_t rfl h
      · refine xY _ _ _ _ _ _ _ _ _ ?_
        refine br_f pf_10 (br_f (by decide) (br_f (by decide) ?_))
        refine yY _ _ _ _ _ _ _ _ _ ?_
        exact br_t rfl h
    · obtain ⟨sz, hsz, zX, zY⟩ := pf_reg z
      refine ⟨sz, ?_, fun post h => br_f (by decide) (br_f (by decide) ?_), fun post h => br_f (by decide) (br_t (by decide) (br_f (by decide) (br_f (by decide) ?_)))⟩
      · rcases hsz with e | ⟨e, hz⟩
        · exact Or.inl e
        · exact Or.inr ⟨e, Or.inr (Or.inr ⟨by omega, hx, fun _ _ => ⟨hy, hz⟩, (fun h => absurd h (by omega)), (fun h => absurd h (by omega)), (fun h => absurd h (by omega))⟩)⟩
      · refine xX _ ?_
        refine br_f pf_10 (br_f (by decide) (br_f (by decide) (br_f (by decide) (br_t (by decide) ?_))))
        unfold wX_operandsFit_76
        refine yX _ ?_
        refine br_f pf_10 ?_
        refine zX _ ?_
        rcases pf_n01 hsz with rfl | rfl
        · exact br_t rfl h
        · exact br_f pf_10 h
      · refine xY _ _ _ _ _ _ _ _ _ ?_
        refine br_f pf_10 (br_f (by decide) (br_f (by decide) ?_))
        refine yY _ _ _ _ _ _ _ _ _ ?_
        refine br_f pf_10 ?_
        refine zY _ _ _ _ _ _ _ _ _ ?_
        rcases pf_n01 hsz with rfl | rfl
        · exact br_t rfl h
        · exact br_f pf_10 h
theorem pf_f3 {cn : Int32} {op ax ay az c rg lf : Nat → Int32} (x y z : Int32) : ∃ s : Int32, (s = 0 ∨ s = 1 ∧ pf_fit 3 x y z) ∧ (∀ post : Int32 → Prop, post s → wpX_operandsFit post (nI 3) x y z) ∧
    (∀ post : Int32 → Prop, post s → wpY_fits post (cn, op, ax, ay, az, c, rg, lf) (nI 3) x y z) := by
  obtain ⟨sx, hsx, xX, xY⟩ := pf_reg x
  rcases hsx with rfl | ⟨rfl, hx⟩
  · refine ⟨0, Or.inl rfl, fun post h => br_f (by decide) (br_f (by decide) ?_), fun post h => br_f (by decide) (br_t (by decide) (br_f (by decide) (br_f (by decide) ?_)))⟩
    · refine xX _ ?_
      exact br_t rfl h
    · refine xY _ _ _ _ _ _ _ _ _ ?_
      exact br_t rfl h
  · obtain ⟨sy, hsy, yX, yY⟩ := pf_reg y
    rcases hsy with rfl | ⟨rfl, hy⟩
    · refine ⟨0, Or.inl rfl, fun post h => br_f (by decide) (br_f (by decide) ?_), fun post h => br_f (by decide) (br_t (by decide) (br_f (by decide) (br_f (by decide) ?_)))⟩
      · refine xX _ ?_
        refine br_f pf_10 (br_f (by decide) (br_f (by decide) (br_f (by decide) (br_f (by decide) (br_t (by decide) ?_)))))
        unfold wX_operandsFit_76
        refine yX _ ?_
        exact br_t rfl h
      · refine xY _ _ _ _ _ _ _ _ _ ?_
        refine br_f pf_10 (br_f (by decide) (br_f (by decide) ?_))
        refine yY _ _ _ _ _ _ _ _ _ ?_
        exact br_t rfl h
    · obtain ⟨sz, hsz, zX, zY⟩ := pf_reg z
      refine ⟨sz, ?_, fun post h => br_f (by decide) (br_f (by decide) ?_), fun post h => br_f (by decide) (br_t (by decide) (br_f (by decide) (br_f (by decide) ?_)))⟩
      · rcases hsz with e | ⟨e, hz⟩
        · exact Or.inl e
        · exact Or.inr ⟨e, Or.inr (Or.inr ⟨by omega, hx, fun _ _ => ⟨hy, hz⟩, (fun h => absurd h (by omega)), (fun h => absurd h (by omega)), (fun h => absurd h (by omega))⟩)⟩
      · refine xX _ ?_
        refine br_f pf_10 (br_f (by decide) (br_f (by decide) (br_f (by decide) (br_f (by decide) (br_t (by decide) ?_)))))
        unfold wX_operandsFit_76
        refine yX _ ?_
        refine br_f pf_10 ?_
        refine zX _ ?_
        rcases pf_n01 hsz with rfl | rfl
        · exact br_t rfl h
        · exact br_f pf_10 h
      · refine xY _ _ _ _ _ _ _ _ _ ?_
        refine br_f pf_10 (br_f (by decide) (br_f (by decide) ?_))
        refine yY _ _ _ _ _ _ _ _ _ ?_
        refine br_f pf_10 ?_
        refine zY _ _ _ _ _ _ _ _ _ ?_
        rcases pf_n01 hsz with rfl | rfl
        · exact br_t rfl h
        · exact br_f pf_10 h
theorem pf_f4 {cn : Int32} {op ax ay az c rg lf : Nat → Int32} (x y z : Int32) : ∃ s : Int32, (s = 0 ∨ s = 1 ∧ pf_fit 4 x y z) ∧ (∀ post : Int32 → Prop, post s → wpX_operandsFit post (nI 4) x y z) ∧
    (∀ post : Int32 → Prop, post s → wpY_fits post (cn, op, ax, ay, az, c, rg, lf) (nI 4) x y z) := by
  obtain ⟨sx, hsx, xX, xY⟩ := pf_reg x
  rcases hsx with rfl | ⟨rfl, hx⟩
  · refine ⟨0, Or.inl rfl, fun post h => br_f (by decide) (br_f (by decide) ?_), fun post h => br_f (by decide) (br_t (by decide) (br_f (by decide) (br_f (by decide) ?_)))⟩
    · refine xX _ ?_
      exact br_t rfl h
    · refine xY _ _ _ _ _ _ _ _ _ ?_
      exact br_t rfl h
  · obtain ⟨sy, hsy, yX, yY⟩ := pf_cel y
    refine ⟨sy, ?_, fun post h => br_f (by decide) (br_f (by decide) ?_), fun post h => br_f (by decide) (br_t (by decide) (br_f (by decide) (br_f (by decide) ?_)))⟩
    · rcases hsy with e | ⟨e, hy⟩
      · exact Or.inl e
      · exact Or.inr ⟨e, Or.inr (Or.inr ⟨by omega, hx, fun _ h => absurd h (by omega), fun _ _ => hy, (fun h => absurd h (by omega)), (fun h => absurd h (by omega))⟩)⟩
    · refine xX _ ?_
      refine br_f pf_10 (br_f (by decide) (br_f (by decide) (br_f (by decide) (br_f (by decide) (br_f (by decide) (br_t (by decide) ?_))))))
      unfold wX_operandsFit_96
      refine yX _ ?_
      exact ⟨pf_nar (pf_n01 hsy), h⟩
    · refine xY _ _ _ _ _ _ _ _ _ ?_
      refine br_f pf_10 (br_f (by decide) (br_t (by decide) (br_t (by decide) ?_)))
      unfold wY_fits_99
      refine yY _ _ _ _ _ _ _ _ _ ?_
      exact ⟨pf_nar (pf_n01 hsy), h⟩
theorem pf_f5 {cn : Int32} {op ax ay az c rg lf : Nat → Int32} (x y z : Int32) : ∃ s : Int32, (s = 0 ∨ s = 1 ∧ pf_fit 5 x y z) ∧ (∀ post : Int32 → Prop, post s → wpX_operandsFit post (nI 5) x y z) ∧
    (∀ post : Int32 → Prop, post s → wpY_fits post (cn, op, ax, ay, az, c, rg, lf) (nI 5) x y z) := by
  obtain ⟨sx, hsx, xX, xY⟩ := pf_reg x
  rcases hsx with rfl | ⟨rfl, hx⟩
  · refine ⟨0, Or.inl rfl, fun post h => br_f (by decide) (br_f (by decide) ?_), fun post h => br_f (by decide) (br_t (by decide) (br_f (by decide) (br_f (by decide) ?_)))⟩
    · refine xX _ ?_
      exact br_t rfl h
    · refine xY _ _ _ _ _ _ _ _ _ ?_
      exact br_t rfl h
  · obtain ⟨sy, hsy, yX, yY⟩ := pf_cel y
    refine ⟨sy, ?_, fun post h => br_f (by decide) (br_f (by decide) ?_), fun post h => br_f (by decide) (br_t (by decide) (br_f (by decide) (br_f (by decide) ?_)))⟩
    · rcases hsy with e | ⟨e, hy⟩
      · exact Or.inl e
      · exact Or.inr ⟨e, Or.inr (Or.inr ⟨by omega, hx, fun _ h => absurd h (by omega), fun _ _ => hy, (fun h => absurd h (by omega)), (fun h => absurd h (by omega))⟩)⟩
    · refine xX _ ?_
      refine br_f pf_10 (br_f (by decide) (br_f (by decide) (br_f (by decide) (br_f (by decide) (br_f (by decide) (br_f (by decide) (br_t (by decide) ?_)))))))
      unfold wX_operandsFit_96
      refine yX _ ?_
      exact ⟨pf_nar (pf_n01 hsy), h⟩
    · refine xY _ _ _ _ _ _ _ _ _ ?_
      refine br_f pf_10 (br_f (by decide) (br_t (by decide) (br_f (by decide) (br_t (by decide) ?_))))
      unfold wY_fits_99
      refine yY _ _ _ _ _ _ _ _ _ ?_
      exact ⟨pf_nar (pf_n01 hsy), h⟩
theorem pf_f6 {cn : Int32} {op ax ay az c rg lf : Nat → Int32} (x y z : Int32) : ∃ s : Int32, (s = 0 ∨ s = 1 ∧ pf_fit 6 x y z) ∧ (∀ post : Int32 → Prop, post s → wpX_operandsFit post (nI 6) x y z) ∧
    (∀ post : Int32 → Prop, post s → wpY_fits post (cn, op, ax, ay, az, c, rg, lf) (nI 6) x y z) := by
  obtain ⟨sx, hsx, xX, xY⟩ := pf_reg x
  rcases hsx with rfl | ⟨rfl, hx⟩
  · refine ⟨0, Or.inl rfl, fun post h => br_f (by decide) (br_f (by decide) ?_), fun post h => br_f (by decide) (br_t (by decide) (br_f (by decide) (br_f (by decide) ?_)))⟩
    · refine xX _ ?_
      exact br_t rfl h
    · refine xY _ _ _ _ _ _ _ _ _ ?_
      exact br_t rfl h
  · obtain ⟨sy, hsy, yX, yY⟩ := pf_reg y
    refine ⟨sy, ?_, fun post h => br_f (by decide) (br_f (by decide) ?_), fun post h => br_f (by decide) (br_t (by decide) (br_f (by decide) (br_f (by decide) ?_)))⟩
    · rcases hsy with e | ⟨e, hy⟩
      · exact Or.inl e
      · exact Or.inr ⟨e, Or.inr (Or.inr ⟨by omega, hx, fun _ h => absurd h (by omega), fun _ h => absurd h (by omega), fun _ _ => hy, (fun h => absurd h (by omega))⟩)⟩
    · refine xX _ ?_
      refine br_f pf_10 (br_f (by decide) (br_f (by decide) (br_f (by decide) (br_f (by decide) (br_f (by decide) (br_f (by decide) (br_f (by decide) (br_t (by decide) ?_))))))))
      unfold wX_operandsFit_101
      refine yX _ ?_
      exact ⟨pf_nar (pf_n01 hsy), h⟩
    · refine xY _ _ _ _ _ _ _ _ _ ?_
      refine br_f pf_10 (br_f (by decide) (br_t (by decide) (br_f (by decide) (br_f (by decide) (br_t (by decide) ?_)))))
      unfold wY_fits_119
      refine yY _ _ _ _ _ _ _ _ _ ?_
      exact ⟨pf_nar (pf_n01 hsy), h⟩
theorem pf_f7 {cn : Int32} {op ax ay az c rg lf : Nat → Int32} (x y z : Int32) : ∃ s : Int32, (s = 0 ∨ s = 1 ∧ pf_fit 7 x y z) ∧ (∀ post : Int32 → Prop, post s → wpX_operandsFit post (nI 7) x y z) ∧
    (∀ post : Int32 → Prop, post s → wpY_fits post (cn, op, ax, ay, az, c, rg, lf) (nI 7) x y z) := by
  obtain ⟨sx, hsx, xX, xY⟩ := pf_reg x
  rcases hsx with rfl | ⟨rfl, hx⟩
  · refine ⟨0, Or.inl rfl, fun post h => br_f (by decide) (br_f (by decide) ?_), fun post h => br_f (by decide) (br_t (by decide) (br_f (by decide) (br_f (by decide) ?_)))⟩
    · refine xX _ ?_
      exact br_t rfl h
    · refine xY _ _ _ _ _ _ _ _ _ ?_
      exact br_t rfl h
  · obtain ⟨sy, hsy, yX, yY⟩ := pf_reg y
    refine ⟨sy, ?_, fun post h => br_f (by decide) (br_f (by decide) ?_), fun post h => br_f (by decide) (br_t (by decide) (br_f (by decide) (br_f (by decide) ?_)))⟩
    · rcases hsy with e | ⟨e, hy⟩
      · exact Or.inl e
      · exact Or.inr ⟨e, Or.inr (Or.inr ⟨by omega, hx, fun _ h => absurd h (by omega), fun _ h => absurd h (by omega), fun _ _ => hy, (fun h => absurd h (by omega))⟩)⟩
    · refine xX _ ?_
      refine br_f pf_10 (br_f (by decide) (br_f (by decide) (br_f (by decide) (br_f (by decide) (br_f (by decide) (br_f (by decide) (br_f (by decide) (br_f (by decide) (br_t (by decide) ?_)))))))))
      unfold wX_operandsFit_101
      refine yX _ ?_
      exact ⟨pf_nar (pf_n01 hsy), h⟩
    · refine xY _ _ _ _ _ _ _ _ _ ?_
      refine br_f pf_10 (br_f (by decide) (br_t (by decide) (br_f (by decide) (br_f (by decide) (br_f (by decide) (br_t (by decide) ?_))))))
      unfold wY_fits_119
      refine yY _ _ _ _ _ _ _ _ _ ?_
      exact ⟨pf_nar (pf_n01 hsy), h⟩
theorem pf_f8 {cn : Int32} {op ax ay az c rg lf : Nat → Int32} (x y z : Int32) : ∃ s : Int32, (s = 0 ∨ s = 1 ∧ pf_fit 8 x y z) ∧ (∀ post : Int32 → Prop, post s → wpX_operandsFit post (nI 8) x y z) ∧
    (∀ post : Int32 → Prop, post s → wpY_fits post (cn, op, ax, ay, az, c, rg, lf) (nI 8) x y z) := by
  obtain ⟨sx, hsx, xX, xY⟩ := pf_reg x
  rcases hsx with rfl | ⟨rfl, hx⟩
  · refine ⟨0, Or.inl rfl, fun post h => br_f (by decide) (br_f (by decide) ?_), fun post h => br_f (by decide) (br_t (by decide) (br_f (by decide) (br_f (by decide) ?_)))⟩
    · refine xX _ ?_
      exact br_t rfl h
    · refine xY _ _ _ _ _ _ _ _ _ ?_
      exact br_t rfl h
  · obtain ⟨sy, hsy, hR⟩ := pf_rep y
    refine ⟨sy, ?_, fun post h => br_f (by decide) (br_f (by decide) ?_), fun post h => br_f (by decide) (br_t (by decide) (br_f (by decide) (br_f (by decide) ?_)))⟩
    · rcases hsy with e | ⟨e, hy⟩
      · exact Or.inl e
      · exact Or.inr ⟨e, Or.inr (Or.inr ⟨by omega, hx, fun _ h => absurd h (by omega), fun _ h => absurd h (by omega), fun _ h => absurd h (by omega), fun _ => hy⟩)⟩
    · refine xX _ ?_
      refine br_f pf_10 (br_f (by decide) (br_f (by decide) (br_f (by decide) (br_f (by decide) (br_f (by decide) (br_f (by decide) (br_f (by decide) (br_f (by decide) (br_f (by decide) (br_t (by decide) ?_))))))))))
      exact hR (fun r => narrow .boolean (.int r) = .int r ∧ post r) ⟨pf_nar (pf_n01 hsy), h⟩
    · refine xY _ _ _ _ _ _ _ _ _ ?_
      refine br_f pf_10 (br_f (by decide) (br_t (by decide) (br_f (by decide) (br_f (by decide) (br_f (by decide) (br_f (by decide) (br_t (by decide) ?_)))))))
      exact hR post h
theorem pf_fits {cn : Int32} {op ax ay az c rg lf : Nat → Int32} (x y z : Int32) {q : Nat} (hq : q ≤ 10) : ∃ s : Int32, (s = 0 ∨ s = 1 ∧ pf_fit q x y z) ∧ (∀ post : Int32 → Prop, post s → wpX_operandsFit post (nI q) x y z) ∧
    (∀ post : Int32 → Prop, post s → wpY_fits post (cn, op, ax, ay, az, c, rg, lf) (nI q) x y z) := by
  have hc : q = 0 ∨ q = 1 ∨ q = 2 ∨ q = 3 ∨ q = 4 ∨ q = 5 ∨ q = 6 ∨ q = 7 ∨ q = 8 ∨ q = 9 ∨ q = 10 := by omega
  rcases hc with rfl | rfl | rfl | rfl | rfl | rfl | rfl | rfl | rfl | rfl | rfl
  · exact pf_f0 x y z
  · exact pf_f1 x y z
  · exact pf_f2 x y z
  · exact pf_f3 x y z
  · exact pf_f4 x y z
  · exact pf_f5 x y z
  · exact pf_f6 x y z
  · exact pf_f7 x y z
  · exact pf_f8 x y z
  · exact pf_f9 x y z
  · exact pf_f10 x y z
