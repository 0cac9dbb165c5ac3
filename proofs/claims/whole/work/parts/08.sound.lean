/-! sound, in lockstep -/
theorem pf_okc {o x y z : Int32} (h : pf_ok o x y z) : o = 9 ∨ o = 10 ∨ (o < 9 ∧ ¬ o = 9 ∧ ¬ o = 10) := by
  obtain ⟨q, hq, rfl, _⟩ := h
  by_cases z9 : q = 9
  · subst z9; exact Or.inl rfl
  · by_cases z10 : q = 10
    · subst z10; exact Or.inr (Or.inl rfl)
    · refine Or.inr (Or.inr ⟨nI_lt (b := 9) (by omega) (by decide), fun e => ?_, fun e => ?_⟩)
      · exact z9 ((nI_eq (b := 9) (by omega) (by omega)).mp e)
      · exact z10 ((nI_eq (b := 10) (by omega) (by omega)).mp e)
theorem pf_ok8 {o x y z : Int32} (h : pf_ok o x y z) (h8 : o = 8) : ∃ m, m ≤ 6 ∧ y = nI m := by
  obtain ⟨q, hq, rfl, hf⟩ := h
  have z8 : q = 8 := (nI_eq (b := 8) (by omega) (by omega)).mp h8
  subst z8
  rcases hf with z | ⟨z, _⟩ | ⟨_, _, _, _, _, f8⟩
  · omega
  · omega
  · obtain ⟨m, _, hm, e⟩ := f8 rfl
    exact ⟨m, hm, e⟩
section
variable {n : Nat} {gb tl : Int32} {op ax ay az c b w cY rg lf : Nat → Int32}
theorem pf_may (hn : n ≤ 30) (hk : ∀ i, i < n → pf_ok (op i) (ax i) (ay i) (az i)) {a m : Nat} (ha : a < n) (hm : m ≤ 6) (hy : ay a = nI m) :
    ∃ s : Int32, (s = 0 ∨ s = 1 ∧ a + m < n ∧ ∀ j, a < j → j ≤ a + m → ¬ op j = 9 ∧ ¬ op j = 10) ∧
      (∀ post : Int32 → Prop, post s → wpX_mayLeaveOut post (nI n, gb, tl, op, ax, ay, az, c, b, w) (nI (a + 1)) (nI (a + m))) ∧
      (∀ post : Int32 → Prop, post s → wpY_skipFits post (nI n, op, ax, ay, az, cY, rg, lf) (nI a)) := by
  have hc := nI_clamp (n := a) (by omega)
  have hv : vp_in (nI a) 30 := vp_in_nI (by omega) (by decide)
  have hs : nI a + ay (nI a).toNatClampNeg = nI (a + m) := by rw [hc, hy, nI_add]
  by_cases hl : a + m < n
  · have L : ∀ d i, i + d = a + m + 1 → a < i → (∀ j, a < j → j < i → ¬ op j = 9 ∧ ¬ op j = 10) →
        ∃ s : Int32, (s = 0 ∨ s = 1 ∧ ∀ j, a < j → j ≤ a + m → ¬ op j = 9 ∧ ¬ op j = 10) ∧
          (∀ post : Int32 → Prop, post s → wX_mayLeaveOut_12 post (nI (a + m)) (nI n) gb tl op ax ay az c b w (d + 1) (nI i)) ∧
          (∀ post : Int32 → Prop, post s → wY_skipFits_21 post (nI a) (nI n) op ax ay az cY rg lf (d + 1) (nI i)) := by
      intro d
      induction d with
      | zero =>
        intro i hi hai hp
        refine ⟨1, Or.inr ⟨rfl, fun j h1 h2 => hp j h1 (by omega)⟩, fun post h => br_t (nI_lt (by omega) (by omega)) h, fun post h => ⟨hv, br_t (by rw [hs]; exact nI_lt (by omega) (by omega)) h⟩⟩
      | succ d ih =>
        intro i hi hai hp
        have hx : ¬ nI (a + m) < nI i := nI_nlt (by omega) (by omega)
        have hY : ¬ nI a + ay (nI a).toNatClampNeg < nI i := by rw [hs]; exact hx
        have hvi : vp_in (nI i) 30 := vp_in_nI (by omega) (by decide)
        have hci : op (nI i).toNatClampNeg = op i := by rw [nI_clamp (by omega)]
        rcases pf_okc (hk i (by omega)) with h9 | h10 | ⟨hlt, h9, h10⟩
        · refine ⟨0, Or.inl rfl, fun post h => br_f hx ⟨hvi, br_t (hci.trans h9) h⟩, fun post h => ⟨hv, br_f hY ⟨hvi, br_f (by rw [hci, h9]; decide) h⟩⟩⟩
        · refine ⟨0, Or.inl rfl, fun post h => br_f hx ⟨hvi, br_f (by rw [hci, h10]; decide) ⟨hvi, br_t (hci.trans h10) h⟩⟩, fun post h => ⟨hv, br_f hY ⟨hvi, br_f (by rw [hci, h10]; decide) h⟩⟩⟩
        · obtain ⟨s, hs1, hX, hYY⟩ := ih (i + 1) (by omega) (by omega) (fun j h1 h2 => by
            by_cases z : j = i
            · rw [z]; exact ⟨h9, h10⟩
            · exact hp j h1 (by omega))
          refine ⟨s, hs1, fun post h => br_f hx ⟨hvi, br_f (by rw [hci]; exact h9) ⟨hvi, br_f (by rw [hci]; exact h10) (nm_r (nI_1 i) (hX post h))⟩⟩,
            fun post h => ⟨hv, br_f hY ⟨hvi, br_t (by rw [hci]; exact hlt) (nm_r (nI_1 i) (hYY post h))⟩⟩⟩
    obtain ⟨s, hs1, hX, hY⟩ := L m (a + 1) (by omega) (by omega) (fun j h1 h2 => by omega)
    refine ⟨s, ?_, fun post h => br_t (nI_lt hl (by omega)) ⟨_, hX post h⟩, fun post h => ⟨hv, br_t (by rw [hs]; exact nI_lt hl (by omega)) (nm_r (nI_1 a) ⟨_, hY post h⟩)⟩⟩
    rcases hs1 with z | ⟨z, z2⟩
    · exact Or.inl z
    · exact Or.inr ⟨z, hl, z2⟩
  · exact ⟨0, Or.inl rfl, fun post h => br_f (nI_nlt (by omega) (by omega)) h, fun post h => ⟨hv, br_f (by rw [hs]; exact nI_nlt (by omega) (by omega)) h⟩⟩
theorem pf_m10 : nI 0 + (-1) < 0 := by decide
theorem pf_sound (hn : n ≤ 30) (hk : ∀ i, i < n → pf_ok (op i) (ax i) (ay i) (az i)) :
    ∃ s : Int32, (s = 0 ∨ s = 1 ∧ pf_so op ay n) ∧
      (∀ post : Int32 → Prop, post s → wpX_sound post (nI n, gb, tl, op, ax, ay, az, c, b, w)) ∧
      (∀ post : Int32 → Prop, post s → wpY_sound post (nI n, op, ax, ay, az, cY, rg, lf)) := by
  have L : ∀ d i q : Nat, i + d = n → (q : Int) = pf_dp op i → q ≤ 2 → (∀ j, j ≤ i → 0 ≤ pf_dp op j ∧ pf_dp op j ≤ 2) →
      (∀ j m, j < i → op j = 8 → m ≤ 6 → ay j = nI m → j + m < n ∧ ∀ k, j < k → k ≤ j + m → ¬ op k = 9 ∧ ¬ op k = 10) →
      ∃ s : Int32, (s = 0 ∨ s = 1 ∧ pf_so op ay n) ∧
        (∀ post : Int32 → Prop, post s → wX_sound_4 post (nI n) gb tl op ax ay az c b w (d + 1) (nI q) (nI i)) ∧
        (∀ post : Int32 → Prop, post s → wY_sound_4 post (nI n) op ax ay az cY rg lf (d + 1) (nI q) (nI i)) := by
    intro d
    induction d with
    | zero =>
      intro i q hi hq hq2 hp hm
      obtain rfl : i = n := by omega
      have hle : nI i ≤ nI i := nI_le (Nat.le_refl _) (by omega)
      by_cases z : q = 0
      · subst z
        exact ⟨1, Or.inr ⟨rfl, hp, by omega, fun i m h1 h2 h3 h4 => hm i m h1 h2 h3 h4⟩, fun post h => br_t hle (br_t nI_0 h), fun post h => br_t hle (br_t nI_0 h)⟩
      · have hz : ¬ nI q = 0 := nI_ne0 (by omega) (by omega)
        exact ⟨0, Or.inl rfl, fun post h => br_t hle (br_f hz h), fun post h => br_t hle (br_f hz h)⟩
    | succ d ih =>
      intro i q hi hq hq2 hp hm
      have hge : ¬ nI n ≤ nI i := nI_ge (by omega) (by omega)
      have hvi : vp_in (nI i) 30 := vp_in_nI (by omega) (by decide)
      have hci : op (nI i).toNatClampNeg = op i := by rw [nI_clamp (by omega)]
      have hi1 := nI_1 i
      have hq0 : ¬ nI q < 0 := nI_pos (by omega)
      have hqq : nI q ≤ 2 := nI_le (b := 2) hq2 (by decide)
      have ext : ∀ q' : Nat, (q' : Int) = pf_dp op (i + 1) → q' ≤ 2 → ∀ j, j ≤ i + 1 → 0 ≤ pf_dp op j ∧ pf_dp op j ≤ 2 := by
        intro q' h1 h2 j hj
        by_cases z : j = i + 1
        · rw [z]; omega
        · exact hp j (by omega)
      have exm : ¬ op i = 8 → ∀ j m, j < i + 1 → op j = 8 → m ≤ 6 → ay j = nI m → j + m < n ∧ ∀ k, j < k → k ≤ j + m → ¬ op k = 9 ∧ ¬ op k = 10 := by
        intro h8 j m h1 h2 h3 h4
        by_cases z : j = i
        · rw [z] at h2; exact absurd h2 h8
        · exact hm j m (by omega) h2 h3 h4
      rcases pf_okc (hk i (by omega)) with h9 | h10 | ⟨hlt, h9, h10⟩
      · have hd := pf_dp9 h9
        have h9' := hci.trans h9
        have h10' : ¬ op (nI i).toNatClampNeg = 10 := by rw [h9']; decide
        have h8' : ¬ op (nI i).toNatClampNeg = 8 := by rw [h9']; decide
        have h8 : ¬ op i = 8 := by rw [h9]; decide
        have hp0 : ¬ nI (q + 1) < 0 := nI_pos (by omega)
        by_cases z : q + 1 ≤ 2
        · obtain ⟨s, hs, hX, hY⟩ := ih (i + 1) (q + 1) (by omega) (by omega) z (ext (q + 1) (by omega) z) (exm h8)
          have hp2 : nI (q + 1) ≤ 2 := nI_le (b := 2) z (by decide)
          exact ⟨s, hs, fun post h => br_f hge ⟨hvi, br_t h9' (nm_r (nI_1 q) (br_f hp0 (br_t hp2 (nm_r hi1 (hX post h)))))⟩,
            fun post h => br_f hge ⟨hvi, br_t h9' (nm_r (nI_1 q) ⟨hvi, br_f h10' (br_f hp0 (br_t hp2 ⟨hvi, br_f h8' (nm_r hi1 (hY post h))⟩))⟩)⟩⟩
        · have hp2 : ¬ nI (q + 1) ≤ 2 := nI_ge (a := 2) (by omega) (by omega)
          exact ⟨0, Or.inl rfl, fun post h => br_f hge ⟨hvi, br_t h9' (nm_r (nI_1 q) (br_f hp0 (br_f hp2 h)))⟩,
            fun post h => br_f hge ⟨hvi, br_t h9' (nm_r (nI_1 q) ⟨hvi, br_f h10' (br_f hp0 (br_f hp2 h))⟩)⟩⟩
      · have hd := pf_dp10 h10
        have h10' := hci.trans h10
        have h9' : ¬ op (nI i).toNatClampNeg = 9 := by rw [h10']; decide
        have h8' : ¬ op (nI i).toNatClampNeg = 8 := by rw [h10']; decide
        have h8 : ¬ op i = 8 := by rw [h10]; decide
        by_cases z : q = 0
        · subst z
          exact ⟨0, Or.inl rfl, fun post h => br_f hge ⟨hvi, br_f h9' ⟨hvi, br_t h10' (nm_e (br_t pf_m10 h))⟩⟩,
            fun post h => br_f hge ⟨hvi, br_f h9' ⟨hvi, br_t h10' (nm_e (br_t pf_m10 h))⟩⟩⟩
        · obtain ⟨p, rfl⟩ : ∃ p, q = p + 1 := ⟨q - 1, by omega⟩
          have hp0 : ¬ nI p < 0 := nI_pos (by omega)
          have hp2 : nI p ≤ 2 := nI_le (b := 2) (by omega) (by decide)
          obtain ⟨s, hs, hX, hY⟩ := ih (i + 1) p (by omega) (by omega) (by omega) (ext p (by omega) (by omega)) (exm h8)
          exact ⟨s, hs, fun post h => br_f hge ⟨hvi, br_f h9' ⟨hvi, br_t h10' (nm_r (pk_m1 p) (br_f hp0 (br_t hp2 (nm_r hi1 (hX post h)))))⟩⟩,
            fun post h => br_f hge ⟨hvi, br_f h9' ⟨hvi, br_t h10' (nm_r (pk_m1 p) (br_f hp0 (br_t hp2 ⟨hvi, br_f h8' (nm_r hi1 (hY post h))⟩)))⟩⟩⟩
      · have hd := pf_dpo h9 h10
        have h9' : ¬ op (nI i).toNatClampNeg = 9 := by rw [hci]; exact h9
        have h10' : ¬ op (nI i).toNatClampNeg = 10 := by rw [hci]; exact h10
        by_cases h8 : op i = 8
        · have h8' := hci.trans h8
          obtain ⟨m, hm6, hy⟩ := pf_ok8 (hk i (by omega)) h8
          obtain ⟨s0, hs0, hX0, hY0⟩ := pf_may (gb := gb) (tl := tl) (c := c) (b := b) (w := w) (cY := cY) (rg := rg) (lf := lf) hn hk (a := i) (by omega) hm6 hy
          have hsum : nI i + ay (nI i).toNatClampNeg = nI (i + m) := by rw [nI_clamp (by omega), hy, nI_add]
          rcases hs0 with rfl | ⟨rfl, g1, g2⟩
          · refine ⟨0, Or.inl rfl, fun post h => br_f hge ⟨hvi, br_f h9' ⟨hvi, br_f h10' ⟨hvi, br_t h8' ⟨hvi, ?_⟩⟩⟩⟩,
              fun post h => br_f hge ⟨hvi, br_f h9' ⟨hvi, br_f h10' (br_f hq0 (br_t hqq ⟨hvi, br_t h8' (hY0 _ (br_t rfl h))⟩))⟩⟩⟩
            rw [hsum, hi1]
            exact hX0 _ (br_t rfl h)
          · obtain ⟨s, hs, hX, hY⟩ := ih (i + 1) q (by omega) (by omega) hq2 (ext q (by omega) hq2) (by
              intro j m' h1 h2 h3 h4
              by_cases z : j = i
              · subst z
                have hmm : m' = m := (nI_eq (by omega) (by omega)).mp (h4.symm.trans hy)
                rw [hmm]
                exact ⟨g1, g2⟩
              · exact hm j m' (by omega) h2 h3 h4)
            refine ⟨s, hs, fun post h => br_f hge ⟨hvi, br_f h9' ⟨hvi, br_f h10' ⟨hvi, br_t h8' ⟨hvi, ?_⟩⟩⟩⟩,
              fun post h => br_f hge ⟨hvi, br_f h9' ⟨hvi, br_f h10' (br_f hq0 (br_t hqq ⟨hvi, br_t h8' (hY0 _ (br_f pf_10 (nm_r hi1 (hY post h))))⟩))⟩⟩⟩
            rw [hsum, hi1]
            exact hX0 _ (br_f pf_10 (br_f hq0 (br_t hqq (nm_r hi1 (hX post h)))))
        · have h8' : ¬ op (nI i).toNatClampNeg = 8 := by rw [hci]; exact h8
          obtain ⟨s, hs, hX, hY⟩ := ih (i + 1) q (by omega) (by omega) hq2 (ext q (by omega) hq2) (exm h8)
          exact ⟨s, hs, fun post h => br_f hge ⟨hvi, br_f h9' ⟨hvi, br_f h10' ⟨hvi, br_f h8' (br_f hq0 (br_t hqq (nm_r hi1 (hX post h))))⟩⟩⟩,
            fun post h => br_f hge ⟨hvi, br_f h9' ⟨hvi, br_f h10' (br_f hq0 (br_t hqq ⟨hvi, br_f h8' (nm_r hi1 (hY post h))⟩))⟩⟩⟩
  obtain ⟨s, hs, hX, hY⟩ := L n 0 0 (by omega) rfl (by omega) (fun j hj => by
    obtain rfl : j = 0 := by omega
    show (0 : Int) ≤ 0 ∧ (0 : Int) ≤ 2
    omega) (fun j m h1 => absurd h1 (by omega))
  exact ⟨s, hs, fun post h => ⟨_, hX post h⟩, fun post h => ⟨_, hY post h⟩⟩
end
