/-! the run: X's powerings and Y's loop along the chain -/
def pf_Ch (n : Nat) (op ax ay az : Nat → Int32) (K : Nat) (W C : Nat → Nat → Int32) : Prop :=
  (∀ j, j < K → pf_R n op ax ay az (W j) (C j) (W (j + 1)) (C (j + 1))) ∧ W K 4 = nI n ∧ ∀ j, j ≤ K → pf_Z (W j)
/-- the cells: those of the j-th state, or a store of the next instruction is done already -/
def pf_cc (K : Nat) (C : Nat → Nat → Int32) (j : Nat) (cX : Nat → Int32) : Prop := cX = C j ∨ (j < K ∧ cX = C (j + 1))
theorem pf_ch5 {n K : Nat} {op ax ay az : Nat → Int32} {W C : Nat → Nat → Int32} (H : pf_Ch n op ax ay az K W C) (h0 : W 0 5 = nI 0) : ∀ j, j ≤ K → W j 5 = nI j := by
  intro j
  induction j with
  | zero => intro _; exact h0
  | succ j ih =>
    intro hj
    have h1 := (H.1 j (by omega)).2.1
    rw [h1, ih (by omega), nI_1]
theorem pf_work0 {post : SX → Prop} {cn gb : Int32} {op ax ay az c b w : Nat → Int32} {tk i f : Nat} (ht : tk < 2 ^ 31) (hi : i < 2 ^ 31)
    (h : post (cn, gb, nI 0, op, ax, ay, az, c, b, w)) : wX_workOn_2 post (nI tk) (f + 1) (nI i) cn gb (nI 0) op ax ay az c b w := by
  by_cases z : tk ≤ i
  · exact br_t (nI_le z hi) h
  · exact br_f (nI_ge (by omega) ht) (br_t (by decide) h)
/-- from the words of the j-th state: the machine works on until the ticks are spent -/
theorem pf_work {post : SX → Prop} {n K tk : Nat} {op ax ay az : Nat → Int32} {W C : Nat → Nat → Int32} (hn : n ≤ 30) (H : pf_Ch n op ax ay az K W C) (htk : tk ≤ 100) :
    ∀ (f T i j g : Nat) (b cX : Nat → Int32), i + T ≤ tk → tk - i < f → j ≤ K → g ≤ 1 → pf_B b g = W j → pf_cc K C j cX →
      (∀ (j' g' : Nat) (tl : Int32) (b' c' wk : Nat → Int32), j ≤ j' → (15 ≤ T → j < K → j < j') → j' ≤ K → g' ≤ 1 → pf_B b' g' = W j' → pf_cc K C j' c' → pf_Z wk →
        post (nI n, nI g', tl, op, ax, ay, az, c', b', wk)) →
      wX_workOn_2 post (nI tk) f (nI i) (nI n) (nI g) (nI T) op ax ay az cX b (W j) := by
  intro f
  induction f with
  | zero => intro T i j g b cX h1 h2; omega
  | succ f ih =>
    intro T i j g b cX h1 h2 h3 h4 h5 h6 h
    by_cases z : T = 0
    · subst z
      exact pf_work0 (by omega) (by omega) (h j g _ b cX _ (Nat.le_refl _) (by omega) h3 h4 h5 h6 (H.2.2 j h3))
    · obtain ⟨s, rfl⟩ : ∃ s, T = s + 1 := ⟨T - 1, by omega⟩
      refine br_f (nI_ge (by omega) (by omega)) (br_f (nI_nle (by omega) (by omega)) ?_)
      by_cases zK : j = K
      · subst zK
        exact nm_r H.2.1 (br_f (nI_pos (by omega)) (br_f (nI_nlt (Nat.le_refl _) (by omega)) (h j g _ b cX _ (Nat.le_refl _) (by omega) h3 h4 h5 h6 (H.2.2 j h3))))
      · have hjK : j < K := by omega
        obtain ⟨⟨a, ha, e4⟩, _, RX, RX0, _⟩ := H.1 j hjK
        refine nm_e (br_f (by rw [e4]; exact nI_pos (by omega)) (br_t (by rw [e4]; exact nI_lt ha (by omega)) (pf_tick1 (by omega) (br_f pf_10 ?_))))
        obtain ⟨f', rfl⟩ : ∃ f', f = f' + 1 := ⟨f - 1, by omega⟩
        by_cases zs : s = 0
        · subst zs
          refine RX0 _ _ _ _ (fun wk hwk => ?_)
          refine pf_save h4 (by omega) hwk (fun b' _ hB => ?_) (fun b' hh => absurd hh (by omega))
          exact nm_r (nI_1 i) (pf_work0 (by omega) (by omega) (h j g _ b' cX _ (Nat.le_refl _) (by omega) h3 h4 (hB.trans h5) h6 hwk))
        · have hcX : cX = C j ∨ cX = C (j + 1) := by
            rcases h6 with q | q
            · exact Or.inl q
            · exact Or.inr q.2
          refine RX _ _ _ _ _ (by omega) hcX (by omega) (fun T' hT1 hT2 => ?_)
          refine pf_save h4 (by omega) (H.2.2 (j + 1) (by omega)) (fun b' hlt hB => ?_) (fun b' hge hB => ?_)
          · exact nm_r (nI_1 i) (pf_work0 (by omega) (by omega) (h j g _ b' _ _ (Nat.le_refl _) (by omega) h3 h4 (hB.trans h5) (Or.inr ⟨hjK, rfl⟩) (H.2.2 (j + 1) (by omega))))
          · exact nm_r (nI_1 i) (ih (T' - 13) (i + 1) (j + 1) (1 - g) b' _ (by omega) (by omega) (by omega) (by omega) hB (Or.inl rfl)
              (fun j' g' tl b'' c'' wk k1 k2 k3 k4 k5 k6 k7 => h j' g' tl b'' c'' wk (by omega) (by omega) k3 k4 k5 k6 k7))
theorem pf_kept {post : Int32 → Prop} {cn tl : Int32} {op ax ay az c b w : Nat → Int32} {g i : Nat} (hg : g ≤ 1) (hi : i < 11)
    (h : post (pf_B b g i)) : wpX_kept post (cn, nI g, tl, op, ax, ay, az, c, b, w) (nI i) := by
  unfold wpX_kept
  dsimp only
  rw [pf_i11, nI_clamp (by omega)]
  rw [pf_B_lo hi] at h
  exact ⟨vp_in_nI (by omega) (by decide), h⟩
theorem pf_runX {post : Int32 → SX → Prop} {n K tk : Nat} {op ax ay az : Nat → Int32} {W C : Nat → Nat → Int32} (hn : n ≤ 30) (H : pf_Ch n op ax ay az K W C) (hK : K ≤ 1080)
    (ht1 : 40 ≤ tk) (ht2 : tk ≤ 100)
    (h : ∀ (g : Nat) (tl : Int32) (b wk : Nat → Int32), g ≤ 1 → pf_B b g = W K → pf_Z wk → post (W K 5) (nI n, nI g, tl, op, ax, ay, az, C K, b, wk)) :
    ∀ (f i j g : Nat) (tl : Int32) (b cX wk : Nat → Int32), i ≤ j → j ≤ K → K - j < f → g ≤ 1 → pf_B b g = W j → pf_cc K C j cX → pf_Z wk →
      wX_run_21 post (nI tk) f (nI i) (nI n) (nI g) tl op ax ay az cX b wk := by
  intro f
  induction f with
  | zero => intro i j g tl b cX wk h1 h2 h3; omega
  | succ f ih =>
    intro i j g tl b cX wk h1 h2 h3 h4 h5 h6 h7
    refine br_f (nI_ge (b := 1000000) (by omega) (by decide)) ?_
    refine pf_kept (i := 4) h4 (by omega) ?_
    rw [h5]
    by_cases zK : j = K
    · subst zK
      have hc : cX = C j := by
        rcases h6 with q | q
        · exact q
        · omega
      subst hc
      refine br_t (by rw [H.2.1]; exact nI_le (Nat.le_refl _) (by omega)) ?_
      unfold wX_run_63
      refine pf_kept (i := 5) h4 (by omega) ?_
      rw [h5]
      exact h g tl b wk h4 h5 h7
    · have hjK : j < K := by omega
      obtain ⟨⟨a, ha, e4⟩, _, _, _, _⟩ := H.1 j hjK
      refine br_f (by rw [e4]; exact nI_ge ha (by omega)) ?_
      refine pf_lose ?_
      obtain ⟨T, rfl⟩ : ∃ T, tk = T + 12 := ⟨tk - 12, by omega⟩
      refine pf_wake h4 (by omega) ?_
      rw [pf_flB (pf_flZ h7 (Nat.le_refl _)), h5]
      refine ⟨T + 12 + 1, ?_⟩
      refine pf_work hn H ht2 (T + 12 + 1) T 0 j g b cX (by omega) (by omega) h2 h4 h5 h6 (fun j' g' tl' b' c' wk' k1 k2 k3 k4 k5 k6 k7 => ?_)
      have k8 := k2 (by omega) hjK
      exact nm_r (nI_1 i) (ih (i + 1) j' g' tl' b' c' wk' (by omega) k3 (by omega) k4 k5 k6 k7)
theorem pf_runY {post : Int32 → SY → Prop} {n K : Nat} {op ax ay az : Nat → Int32} {W C : Nat → Nat → Int32} (hn : n ≤ 30) (H : pf_Ch n op ax ay az K W C) (hK : K ≤ 1080)
    (h : ∀ rg lf : Nat → Int32, pf_Y (W K) rg lf → post (nI K) (nI n, op, ax, ay, az, C K, rg, lf)) :
    ∀ (f j : Nat) (rg lf : Nat → Int32), j ≤ K → K - j < f → pf_Y (W j) rg lf → wY_run_37 post f (W j 4) (nI j) (nI j) (nI n) op ax ay az (C j) rg lf := by
  intro f
  induction f with
  | zero => intro j rg lf h1 h2; omega
  | succ f ih =>
    intro j rg lf h1 h2 hY
    by_cases zK : j = K
    · subst zK
      by_cases z : 1080 ≤ j
      · exact br_t (nI_le (a := 1080) z (by omega)) (h rg lf hY)
      · exact br_f (nI_ge (b := 1080) (by omega) (by decide)) (br_t (by rw [H.2.1]; exact nI_le (Nat.le_refl _) (by omega)) (h rg lf hY))
    · have hjK : j < K := by omega
      obtain ⟨⟨a, ha, e4⟩, _, _, _, RY⟩ := H.1 j hjK
      refine br_f (nI_ge (b := 1080) (by omega) (by decide)) (br_f (by rw [e4]; exact nI_ge ha (by omega)) ?_)
      refine RY _ rg lf hY (fun rg' lf' hY' => ?_)
      exact nm_r (nI_1 j) (nm_r (nI_1 j) (ih (j + 1) rg' lf' (by omega) (by omega) hY'))
/-- Y's registers made 0 -/
theorem pf_zeroY {post : Int32 → SY → Prop} {cn : Int32} {op ax ay az c rg lf : Nat → Int32}
    (h : ∃ f, wY_run_37 post f 0 0 0 cn op ax ay az c (pf_fl rg (fun _ => 0) 4) lf) : ∃ f, wY_run_12 post cn f 0 op ax ay az c rg lf := by
  have L : ∀ d i, i + d = 4 → wY_run_12 post cn (d + 1) (nI i) op ax ay az c (pf_fl rg (fun _ => 0) i) lf := by
    intro d
    induction d with
    | zero =>
      intro i hi
      obtain rfl : i = 4 := by omega
      exact br_t (nI_le (a := 4) (by omega) (by decide)) h
    | succ d ih =>
      intro i hi
      refine br_f (nI_ge (b := 4) (by omega) (by decide)) ⟨vp_in_nI (by omega) (by decide), nm_r (e' := pf_fl rg (fun _ => 0) (i + 1)) ?_ (nm_r (nI_1 i) (ih (i + 1) (by omega)))⟩
      rw [nI_clamp (by omega)]
      exact pf_flS rg (fun _ => 0) i
  have := L 4 0 (by omega)
  rw [pf_fl0, nI_0] at this
  exact ⟨_, this⟩
theorem pf_clamp {post : Int32 → Prop} (p : Int32) (h : ∀ tk : Nat, 40 ≤ tk → tk ≤ 100 → post (nI tk)) : wpX_clampPeriod post p := by
  unfold wpX_clampPeriod
  by_cases h40 : 40 ≤ p
  · refine br_t h40 ?_
    by_cases h100 : p ≤ 100
    · refine br_t h100 ?_
      have hp : ¬ p < 0 := Int32.not_lt.mpr (Int32.le_trans (by decide) h40)
      obtain ⟨j, hj, rfl⟩ := nI_of hp
      have a1 : 40 ≤ j := (nI_leI (a := 40) (by omega) hj).mp h40
      have a2 : j ≤ 100 := (nI_leI (b := 100) hj (by omega)).mp h100
      exact h j a1 a2
    · exact br_f h100 (h 100 (by omega) (by omega))
  · exact br_f h40 (h 40 (by omega) (by omega))
