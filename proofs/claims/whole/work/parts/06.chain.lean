/-! one step of the chain: X's execute and Y's step from the same words (written by wip/whole/gen06.py) -/
theorem pf_opener {post : Int32 → Prop} {cn : Int32} {op ax ay az c rg lf : Nat → Int32} {e o t : Nat} (he : e < 30) (h9 : op o = 9) (hdo : pf_dp op o = t) (hde : pf_dp op (e + 1) = t)
    (hoe : o < e) (hj : ∀ j, o < j → j ≤ e → (t : Int) + 1 ≤ pf_dp op j) (hb : ∀ j, j ≤ e + 1 → pf_dp op j ≤ 2) (h : post (nI o)) :
    wpY_openerOf post (cn, op, ax, ay, az, c, rg, lf) (nI e) := by
  have L : ∀ i k q : Nat, k = o + i → k ≤ e → (q : Int) = pf_dp op (k + 1) - t → wY_openerOf_4 post cn op ax ay az c rg lf (i + 1) (nI q) (nI k) := by
    intro i
    induction i with
    | zero =>
      intro k q hk hi hq
      obtain rfl : k = o := by omega
      have hc := nI_clamp (n := k) (by omega)
      have hv : vp_in (nI k) 30 := vp_in_nI (by omega) (by decide)
      have ho : op (nI k).toNatClampNeg = 9 := by rw [hc]; exact h9
      have hd := pf_dp9 h9
      obtain rfl : q = 1 := by omega
      exact br_f (nI_pos (by omega)) ⟨hv, br_f (by rw [ho]; decide) ⟨hv, br_t ho (nm_r (pk_m1 0) (br_t nI_0 h))⟩⟩
    | succ i ih =>
      intro k q hk hi hq
      obtain ⟨p, rfl⟩ : ∃ p, k = p + 1 := ⟨k - 1, by omega⟩
      have hjk := hj (p + 1) (by omega) (by omega)
      have hb1 := hb (p + 1 + 1) (by omega)
      have hb2 := hb (p + 1) (by omega)
      have hc := nI_clamp (n := p + 1) (by omega)
      have hv : vp_in (nI (p + 1)) 30 := vp_in_nI (by omega) (by decide)
      have ho : op (nI (p + 1)).toNatClampNeg = op (p + 1) := by rw [hc]
      have hg := nI_pos (n := p + 1) (by omega)
      by_cases h10 : op (p + 1) = 10
      · have hd := pf_dp10 h10
        exact br_f hg ⟨hv, br_t (ho.trans h10) (nm_r (nI_1 q) ⟨hv, br_f (by rw [ho, h10]; decide) (br_f (nI_ne0 (by omega) (by omega)) (nm_r (pk_m1 p) (ih p (q + 1) (by omega) (by omega) (by omega))))⟩)⟩
      · have h10' : ¬ op (nI (p + 1)).toNatClampNeg = 10 := by rw [ho]; exact h10
        by_cases h9p : op (p + 1) = 9
        · have hd := pf_dp9 h9p
          obtain ⟨q', rfl⟩ : ∃ q', q = q' + 1 := ⟨q - 1, by omega⟩
          exact br_f hg ⟨hv, br_f h10' ⟨hv, br_t (ho.trans h9p) (nm_r (pk_m1 q') (br_f (nI_ne0 (by omega) (by omega)) (nm_r (pk_m1 p) (ih p q' (by omega) (by omega) (by omega)))))⟩⟩
        · have hd := pf_dpo h9p h10
          have h9' : ¬ op (nI (p + 1)).toNatClampNeg = 9 := by rw [ho]; exact h9p
          exact br_f hg ⟨hv, br_f h10' ⟨hv, br_f h9' (br_f (nI_ne0 (by omega) (by omega)) (nm_r (pk_m1 p) (ih p q (by omega) (by omega) (by omega))))⟩⟩
  have := L (e - o) e 0 (by omega) (by omega) (by omega)
  exact ⟨_, this⟩
theorem pf_yE {post : Int32 → SY → Prop} {cn : Int32} {op ax ay az c rg lf : Nat → Int32} {a o l : Nat} (ha : a < 30) (hop : op a = 10) (ho : o < 30)
    (hO : ∀ P : Int32 → Prop, P (nI o) → wpY_openerOf P (cn, op, ax, ay, az, c, rg, lf) (nI a)) (hl : lf o = nI (l + 1)) (hl6 : l ≤ 6)
    (h1 : l = 0 → post (nI (a + 1)) (cn, op, ax, ay, az, c, rg, upd lf o (nI l))) (h2 : 1 ≤ l → post (nI (o + 1)) (cn, op, ax, ay, az, c, rg, upd lf o (nI l))) :
    wpY_step post (cn, op, ax, ay, az, c, rg, lf) (nI a) := by
  have hc := nI_clamp (n := a) (by omega)
  have hi : vp_in (nI a) 30 := vp_in_nI ha (by decide)
  have hoc := nI_clamp (n := o) (by omega)
  have hoi : vp_in (nI o) 30 := vp_in_nI ho (by decide)
  have n0 : ¬ op (nI a).toNatClampNeg = 0 := by rw [hc, hop]; decide
  have n1 : ¬ op (nI a).toNatClampNeg = 1 := by rw [hc, hop]; decide
  have n2 : ¬ op (nI a).toNatClampNeg = 2 := by rw [hc, hop]; decide
  have n3 : ¬ op (nI a).toNatClampNeg = 3 := by rw [hc, hop]; decide
  have n4 : ¬ op (nI a).toNatClampNeg = 4 := by rw [hc, hop]; decide
  have n5 : ¬ op (nI a).toNatClampNeg = 5 := by rw [hc, hop]; decide
  have n6 : ¬ op (nI a).toNatClampNeg = 6 := by rw [hc, hop]; decide
  have n7 : ¬ op (nI a).toNatClampNeg = 7 := by rw [hc, hop]; decide
  have n8 : ¬ op (nI a).toNatClampNeg = 8 := by rw [hc, hop]; decide
  have n9 : ¬ op (nI a).toNatClampNeg = 9 := by rw [hc, hop]; decide
  have n10 : op (nI a).toNatClampNeg = 10 := by rw [hc]; exact hop
  have hu : upd lf o (nI l) (nI o).toNatClampNeg = nI l := by rw [hoc]; exact pk_us
  refine ⟨hi, nm_e ⟨hi, nm_e ⟨hi, br_f n0 ⟨hi, br_f n1 ⟨hi, br_f n2 ⟨hi, br_f n3 ⟨hi, br_f n4 ⟨hi, br_f n5 ⟨hi, br_f n6 ⟨hi, br_f n7 ⟨hi, br_f n8 ⟨hi, br_f n9 ⟨hi, br_t n10 ?_⟩⟩⟩⟩⟩⟩⟩⟩⟩⟩⟩⟩⟩
  refine hO _ ⟨hoi, hoi, nm_r (e' := upd lf o (nI l)) (by rw [hoc, hl, nI_pred]) ⟨hoi, ?_⟩⟩
  by_cases z : l = 0
  · refine br_t (by rw [hu, z]; decide) ?_
    rw [nI_1]
    exact h1 z
  · refine br_f (by rw [hu]; exact nI_nle (by omega) (by omega)) ?_
    rw [nI_1]
    exact h2 (by omega)
/-- Y's registers and passes against the words -/
def pf_Y (w rg lf : Nat → Int32) : Prop :=
  (∀ r, r < 4 → rg r = w r) ∧ ∀ t d q, w 6 = nI d → d ≤ 2 → t < d → w (9 + t) = nI (q + 1) → q < 30 → lf q = w (7 + t)
/-- one instruction from the words w and the cells c to w' and c' -/
def pf_R (n : Nat) (op ax ay az w c w' c' : Nat → Int32) : Prop :=
  (∃ a, a < n ∧ w 4 = nI a) ∧ w' 5 = w 5 + 1 ∧
  (∀ (post : SX → Prop) (gb : Int32) (T : Nat) (b cX : Nat → Int32), T < 2 ^ 31 → (cX = c ∨ cX = c') → 1 ≤ T →
    (∀ T', T ≤ T' + 1 → T' ≤ T → post (nI n, gb, nI T', op, ax, ay, az, c', b, w')) → wpX_execute post (nI n, gb, nI T, op, ax, ay, az, cX, b, w) (w 4)) ∧
  (∀ (post : SX → Prop) (gb : Int32) (b cX : Nat → Int32), (∀ wk, pf_Z wk → post (nI n, gb, nI 0, op, ax, ay, az, cX, b, wk)) →
    wpX_execute post (nI n, gb, nI 0, op, ax, ay, az, cX, b, w) (w 4)) ∧
  (∀ (post : Int32 → SY → Prop) (rg lf : Nat → Int32), pf_Y w rg lf → (∀ rg' lf', pf_Y w' rg' lf' → post (w' 4) (nI n, op, ax, ay, az, c', rg', lf')) →
    wpY_step post (nI n, op, ax, ay, az, c, rg, lf) (w 4))
section
variable {n a d m r : Nat} {op ax ay az w c rg lf : Nat → Int32} {o e l : Nat → Nat}
theorem pf_iv1 (S : pf_st op n w a d o e l) (hb : pf_bu n a d o e l ≤ m) (ha : a < n) (h9 : ¬ op a = 9) (h10 : ¬ op a = 10) (w' : Nat → Int32) (e4 : w' 4 = nI (a + 1))
    (hw : ∀ i, 6 ≤ i → i ≤ 10 → w' i = w i) : ∃ m', m' < m ∧ pf_iv op n w' m' := by
  have P := pf_plain S (a + 1) (by omega) (by omega) (fun j h1 h2 => by
    obtain rfl : j = a := by omega
    exact ⟨h9, h10⟩) e4 hw
  exact ⟨_, Nat.lt_of_lt_of_le P.2 hb, _, _, _, _, _, P.1, Nat.le_refl _⟩
theorem pf_Yp {w' rg' : Nat → Int32} (hY : pf_Y w rg lf) (hr : ∀ i, i < 4 → rg' i = w' i) (hw : ∀ i, 6 ≤ i → i ≤ 10 → w' i = w i) : pf_Y w' rg' lf := by
  refine ⟨hr, fun t d q h6 hd ht h9 hq => ?_⟩
  rw [hw 6 (by omega) (by omega)] at h6
  rw [hw (9 + t) (by omega) (by omega)] at h9
  rw [hw (7 + t) (by omega) (by omega)]
  exact hY.2 t d q h6 hd ht h9 hq
theorem pf_rw4 {v : Int32} (hr : r < 4) : upd (pf_w1 w a) r v 4 = nI (a + 1) := by rw [pk_un (by omega), pf_w14]
theorem pf_rw5 {v : Int32} (hr : r < 4) : upd (pf_w1 w a) r v 5 = w 5 + 1 := by rw [pk_un (by omega), pf_w15]
theorem pf_rwn {v : Int32} (hr : r < 4) : ∀ i, 6 ≤ i → i ≤ 10 → upd (pf_w1 w a) r v i = w i := by
  intro i h1 h2
  rw [pk_un (by omega), pf_w1n (by omega) (by omega)]
theorem pf_w1m : ∀ i, 6 ≤ i → i ≤ 10 → pf_w1 w a i = w i := fun _ _ _ => pf_w1n (by omega) (by omega)
theorem pf_w1r (h : ∀ i, i < 4 → rg i = w i) : ∀ i, i < 4 → rg i = pf_w1 w a i := by
  intro i hi
  rw [pf_w1n (by omega) (by omega)]
  exact h i hi
theorem pf_rwr {v : Int32} (h : ∀ i, i < 4 → rg i = w i) : ∀ i, i < 4 → upd rg r v i = upd (pf_w1 w a) r v i := by
  intro i hi
  by_cases z : i = r
  · rw [z, pk_us, pk_us]
  · rw [pk_un z, pk_un z]
    exact pf_w1r h i hi
theorem pf_rwZ {v : Int32} (hr : r < 4) (hz : pf_Z w) : pf_Z (upd (pf_w1 w a) r v) := pf_Zu (pf_w1Z hz) (by omega)
theorem pf_uu (f : Nat → Int32) (k : Nat) (x : Int32) : upd (upd f k x) k x = upd f k x := by
  funext j
  by_cases z : j = k
  · rw [z, pk_us, pk_us]
  · rw [pk_un z]
theorem pf_c0 (hn : n ≤ 30) (S : pf_st op n w a d o e l) (hb : pf_bu n a d o e l ≤ m) (hz : pf_Z w) (ha : a < n) (hop : op a = 0) (hx : ax a = nI r) (hr : r < 4)  : ∃ w' c' : Nat → Int32, ∃ m', m' < m ∧ pf_iv op n w' m' ∧ pf_Z w' ∧ pf_R n op ax ay az w c w' c' := by
  obtain ⟨m', hm, hv⟩ := pf_iv1 S hb ha (by rw [hop]; decide) (by rw [hop]; decide) (upd (pf_w1 w a) r (ay a)) (pf_rw4 hr) (pf_rwn hr)
  refine ⟨upd (pf_w1 w a) r (ay a), c, m', hm, hv, pf_rwZ hr hz, ⟨a, ha, S.1⟩, pf_rw5 hr, ?_, ?_, ?_⟩
  · intro post gb T b cX hT hc h1 h
    rw [S.1]
    obtain rfl : cX = c := by
      rcases hc with z | z
      · exact z
      · exact z
    exact pf_x0 (by omega) hop hx hr  (h T (by omega) (Nat.le_refl _))
  · intro post gb b cX h
    rw [S.1]
    exact pf_x0 (by omega) hop hx hr  (h _ (pf_rwZ hr hz))
  · intro post rg lf hY h
    rw [S.1]
    have hq := h _ lf (pf_Yp hY (pf_rwr (r := r) (v := ay a) hY.1) (pf_rwn hr))
    rw [pf_rw4 hr] at hq
    refine pf_y0 (by omega) hop hx hr ?_
    exact hq
theorem pf_c1 (hn : n ≤ 30) (S : pf_st op n w a d o e l) (hb : pf_bu n a d o e l ≤ m) (hz : pf_Z w) (ha : a < n) (hop : op a = 1) (hx : ax a = nI r) (hr : r < 4) {s t : Nat} (hy : ay a = nI s) (hs : s < 4) (hzz : az a = nI t) (ht : t < 4) : ∃ w' c' : Nat → Int32, ∃ m', m' < m ∧ pf_iv op n w' m' ∧ pf_Z w' ∧ pf_R n op ax ay az w c w' c' := by
  obtain ⟨m', hm, hv⟩ := pf_iv1 S hb ha (by rw [hop]; decide) (by rw [hop]; decide) (upd (pf_w1 w a) r (pf_w1 w a s + pf_w1 w a t)) (pf_rw4 hr) (pf_rwn hr)
  refine ⟨upd (pf_w1 w a) r (pf_w1 w a s + pf_w1 w a t), c, m', hm, hv, pf_rwZ hr hz, ⟨a, ha, S.1⟩, pf_rw5 hr, ?_, ?_, ?_⟩
  · intro post gb T b cX hT hc h1 h
    rw [S.1]
    obtain rfl : cX = c := by
      rcases hc with z | z
      · exact z
      · exact z
    exact pf_x1 (by omega) hop hx hr hy hs hzz ht (h T (by omega) (Nat.le_refl _))
  · intro post gb b cX h
    rw [S.1]
    exact pf_x1 (by omega) hop hx hr hy hs hzz ht (h _ (pf_rwZ hr hz))
  · intro post rg lf hY h
    rw [S.1]
    have hq := h _ lf (pf_Yp hY (pf_rwr (r := r) (v := pf_w1 w a s + pf_w1 w a t) hY.1) (pf_rwn hr))
    rw [pf_rw4 hr] at hq
    refine pf_y1 (by omega) hop hx hr hy hs hzz ht ?_
    rw [pf_w1r (a := a) hY.1 s hs, pf_w1r (a := a) hY.1 t ht]
    exact hq
theorem pf_c2 (hn : n ≤ 30) (S : pf_st op n w a d o e l) (hb : pf_bu n a d o e l ≤ m) (hz : pf_Z w) (ha : a < n) (hop : op a = 2) (hx : ax a = nI r) (hr : r < 4) {s t : Nat} (hy : ay a = nI s) (hs : s < 4) (hzz : az a = nI t) (ht : t < 4) : ∃ w' c' : Nat → Int32, ∃ m', m' < m ∧ pf_iv op n w' m' ∧ pf_Z w' ∧ pf_R n op ax ay az w c w' c' := by
  obtain ⟨m', hm, hv⟩ := pf_iv1 S hb ha (by rw [hop]; decide) (by rw [hop]; decide) (upd (pf_w1 w a) r (pf_w1 w a s - pf_w1 w a t)) (pf_rw4 hr) (pf_rwn hr)
  refine ⟨upd (pf_w1 w a) r (pf_w1 w a s - pf_w1 w a t), c, m', hm, hv, pf_rwZ hr hz, ⟨a, ha, S.1⟩, pf_rw5 hr, ?_, ?_, ?_⟩
  · intro post gb T b cX hT hc h1 h
    rw [S.1]
    obtain rfl : cX = c := by
      rcases hc with z | z
      · exact z
      · exact z
    exact pf_x2 (by omega) hop hx hr hy hs hzz ht (h T (by omega) (Nat.le_refl _))
  · intro post gb b cX h
    rw [S.1]
    exact pf_x2 (by omega) hop hx hr hy hs hzz ht (h _ (pf_rwZ hr hz))
  · intro post rg lf hY h
    rw [S.1]
    have hq := h _ lf (pf_Yp hY (pf_rwr (r := r) (v := pf_w1 w a s - pf_w1 w a t) hY.1) (pf_rwn hr))
    rw [pf_rw4 hr] at hq
    refine pf_y2 (by omega) hop hx hr hy hs hzz ht ?_
    rw [pf_w1r (a := a) hY.1 s hs, pf_w1r (a := a) hY.1 t ht]
    exact hq
theorem pf_c3 (hn : n ≤ 30) (S : pf_st op n w a d o e l) (hb : pf_bu n a d o e l ≤ m) (hz : pf_Z w) (ha : a < n) (hop : op a = 3) (hx : ax a = nI r) (hr : r < 4) {s t : Nat} (hy : ay a = nI s) (hs : s < 4) (hzz : az a = nI t) (ht : t < 4) : ∃ w' c' : Nat → Int32, ∃ m', m' < m ∧ pf_iv op n w' m' ∧ pf_Z w' ∧ pf_R n op ax ay az w c w' c' := by
  obtain ⟨m', hm, hv⟩ := pf_iv1 S hb ha (by rw [hop]; decide) (by rw [hop]; decide) (upd (pf_w1 w a) r (pf_w1 w a s * pf_w1 w a t)) (pf_rw4 hr) (pf_rwn hr)
  refine ⟨upd (pf_w1 w a) r (pf_w1 w a s * pf_w1 w a t), c, m', hm, hv, pf_rwZ hr hz, ⟨a, ha, S.1⟩, pf_rw5 hr, ?_, ?_, ?_⟩
  · intro post gb T b cX hT hc h1 h
    rw [S.1]
    obtain rfl : cX = c := by
      rcases hc with z | z
      · exact z
      · exact z
    exact pf_x3 (by omega) hop hx hr hy hs hzz ht (h T (by omega) (Nat.le_refl _))
  · intro post gb b cX h
    rw [S.1]
    exact pf_x3 (by omega) hop hx hr hy hs hzz ht (h _ (pf_rwZ hr hz))
  · intro post rg lf hY h
    rw [S.1]
    have hq := h _ lf (pf_Yp hY (pf_rwr (r := r) (v := pf_w1 w a s * pf_w1 w a t) hY.1) (pf_rwn hr))
    rw [pf_rw4 hr] at hq
    refine pf_y3 (by omega) hop hx hr hy hs hzz ht ?_
    rw [pf_w1r (a := a) hY.1 s hs, pf_w1r (a := a) hY.1 t ht]
    exact hq
theorem pf_c4 (hn : n ≤ 30) (S : pf_st op n w a d o e l) (hb : pf_bu n a d o e l ≤ m) (hz : pf_Z w) (ha : a < n) (hop : op a = 4) (hx : ax a = nI r) (hr : r < 4) {j : Nat} (hy : ay a = nI j) (hj : j < 12) : ∃ w' c' : Nat → Int32, ∃ m', m' < m ∧ pf_iv op n w' m' ∧ pf_Z w' ∧ pf_R n op ax ay az w c w' c' := by
  obtain ⟨m', hm, hv⟩ := pf_iv1 S hb ha (by rw [hop]; decide) (by rw [hop]; decide) (upd (pf_w1 w a) r (c j)) (pf_rw4 hr) (pf_rwn hr)
  refine ⟨upd (pf_w1 w a) r (c j), c, m', hm, hv, pf_rwZ hr hz, ⟨a, ha, S.1⟩, pf_rw5 hr, ?_, ?_, ?_⟩
  · intro post gb T b cX hT hc h1 h
    rw [S.1]
    obtain rfl : cX = c := by
      rcases hc with z | z
      · exact z
      · exact z
    obtain ⟨T', rfl⟩ : ∃ T', T = T' + 1 := ⟨T - 1, by omega⟩
    exact pf_x4 (by omega) hT hop hx hr hy hj (h T' (by omega) (by omega))
  · intro post gb b cX h
    rw [S.1]
    exact pf_x4z (by omega) hop hx hr hy hj (h _ (pf_w1Z hz))
  · intro post rg lf hY h
    rw [S.1]
    have hq := h _ lf (pf_Yp hY (pf_rwr (r := r) (v := c j) hY.1) (pf_rwn hr))
    rw [pf_rw4 hr] at hq
    refine pf_y4 (by omega) hop hx hr hy hj ?_
    exact hq
theorem pf_c6 (hn : n ≤ 30) (S : pf_st op n w a d o e l) (hb : pf_bu n a d o e l ≤ m) (hz : pf_Z w) (ha : a < n) (hop : op a = 6) (hx : ax a = nI r) (hr : r < 4) {y : Nat} (hy : ay a = nI y) (hyl : y < 4) : ∃ w' c' : Nat → Int32, ∃ m', m' < m ∧ pf_iv op n w' m' ∧ pf_Z w' ∧ pf_R n op ax ay az w c w' c' := by
  obtain ⟨j, hjl, hj⟩ := pk_andE (pf_w1 w a y) (m := 7) 3 (by decide)
  obtain ⟨m', hm, hv⟩ := pf_iv1 S hb ha (by rw [hop]; decide) (by rw [hop]; decide) (upd (pf_w1 w a) r (c j)) (pf_rw4 hr) (pf_rwn hr)
  refine ⟨upd (pf_w1 w a) r (c j), c, m', hm, hv, pf_rwZ hr hz, ⟨a, ha, S.1⟩, pf_rw5 hr, ?_, ?_, ?_⟩
  · intro post gb T b cX hT hc h1 h
    rw [S.1]
    obtain rfl : cX = c := by
      rcases hc with z | z
      · exact z
      · exact z
    obtain ⟨T', rfl⟩ : ∃ T', T = T' + 1 := ⟨T - 1, by omega⟩
    exact pf_x6 (by omega) hT hop hx hr hy hyl hj hjl (h T' (by omega) (by omega))
  · intro post gb b cX h
    rw [S.1]
    exact pf_x6z (by omega) hop hx hr hy hyl hj hjl (h _ (pf_w1Z hz))
  · intro post rg lf hY h
    rw [S.1]
    have hq := h _ lf (pf_Yp hY (pf_rwr (r := r) (v := c j) hY.1) (pf_rwn hr))
    rw [pf_rw4 hr] at hq
    refine pf_y6 (by omega) hop hx hr hy hyl (by rw [pf_w1r (a := a) hY.1 y hyl]; exact hj) hjl ?_
    exact hq
theorem pf_c5 (hn : n ≤ 30) (S : pf_st op n w a d o e l) (hb : pf_bu n a d o e l ≤ m) (hz : pf_Z w) (ha : a < n) (hop : op a = 5) (hx : ax a = nI r) (hr : r < 4) {j : Nat} (hy : ay a = nI j) (hj : j < 12) : ∃ w' c' : Nat → Int32, ∃ m', m' < m ∧ pf_iv op n w' m' ∧ pf_Z w' ∧ pf_R n op ax ay az w c w' c' := by
  obtain ⟨m', hm, hv⟩ := pf_iv1 S hb ha (by rw [hop]; decide) (by rw [hop]; decide) (pf_w1 w a) (pf_w14 w a) pf_w1m
  refine ⟨pf_w1 w a, upd c j (pf_w1 w a r), m', hm, hv, pf_w1Z hz, ⟨a, ha, S.1⟩, pf_w15 w a, ?_, ?_, ?_⟩
  · intro post gb T b cX hT hc h1 h
    rw [S.1]
    have hcc : upd cX j (pf_w1 w a r) = upd c j (pf_w1 w a r) := by
      rcases hc with z | z
      · rw [z]
      · rw [z, pf_uu]
    obtain ⟨T', rfl⟩ : ∃ T', T = T' + 1 := ⟨T - 1, by omega⟩
    refine pf_x5 (by omega) hT hop hx hr hy hj ?_
    rw [hcc]
    exact h T' (by omega) (by omega)
  · intro post gb b cX h
    rw [S.1]
    exact pf_x5z (by omega) hop hx hr hy hj (h _ (pf_w1Z hz))
  · intro post rg lf hY h
    rw [S.1]
    have hq := h rg lf (pf_Yp hY (pf_w1r hY.1) pf_w1m)
    rw [pf_w14] at hq
    refine pf_y5 (by omega) hop hx hr hy hj ?_
    rw [pf_w1r (a := a) hY.1 r hr]
    exact hq
theorem pf_c7 (hn : n ≤ 30) (S : pf_st op n w a d o e l) (hb : pf_bu n a d o e l ≤ m) (hz : pf_Z w) (ha : a < n) (hop : op a = 7) (hx : ax a = nI r) (hr : r < 4) {y : Nat} (hy : ay a = nI y) (hyl : y < 4) : ∃ w' c' : Nat → Int32, ∃ m', m' < m ∧ pf_iv op n w' m' ∧ pf_Z w' ∧ pf_R n op ax ay az w c w' c' := by
  obtain ⟨j, hjl, hj⟩ := pk_andE (pf_w1 w a y) (m := 7) 3 (by decide)
  obtain ⟨m', hm, hv⟩ := pf_iv1 S hb ha (by rw [hop]; decide) (by rw [hop]; decide) (pf_w1 w a) (pf_w14 w a) pf_w1m
  refine ⟨pf_w1 w a, upd c j (pf_w1 w a r), m', hm, hv, pf_w1Z hz, ⟨a, ha, S.1⟩, pf_w15 w a, ?_, ?_, ?_⟩
  · intro post gb T b cX hT hc h1 h
    rw [S.1]
    have hcc : upd cX j (pf_w1 w a r) = upd c j (pf_w1 w a r) := by
      rcases hc with z | z
      · rw [z]
      · rw [z, pf_uu]
    obtain ⟨T', rfl⟩ : ∃ T', T = T' + 1 := ⟨T - 1, by omega⟩
    refine pf_x7 (by omega) hT hop hx hr hy hyl hj hjl ?_
    rw [hcc]
    exact h T' (by omega) (by omega)
  · intro post gb b cX h
    rw [S.1]
    exact pf_x7z (by omega) hop hx hr hy hyl hj hjl (h _ (pf_w1Z hz))
  · intro post rg lf hY h
    rw [S.1]
    have hq := h rg lf (pf_Yp hY (pf_w1r hY.1) pf_w1m)
    rw [pf_w14] at hq
    refine pf_y7 (by omega) hop hx hr hy hyl (by rw [pf_w1r (a := a) hY.1 y hyl]; exact hj) hjl ?_
    rw [pf_w1r (a := a) hY.1 r hr]
    exact hq
theorem pf_c8 (hs : pf_so op ay n) (hn : n ≤ 30) (S : pf_st op n w a d o e l) (hb : pf_bu n a d o e l ≤ m) (hz : pf_Z w) (ha : a < n) (hop : op a = 8) (hx : ax a = nI r) (hr : r < 4) {k : Nat} (hy : ay a = nI k) (hk : k ≤ 6) : ∃ w' c' : Nat → Int32, ∃ m', m' < m ∧ pf_iv op n w' m' ∧ pf_Z w' ∧ pf_R n op ax ay az w c w' c' := by
  by_cases hp : 0 < pf_w1 w a r
  · obtain ⟨m', hm, hv⟩ := pf_iv1 S hb ha (by rw [hop]; decide) (by rw [hop]; decide) (pf_w1 w a) (pf_w14 w a) pf_w1m
    refine ⟨pf_w1 w a, c, m', hm, hv, pf_w1Z hz, ⟨a, ha, S.1⟩, pf_w15 w a, ?_, ?_, ?_⟩
    · intro post gb T b cX hT hc h1 h
      rw [S.1]
      obtain rfl : cX = c := by
        rcases hc with z | z
        · exact z
        · exact z
      exact pf_x8 (by omega) hop hx hr hy (fun _ => h T (by omega) (Nat.le_refl _)) (fun z => absurd hp z)
    · intro post gb b cX h
      rw [S.1]
      exact pf_x8 (by omega) hop hx hr hy (fun _ => h _ (pf_w1Z hz)) (fun z => absurd hp z)
    · intro post rg lf hY h
      rw [S.1]
      have hq := h rg lf (pf_Yp hY (pf_w1r hY.1) pf_w1m)
      rw [pf_w14] at hq
      have hp' : 0 < rg r := by rw [pf_w1r (a := a) hY.1 r hr]; exact hp
      exact pf_y8 (by omega) hop hx hr hy (fun _ => hq) (fun z => absurd hp' z)
  · obtain ⟨hk1, hk2⟩ := hs.2.2 a k ha hop hk hy
    have e4 : upd (pf_w1 w a) 4 (nI (a + 1 + k)) 4 = nI (a + 1 + k) := pk_us
    have e5 : upd (pf_w1 w a) 4 (nI (a + 1 + k)) 5 = w 5 + 1 := by rw [pk_un (by decide), pf_w15]
    have en : ∀ i, 6 ≤ i → i ≤ 10 → upd (pf_w1 w a) 4 (nI (a + 1 + k)) i = w i := by
      intro i h1 h2
      rw [pk_un (by omega), pf_w1n (by omega) (by omega)]
    have eZ : pf_Z (upd (pf_w1 w a) 4 (nI (a + 1 + k))) := pf_Zu (pf_w1Z hz) (by omega)
    have P := pf_plain S (a + 1 + k) (by omega) (by omega) (fun j h1 h2 => by
      by_cases z : j = a
      · rw [z, hop]
        exact ⟨by decide, by decide⟩
      · exact hk2 j (by omega) (by omega)) e4 en
    refine ⟨upd (pf_w1 w a) 4 (nI (a + 1 + k)), c, _, Nat.lt_of_lt_of_le P.2 hb, ⟨_, _, _, _, _, P.1, Nat.le_refl _⟩, eZ, ⟨a, ha, S.1⟩, e5, ?_, ?_, ?_⟩
    · intro post gb T b cX hT hc h1 h
      rw [S.1]
      obtain rfl : cX = c := by
        rcases hc with z | z
        · exact z
        · exact z
      exact pf_x8 (by omega) hop hx hr hy (fun z => absurd z hp) (fun _ => h T (by omega) (Nat.le_refl _))
    · intro post gb b cX h
      rw [S.1]
      exact pf_x8 (by omega) hop hx hr hy (fun z => absurd z hp) (fun _ => h _ eZ)
    · intro post rg lf hY h
      rw [S.1]
      have hq := h rg lf (pf_Yp hY (fun i hi => by rw [pk_un (by omega)]; exact pf_w1r hY.1 i hi) en)
      rw [e4, show a + 1 + k = a + k + 1 by omega] at hq
      have hp' : ¬ 0 < rg r := by rw [pf_w1r (a := a) hY.1 r hr]; exact hp
      exact pf_y8 (by omega) hop hx hr hy (fun z => absurd z hp') (fun _ => hq)
theorem pf_c9 (hs : pf_so op ay n) (hn : n ≤ 30) (S : pf_st op n w a d o e l) (hb : pf_bu n a d o e l ≤ m) (hz : pf_Z w) (ha : a < n) (hop : op a = 9) {x : Nat} (hx : ax a = nI x) (hx1 : 1 ≤ x) (hx6 : x ≤ 6) : ∃ w' c' : Nat → Int32, ∃ m', m' < m ∧ pf_iv op n w' m' ∧ pf_Z w' ∧ pf_R n op ax ay az w c w' c' := by
  have hd1 : d ≤ 1 := by
    have h1 := pf_dp9 hop
    have h2 := (hs.1 (a + 1) (by omega)).2
    have h3 := S.2.2.2.2.1
    omega
  have e4 : (upd (upd (upd (pf_w1 w a) (7 + d) (ax a)) (9 + d) (nI (a + 1))) 6 (nI (d + 1))) 4 = nI (a + 1) := by rw [pk_un (by omega), pk_un (by omega), pk_un (by omega), pf_w14]
  have e5 : (upd (upd (upd (pf_w1 w a) (7 + d) (ax a)) (9 + d) (nI (a + 1))) 6 (nI (d + 1))) 5 = w 5 + 1 := by rw [pk_un (by omega), pk_un (by omega), pk_un (by omega), pf_w15]
  have e6 : (upd (upd (upd (pf_w1 w a) (7 + d) (ax a)) (9 + d) (nI (a + 1))) 6 (nI (d + 1))) 6 = nI (d + 1) := pk_us
  have e7 : (upd (upd (upd (pf_w1 w a) (7 + d) (ax a)) (9 + d) (nI (a + 1))) 6 (nI (d + 1))) (7 + d) = ax a := by rw [pk_un (by omega), pk_un (by omega), pk_us]
  have e9 : (upd (upd (upd (pf_w1 w a) (7 + d) (ax a)) (9 + d) (nI (a + 1))) 6 (nI (d + 1))) (9 + d) = nI (a + 1) := by rw [pk_un (by omega), pk_us]
  have en : ∀ t, t < d → (upd (upd (upd (pf_w1 w a) (7 + d) (ax a)) (9 + d) (nI (a + 1))) 6 (nI (d + 1))) (7 + t) = w (7 + t) ∧ (upd (upd (upd (pf_w1 w a) (7 + d) (ax a)) (9 + d) (nI (a + 1))) 6 (nI (d + 1))) (9 + t) = w (9 + t) := by
    intro t ht
    constructor
    · rw [pk_un (by omega), pk_un (by omega), pk_un (by omega), pf_w1n (by omega) (by omega)]
    · rw [pk_un (by omega), pk_un (by omega), pk_un (by omega), pf_w1n (by omega) (by omega)]
  have er : ∀ i, i < 4 → (upd (upd (upd (pf_w1 w a) (7 + d) (ax a)) (9 + d) (nI (a + 1))) 6 (nI (d + 1))) i = w i := by
    intro i hi
    rw [pk_un (by omega), pk_un (by omega), pk_un (by omega), pf_w1n (by omega) (by omega)]
  have eZ : pf_Z (upd (upd (upd (pf_w1 w a) (7 + d) (ax a)) (9 + d) (nI (a + 1))) 6 (nI (d + 1))) := pf_Zu (pf_Zu (pf_Zu (pf_w1Z hz) (by omega)) (by omega)) (by omega)
  obtain ⟨e2, P1, P2⟩ := pf_loopS hs S ha hop hx1 hx6 e4 e6 (e7.trans hx) e9 en
  obtain ⟨s4, s6, sn, sd, sp, sl⟩ := S
  refine ⟨(upd (upd (upd (pf_w1 w a) (7 + d) (ax a)) (9 + d) (nI (a + 1))) 6 (nI (d + 1))), c, _, Nat.lt_of_lt_of_le P2 hb, ⟨_, _, _, _, _, P1, Nat.le_refl _⟩, eZ, ⟨a, ha, s4⟩, e5, ?_, ?_, ?_⟩
  · intro post gb T b cX hT hc h1 h
    rw [s4]
    obtain rfl : cX = c := by
      rcases hc with z | z
      · exact z
      · exact z
    exact pf_x9 (by omega) hop hd1 s6 (h T (by omega) (Nat.le_refl _))
  · intro post gb b cX h
    rw [s4]
    exact pf_x9 (by omega) hop hd1 s6 (h _ eZ)
  · intro post rg lf hY h
    rw [s4]
    have hq := h rg (upd lf a (ax a)) ⟨fun i hi => (hY.1 i hi).trans (er i hi).symm, fun t d' q h6 hd' ht h9 hq => ?_⟩
    · rw [e4] at hq
      exact pf_y9 (by omega) hop hq
    · rw [e6] at h6
      have hdd : d + 1 = d' := (nI_eq (by omega) (by omega)).mp h6
      by_cases z : t = d
      · subst z
        rw [e9] at h9
        have hqa : a + 1 = q + 1 := (nI_eq (by omega) (by omega)).mp h9
        obtain rfl : a = q := by omega
        rw [e7, pk_us]
      · have hn1 := en t (by omega)
        obtain ⟨L, r1, r2⟩ := sl t (by omega)
        rw [hn1.2] at h9
        have hqo : o t + 1 = q + 1 := (nI_eq (by have := L.2.2.1; omega) (by omega)).mp (r2.symm.trans h9)
        have hlt := L.2.2.1
        rw [hn1.1, pk_un (by omega)]
        exact hY.2 t d q s6 sd (by omega) h9 hq
theorem pf_cE (hs : pf_so op ay n) (hn : n ≤ 30) (S : pf_st op n w a d o e l) (hb : pf_bu n a d o e l ≤ m) (hz : pf_Z w) (ha : a < n) (hop : op a = 10) : ∃ w' c' : Nat → Int32, ∃ m', m' < m ∧ pf_iv op n w' m' ∧ pf_Z w' ∧ pf_R n op ax ay az w c w' c' := by
  obtain ⟨t, rfl, hae⟩ := pf_endS hs S ha hop
  have S' := S
  obtain ⟨s4, s6, sn, sd, sp, sl⟩ := S'
  obtain ⟨⟨q1, q2, q3, q4, q5, q6, q7, q8, q9, q10⟩, r1, r2⟩ := sl t (by omega)
  obtain ⟨k, hk⟩ : ∃ k, l t = k + 1 := ⟨l t - 1, by omega⟩
  have hO : ∀ (rg lf : Nat → Int32) (P : Int32 → Prop), P (nI (o t)) → wpY_openerOf P (nI n, op, ax, ay, az, c, rg, lf) (nI a) := by
    intro rg lf P hP
    refine pf_opener (e := a) (o := o t) (t := t) (by omega) q1 q2 (by rw [hae]; exact q7) q3 (fun j h1 h2 => q8 j h1 (by omega)) (fun j h1 => (hs.1 j (by omega)).2) hP
  have hlf : ∀ rg lf : Nat → Int32, pf_Y w rg lf → lf (o t) = nI (k + 1) := by
    intro rg lf hY
    have := hY.2 t (t + 1) (o t) s6 sd (by omega) r2 (by omega)
    rw [this, r1, hk]
  have hne : ∀ s, s < t → o s ≠ o t := by
    intro s hst z
    obtain ⟨L, _, _⟩ := sl s (by omega)
    have := L.2.1
    rw [z, q2] at this
    omega
  by_cases hk0 : k = 0
  · subst hk0
    have e4 : (upd (upd (pf_w1 w a) (7 + t) (nI 0)) 6 (nI t)) 4 = nI (a + 1) := by rw [pk_un (by omega), pk_un (by omega), pf_w14]
    have e5 : (upd (upd (pf_w1 w a) (7 + t) (nI 0)) 6 (nI t)) 5 = w 5 + 1 := by rw [pk_un (by omega), pk_un (by omega), pf_w15]
    have e6 : (upd (upd (pf_w1 w a) (7 + t) (nI 0)) 6 (nI t)) 6 = nI t := pk_us
    have en : ∀ s, s < t → (upd (upd (pf_w1 w a) (7 + t) (nI 0)) 6 (nI t)) (7 + s) = w (7 + s) ∧ (upd (upd (pf_w1 w a) (7 + t) (nI 0)) 6 (nI t)) (9 + s) = w (9 + s) := by
      intro s hst
      constructor
      · rw [pk_un (by omega), pk_un (by omega), pf_w1n (by omega) (by omega)]
      · rw [pk_un (by omega), pk_un (by omega), pf_w1n (by omega) (by omega)]
    have er : ∀ i, i < 4 → (upd (upd (pf_w1 w a) (7 + t) (nI 0)) 6 (nI t)) i = w i := by
      intro i hi
      rw [pk_un (by omega), pk_un (by omega), pf_w1n (by omega) (by omega)]
    have eZ : pf_Z (upd (upd (pf_w1 w a) (7 + t) (nI 0)) 6 (nI t)) := pf_Zu (pf_Zu (pf_w1Z hz) (by omega)) (by omega)
    obtain ⟨P1, P2⟩ := pf_endB S hae e4 e6 en
    have h7 : w (7 + t) = nI 1 := by rw [r1, hk]
    refine ⟨(upd (upd (pf_w1 w a) (7 + t) (nI 0)) 6 (nI t)), c, _, Nat.lt_of_lt_of_le P2 hb, ⟨_, _, _, _, _, P1, Nat.le_refl _⟩, eZ, ⟨a, ha, s4⟩, e5, ?_, ?_, ?_⟩
    · intro post gb T b cX hT hc h1 h
      rw [s4]
      obtain rfl : cX = c := by
        rcases hc with z | z
        · exact z
        · exact z
      exact pf_xB (by omega) hop (by omega) s6 h7 (h T (by omega) (Nat.le_refl _))
    · intro post gb b cX h
      rw [s4]
      exact pf_xB (by omega) hop (by omega) s6 h7 (h _ eZ)
    · intro post rg lf hY h
      rw [s4]
      have hq := h rg (upd lf (o t) (nI 0)) ⟨fun i hi => (hY.1 i hi).trans (er i hi).symm, fun s d' q h6 hd' hst h9 hq => ?_⟩
      · rw [e4] at hq
        exact pf_yE (l := 0) (by omega) hop (by omega) (hO rg lf) (hlf rg lf hY) (by omega) (fun _ => hq) (fun z => absurd z (by omega))
      · rw [e6] at h6
        have hdd : t = d' := (nI_eq (by omega) (by omega)).mp h6
        have hn1 := en s (by omega)
        obtain ⟨L, v1, v2⟩ := sl s (by omega)
        rw [hn1.2] at h9
        have hqo : o s + 1 = q + 1 := (nI_eq (by have := L.2.2.1; omega) (by omega)).mp (v2.symm.trans h9)
        have hno := hne s (by omega)
        rw [hn1.1, pk_un (by omega)]
        exact hY.2 s (t + 1) q s6 sd (by omega) h9 hq
  · have e4 : (upd (upd (pf_w1 w a) (7 + t) (nI k)) 4 (nI (o t + 1))) 4 = nI (o t + 1) := pk_us
    have e5 : (upd (upd (pf_w1 w a) (7 + t) (nI k)) 4 (nI (o t + 1))) 5 = w 5 + 1 := by rw [pk_un (by omega), pk_un (by omega), pf_w15]
    have e6 : (upd (upd (pf_w1 w a) (7 + t) (nI k)) 4 (nI (o t + 1))) 6 = w 6 := by rw [pk_un (by omega), pk_un (by omega), pf_w1n (by omega) (by omega)]
    have e7 : (upd (upd (pf_w1 w a) (7 + t) (nI k)) 4 (nI (o t + 1))) (7 + t) = nI k := by rw [pk_un (by omega), pk_us]
    have e9 : (upd (upd (pf_w1 w a) (7 + t) (nI k)) 4 (nI (o t + 1))) (9 + t) = w (9 + t) := by rw [pk_un (by omega), pk_un (by omega), pf_w1n (by omega) (by omega)]
    have en : ∀ s, s < t → (upd (upd (pf_w1 w a) (7 + t) (nI k)) 4 (nI (o t + 1))) (7 + s) = w (7 + s) ∧ (upd (upd (pf_w1 w a) (7 + t) (nI k)) 4 (nI (o t + 1))) (9 + s) = w (9 + s) := by
      intro s hst
      constructor
      · rw [pk_un (by omega), pk_un (by omega), pf_w1n (by omega) (by omega)]
      · rw [pk_un (by omega), pk_un (by omega), pf_w1n (by omega) (by omega)]
    have er : ∀ i, i < 4 → (upd (upd (pf_w1 w a) (7 + t) (nI k)) 4 (nI (o t + 1))) i = w i := by
      intro i hi
      rw [pk_un (by omega), pk_un (by omega), pf_w1n (by omega) (by omega)]
    have eZ : pf_Z (upd (upd (pf_w1 w a) (7 + t) (nI k)) 4 (nI (o t + 1))) := pf_Zu (pf_Zu (pf_w1Z hz) (by omega)) (by omega)
    obtain ⟨P1, P2⟩ := pf_endA S hae (by omega) e4 e6 (by rw [e7, hk]; rfl) e9 en
    have h7 : w (7 + t) = nI (k + 1) := by rw [r1, hk]
    refine ⟨(upd (upd (pf_w1 w a) (7 + t) (nI k)) 4 (nI (o t + 1))), c, _, Nat.lt_of_lt_of_le P2 hb, ⟨_, _, _, _, _, P1, Nat.le_refl _⟩, eZ, ⟨a, ha, s4⟩, e5, ?_, ?_, ?_⟩
    · intro post gb T b cX hT hc h1 h
      rw [s4]
      obtain rfl : cX = c := by
        rcases hc with z | z
        · exact z
        · exact z
      exact pf_xA (by omega) hop (by omega) s6 h7 (by omega) (by omega) r2 (h T (by omega) (Nat.le_refl _))
    · intro post gb b cX h
      rw [s4]
      exact pf_xA (by omega) hop (by omega) s6 h7 (by omega) (by omega) r2 (h _ eZ)
    · intro post rg lf hY h
      rw [s4]
      have hq := h rg (upd lf (o t) (nI k)) ⟨fun i hi => (hY.1 i hi).trans (er i hi).symm, fun s d' q h6 hd' hst h9 hq => ?_⟩
      · rw [e4] at hq
        exact pf_yE (l := k) (by omega) hop (by omega) (hO rg lf) (hlf rg lf hY) (by omega) (fun z => absurd z hk0) (fun _ => hq)
      · rw [e6, s6] at h6
        have hdd : t + 1 = d' := (nI_eq (by omega) (by omega)).mp h6
        by_cases z : s = t
        · subst z
          rw [e9] at h9
          have hqo : o s + 1 = q + 1 := (nI_eq (by omega) (by omega)).mp (r2.symm.trans h9)
          obtain rfl : q = o s := by omega
          rw [e7, pk_us]
        · have hn1 := en s (by omega)
          obtain ⟨L, v1, v2⟩ := sl s (by omega)
          rw [hn1.2] at h9
          have hqo : o s + 1 = q + 1 := (nI_eq (by have := L.2.2.1; omega) (by omega)).mp (v2.symm.trans h9)
          have hno := hne s (by omega)
          rw [hn1.1, pk_un (by omega)]
          exact hY.2 s (t + 1) q s6 sd (by omega) h9 hq
end
/-- from a state that isn't the end: a step -/
theorem pf_step {n : Nat} {op ax ay az : Nat → Int32} (hn : n ≤ 30) (hs : pf_so op ay n) (hk : ∀ i, i < n → pf_ok (op i) (ax i) (ay i) (az i))
    (m : Nat) (w c : Nat → Int32) (hi : pf_iv op n w m) (hz : pf_Z w) (h : ¬ w 4 = nI n) : ∃ w' c' : Nat → Int32, ∃ m', m' < m ∧ pf_iv op n w' m' ∧ pf_Z w' ∧ pf_R n op ax ay az w c w' c' := by
  obtain ⟨a, d, o, e, l, S, hb⟩ := hi
  have ha : a < n := by
    have h1 := S.2.2.1
    by_cases z : a = n
    · rw [S.1, z] at h; exact absurd rfl h
    · omega
  obtain ⟨q, hq, hoq, hf⟩ := hk a ha
  rcases hf with rfl | ⟨rfl, x, hx1, hx6, hx⟩ | ⟨h8, ⟨r, hr, hx⟩, f1, f4, f6, f8⟩
  · exact pf_cE hs hn S hb hz ha hoq
  · exact pf_c9 hs hn S hb hz ha hoq hx hx1 hx6
  · have hc : q = 0 ∨ q = 1 ∨ q = 2 ∨ q = 3 ∨ q = 4 ∨ q = 5 ∨ q = 6 ∨ q = 7 ∨ q = 8 := by omega
    rcases hc with rfl | rfl | rfl | rfl | rfl | rfl | rfl | rfl | rfl
    · exact pf_c0 hn S hb hz ha hoq hx hr
    · obtain ⟨⟨s, hs1, hy⟩, t, ht, hzz⟩ := f1 (by omega) (by omega)
      exact pf_c1 hn S hb hz ha hoq hx hr hy hs1 hzz ht
    · obtain ⟨⟨s, hs1, hy⟩, t, ht, hzz⟩ := f1 (by omega) (by omega)
      exact pf_c2 hn S hb hz ha hoq hx hr hy hs1 hzz ht
    · obtain ⟨⟨s, hs1, hy⟩, t, ht, hzz⟩ := f1 (by omega) (by omega)
      exact pf_c3 hn S hb hz ha hoq hx hr hy hs1 hzz ht
    · obtain ⟨j, hj, hy⟩ := f4 (by omega) (by omega)
      exact pf_c4 hn S hb hz ha hoq hx hr hy hj
    · obtain ⟨j, hj, hy⟩ := f4 (by omega) (by omega)
      exact pf_c5 hn S hb hz ha hoq hx hr hy hj
    · obtain ⟨j, hj, hy⟩ := f6 (by omega) (by omega)
      exact pf_c6 hn S hb hz ha hoq hx hr hy hj
    · obtain ⟨j, hj, hy⟩ := f6 (by omega) (by omega)
      exact pf_c7 hn S hb hz ha hoq hx hr hy hj
    · obtain ⟨k, hk1, hk6, hy⟩ := f8 rfl
      exact pf_c8 hs hn S hb hz ha hoq hx hr hy hk6
