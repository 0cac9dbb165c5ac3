/-! the small walks of X: ticks, fills, wake, save -/
theorem pf_10 : ¬ (1 : Int32) = 0 := by decide
theorem pf_i11 (g i : Nat) : nI g * 11 + nI i = nI (11 * g + i) := by
  show nI g * nI 11 + nI i = _
  rw [pk_mul, nI_add, Nat.mul_comm]
theorem pf_m11 (g : Nat) : nI g * 11 = nI (11 * g) := by
  show nI g * nI 11 = _
  rw [pk_mul, Nat.mul_comm]
theorem pf_tick1 {post : Int32 → SX → Prop} {cn gb : Int32} {op ax ay az c b w : Nat → Int32} {T : Nat} (hT : T + 1 < 2 ^ 31)
    (h : post 1 (cn, gb, nI T, op, ax, ay, az, c, b, w)) : wpX_tick post (cn, gb, nI (T + 1), op, ax, ay, az, c, b, w) :=
  br_t (nI_lt (a := 0) (by omega) hT) (nm_r (nI_pred T) h)
theorem pf_00 : ¬ (0 : Int32) < nI 0 := by decide
theorem pf_tick0 {post : Int32 → SX → Prop} {cn gb : Int32} {op ax ay az c b w : Nat → Int32}
    (h : post 0 (cn, gb, nI 0, op, ax, ay, az, c, b, w)) : wpX_tick post (cn, gb, nI 0, op, ax, ay, az, c, b, w) :=
  br_f pf_00 h
theorem pf_forget {post : SX → Prop} {cn gb tl : Int32} {op ax ay az c b w : Nat → Int32}
    (h : post (cn, 0, tl, op, ax, ay, az, c, pf_fl b (fun _ => 0) 22, w)) : wpX_forgetBanks post (cn, gb, tl, op, ax, ay, az, c, b, w) := by
  have L : ∀ d i, i + d = 22 → wX_forgetBanks_2 post cn gb tl (d + 1) (nI i) op ax ay az c (pf_fl b (fun _ => 0) i) w := by
    intro d
    induction d with
    | zero =>
      intro i hi
      obtain rfl : i = 22 := by omega
      exact br_t (nI_le (a := 22) (by omega) (by decide)) h
    | succ d ih =>
      intro i hi
      refine br_f (nI_ge (b := 22) (by omega) (by decide)) ⟨vp_in_nI (by omega) (by decide), nm_r (e' := pf_fl b (fun _ => 0) (i + 1)) ?_ (nm_r (nI_1 i) (ih (i + 1) (by omega)))⟩
      rw [nI_clamp (by omega)]
      exact pf_flS b (fun _ => 0) i
  have := L 22 0 (by omega)
  rw [pf_fl0, nI_0] at this
  exact ⟨_, this⟩
theorem pf_lose {post : SX → Prop} {cn gb tl : Int32} {op ax ay az c b w : Nat → Int32}
    (h : post (cn, gb, 0, op, ax, ay, az, c, b, pf_fl w (fun _ => 0) 11)) : wpX_losePower post (cn, gb, tl, op, ax, ay, az, c, b, w) := by
  have L : ∀ d i, i + d = 11 → wX_losePower_7 post cn gb 0 (d + 1) (nI i) op ax ay az c b (pf_fl w (fun _ => 0) i) := by
    intro d
    induction d with
    | zero =>
      intro i hi
      obtain rfl : i = 11 := by omega
      exact br_t (nI_le (a := 11) (by omega) (by decide)) h
    | succ d ih =>
      intro i hi
      refine br_f (nI_ge (b := 11) (by omega) (by decide)) ⟨vp_in_nI (by omega) (by decide), nm_r (e' := pf_fl w (fun _ => 0) (i + 1)) ?_ (nm_r (nI_1 i) (ih (i + 1) (by omega)))⟩
      rw [nI_clamp (by omega)]
      exact pf_flS w (fun _ => 0) i
  have := L 11 0 (by omega)
  rw [pf_fl0, nI_0] at this
  exact ⟨_, this⟩
/-- with twelve ticks the machine wakes -/
theorem pf_wake {post : SX → Prop} {cn : Int32} {op ax ay az c b w : Nat → Int32} {g T : Nat} (hg : g ≤ 1) (hT : T + 12 < 2 ^ 31)
    (h : post (cn, nI g, nI T, op, ax, ay, az, c, b, pf_fl w (fun i => b (11 * g + i)) 11)) : wpX_wake post (cn, nI g, nI (T + 12), op, ax, ay, az, c, b, w) := by
  have L : ∀ d i t, i + d = 11 → t = T + d → wX_wake_21 post (nI (11 * g)) (d + 1) (nI i) cn (nI g) (nI t) op ax ay az c b (pf_fl w (fun i => b (11 * g + i)) i) := by
    intro d
    induction d with
    | zero =>
      intro i t hi ht
      obtain rfl : i = 11 := by omega
      obtain rfl : t = T := by omega
      exact br_t (nI_le (a := 11) (by omega) (by decide)) h
    | succ d ih =>
      intro i t hi ht
      obtain ⟨s, rfl⟩ : ∃ s, t = s + 1 := ⟨t - 1, by omega⟩
      refine br_f (nI_ge (b := 11) (by omega) (by decide)) (pf_tick1 (by omega) (br_f pf_10 ⟨?_, vp_in_nI (by omega) (by decide), nm_r (e' := pf_fl w (fun i => b (11 * g + i)) (i + 1)) ?_ (nm_r (nI_1 i) (ih (i + 1) s (by omega) (by omega)))⟩))
      · rw [nI_add]
        exact vp_in_nI (by omega) (by decide)
      · rw [nI_add, nI_clamp (by omega), nI_clamp (by omega)]
        exact pf_flS w (fun i => b (11 * g + i)) i
  have := L 11 0 (T + 11) (by omega) (by omega)
  rw [pf_fl0, nI_0] at this
  unfold wpX_wake
  refine pf_tick1 (T := T + 11) (by omega) ?_
  exact br_f pf_10 (nm_r (pf_m11 g) ⟨_, this⟩)
/-- save's loop without a tick -/
theorem pf_save0 {post : SX → Prop} {cn gb x1 : Int32} {op ax ay az c b w : Nat → Int32}
    (h : post (cn, gb, nI 0, op, ax, ay, az, c, b, w)) : ∀ d i, i + d = 11 → wX_save_20 post x1 (d + 1) (nI i) cn gb (nI 0) op ax ay az c b w := by
  intro d
  induction d with
  | zero =>
    intro i hi
    obtain rfl : i = 11 := by omega
    exact br_t (nI_le (a := 11) (by omega) (by decide)) (pf_tick0 (br_t rfl h))
  | succ d ih =>
    intro i hi
    exact br_f (nI_ge (b := 11) (by omega) (by decide)) (pf_tick0 (br_t rfl (nm_r (nI_1 i) (ih (i + 1) (by omega)))))
/-- .. with ticks for every word and the last -/
theorem pf_save1 {post : SX → Prop} {cn gb : Int32} {op ax ay az c b w : Nat → Int32} {o T : Nat} (ho : o ≤ 1) (hT : T + 12 < 2 ^ 31)
    (h : post (cn, nI o, nI T, op, ax, ay, az, c, pf_sv b w o 11, w)) : ∀ d i t, i + d = 11 → t = T + d + 1 → wX_save_20 post (nI o) (d + 1) (nI i) cn gb (nI t) op ax ay az c (pf_sv b w o i) w := by
  intro d
  induction d with
  | zero =>
    intro i t hi ht
    obtain rfl : i = 11 := by omega
    obtain rfl : t = T + 1 := by omega
    exact br_t (nI_le (a := 11) (by omega) (by decide)) (pf_tick1 (by omega) (br_f pf_10 h))
  | succ d ih =>
    intro i t hi ht
    obtain ⟨s, rfl⟩ : ∃ s, t = s + 1 := ⟨t - 1, by omega⟩
    refine br_f (nI_ge (b := 11) (by omega) (by decide)) (pf_tick1 (by omega) (br_f pf_10 ⟨vp_in_nI (by omega) (by decide), ?_, nm_r (e' := pf_sv b w o (i + 1)) ?_ (nm_r (nI_1 i) (ih (i + 1) s (by omega) (by omega)))⟩))
    · rw [pf_i11]
      exact vp_in_nI (by omega) (by decide)
    · rw [pf_i11, nI_clamp (by omega), nI_clamp (by omega)]
      exact pf_svS b w o i
/-- .. with too few -/
theorem pf_save2 {post : SX → Prop} {cn gb : Int32} {op ax ay az c b w : Nat → Int32} {o : Nat} (ho : o ≤ 1) :
    ∀ d i t, i + d = 11 → t ≤ d → post (cn, gb, nI 0, op, ax, ay, az, c, pf_sv b w o (i + t), w) → wX_save_20 post (nI o) (d + 1) (nI i) cn gb (nI t) op ax ay az c (pf_sv b w o i) w := by
  intro d
  induction d with
  | zero =>
    intro i t hi ht h
    obtain rfl : t = 0 := by omega
    exact pf_save0 h 0 i hi
  | succ d ih =>
    intro i t hi ht h
    by_cases z : t = 0
    · subst z
      exact pf_save0 h (d + 1) i hi
    · obtain ⟨s, rfl⟩ : ∃ s, t = s + 1 := ⟨t - 1, by omega⟩
      have h' : post (cn, gb, nI 0, op, ax, ay, az, c, pf_sv b w o (i + 1 + s), w) := by
        rw [show i + 1 + s = i + (s + 1) by omega]
        exact h
      refine br_f (nI_ge (b := 11) (by omega) (by decide)) (pf_tick1 (by omega) (br_f pf_10 ⟨vp_in_nI (by omega) (by decide), ?_, nm_r (e' := pf_sv b w o (i + 1)) ?_ (nm_r (nI_1 i) (ih (i + 1) s (by omega) (by omega) h'))⟩))
      · rw [pf_i11]
        exact vp_in_nI (by omega) (by decide)
      · rw [pf_i11, nI_clamp (by omega), nI_clamp (by omega)]
        exact pf_svS b w o i
/-- save: it is cut off and the good bank stays, or the other bank holds the words and is the good one -/
theorem pf_save {post : SX → Prop} {cn : Int32} {op ax ay az c b w : Nat → Int32} {g t : Nat} (hg : g ≤ 1) (ht : t < 2 ^ 31) (hz : pf_Z w)
    (h0 : ∀ b', t < 13 → pf_B b' g = pf_B b g → post (cn, nI g, nI 0, op, ax, ay, az, c, b', w))
    (h1 : ∀ b', 13 ≤ t → pf_B b' (1 - g) = w → post (cn, nI (1 - g), nI (t - 13), op, ax, ay, az, c, b', w)) :
    wpX_save post (cn, nI g, nI t, op, ax, ay, az, c, b, w) := by
  by_cases z : t = 0
  · subst z
    have := pf_save0 (x1 := 0) (h0 b (by omega) rfl) 11 0 (by omega)
    unfold wpX_save
    refine pf_tick0 ?_
    exact br_t rfl ⟨_, this⟩
  · obtain ⟨s, rfl⟩ : ∃ s, t = s + 1 := ⟨t - 1, by omega⟩
    by_cases z2 : s ≤ 11
    · have e : 0 + s = s := by omega
      have := pf_save2 (post := post) (cn := cn) (gb := nI g) (op := op) (ax := ax) (ay := ay) (az := az) (c := c) (b := b) (w := w) (o := 1 - g) (by omega) 11 0 s (by omega) z2 (by rw [e]; exact h0 _ (by omega) (pf_Bpart hg z2))
      rw [pf_sv0] at this
      unfold wpX_save
      refine pf_tick1 (by omega) ?_
      exact br_f pf_10 (nm_r (pk_sub (a := 1) hg) ⟨_, this⟩)
    · have h := h1 (pf_sv b w (1 - g) 11) (by omega) (pf_Bfull hz)
      have := pf_save1 (gb := nI g) (by omega) (by omega) h 11 0 s (by omega) (by omega)
      rw [pf_sv0] at this
      unfold wpX_save
      refine pf_tick1 (by omega) ?_
      exact br_f pf_10 (nm_r (pk_sub (a := 1) hg) ⟨_, this⟩)
