/-! banks, fills, the chain of steps -/
/-- the bank o of b with the first m words of w written -/
def pf_sv (b w : Nat → Int32) (o m : Nat) : Nat → Int32 := fun i => if 11 * o ≤ i ∧ i < 11 * o + m then w (i - 11 * o) else b i
theorem pf_sv0 (b w : Nat → Int32) (o : Nat) : pf_sv b w o 0 = b := by
  funext i
  exact if_neg (by omega)
theorem pf_svS (b w : Nat → Int32) (o m : Nat) : upd (pf_sv b w o m) (11 * o + m) (w m) = pf_sv b w o (m + 1) := by
  funext i
  show (if i = 11 * o + m then w m else if 11 * o ≤ i ∧ i < 11 * o + m then w (i - 11 * o) else b i) = if 11 * o ≤ i ∧ i < 11 * o + (m + 1) then w (i - 11 * o) else b i
  by_cases h : i = 11 * o + m
  · rw [if_pos h, if_pos (by omega), show i - 11 * o = m by omega]
  · rw [if_neg h]
    by_cases h2 : 11 * o ≤ i ∧ i < 11 * o + m
    · rw [if_pos h2, if_pos (by omega)]
    · rw [if_neg h2, if_neg (by omega)]
/-- the words of bank g -/
def pf_B (b : Nat → Int32) (g : Nat) : Nat → Int32 := fun i => if i < 11 then b (11 * g + i) else 0
def pf_Z (w : Nat → Int32) : Prop := ∀ i, 11 ≤ i → w i = 0
theorem pf_B_lo {b : Nat → Int32} {g i : Nat} (h : i < 11) : pf_B b g i = b (11 * g + i) := if_pos h
theorem pf_BZ (b : Nat → Int32) (g : Nat) : pf_Z (pf_B b g) := fun _ h => if_neg (by omega)
theorem pf_Bfull {b w : Nat → Int32} {o : Nat} (hz : pf_Z w) : pf_B (pf_sv b w o 11) o = w := by
  funext i
  show (if i < 11 then (if 11 * o ≤ 11 * o + i ∧ 11 * o + i < 11 * o + 11 then w (11 * o + i - 11 * o) else b (11 * o + i)) else 0) = w i
  by_cases h : i < 11
  · rw [if_pos h, if_pos (by omega), show 11 * o + i - 11 * o = i by omega]
  · rw [if_neg h, hz i (by omega)]
theorem pf_Bpart {b w : Nat → Int32} {g m : Nat} (hg : g ≤ 1) (hm : m ≤ 11) : pf_B (pf_sv b w (1 - g) m) g = pf_B b g := by
  funext i
  show (if i < 11 then (if 11 * (1 - g) ≤ 11 * g + i ∧ 11 * g + i < 11 * (1 - g) + m then w (11 * g + i - 11 * (1 - g)) else b (11 * g + i)) else 0) = if i < 11 then b (11 * g + i) else 0
  by_cases h : i < 11
  · rw [if_pos h, if_pos h, if_neg (by omega)]
  · rw [if_neg h, if_neg h]
theorem pf_Zu {w : Nat → Int32} {k : Nat} {x : Int32} (hz : pf_Z w) (hk : k < 11) : pf_Z (upd w k x) := by
  intro i hi
  rw [pk_un (by omega)]
  exact hz i hi
/-- the first m words of f taken from g -/
def pf_fl (f g : Nat → Int32) (m : Nat) : Nat → Int32 := fun i => if i < m then g i else f i
theorem pf_fl0 (f g : Nat → Int32) : pf_fl f g 0 = f := by
  funext i
  exact if_neg (by omega)
theorem pf_flS (f g : Nat → Int32) (m : Nat) : upd (pf_fl f g m) m (g m) = pf_fl f g (m + 1) := by
  funext i
  show (if i = m then g m else if i < m then g i else f i) = if i < m + 1 then g i else f i
  by_cases h : i = m
  · rw [if_pos h, if_pos (by omega), h]
  · rw [if_neg h]
    by_cases h2 : i < m
    · rw [if_pos h2, if_pos (by omega)]
    · rw [if_neg h2, if_neg (by omega)]
theorem pf_flo {f g : Nat → Int32} {m i : Nat} (h : i < m) : pf_fl f g m i = g i := if_pos h
theorem pf_fln {f g : Nat → Int32} {m i : Nat} (h : m ≤ i) : pf_fl f g m i = f i := if_neg (by omega)
theorem pf_flB {f b : Nat → Int32} {g : Nat} (hz : pf_Z f) : pf_fl f (fun i => b (11 * g + i)) 11 = pf_B b g := by
  funext i
  show (if i < 11 then b (11 * g + i) else f i) = if i < 11 then b (11 * g + i) else 0
  by_cases h : i < 11
  · rw [if_pos h, if_pos h]
  · rw [if_neg h, if_neg h, hz i (by omega)]
theorem pf_flZ {f g : Nat → Int32} {m : Nat} (hz : pf_Z f) (hm : m ≤ 11) : pf_Z (pf_fl f g m) := by
  intro i hi
  rw [pf_fln (by omega)]
  exact hz i hi
def pf_cons {α : Type} (x : α) (f : Nat → α) : Nat → α
  | 0 => x
  | j + 1 => f j
/-- from a state with a budget of m steps the steps lead to the program's end -/
theorem pf_chain {op : Nat → Int32} {n : Nat} (R : (Nat → Int32) → (Nat → Int32) → (Nat → Int32) → (Nat → Int32) → Prop)
    (hR : ∀ (m : Nat) (w c : Nat → Int32), pf_iv op n w m → pf_Z w → ¬ w 4 = nI n → ∃ w' c' : Nat → Int32, ∃ m', m' < m ∧ pf_iv op n w' m' ∧ pf_Z w' ∧ R w c w' c') :
    ∀ (m : Nat) (w c : Nat → Int32), pf_iv op n w m → pf_Z w → ∃ K, K ≤ m ∧ ∃ W C : Nat → Nat → Int32, W 0 = w ∧ C 0 = c ∧
      (∀ j, j < K → R (W j) (C j) (W (j + 1)) (C (j + 1))) ∧ W K 4 = nI n ∧ ∀ j, j ≤ K → pf_Z (W j) := by
  intro m
  induction m using Nat.strongRecOn with
  | ind m ih =>
    intro w c hi hz
    by_cases h : w 4 = nI n
    · exact ⟨0, by omega, fun _ => w, fun _ => c, rfl, rfl, fun j hj => absurd hj (by omega), h, fun _ _ => hz⟩
    · obtain ⟨w', c', m', hm, hi', hz', hr⟩ := hR m w c hi hz h
      obtain ⟨K, hK, W, C, h0, h1, h2, h3, h4⟩ := ih m' hm w' c' hi' hz'
      refine ⟨K + 1, by omega, pf_cons w W, pf_cons c C, rfl, rfl, fun j hj => ?_, h3, fun j hj => ?_⟩
      · match j with
        | 0 =>
          show R w c (W 0) (C 0)
          rw [h0, h1]
          exact hr
        | j + 1 => exact h2 j (by omega)
      · match j with
        | 0 => exact hz
        | j + 1 => exact h4 j (by omega)
