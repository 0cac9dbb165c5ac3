section
/-! rows of kit/rows, pasted -/
theorem pk_us {f : Nat → Int32} {k : Nat} {x : Int32} : upd f k x k = x := if_pos rfl
theorem pk_un {f : Nat → Int32} {k j : Nat} {x : Int32} (h : j ≠ k) : upd f k x j = f j := if_neg h
theorem pk_sub {a b : Nat} (h : b ≤ a) : nI a - nI b = nI (a - b) := by
  obtain ⟨c, rfl⟩ : ∃ c, a = c + b := ⟨a - b, by omega⟩
  rw [← nI_add, Int32.add_sub_cancel, Nat.add_sub_cancel]
theorem pk_m1 (n : Nat) : nI (n + 1) + (-1) = nI n := by
  rw [← nI_1, Int32.add_assoc, show (1 : Int32) + (-1) = 0 from rfl, Int32.add_zero]
theorem pk_ix (x : Int32) {n : Nat} (hn : n < 2 ^ 31) : x < 0 ∨ nI n ≤ x ∨ ∃ j : Nat, j < n ∧ x = nI j := by
  by_cases h : x < 0
  · exact Or.inl h
  · obtain ⟨j, hj, rfl⟩ := nI_of h
    by_cases h2 : j < n
    · exact Or.inr (Or.inr ⟨j, h2, rfl⟩)
    · exact Or.inr (Or.inl (nI_le (by omega) hj))
theorem pk_le {x y : Int32} {A B : Prop} (a b : Nat) (f : a ≤ b → A) (g : b < a → B) (hx : x = nI a := by rfl) (hy : y = nI b := by rfl) (ha : a < 2 ^ 31 := by omega) (hb : b < 2 ^ 31 := by omega) : (x ≤ y → A) ∧ (¬ x ≤ y → B) := by
  subst hx hy
  rw [nI_leI ha hb]
  exact ⟨f, fun z => g (by omega)⟩
theorem pk_lt {x y : Int32} {A B : Prop} (a b : Nat) (f : a < b → A) (g : b ≤ a → B) (hx : x = nI a := by rfl) (hy : y = nI b := by rfl) (ha : a < 2 ^ 31 := by omega) (hb : b < 2 ^ 31 := by omega) : (x < y → A) ∧ (¬ x < y → B) := by
  subst hx hy
  rw [nI_ltI ha hb]
  exact ⟨f, fun z => g (by omega)⟩
theorem pk_eq {x y : Int32} {A B : Prop} (a b : Nat) (f : a = b → A) (g : a ≠ b → B) (hx : x = nI a := by rfl) (hy : y = nI b := by rfl) (ha : a < 2 ^ 31 := by omega) (hb : b < 2 ^ 31 := by omega) : (x = y → A) ∧ (¬ x = y → B) := by
  subst hx hy
  rw [nI_eq ha hb]
  exact ⟨f, g⟩
theorem pk_in {x : Int32} (n N : Nat) (h : n < N) (hx : x = nI n := by rfl) (hN : N < 2 ^ 31 := by omega) : vp_in x N := by
  subst hx
  exact vp_in_nI h hN
theorem pk_cl {x : Int32} (n : Nat) (hx : x = nI n := by rfl) (h : n < 2 ^ 31 := by omega) : x.toNatClampNeg = n := by
  subst hx
  exact nI_clamp h
theorem pk_tn {n : Nat} (h : n < 2 ^ 32) : (nI n).toBitVec.toNat = n := Nat.mod_eq_of_lt h
theorem pk_and (x : Int32) {m : Int32} (k : Nat) (hm : m.toBitVec.toNat = 2 ^ k - 1) : x &&& m = nI (x.toBitVec.toNat % 2 ^ k) := by
  apply Int32.toBitVec_inj.mp
  apply BitVec.eq_of_toNat_eq
  rw [Int32.toBitVec_and, BitVec.toNat_and, hm, Nat.and_two_pow_sub_one_eq_mod]
  show _ = (BitVec.ofNat 32 _).toNat
  rw [BitVec.toNat_ofNat]
  exact (Nat.mod_eq_of_lt (Nat.lt_of_le_of_lt (Nat.mod_le _ _) x.toBitVec.isLt)).symm
theorem pk_andE (x : Int32) {m : Int32} (k : Nat) (hm : m.toBitVec.toNat = 2 ^ k - 1) : ∃ j : Nat, j < 2 ^ k ∧ x &&& m = nI j := ⟨_, Nat.mod_lt _ (Nat.two_pow_pos k), pk_and x k hm⟩
theorem pk_andIn (x : Int32) {m : Int32} (k : Nat) (hm : m.toBitVec.toNat = 2 ^ k - 1) (hk : k ≤ 30) : vp_in (x &&& m) (2 ^ k) := by
  obtain ⟨j, hj, e⟩ := pk_andE x k hm
  rw [e]
  exact vp_in_nI hj (Nat.lt_of_le_of_lt (Nat.pow_le_pow_right (by decide) hk) (by decide))
theorem pk_least (P : Nat → Prop) (h : ∃ k, P k) : ∃ k, P k ∧ ∀ j, j < k → ¬ P j := by
  obtain ⟨k, hk⟩ := h
  induction k using Nat.strongRecOn with
  | ind k ih =>
    by_cases e : ∃ j, j < k ∧ P j
    · obtain ⟨j, hj, pj⟩ := e
      exact ih j hj pj
    · exact ⟨k, hk, fun j hj pj => e ⟨j, hj, pj⟩⟩
theorem pk_mul (a b : Nat) : nI a * nI b = nI (a * b) := (Int32.ofNat_mul a b).symm
end
section
/-! the program as it is read: depths, soundness, operands; nothing printed is named here -/
/-- how many loops are open ahead of place i -/
def pf_dp (op : Nat → Int32) : Nat → Int
  | 0 => 0
  | i + 1 => if op i = 9 then pf_dp op i + 1 else if op i = 10 then pf_dp op i - 1 else pf_dp op i
theorem pf_910 : ¬ (10 : Int32) = 9 := by decide
theorem pf_109 : ¬ (9 : Int32) = 10 := by decide
theorem pf_dp9 {op : Nat → Int32} {i : Nat} (h : op i = 9) : pf_dp op (i + 1) = pf_dp op i + 1 := by
  rw [pf_dp, if_pos h]
theorem pf_dp10 {op : Nat → Int32} {i : Nat} (h : op i = 10) : pf_dp op (i + 1) = pf_dp op i - 1 := by
  have h9 : ¬ op i = 9 := by rw [h]; exact pf_910
  rw [pf_dp, if_neg h9, if_pos h]
theorem pf_dpo {op : Nat → Int32} {i : Nat} (h9 : ¬ op i = 9) (h10 : ¬ op i = 10) : pf_dp op (i + 1) = pf_dp op i := by
  rw [pf_dp, if_neg h9, if_neg h10]
theorem pf_dpm (op : Nat → Int32) (i : Nat) : pf_dp op i - 1 ≤ pf_dp op (i + 1) := by
  by_cases h9 : op i = 9
  · rw [pf_dp9 h9]; omega
  · by_cases h10 : op i = 10
    · rw [pf_dp10 h10]; omega
    · rw [pf_dpo h9 h10]; omega
theorem pf_dpr {op : Nat → Int32} {a : Nat} : ∀ k, (∀ j, a ≤ j → j < a + k → ¬ op j = 9 ∧ ¬ op j = 10) → pf_dp op (a + k) = pf_dp op a := by
  intro k
  induction k with
  | zero => intro _; rfl
  | succ k ih =>
    intro h
    have h1 := h (a + k) (by omega) (by omega)
    have h2 : pf_dp op (a + k + 1) = pf_dp op (a + k) := pf_dpo h1.1 h1.2
    rw [← Nat.add_assoc, h2]
    exact ih (fun j ha hj => h j ha (by omega))
/-- a sound program -/
def pf_so (op ay : Nat → Int32) (n : Nat) : Prop :=
  (∀ i, i ≤ n → 0 ≤ pf_dp op i ∧ pf_dp op i ≤ 2) ∧ pf_dp op n = 0 ∧
  ∀ i m, i < n → op i = 8 → m ≤ 6 → ay i = nI m → i + m < n ∧ ∀ j, i < j → j ≤ i + m → ¬ op j = 9 ∧ ¬ op j = 10
/-- an instruction whose operands fit, by its code q -/
def pf_fit (q : Nat) (x y z : Int32) : Prop :=
  q = 10 ∨ (q = 9 ∧ ∃ m, 1 ≤ m ∧ m ≤ 6 ∧ x = nI m) ∨
  (q ≤ 8 ∧ (∃ r, r < 4 ∧ x = nI r) ∧ (1 ≤ q → q ≤ 3 → (∃ s, s < 4 ∧ y = nI s) ∧ ∃ t, t < 4 ∧ z = nI t) ∧
    (4 ≤ q → q ≤ 5 → ∃ c, c < 12 ∧ y = nI c) ∧ (6 ≤ q → q ≤ 7 → ∃ s, s < 4 ∧ y = nI s) ∧
    (q = 8 → ∃ m, 1 ≤ m ∧ m ≤ 6 ∧ y = nI m))
def pf_ok (o x y z : Int32) : Prop := ∃ q : Nat, q ≤ 10 ∧ o = nI q ∧ pf_fit q x y z
/-- the END of the LOOP at a -/
theorem pf_end {op ay : Nat → Int32} {n a d : Nat} (hs : pf_so op ay n) (ha : a < n) (h9 : op a = 9) (hd : pf_dp op a = d) :
    ∃ e, a < e ∧ e < n ∧ op e = 10 ∧ pf_dp op (e + 1) = d ∧ ∀ j, a < j → j ≤ e → (d : Int) + 1 ≤ pf_dp op j := by
  obtain ⟨k, ⟨hk1, hk2⟩, hk3⟩ := pk_least (fun j => a < j ∧ pf_dp op j ≤ d) ⟨n, ha, by rw [hs.2.1]; omega⟩
  have hkn : k ≤ n := by
    by_cases z : k ≤ n
    · exact z
    · exact absurd ⟨ha, by rw [hs.2.1]; omega⟩ (hk3 n (by omega))
  have h1 : pf_dp op (a + 1) = d + 1 := by rw [pf_dp9 h9, hd]
  have hk4 : k ≠ a + 1 := by
    intro z; rw [z, h1] at hk2; omega
  obtain ⟨e, rfl⟩ : ∃ e, k = e + 1 := ⟨k - 1, by omega⟩
  have hj : ∀ j, a < j → j ≤ e → (d : Int) + 1 ≤ pf_dp op j := by
    intro j hj1 hj2
    by_cases z : pf_dp op j ≤ d
    · exact absurd ⟨hj1, z⟩ (hk3 j (by omega))
    · omega
  have he := hj e (by omega) (by omega)
  have hm := pf_dpm op e
  have h9e : ¬ op e = 9 := by
    intro z; rw [pf_dp9 z] at hk2; omega
  have h10e : op e = 10 := by
    by_cases z : op e = 10
    · exact z
    · rw [pf_dpo h9e z] at hk2; omega
  exact ⟨e, by omega, by omega, h10e, by omega, hj⟩
/-- an open loop of depth t, seen from place a: LOOP at o, END at e, l passes to go -/
def pf_lp (op : Nat → Int32) (n a t o e l : Nat) : Prop :=
  op o = 9 ∧ pf_dp op o = t ∧ o < a ∧ a ≤ e ∧ e < n ∧ op e = 10 ∧ pf_dp op (e + 1) = t ∧
  (∀ j, o < j → j ≤ e → (t : Int) + 1 ≤ pf_dp op j) ∧ 1 ≤ l ∧ l ≤ 6
/-- the machine's words w at place a with d loops open -/
def pf_st (op : Nat → Int32) (n : Nat) (w : Nat → Int32) (a d : Nat) (o e l : Nat → Nat) : Prop :=
  w 4 = nI a ∧ w 6 = nI d ∧ a ≤ n ∧ d ≤ 2 ∧ pf_dp op a = d ∧
  ∀ t, t < d → pf_lp op n a t (o t) (e t) (l t) ∧ w (7 + t) = nI (l t) ∧ w (9 + t) = nI (o t + 1)
/-- a bound on the steps that are left -/
def pf_bu (n a d : Nat) (o e l : Nat → Nat) : Nat :=
  if d = 0 then 36 * (n - a)
  else if d = 1 then 6 * (e 0 + 1 - a) + (l 0 - 1) * (6 * (e 0 - o 0)) + 36 * (n - (e 0 + 1))
  else (e 1 + 1 - a) + (l 1 - 1) * (e 1 - o 1) + 6 * (e 0 - e 1) + (l 0 - 1) * (6 * (e 0 - o 0)) + 36 * (n - (e 0 + 1))
theorem pf_bu0 (n a : Nat) (o e l : Nat → Nat) : pf_bu n a 0 o e l = 36 * (n - a) := rfl
theorem pf_bu1 (n a : Nat) (o e l : Nat → Nat) : pf_bu n a 1 o e l = 6 * (e 0 + 1 - a) + (l 0 - 1) * (6 * (e 0 - o 0)) + 36 * (n - (e 0 + 1)) := rfl
theorem pf_bu2 (n a : Nat) (o e l : Nat → Nat) : pf_bu n a 2 o e l = (e 1 + 1 - a) + (l 1 - 1) * (e 1 - o 1) + 6 * (e 0 - e 1) + (l 0 - 1) * (6 * (e 0 - o 0)) + 36 * (n - (e 0 + 1)) := rfl
def pf_iv (op : Nat → Int32) (n : Nat) (w : Nat → Int32) (m : Nat) : Prop :=
  ∃ (a d : Nat) (o e l : Nat → Nat), pf_st op n w a d o e l ∧ pf_bu n a d o e l ≤ m
/-- a step to a later place a' behind no LOOP and no END -/
theorem pf_plain {op : Nat → Int32} {n a d : Nat} {w w' : Nat → Int32} {o e l : Nat → Nat} (S : pf_st op n w a d o e l) (a' : Nat)
    (h1 : a < a') (h2 : a' ≤ n) (hp : ∀ j, a ≤ j → j < a' → ¬ op j = 9 ∧ ¬ op j = 10)
    (e4 : w' 4 = nI a') (hw : ∀ i, 6 ≤ i → i ≤ 10 → w' i = w i) :
    pf_st op n w' a' d o e l ∧ pf_bu n a' d o e l < pf_bu n a d o e l := by
  obtain ⟨s4, s6, sn, sd, sp, sl⟩ := S
  have hdp : pf_dp op a' = pf_dp op a := by
    obtain ⟨k, rfl⟩ : ∃ k, a' = a + k := ⟨a' - a, by omega⟩
    exact pf_dpr k hp
  have he : ∀ t, t < d → a' ≤ e t := by
    intro t ht
    obtain ⟨⟨q1, q2, q3, q4, q5, q6, q7, q8, q9, q10⟩, r1, r2⟩ := sl t ht
    by_cases z : a' ≤ e t
    · exact z
    · exact absurd q6 (hp (e t) q4 (by omega)).2
  refine ⟨⟨e4, (hw 6 (by omega) (by omega)).trans s6, h2, sd, hdp.trans sp, fun t ht => ?_⟩, ?_⟩
  · obtain ⟨⟨q1, q2, q3, q4, q5, q6, q7, q8, q9, q10⟩, r1, r2⟩ := sl t ht
    exact ⟨⟨q1, q2, by omega, he t ht, q5, q6, q7, q8, q9, q10⟩, (hw (7 + t) (by omega) (by omega)).trans r1, (hw (9 + t) (by omega) (by omega)).trans r2⟩
  · have hd : d = 0 ∨ d = 1 ∨ d = 2 := by omega
    rcases hd with rfl | rfl | rfl
    · rw [pf_bu0, pf_bu0]; omega
    · have h := he 0 (by omega)
      rw [pf_bu1, pf_bu1]; omega
    · have h := he 1 (by omega)
      rw [pf_bu2, pf_bu2]; omega
def pf_un (f : Nat → Nat) (k x : Nat) : Nat → Nat := fun j => if j = k then x else f j
theorem pf_uns {f : Nat → Nat} {k x : Nat} : pf_un f k x k = x := if_pos rfl
theorem pf_unn {f : Nat → Nat} {k x j : Nat} (h : j ≠ k) : pf_un f k x j = f j := if_neg h
theorem pf_m5 {x q : Nat} (h : x ≤ 6) : (x - 1) * q ≤ 5 * q := Nat.mul_le_mul_right q (by omega)
theorem pf_mm {x q : Nat} (h : 2 ≤ x) : (x - 1) * q = q + (x - 1 - 1) * q := by
  obtain ⟨y, rfl⟩ : ∃ y, x = y + 2 := ⟨x - 2, by omega⟩
  show (y + 1) * q = q + y * q
  rw [Nat.succ_mul, Nat.add_comm]
/-- a LOOP is opened -/
theorem pf_loopS {op ay : Nat → Int32} {n a d x : Nat} {w w' : Nat → Int32} {o e l : Nat → Nat} (hs : pf_so op ay n) (S : pf_st op n w a d o e l)
    (ha : a < n) (h9 : op a = 9) (hx1 : 1 ≤ x) (hx6 : x ≤ 6) (e4 : w' 4 = nI (a + 1)) (e6 : w' 6 = nI (d + 1)) (e7 : w' (7 + d) = nI x)
    (e9 : w' (9 + d) = nI (a + 1)) (hw : ∀ t, t < d → w' (7 + t) = w (7 + t) ∧ w' (9 + t) = w (9 + t)) :
    ∃ e2, pf_st op n w' (a + 1) (d + 1) (pf_un o d a) (pf_un e d e2) (pf_un l d x) ∧
      pf_bu n (a + 1) (d + 1) (pf_un o d a) (pf_un e d e2) (pf_un l d x) < pf_bu n a d o e l := by
  obtain ⟨s4, s6, sn, sd, sp, sl⟩ := S
  obtain ⟨e2, g1, g2, g3, g4, g5⟩ := pf_end hs ha h9 sp
  have hd1 : pf_dp op (a + 1) = d + 1 := by rw [pf_dp9 h9, sp]
  have hd2 := (hs.1 (a + 1) (by omega)).2
  have he : ∀ t, t < d → a + 1 ≤ e t := by
    intro t ht
    obtain ⟨⟨q1, q2, q3, q4, q5, q6, q7, q8, q9, q10⟩, r1, r2⟩ := sl t ht
    have z : e t ≠ a := by
      intro z; rw [z, h9] at q6; exact pf_109 q6
    omega
  refine ⟨e2, ⟨e4, e6, by omega, by omega, by omega, fun t ht => ?_⟩, ?_⟩
  · by_cases z : t = d
    · subst z
      rw [pf_uns, pf_uns, pf_uns]
      exact ⟨⟨h9, sp, by omega, by omega, g2, g3, g4, g5, hx1, hx6⟩, e7, e9⟩
    · rw [pf_unn z, pf_unn z, pf_unn z]
      obtain ⟨⟨q1, q2, q3, q4, q5, q6, q7, q8, q9, q10⟩, r1, r2⟩ := sl t (by omega)
      have hh := hw t (by omega)
      exact ⟨⟨q1, q2, by omega, he t (by omega), q5, q6, q7, q8, q9, q10⟩, hh.1.trans r1, hh.2.trans r2⟩
  · have hd : d = 0 ∨ d = 1 := by omega
    rcases hd with rfl | rfl
    · rw [pf_bu0, pf_bu1, pf_uns, pf_uns, pf_uns]
      have := pf_m5 (q := 6 * (e2 - a)) hx6
      omega
    · obtain ⟨⟨q1, q2, q3, q4, q5, q6, q7, q8, q9, q10⟩, r1, r2⟩ := sl 0 (by omega)
      have z1 : e2 < e 0 := by
        by_cases z : e 0 + 1 ≤ e2
        · have := g5 (e 0 + 1) (by omega) z
          omega
        · by_cases z2 : e2 = e 0
          · rw [z2, q7] at g4; omega
          · omega
      rw [pf_bu1, pf_bu2, pf_uns, pf_uns, pf_uns, pf_unn (by omega), pf_unn (by omega), pf_unn (by omega)]
      have := pf_m5 (q := e2 - a) hx6
      omega
/-- at an END: it is the innermost loop's -/
theorem pf_endS {op ay : Nat → Int32} {n a d : Nat} {w : Nat → Int32} {o e l : Nat → Nat} (hs : pf_so op ay n) (S : pf_st op n w a d o e l)
    (ha : a < n) (h10 : op a = 10) : ∃ t, d = t + 1 ∧ a = e t := by
  obtain ⟨s4, s6, sn, sd, sp, sl⟩ := S
  have hd1 : pf_dp op (a + 1) = d - 1 := by rw [pf_dp10 h10, sp]
  have hd2 := (hs.1 (a + 1) (by omega)).1
  obtain ⟨t, rfl⟩ : ∃ t, d = t + 1 := ⟨d - 1, by omega⟩
  refine ⟨t, rfl, ?_⟩
  obtain ⟨⟨q1, q2, q3, q4, q5, q6, q7, q8, q9, q10⟩, r1, r2⟩ := sl t (by omega)
  by_cases z : a = e t
  · exact z
  · have := q8 (a + 1) (by omega) (by omega)
    omega
/-- .. another pass -/
theorem pf_endA {op : Nat → Int32} {n a t : Nat} {w w' : Nat → Int32} {o e l : Nat → Nat} (S : pf_st op n w a (t + 1) o e l)
    (hae : a = e t) (hl : 2 ≤ l t) (e4 : w' 4 = nI (o t + 1)) (e6 : w' 6 = w 6) (e7 : w' (7 + t) = nI (l t - 1)) (e9 : w' (9 + t) = w (9 + t))
    (hw : ∀ s, s < t → w' (7 + s) = w (7 + s) ∧ w' (9 + s) = w (9 + s)) :
    pf_st op n w' (o t + 1) (t + 1) o e (pf_un l t (l t - 1)) ∧ pf_bu n (o t + 1) (t + 1) o e (pf_un l t (l t - 1)) < pf_bu n a (t + 1) o e l := by
  obtain ⟨s4, s6, sn, sd, sp, sl⟩ := S
  obtain ⟨⟨q1, q2, q3, q4, q5, q6, q7, q8, q9, q10⟩, r1, r2⟩ := sl t (by omega)
  have hord : ∀ s, s < t → o s < o t := by
    intro s hst
    obtain ⟨⟨p1, p2, p3, p4, p5, p6, p7, p8, p9, p10⟩, _, _⟩ := sl s (by omega)
    by_cases z : o s < o t
    · exact z
    · by_cases z2 : o s = o t
      · rw [z2, q2] at p2; omega
      · have := q8 (o s) (by omega) (by omega)
        omega
  refine ⟨⟨e4, e6.trans s6, by omega, sd, by have := pf_dp9 q1; omega, fun s hst => ?_⟩, ?_⟩
  · by_cases z : s = t
    · subst z
      rw [pf_uns]
      exact ⟨⟨q1, q2, by omega, by omega, q5, q6, q7, q8, by omega, by omega⟩, e7, e9.trans r2⟩
    · rw [pf_unn z]
      obtain ⟨⟨p1, p2, p3, p4, p5, p6, p7, p8, p9, p10⟩, v1, v2⟩ := sl s (by omega)
      have hh := hw s (by omega)
      have ho := hord s (by omega)
      exact ⟨⟨p1, p2, by omega, by omega, p5, p6, p7, p8, p9, p10⟩, hh.1.trans v1, hh.2.trans v2⟩
  · have ht : t = 0 ∨ t = 1 := by omega
    rcases ht with rfl | rfl
    · rw [pf_bu1, pf_bu1, pf_uns]
      have := pf_mm (q := 6 * (e 0 - o 0)) hl
      omega
    · rw [pf_bu2, pf_bu2, pf_uns, pf_unn (by omega)]
      have := pf_mm (q := e 1 - o 1) hl
      omega
/-- .. the last pass -/
theorem pf_endB {op : Nat → Int32} {n a t : Nat} {w w' : Nat → Int32} {o e l : Nat → Nat} (S : pf_st op n w a (t + 1) o e l)
    (hae : a = e t) (e4 : w' 4 = nI (a + 1)) (e6 : w' 6 = nI t)
    (hw : ∀ s, s < t → w' (7 + s) = w (7 + s) ∧ w' (9 + s) = w (9 + s)) :
    pf_st op n w' (a + 1) t o e l ∧ pf_bu n (a + 1) t o e l < pf_bu n a (t + 1) o e l := by
  obtain ⟨s4, s6, sn, sd, sp, sl⟩ := S
  obtain ⟨⟨q1, q2, q3, q4, q5, q6, q7, q8, q9, q10⟩, r1, r2⟩ := sl t (by omega)
  have he : ∀ s, s < t → a + 1 ≤ e s := by
    intro s hst
    obtain ⟨⟨p1, p2, p3, p4, p5, p6, p7, p8, p9, p10⟩, _, _⟩ := sl s (by omega)
    have z : e s ≠ a := by
      intro z; rw [z, hae, q7] at p7; omega
    omega
  refine ⟨⟨e4, e6, by omega, by omega, by rw [hae]; exact q7, fun s hst => ?_⟩, ?_⟩
  · obtain ⟨⟨p1, p2, p3, p4, p5, p6, p7, p8, p9, p10⟩, v1, v2⟩ := sl s (by omega)
    have hh := hw s hst
    exact ⟨⟨p1, p2, by omega, he s hst, p5, p6, p7, p8, p9, p10⟩, hh.1.trans v1, hh.2.trans v2⟩
  · have ht : t = 0 ∨ t = 1 := by omega
    rcases ht with rfl | rfl
    · rw [pf_bu1, pf_bu0]
      omega
    · have := he 0 (by omega)
      rw [pf_bu2, pf_bu1]
      omega
end
section
/-! banks, fills, the chain of steps -/
/-- the bank o of b with the first m words of w written -/
def pf_sv (b w : Nat → Int32) (o m : Nat) : Nat → Int32 := fun i => if 11 * o ≤ i ∧ i < 11 * o + m then w (i - 11 * o) else b i
theorem pf_sv0 (b w : Nat → Int32) (o : Nat) : pf_sv b w o 0 = b := by
  funext i
  exact if_neg (by omega)
theorem pf_svS (b w : Nat → Int32) (o m : Nat) : upd (pf_sv b w o m) (11 * o + m) (w m) = pf_sv b w o (m + 1) := by
  funext i
  show (if i = 11 * o + m then w m else if 11 * o ≤ i ∧ i < 11 * o + m then w (i - 11 * o) else b i) = if 11 * o ≤ i ∧ i < 11 * o + (m + 1) then w (i - 11 * o) else b i
  by_cases h : i = 11 * o + m
  · rw [if_pos h, if_pos (by omega), show i - 11 * o = m by omega]
  · rw [if_neg h]
    by_cases h2 : 11 * o ≤ i ∧ i < 11 * o + m
    · rw [if_pos h2, if_pos (by omega)]
    · rw [if_neg h2, if_neg (by omega)]
/-- the words of bank g -/
def pf_B (b : Nat → Int32) (g : Nat) : Nat → Int32 := fun i => if i < 11 then b (11 * g + i) else 0
def pf_Z (w : Nat → Int32) : Prop := ∀ i, 11 ≤ i → w i = 0
theorem pf_B_lo {b : Nat → Int32} {g i : Nat} (h : i < 11) : pf_B b g i = b (11 * g + i) := if_pos h
theorem pf_BZ (b : Nat → Int32) (g : Nat) : pf_Z (pf_B b g) := fun _ h => if_neg (by omega)
theorem pf_Bfull {b w : Nat → Int32} {o : Nat} (hz : pf_Z w) : pf_B (pf_sv b w o 11) o = w := by
  funext i
  show (if i < 11 then (if 11 * o ≤ 11 * o + i ∧ 11 * o + i < 11 * o + 11 then w (11 * o + i - 11 * o) else b (11 * o + i)) else 0) = w i
  by_cases h : i < 11
  · rw [if_pos h, if_pos (by omega), show 11 * o + i - 11 * o = i by omega]
  · rw [if_neg h, hz i (by omega)]
theorem pf_Bpart {b w : Nat → Int32} {g m : Nat} (hg : g ≤ 1) (hm : m ≤ 11) : pf_B (pf_sv b w (1 - g) m) g = pf_B b g := by
  funext i
  show (if i < 11 then (if 11 * (1 - g) ≤ 11 * g + i ∧ 11 * g + i < 11 * (1 - g) + m then w (11 * g + i - 11 * (1 - g)) else b (11 * g + i)) else 0) = if i < 11 then b (11 * g + i) else 0
  by_cases h : i < 11
  · rw [if_pos h, if_pos h, if_neg (by omega)]
  · rw [if_neg h, if_neg h]
theorem pf_Zu {w : Nat → Int32} {k : Nat} {x : Int32} (hz : pf_Z w) (hk : k < 11) : pf_Z (upd w k x) := by
  intro i hi
  rw [pk_un (by omega)]
  exact hz i hi
/-- the first m words of f taken from g -/
def pf_fl (f g : Nat → Int32) (m : Nat) : Nat → Int32 := fun i => if i < m then g i else f i
theorem pf_fl0 (f g : Nat → Int32) : pf_fl f g 0 = f := by
  funext i
  exact if_neg (by omega)
theorem pf_flS (f g : Nat → Int32) (m : Nat) : upd (pf_fl f g m) m (g m) = pf_fl f g (m + 1) := by
  funext i
  show (if i = m then g m else if i < m then g i else f i) = if i < m + 1 then g i else f i
  by_cases h : i = m
  · rw [if_pos h, if_pos (by omega), h]
  · rw [if_neg h]
    by_cases h2 : i < m
    · rw [if_pos h2, if_pos (by omega)]
    · rw [if_neg h2, if_neg (by omega)]
theorem pf_flo {f g : Nat → Int32} {m i : Nat} (h : i < m) : pf_fl f g m i = g i := if_pos h
theorem pf_fln {f g : Nat → Int32} {m i : Nat} (h : m ≤ i) : pf_fl f g m i = f i := if_neg (by omega)
theorem pf_flB {f b : Nat → Int32} {g : Nat} (hz : pf_Z f) : pf_fl f (fun i => b (11 * g + i)) 11 = pf_B b g := by
  funext i
  show (if i < 11 then b (11 * g + i) else f i) = if i < 11 then b (11 * g + i) else 0
  by_cases h : i < 11
  · rw [if_pos h, if_pos h]
  · rw [if_neg h, if_neg h, hz i (by omega)]
theorem pf_flZ {f g : Nat → Int32} {m : Nat} (hz : pf_Z f) (hm : m ≤ 11) : pf_Z (pf_fl f g m) := by
  intro i hi
  rw [pf_fln (by omega)]
  exact hz i hi
def pf_cons {α : Type} (x : α) (f : Nat → α) : Nat → α
  | 0 => x
  | j + 1 => f j
/-- from a state with a budget of m steps the steps lead to the program's end -/
theorem pf_chain {op : Nat → Int32} {n : Nat} (R : (Nat → Int32) → (Nat → Int32) → (Nat → Int32) → (Nat → Int32) → Prop)
    (hR : ∀ (m : Nat) (w c : Nat → Int32), pf_iv op n w m → pf_Z w → ¬ w 4 = nI n → ∃ w' c' : Nat → Int32, ∃ m', m' < m ∧ pf_iv op n w' m' ∧ pf_Z w' ∧ R w c w' c') :
    ∀ (m : Nat) (w c : Nat → Int32), pf_iv op n w m → pf_Z w → ∃ K, K ≤ m ∧ ∃ W C : Nat → Nat → Int32, W 0 = w ∧ C 0 = c ∧
      (∀ j, j < K → R (W j) (C j) (W (j + 1)) (C (j + 1))) ∧ W K 4 = nI n ∧ ∀ j, j ≤ K → pf_Z (W j) := by
  intro m
  induction m using Nat.strongRecOn with
  | ind m ih =>
    intro w c hi hz
    by_cases h : w 4 = nI n
    · exact ⟨0, by omega, fun _ => w, fun _ => c, rfl, rfl, fun j hj => absurd hj (by omega), h, fun _ _ => hz⟩
    · obtain ⟨w', c', m', hm, hi', hz', hr⟩ := hR m w c hi hz h
      obtain ⟨K, hK, W, C, h0, h1, h2, h3, h4⟩ := ih m' hm w' c' hi' hz'
      refine ⟨K + 1, by omega, pf_cons w W, pf_cons c C, rfl, rfl, fun j hj => ?_, h3, fun j hj => ?_⟩
      · match j with
        | 0 =>
          show R w c (W 0) (C 0)
          rw [h0, h1]
          exact hr
        | j + 1 => exact h2 j (by omega)
      · match j with
        | 0 => exact hz
        | j + 1 => exact h4 j (by omega)
end
section
/-! the small walks of X: ticks, fills, wake, save -/
theorem pf_10 : ¬ (1 : Int32) = 0 := by decide
theorem pf_i11 (g i : Nat) : nI g * 11 + nI i = nI (11 * g + i) := by
  show nI g * nI 11 + nI i = _
  rw [pk_mul, nI_add, Nat.mul_comm]
theorem pf_m11 (g : Nat) : nI g * 11 = nI (11 * g) := by
  show nI g * nI 11 = _
  rw [pk_mul, Nat.mul_comm]
theorem pf_tick1 {post : Int32 → SX → Prop} {cn gb : Int32} {op ax ay az c b w : Nat → Int32} {T : Nat} (hT : T + 1 < 2 ^ 31)
    (h : post 1 (cn, gb, nI T, op, ax, ay, az, c, b, w)) : wpX_tick post (cn, gb, nI (T + 1), op, ax, ay, az, c, b, w) :=
  br_t (nI_lt (a := 0) (by omega) hT) (nm_r (nI_pred T) h)
theorem pf_00 : ¬ (0 : Int32) < nI 0 := by decide
theorem pf_tick0 {post : Int32 → SX → Prop} {cn gb : Int32} {op ax ay az c b w : Nat → Int32}
    (h : post 0 (cn, gb, nI 0, op, ax, ay, az, c, b, w)) : wpX_tick post (cn, gb, nI 0, op, ax, ay, az, c, b, w) :=
  br_f pf_00 h
theorem pf_forget {post : SX → Prop} {cn gb tl : Int32} {op ax ay az c b w : Nat → Int32}
    (h : post (cn, 0, tl, op, ax, ay, az, c, pf_fl b (fun _ => 0) 22, w)) : wpX_forgetBanks post (cn, gb, tl, op, ax, ay, az, c, b, w) := by
  have L : ∀ d i, i + d = 22 → wX_forgetBanks_2 post cn gb tl (d + 1) (nI i) op ax ay az c (pf_fl b (fun _ => 0) i) w := by
    intro d
    induction d with
    | zero =>
      intro i hi
      obtain rfl : i = 22 := by omega
      exact br_t (nI_le (a := 22) (by omega) (by decide)) h
    | succ d ih =>
      intro i hi
      refine br_f (nI_ge (b := 22) (by omega) (by decide)) ⟨vp_in_nI (by omega) (by decide), nm_r (e' := pf_fl b (fun _ => 0) (i + 1)) ?_ (nm_r (nI_1 i) (ih (i + 1) (by omega)))⟩
      rw [nI_clamp (by omega)]
      exact pf_flS b (fun _ => 0) i
  have := L 22 0 (by omega)
  rw [pf_fl0, nI_0] at this
  exact ⟨_, this⟩
theorem pf_lose {post : SX → Prop} {cn gb tl : Int32} {op ax ay az c b w : Nat → Int32}
    (h : post (cn, gb, 0, op, ax, ay, az, c, b, pf_fl w (fun _ => 0) 11)) : wpX_losePower post (cn, gb, tl, op, ax, ay, az, c, b, w) := by
  have L : ∀ d i, i + d = 11 → wX_losePower_7 post cn gb 0 (d + 1) (nI i) op ax ay az c b (pf_fl w (fun _ => 0) i) := by
    intro d
    induction d with
    | zero =>
      intro i hi
      obtain rfl : i = 11 := by omega
      exact br_t (nI_le (a := 11) (by omega) (by decide)) h
    | succ d ih =>
      intro i hi
      refine br_f (nI_ge (b := 11) (by omega) (by decide)) ⟨vp_in_nI (by omega) (by decide), nm_r (e' := pf_fl w (fun _ => 0) (i + 1)) ?_ (nm_r (nI_1 i) (ih (i + 1) (by omega)))⟩
      rw [nI_clamp (by omega)]
      exact pf_flS w (fun _ => 0) i
  have := L 11 0 (by omega)
  rw [pf_fl0, nI_0] at this
  exact ⟨_, this⟩
/-- with twelve ticks the machine wakes -/
theorem pf_wake {post : SX → Prop} {cn : Int32} {op ax ay az c b w : Nat → Int32} {g T : Nat} (hg : g ≤ 1) (hT : T + 12 < 2 ^ 31)
    (h : post (cn, nI g, nI T, op, ax, ay, az, c, b, pf_fl w (fun i => b (11 * g + i)) 11)) : wpX_wake post (cn, nI g, nI (T + 12), op, ax, ay, az, c, b, w) := by
  have L : ∀ d i t, i + d = 11 → t = T + d → wX_wake_21 post (nI (11 * g)) (d + 1) (nI i) cn (nI g) (nI t) op ax ay az c b (pf_fl w (fun i => b (11 * g + i)) i) := by
    intro d
    induction d with
    | zero =>
      intro i t hi ht
      obtain rfl : i = 11 := by omega
      obtain rfl : t = T := by omega
      exact br_t (nI_le (a := 11) (by omega) (by decide)) h
    | succ d ih =>
      intro i t hi ht
      obtain ⟨s, rfl⟩ : ∃ s, t = s + 1 := ⟨t - 1, by omega⟩
      refine br_f (nI_ge (b := 11) (by omega) (by decide)) (pf_tick1 (by omega) (br_f pf_10 ⟨?_, vp_in_nI (by omega) (by decide), nm_r (e' := pf_fl w (fun i => b (11 * g + i)) (i + 1)) ?_ (nm_r (nI_1 i) (ih (i + 1) s (by omega) (by omega)))⟩))
      · rw [nI_add]
        exact vp_in_nI (by omega) (by decide)
      · rw [nI_add, nI_clamp (by omega), nI_clamp (by omega)]
        exact pf_flS w (fun i => b (11 * g + i)) i
  have := L 11 0 (T + 11) (by omega) (by omega)
  rw [pf_fl0, nI_0] at this
  unfold wpX_wake
  refine pf_tick1 (T := T + 11) (by omega) ?_
  exact br_f pf_10 (nm_r (pf_m11 g) ⟨_, this⟩)
/-- save's loop without a tick -/
theorem pf_save0 {post : SX → Prop} {cn gb x1 : Int32} {op ax ay az c b w : Nat → Int32}
    (h : post (cn, gb, nI 0, op, ax, ay, az, c, b, w)) : ∀ d i, i + d = 11 → wX_save_20 post x1 (d + 1) (nI i) cn gb (nI 0) op ax ay az c b w := by
  intro d
  induction d with
  | zero =>
    intro i hi
    obtain rfl : i = 11 := by omega
    exact br_t (nI_le (a := 11) (by omega) (by decide)) (pf_tick0 (br_t rfl h))
  | succ d ih =>
    intro i hi
    exact br_f (nI_ge (b := 11) (by omega) (by decide)) (pf_tick0 (br_t rfl (nm_r (nI_1 i) (ih (i + 1) (by omega)))))
/-- .. with ticks for every word and the last -/
theorem pf_save1 {post : SX → Prop} {cn gb : Int32} {op ax ay az c b w : Nat → Int32} {o T : Nat} (ho : o ≤ 1) (hT : T + 12 < 2 ^ 31)
    (h : post (cn, nI o, nI T, op, ax, ay, az, c, pf_sv b w o 11, w)) : ∀ d i t, i + d = 11 → t = T + d + 1 → wX_save_20 post (nI o) (d + 1) (nI i) cn gb (nI t) op ax ay az c (pf_sv b w o i) w := by
  intro d
  induction d with
  | zero =>
    intro i t hi ht
    obtain rfl : i = 11 := by omega
    obtain rfl : t = T + 1 := by omega
    exact br_t (nI_le (a := 11) (by omega) (by decide)) (pf_tick1 (by omega) (br_f pf_10 h))
  | succ d ih =>
    intro i t hi ht
    obtain ⟨s, rfl⟩ : ∃ s, t = s + 1 := ⟨t - 1, by omega⟩
    refine br_f (nI_ge (b := 11) (by omega) (by decide)) (pf_tick1 (by omega) (br_f pf_10 ⟨vp_in_nI (by omega) (by decide), ?_, nm_r (e' := pf_sv b w o (i + 1)) ?_ (nm_r (nI_1 i) (ih (i + 1) s (by omega) (by omega)))⟩))
    · rw [pf_i11]
      exact vp_in_nI (by omega) (by decide)
    · rw [pf_i11, nI_clamp (by omega), nI_clamp (by omega)]
      exact pf_svS b w o i
/-- .. with too few -/
theorem pf_save2 {post : SX → Prop} {cn gb : Int32} {op ax ay az c b w : Nat → Int32} {o : Nat} (ho : o ≤ 1) :
    ∀ d i t, i + d = 11 → t ≤ d → post (cn, gb, nI 0, op, ax, ay, az, c, pf_sv b w o (i + t), w) → wX_save_20 post (nI o) (d + 1) (nI i) cn gb (nI t) op ax ay az c (pf_sv b w o i) w := by
  intro d
  induction d with
  | zero =>
    intro i t hi ht h
    obtain rfl : t = 0 := by omega
    exact pf_save0 h 0 i hi
  | succ d ih =>
    intro i t hi ht h
    by_cases z : t = 0
    · subst z
      exact pf_save0 h (d + 1) i hi
    · obtain ⟨s, rfl⟩ : ∃ s, t = s + 1 := ⟨t - 1, by omega⟩
      have h' : post (cn, gb, nI 0, op, ax, ay, az, c, pf_sv b w o (i + 1 + s), w) := by
        rw [show i + 1 + s = i + (s + 1) by omega]
        exact h
      refine br_f (nI_ge (b := 11) (by omega) (by decide)) (pf_tick1 (by omega) (br_f pf_10 ⟨vp_in_nI (by omega) (by decide), ?_, nm_r (e' := pf_sv b w o (i + 1)) ?_ (nm_r (nI_1 i) (ih (i + 1) s (by omega) (by omega) h'))⟩))
      · rw [pf_i11]
        exact vp_in_nI (by omega) (by decide)
      · rw [pf_i11, nI_clamp (by omega), nI_clamp (by omega)]
        exact pf_svS b w o i
/-- save: it is cut off and the good bank stays, or the other bank holds the words and is the good one -/
theorem pf_save {post : SX → Prop} {cn : Int32} {op ax ay az c b w : Nat → Int32} {g t : Nat} (hg : g ≤ 1) (ht : t < 2 ^ 31) (hz : pf_Z w)
    (h0 : ∀ b', t < 13 → pf_B b' g = pf_B b g → post (cn, nI g, nI 0, op, ax, ay, az, c, b', w))
    (h1 : ∀ b', 13 ≤ t → pf_B b' (1 - g) = w → post (cn, nI (1 - g), nI (t - 13), op, ax, ay, az, c, b', w)) :
    wpX_save post (cn, nI g, nI t, op, ax, ay, az, c, b, w) := by
  by_cases z : t = 0
  · subst z
    have := pf_save0 (x1 := 0) (h0 b (by omega) rfl) 11 0 (by omega)
    unfold wpX_save
    refine pf_tick0 ?_
    exact br_t rfl ⟨_, this⟩
  · obtain ⟨s, rfl⟩ : ∃ s, t = s + 1 := ⟨t - 1, by omega⟩
    by_cases z2 : s ≤ 11
    · have e : 0 + s = s := by omega
      have := pf_save2 (post := post) (cn := cn) (gb := nI g) (op := op) (ax := ax) (ay := ay) (az := az) (c := c) (b := b) (w := w) (o := 1 - g) (by omega) 11 0 s (by omega) z2 (by rw [e]; exact h0 _ (by omega) (pf_Bpart hg z2))
      rw [pf_sv0] at this
      unfold wpX_save
      refine pf_tick1 (by omega) ?_
      exact br_f pf_10 (nm_r (pk_sub (a := 1) hg) ⟨_, this⟩)
    · have h := h1 (pf_sv b w (1 - g) 11) (by omega) (pf_Bfull hz)
      have := pf_save1 (gb := nI g) (by omega) (by omega) h 11 0 s (by omega) (by omega)
      rw [pf_sv0] at this
      unfold wpX_save
      refine pf_tick1 (by omega) ?_
      exact br_f pf_10 (nm_r (pk_sub (a := 1) hg) ⟨_, this⟩)
end
section
/-! X's execute and Y's step, a lemma an instruction (written by wip/whole/gen05.py) -/
/-- the words with the place moved on and one more instruction executed -/
def pf_w1 (w : Nat → Int32) (a : Nat) : Nat → Int32 := upd (upd w 4 (nI (a + 1))) 5 (w 5 + 1)
theorem pf_fold (w : Nat → Int32) (a : Nat) : upd (upd w 4 (nI (a + 1))) 5 (upd w 4 (nI (a + 1)) 5 + 1) = pf_w1 w a := by
  rw [pk_un (show 5 ≠ 4 by decide)]
  rfl
theorem pf_w14 (w : Nat → Int32) (a : Nat) : pf_w1 w a 4 = nI (a + 1) := by
  unfold pf_w1
  rw [pk_un (show 4 ≠ 5 by decide), pk_us]
theorem pf_w15 (w : Nat → Int32) (a : Nat) : pf_w1 w a 5 = w 5 + 1 := pk_us
theorem pf_w1n {w : Nat → Int32} {a i : Nat} (h4 : i ≠ 4) (h5 : i ≠ 5) : pf_w1 w a i = w i := by
  unfold pf_w1
  rw [pk_un h5, pk_un h4]
theorem pf_w1Z {w : Nat → Int32} {a : Nat} (hz : pf_Z w) : pf_Z (pf_w1 w a) := pf_Zu (pf_Zu hz (by omega)) (by omega)
theorem pf_7 (d : Nat) : 7 + nI d = nI (7 + d) := nI_add 7 d
theorem pf_9 (d : Nat) : 9 + nI d = nI (9 + d) := nI_add 9 d
theorem pf_x0 {post : SX → Prop} {cn gb tl : Int32} {op ax ay az c b w : Nat → Int32} {a r : Nat} (ha : a < 30) (hop : op a = 0) (hx : ax a = nI r) (hr : r < 4)
    (h : post (cn, gb, tl, op, ax, ay, az, c, b, upd (pf_w1 w a) r (ay a))) : wpX_execute post (cn, gb, tl, op, ax, ay, az, c, b, w) (nI a) := by
  have hc := nI_clamp (n := a) (by omega)
  have hi : vp_in (nI a) 30 := vp_in_nI ha (by decide)
  have hrc := nI_clamp (n := r) (by omega)
  have hri : vp_in (nI r) 11 := vp_in_nI (by omega) (by decide)
  simp (decide := true) only [wpX_execute, hc, hi, hop, hx, hrc, hri, forall_eq, nI_1, pf_fold, Int32.reduceLT, Int32.reduceLE, true_implies, false_implies, not_true_eq_false, not_false_eq_true, and_true, true_and, implies_true, forall_const]
  exact h
theorem pf_y0 {post : Int32 → SY → Prop} {cn : Int32} {op ax ay az c rg lf : Nat → Int32} {a r : Nat} (ha : a < 30) (hop : op a = 0) (hx : ax a = nI r) (hr : r < 4)
    (h : post (nI (a + 1)) (cn, op, ax, ay, az, c, upd rg r (ay a), lf)) : wpY_step post (cn, op, ax, ay, az, c, rg, lf) (nI a) := by
  have hc := nI_clamp (n := a) (by omega)
  have hi : vp_in (nI a) 30 := vp_in_nI ha (by decide)
  have hrc := nI_clamp (n := r) (by omega)
  have hri : vp_in (nI r) 4 := vp_in_nI (by omega) (by decide)
  simp (decide := true) only [wpY_step, wY_step_30, wY_step_64, wY_step_98, wY_step_132, wY_step_154, wY_step_176, wY_step_207, wY_step_238, wY_step_264, wY_step_282, hc, hi, hop, hx, hrc, hri, forall_eq, nI_1, pf_fold, Int32.reduceLT, Int32.reduceLE, true_implies, false_implies, not_true_eq_false, not_false_eq_true, and_true, true_and, implies_true, forall_const]
  exact h
theorem pf_x1 {post : SX → Prop} {cn gb tl : Int32} {op ax ay az c b w : Nat → Int32} {a r s t : Nat} (ha : a < 30) (hop : op a = 1) (hx : ax a = nI r) (hr : r < 4) (hy : ay a = nI s) (hs : s < 4) (hzz : az a = nI t) (ht : t < 4)
    (h : post (cn, gb, tl, op, ax, ay, az, c, b, upd (pf_w1 w a) r (pf_w1 w a s + pf_w1 w a t))) : wpX_execute post (cn, gb, tl, op, ax, ay, az, c, b, w) (nI a) := by
  have hc := nI_clamp (n := a) (by omega)
  have hi : vp_in (nI a) 30 := vp_in_nI ha (by decide)
  have hrc := nI_clamp (n := r) (by omega)
  have hri : vp_in (nI r) 11 := vp_in_nI (by omega) (by decide)
  have hsc := nI_clamp (n := s) (by omega)
  have hsi : vp_in (nI s) 11 := vp_in_nI (by omega) (by decide)
  have htc := nI_clamp (n := t) (by omega)
  have hti : vp_in (nI t) 11 := vp_in_nI (by omega) (by decide)
  simp (decide := true) only [wpX_execute, wpX_calculate, hc, hi, hop, hx, hy, hzz, hrc, hri, hsc, hsi, htc, hti, forall_eq, nI_1, pf_fold, Int32.reduceLT, Int32.reduceLE, true_implies, false_implies, not_true_eq_false, not_false_eq_true, and_true, true_and, implies_true, forall_const]
  exact h
theorem pf_y1 {post : Int32 → SY → Prop} {cn : Int32} {op ax ay az c rg lf : Nat → Int32} {a r s t : Nat} (ha : a < 30) (hop : op a = 1) (hx : ax a = nI r) (hr : r < 4) (hy : ay a = nI s) (hs : s < 4) (hzz : az a = nI t) (ht : t < 4)
    (h : post (nI (a + 1)) (cn, op, ax, ay, az, c, upd rg r (rg s + rg t), lf)) : wpY_step post (cn, op, ax, ay, az, c, rg, lf) (nI a) := by
  have hc := nI_clamp (n := a) (by omega)
  have hi : vp_in (nI a) 30 := vp_in_nI ha (by decide)
  have hrc := nI_clamp (n := r) (by omega)
  have hri : vp_in (nI r) 4 := vp_in_nI (by omega) (by decide)
  have hsc := nI_clamp (n := s) (by omega)
  have hsi : vp_in (nI s) 4 := vp_in_nI (by omega) (by decide)
  have htc := nI_clamp (n := t) (by omega)
  have hti : vp_in (nI t) 4 := vp_in_nI (by omega) (by decide)
  simp (decide := true) only [wpY_step, wY_step_30, wY_step_64, wY_step_98, wY_step_132, wY_step_154, wY_step_176, wY_step_207, wY_step_238, wY_step_264, wY_step_282, hc, hi, hop, hx, hy, hzz, hrc, hri, hsc, hsi, htc, hti, forall_eq, nI_1, pf_fold, Int32.reduceLT, Int32.reduceLE, true_implies, false_implies, not_true_eq_false, not_false_eq_true, and_true, true_and, implies_true, forall_const]
  exact h
theorem pf_x2 {post : SX → Prop} {cn gb tl : Int32} {op ax ay az c b w : Nat → Int32} {a r s t : Nat} (ha : a < 30) (hop : op a = 2) (hx : ax a = nI r) (hr : r < 4) (hy : ay a = nI s) (hs : s < 4) (hzz : az a = nI t) (ht : t < 4)
    (h : post (cn, gb, tl, op, ax, ay, az, c, b, upd (pf_w1 w a) r (pf_w1 w a s - pf_w1 w a t))) : wpX_execute post (cn, gb, tl, op, ax, ay, az, c, b, w) (nI a) := by
  have hc := nI_clamp (n := a) (by omega)
  have hi : vp_in (nI a) 30 := vp_in_nI ha (by decide)
  have hrc := nI_clamp (n := r) (by omega)
  have hri : vp_in (nI r) 11 := vp_in_nI (by omega) (by decide)
  have hsc := nI_clamp (n := s) (by omega)
  have hsi : vp_in (nI s) 11 := vp_in_nI (by omega) (by decide)
  have htc := nI_clamp (n := t) (by omega)
  have hti : vp_in (nI t) 11 := vp_in_nI (by omega) (by decide)
  simp (decide := true) only [wpX_execute, wpX_calculate, hc, hi, hop, hx, hy, hzz, hrc, hri, hsc, hsi, htc, hti, forall_eq, nI_1, pf_fold, Int32.reduceLT, Int32.reduceLE, true_implies, false_implies, not_true_eq_false, not_false_eq_true, and_true, true_and, implies_true, forall_const]
  exact h
theorem pf_y2 {post : Int32 → SY → Prop} {cn : Int32} {op ax ay az c rg lf : Nat → Int32} {a r s t : Nat} (ha : a < 30) (hop : op a = 2) (hx : ax a = nI r) (hr : r < 4) (hy : ay a = nI s) (hs : s < 4) (hzz : az a = nI t) (ht : t < 4)
    (h : post (nI (a + 1)) (cn, op, ax, ay, az, c, upd rg r (rg s - rg t), lf)) : wpY_step post (cn, op, ax, ay, az, c, rg, lf) (nI a) := by
  have hc := nI_clamp (n := a) (by omega)
  have hi : vp_in (nI a) 30 := vp_in_nI ha (by decide)
  have hrc := nI_clamp (n := r) (by omega)
  have hri : vp_in (nI r) 4 := vp_in_nI (by omega) (by decide)
  have hsc := nI_clamp (n := s) (by omega)
  have hsi : vp_in (nI s) 4 := vp_in_nI (by omega) (by decide)
  have htc := nI_clamp (n := t) (by omega)
  have hti : vp_in (nI t) 4 := vp_in_nI (by omega) (by decide)
  simp (decide := true) only [wpY_step, wY_step_30, wY_step_64, wY_step_98, wY_step_132, wY_step_154, wY_step_176, wY_step_207, wY_step_238, wY_step_264, wY_step_282, hc, hi, hop, hx, hy, hzz, hrc, hri, hsc, hsi, htc, hti, forall_eq, nI_1, pf_fold, Int32.reduceLT, Int32.reduceLE, true_implies, false_implies, not_true_eq_false, not_false_eq_true, and_true, true_and, implies_true, forall_const]
  exact h
theorem pf_x3 {post : SX → Prop} {cn gb tl : Int32} {op ax ay az c b w : Nat → Int32} {a r s t : Nat} (ha : a < 30) (hop : op a = 3) (hx : ax a = nI r) (hr : r < 4) (hy : ay a = nI s) (hs : s < 4) (hzz : az a = nI t) (ht : t < 4)
    (h : post (cn, gb, tl, op, ax, ay, az, c, b, upd (pf_w1 w a) r (pf_w1 w a s * pf_w1 w a t))) : wpX_execute post (cn, gb, tl, op, ax, ay, az, c, b, w) (nI a) := by
  have hc := nI_clamp (n := a) (by omega)
  have hi : vp_in (nI a) 30 := vp_in_nI ha (by decide)
  have hrc := nI_clamp (n := r) (by omega)
  have hri : vp_in (nI r) 11 := vp_in_nI (by omega) (by decide)
  have hsc := nI_clamp (n := s) (by omega)
  have hsi : vp_in (nI s) 11 := vp_in_nI (by omega) (by decide)
  have htc := nI_clamp (n := t) (by omega)
  have hti : vp_in (nI t) 11 := vp_in_nI (by omega) (by decide)
  simp (decide := true) only [wpX_execute, wpX_calculate, hc, hi, hop, hx, hy, hzz, hrc, hri, hsc, hsi, htc, hti, forall_eq, nI_1, pf_fold, Int32.reduceLT, Int32.reduceLE, true_implies, false_implies, not_true_eq_false, not_false_eq_true, and_true, true_and, implies_true, forall_const]
  exact h
theorem pf_y3 {post : Int32 → SY → Prop} {cn : Int32} {op ax ay az c rg lf : Nat → Int32} {a r s t : Nat} (ha : a < 30) (hop : op a = 3) (hx : ax a = nI r) (hr : r < 4) (hy : ay a = nI s) (hs : s < 4) (hzz : az a = nI t) (ht : t < 4)
    (h : post (nI (a + 1)) (cn, op, ax, ay, az, c, upd rg r (rg s * rg t), lf)) : wpY_step post (cn, op, ax, ay, az, c, rg, lf) (nI a) := by
  have hc := nI_clamp (n := a) (by omega)
  have hi : vp_in (nI a) 30 := vp_in_nI ha (by decide)
  have hrc := nI_clamp (n := r) (by omega)
  have hri : vp_in (nI r) 4 := vp_in_nI (by omega) (by decide)
  have hsc := nI_clamp (n := s) (by omega)
  have hsi : vp_in (nI s) 4 := vp_in_nI (by omega) (by decide)
  have htc := nI_clamp (n := t) (by omega)
  have hti : vp_in (nI t) 4 := vp_in_nI (by omega) (by decide)
  simp (decide := true) only [wpY_step, wY_step_30, wY_step_64, wY_step_98, wY_step_132, wY_step_154, wY_step_176, wY_step_207, wY_step_238, wY_step_264, wY_step_282, hc, hi, hop, hx, hy, hzz, hrc, hri, hsc, hsi, htc, hti, forall_eq, nI_1, pf_fold, Int32.reduceLT, Int32.reduceLE, true_implies, false_implies, not_true_eq_false, not_false_eq_true, and_true, true_and, implies_true, forall_const]
  exact h
theorem pf_x4 {post : SX → Prop} {cn gb : Int32} {op ax ay az c b w : Nat → Int32} {a r j T : Nat} (ha : a < 30) (hT : T + 1 < 2 ^ 31) (hop : op a = 4) (hx : ax a = nI r) (hr : r < 4) (hy : ay a = nI j) (hjl : j < 12)
    (h : post (cn, gb, nI T, op, ax, ay, az, c, b, upd (pf_w1 w a) r (c j))) : wpX_execute post (cn, gb, nI (T + 1), op, ax, ay, az, c, b, w) (nI a) := by
  have hc := nI_clamp (n := a) (by omega)
  have hi : vp_in (nI a) 30 := vp_in_nI ha (by decide)
  have hrc := nI_clamp (n := r) (by omega)
  have hri : vp_in (nI r) 11 := vp_in_nI (by omega) (by decide)
  have hjc := nI_clamp (n := j) (by omega)
  have hji : vp_in (nI j) 12 := vp_in_nI (by omega) (by decide)
  have hTl : (0 : Int32) < nI (T + 1) := nI_lt (a := 0) (by omega) hT
  have hTp := nI_pred T
  simp (decide := true) only [wpX_execute, wpX_moveWord, wX_moveWord_12, wX_moveWord_17, wX_moveWord_37, wX_moveWord_58, wpX_tick, hc, hi, hop, hx, hy, hrc, hri, hjc, hji, hTl, hTp, forall_eq, nI_1, pf_fold, Int32.reduceLT, Int32.reduceLE, true_implies, false_implies, not_true_eq_false, not_false_eq_true, and_true, true_and, implies_true, forall_const]
  exact h
theorem pf_x4z {post : SX → Prop} {cn gb : Int32} {op ax ay az c b w : Nat → Int32} {a r j : Nat} (ha : a < 30) (hop : op a = 4) (hx : ax a = nI r) (hr : r < 4) (hy : ay a = nI j) (hjl : j < 12)
    (h : post (cn, gb, nI 0, op, ax, ay, az, c, b, pf_w1 w a)) : wpX_execute post (cn, gb, nI 0, op, ax, ay, az, c, b, w) (nI a) := by
  have hc := nI_clamp (n := a) (by omega)
  have hi : vp_in (nI a) 30 := vp_in_nI ha (by decide)
  have hrc := nI_clamp (n := r) (by omega)
  have hri : vp_in (nI r) 11 := vp_in_nI (by omega) (by decide)
  have hjc := nI_clamp (n := j) (by omega)
  have hji : vp_in (nI j) 12 := vp_in_nI (by omega) (by decide)
  have hTl := pf_00
  simp (decide := true) only [wpX_execute, wpX_moveWord, wX_moveWord_12, wX_moveWord_17, wX_moveWord_37, wX_moveWord_58, wpX_tick, hc, hi, hop, hx, hy, hrc, hri, hjc, hji, hTl, forall_eq, nI_1, pf_fold, Int32.reduceLT, Int32.reduceLE, true_implies, false_implies, not_true_eq_false, not_false_eq_true, and_true, true_and, implies_true, forall_const]
  exact h
theorem pf_y4 {post : Int32 → SY → Prop} {cn : Int32} {op ax ay az c rg lf : Nat → Int32} {a r j : Nat} (ha : a < 30) (hop : op a = 4) (hx : ax a = nI r) (hr : r < 4) (hy : ay a = nI j) (hjl : j < 12)
    (h : post (nI (a + 1)) (cn, op, ax, ay, az, c, upd rg r (c j), lf)) : wpY_step post (cn, op, ax, ay, az, c, rg, lf) (nI a) := by
  have hc := nI_clamp (n := a) (by omega)
  have hi : vp_in (nI a) 30 := vp_in_nI ha (by decide)
  have hrc := nI_clamp (n := r) (by omega)
  have hri : vp_in (nI r) 4 := vp_in_nI (by omega) (by decide)
  have hjc := nI_clamp (n := j) (by omega)
  have hji : vp_in (nI j) 12 := vp_in_nI (by omega) (by decide)
  simp (decide := true) only [wpY_step, wY_step_30, wY_step_64, wY_step_98, wY_step_132, wY_step_154, wY_step_176, wY_step_207, wY_step_238, wY_step_264, wY_step_282, hc, hi, hop, hx, hy, hrc, hri, hjc, hji, forall_eq, nI_1, pf_fold, Int32.reduceLT, Int32.reduceLE, true_implies, false_implies, not_true_eq_false, not_false_eq_true, and_true, true_and, implies_true, forall_const]
  exact h
theorem pf_x5 {post : SX → Prop} {cn gb : Int32} {op ax ay az c b w : Nat → Int32} {a r j T : Nat} (ha : a < 30) (hT : T + 1 < 2 ^ 31) (hop : op a = 5) (hx : ax a = nI r) (hr : r < 4) (hy : ay a = nI j) (hjl : j < 12)
    (h : post (cn, gb, nI T, op, ax, ay, az, upd c j (pf_w1 w a r), b, pf_w1 w a)) : wpX_execute post (cn, gb, nI (T + 1), op, ax, ay, az, c, b, w) (nI a) := by
  have hc := nI_clamp (n := a) (by omega)
  have hi : vp_in (nI a) 30 := vp_in_nI ha (by decide)
  have hrc := nI_clamp (n := r) (by omega)
  have hri : vp_in (nI r) 11 := vp_in_nI (by omega) (by decide)
  have hjc := nI_clamp (n := j) (by omega)
  have hji : vp_in (nI j) 12 := vp_in_nI (by omega) (by decide)
  have hTl : (0 : Int32) < nI (T + 1) := nI_lt (a := 0) (by omega) hT
  have hTp := nI_pred T
  simp (decide := true) only [wpX_execute, wpX_moveWord, wX_moveWord_12, wX_moveWord_17, wX_moveWord_37, wX_moveWord_58, wpX_tick, hc, hi, hop, hx, hy, hrc, hri, hjc, hji, hTl, hTp, forall_eq, nI_1, pf_fold, Int32.reduceLT, Int32.reduceLE, true_implies, false_implies, not_true_eq_false, not_false_eq_true, and_true, true_and, implies_true, forall_const]
  exact h
theorem pf_x5z {post : SX → Prop} {cn gb : Int32} {op ax ay az c b w : Nat → Int32} {a r j : Nat} (ha : a < 30) (hop : op a = 5) (hx : ax a = nI r) (hr : r < 4) (hy : ay a = nI j) (hjl : j < 12)
    (h : post (cn, gb, nI 0, op, ax, ay, az, c, b, pf_w1 w a)) : wpX_execute post (cn, gb, nI 0, op, ax, ay, az, c, b, w) (nI a) := by
  have hc := nI_clamp (n := a) (by omega)
  have hi : vp_in (nI a) 30 := vp_in_nI ha (by decide)
  have hrc := nI_clamp (n := r) (by omega)
  have hri : vp_in (nI r) 11 := vp_in_nI (by omega) (by decide)
  have hjc := nI_clamp (n := j) (by omega)
  have hji : vp_in (nI j) 12 := vp_in_nI (by omega) (by decide)
  have hTl := pf_00
  simp (decide := true) only [wpX_execute, wpX_moveWord, wX_moveWord_12, wX_moveWord_17, wX_moveWord_37, wX_moveWord_58, wpX_tick, hc, hi, hop, hx, hy, hrc, hri, hjc, hji, hTl, forall_eq, nI_1, pf_fold, Int32.reduceLT, Int32.reduceLE, true_implies, false_implies, not_true_eq_false, not_false_eq_true, and_true, true_and, implies_true, forall_const]
  exact h
theorem pf_y5 {post : Int32 → SY → Prop} {cn : Int32} {op ax ay az c rg lf : Nat → Int32} {a r j : Nat} (ha : a < 30) (hop : op a = 5) (hx : ax a = nI r) (hr : r < 4) (hy : ay a = nI j) (hjl : j < 12)
    (h : post (nI (a + 1)) (cn, op, ax, ay, az, upd c j (rg r), rg, lf)) : wpY_step post (cn, op, ax, ay, az, c, rg, lf) (nI a) := by
  have hc := nI_clamp (n := a) (by omega)
  have hi : vp_in (nI a) 30 := vp_in_nI ha (by decide)
  have hrc := nI_clamp (n := r) (by omega)
  have hri : vp_in (nI r) 4 := vp_in_nI (by omega) (by decide)
  have hjc := nI_clamp (n := j) (by omega)
  have hji : vp_in (nI j) 12 := vp_in_nI (by omega) (by decide)
  simp (decide := true) only [wpY_step, wY_step_30, wY_step_64, wY_step_98, wY_step_132, wY_step_154, wY_step_176, wY_step_207, wY_step_238, wY_step_264, wY_step_282, hc, hi, hop, hx, hy, hrc, hri, hjc, hji, forall_eq, nI_1, pf_fold, Int32.reduceLT, Int32.reduceLE, true_implies, false_implies, not_true_eq_false, not_false_eq_true, and_true, true_and, implies_true, forall_const]
  exact h
theorem pf_x6 {post : SX → Prop} {cn gb : Int32} {op ax ay az c b w : Nat → Int32} {a r y j T : Nat} (ha : a < 30) (hT : T + 1 < 2 ^ 31) (hop : op a = 6) (hx : ax a = nI r) (hr : r < 4) (hy : ay a = nI y) (hyl : y < 4) (hj : pf_w1 w a y &&& 7 = nI j) (hjl : j < 8)
    (h : post (cn, gb, nI T, op, ax, ay, az, c, b, upd (pf_w1 w a) r (c j))) : wpX_execute post (cn, gb, nI (T + 1), op, ax, ay, az, c, b, w) (nI a) := by
  have hc := nI_clamp (n := a) (by omega)
  have hi : vp_in (nI a) 30 := vp_in_nI ha (by decide)
  have hrc := nI_clamp (n := r) (by omega)
  have hri : vp_in (nI r) 11 := vp_in_nI (by omega) (by decide)
  have hyc := nI_clamp (n := y) (by omega)
  have hyi : vp_in (nI y) 11 := vp_in_nI (by omega) (by decide)
  have hjc := nI_clamp (n := j) (by omega)
  have hji : vp_in (nI j) 12 := vp_in_nI (by omega) (by decide)
  have hTl : (0 : Int32) < nI (T + 1) := nI_lt (a := 0) (by omega) hT
  have hTp := nI_pred T
  simp (decide := true) only [wpX_execute, wpX_moveWord, wX_moveWord_12, wX_moveWord_17, wX_moveWord_37, wX_moveWord_58, wpX_tick, hc, hi, hop, hx, hy, hrc, hri, hjc, hji, hyc, hyi, hj, hTl, hTp, forall_eq, nI_1, pf_fold, Int32.reduceLT, Int32.reduceLE, true_implies, false_implies, not_true_eq_false, not_false_eq_true, and_true, true_and, implies_true, forall_const]
  exact h
theorem pf_x6z {post : SX → Prop} {cn gb : Int32} {op ax ay az c b w : Nat → Int32} {a r y j : Nat} (ha : a < 30) (hop : op a = 6) (hx : ax a = nI r) (hr : r < 4) (hy : ay a = nI y) (hyl : y < 4) (hj : pf_w1 w a y &&& 7 = nI j) (hjl : j < 8)
    (h : post (cn, gb, nI 0, op, ax, ay, az, c, b, pf_w1 w a)) : wpX_execute post (cn, gb, nI 0, op, ax, ay, az, c, b, w) (nI a) := by
  have hc := nI_clamp (n := a) (by omega)
  have hi : vp_in (nI a) 30 := vp_in_nI ha (by decide)
  have hrc := nI_clamp (n := r) (by omega)
  have hri : vp_in (nI r) 11 := vp_in_nI (by omega) (by decide)
  have hyc := nI_clamp (n := y) (by omega)
  have hyi : vp_in (nI y) 11 := vp_in_nI (by omega) (by decide)
  have hjc := nI_clamp (n := j) (by omega)
  have hji : vp_in (nI j) 12 := vp_in_nI (by omega) (by decide)
  have hTl := pf_00
  simp (decide := true) only [wpX_execute, wpX_moveWord, wX_moveWord_12, wX_moveWord_17, wX_moveWord_37, wX_moveWord_58, wpX_tick, hc, hi, hop, hx, hy, hrc, hri, hjc, hji, hyc, hyi, hj, hTl, forall_eq, nI_1, pf_fold, Int32.reduceLT, Int32.reduceLE, true_implies, false_implies, not_true_eq_false, not_false_eq_true, and_true, true_and, implies_true, forall_const]
  exact h
theorem pf_y6 {post : Int32 → SY → Prop} {cn : Int32} {op ax ay az c rg lf : Nat → Int32} {a r y j : Nat} (ha : a < 30) (hop : op a = 6) (hx : ax a = nI r) (hr : r < 4) (hy : ay a = nI y) (hyl : y < 4) (hj : rg y &&& 7 = nI j) (hjl : j < 8)
    (h : post (nI (a + 1)) (cn, op, ax, ay, az, c, upd rg r (c j), lf)) : wpY_step post (cn, op, ax, ay, az, c, rg, lf) (nI a) := by
  have hc := nI_clamp (n := a) (by omega)
  have hi : vp_in (nI a) 30 := vp_in_nI ha (by decide)
  have hrc := nI_clamp (n := r) (by omega)
  have hri : vp_in (nI r) 4 := vp_in_nI (by omega) (by decide)
  have hyc := nI_clamp (n := y) (by omega)
  have hyi : vp_in (nI y) 4 := vp_in_nI (by omega) (by decide)
  have hjc := nI_clamp (n := j) (by omega)
  have hji : vp_in (nI j) 12 := vp_in_nI (by omega) (by decide)
  simp (decide := true) only [wpY_step, wY_step_30, wY_step_64, wY_step_98, wY_step_132, wY_step_154, wY_step_176, wY_step_207, wY_step_238, wY_step_264, wY_step_282, hc, hi, hop, hx, hy, hrc, hri, hjc, hji, hyc, hyi, hj, forall_eq, nI_1, pf_fold, Int32.reduceLT, Int32.reduceLE, true_implies, false_implies, not_true_eq_false, not_false_eq_true, and_true, true_and, implies_true, forall_const]
  exact h
theorem pf_x7 {post : SX → Prop} {cn gb : Int32} {op ax ay az c b w : Nat → Int32} {a r y j T : Nat} (ha : a < 30) (hT : T + 1 < 2 ^ 31) (hop : op a = 7) (hx : ax a = nI r) (hr : r < 4) (hy : ay a = nI y) (hyl : y < 4) (hj : pf_w1 w a y &&& 7 = nI j) (hjl : j < 8)
    (h : post (cn, gb, nI T, op, ax, ay, az, upd c j (pf_w1 w a r), b, pf_w1 w a)) : wpX_execute post (cn, gb, nI (T + 1), op, ax, ay, az, c, b, w) (nI a) := by
  have hc := nI_clamp (n := a) (by omega)
  have hi : vp_in (nI a) 30 := vp_in_nI ha (by decide)
  have hrc := nI_clamp (n := r) (by omega)
  have hri : vp_in (nI r) 11 := vp_in_nI (by omega) (by decide)
  have hyc := nI_clamp (n := y) (by omega)
  have hyi : vp_in (nI y) 11 := vp_in_nI (by omega) (by decide)
  have hjc := nI_clamp (n := j) (by omega)
  have hji : vp_in (nI j) 12 := vp_in_nI (by omega) (by decide)
  have hTl : (0 : Int32) < nI (T + 1) := nI_lt (a := 0) (by omega) hT
  have hTp := nI_pred T
  simp (decide := true) only [wpX_execute, wpX_moveWord, wX_moveWord_12, wX_moveWord_17, wX_moveWord_37, wX_moveWord_58, wpX_tick, hc, hi, hop, hx, hy, hrc, hri, hjc, hji, hyc, hyi, hj, hTl, hTp, forall_eq, nI_1, pf_fold, Int32.reduceLT, Int32.reduceLE, true_implies, false_implies, not_true_eq_false, not_false_eq_true, and_true, true_and, implies_true, forall_const]
  exact h
theorem pf_x7z {post : SX → Prop} {cn gb : Int32} {op ax ay az c b w : Nat → Int32} {a r y j : Nat} (ha : a < 30) (hop : op a = 7) (hx : ax a = nI r) (hr : r < 4) (hy : ay a = nI y) (hyl : y < 4) (hj : pf_w1 w a y &&& 7 = nI j) (hjl : j < 8)
    (h : post (cn, gb, nI 0, op, ax, ay, az, c, b, pf_w1 w a)) : wpX_execute post (cn, gb, nI 0, op, ax, ay, az, c, b, w) (nI a) := by
  have hc := nI_clamp (n := a) (by omega)
  have hi : vp_in (nI a) 30 := vp_in_nI ha (by decide)
  have hrc := nI_clamp (n := r) (by omega)
  have hri : vp_in (nI r) 11 := vp_in_nI (by omega) (by decide)
  have hyc := nI_clamp (n := y) (by omega)
  have hyi : vp_in (nI y) 11 := vp_in_nI (by omega) (by decide)
  have hjc := nI_clamp (n := j) (by omega)
  have hji : vp_in (nI j) 12 := vp_in_nI (by omega) (by decide)
  have hTl := pf_00
  simp (decide := true) only [wpX_execute, wpX_moveWord, wX_moveWord_12, wX_moveWord_17, wX_moveWord_37, wX_moveWord_58, wpX_tick, hc, hi, hop, hx, hy, hrc, hri, hjc, hji, hyc, hyi, hj, hTl, forall_eq, nI_1, pf_fold, Int32.reduceLT, Int32.reduceLE, true_implies, false_implies, not_true_eq_false, not_false_eq_true, and_true, true_and, implies_true, forall_const]
  exact h
theorem pf_y7 {post : Int32 → SY → Prop} {cn : Int32} {op ax ay az c rg lf : Nat → Int32} {a r y j : Nat} (ha : a < 30) (hop : op a = 7) (hx : ax a = nI r) (hr : r < 4) (hy : ay a = nI y) (hyl : y < 4) (hj : rg y &&& 7 = nI j) (hjl : j < 8)
    (h : post (nI (a + 1)) (cn, op, ax, ay, az, upd c j (rg r), rg, lf)) : wpY_step post (cn, op, ax, ay, az, c, rg, lf) (nI a) := by
  have hc := nI_clamp (n := a) (by omega)
  have hi : vp_in (nI a) 30 := vp_in_nI ha (by decide)
  have hrc := nI_clamp (n := r) (by omega)
  have hri : vp_in (nI r) 4 := vp_in_nI (by omega) (by decide)
  have hyc := nI_clamp (n := y) (by omega)
  have hyi : vp_in (nI y) 4 := vp_in_nI (by omega) (by decide)
  have hjc := nI_clamp (n := j) (by omega)
  have hji : vp_in (nI j) 12 := vp_in_nI (by omega) (by decide)
  simp (decide := true) only [wpY_step, wY_step_30, wY_step_64, wY_step_98, wY_step_132, wY_step_154, wY_step_176, wY_step_207, wY_step_238, wY_step_264, wY_step_282, hc, hi, hop, hx, hy, hrc, hri, hjc, hji, hyc, hyi, hj, forall_eq, nI_1, pf_fold, Int32.reduceLT, Int32.reduceLE, true_implies, false_implies, not_true_eq_false, not_false_eq_true, and_true, true_and, implies_true, forall_const]
  exact h
theorem pf_x8 {post : SX → Prop} {cn gb tl : Int32} {op ax ay az c b w : Nat → Int32} {a r m : Nat} (ha : a < 30) (hop : op a = 8) (hx : ax a = nI r) (hr : r < 4) (hy : ay a = nI m)
    (h1 : 0 < pf_w1 w a r → post (cn, gb, tl, op, ax, ay, az, c, b, pf_w1 w a)) (h2 : ¬ 0 < pf_w1 w a r → post (cn, gb, tl, op, ax, ay, az, c, b, upd (pf_w1 w a) 4 (nI (a + 1 + m)))) : wpX_execute post (cn, gb, tl, op, ax, ay, az, c, b, w) (nI a) := by
  have hc := nI_clamp (n := a) (by omega)
  have hi : vp_in (nI a) 30 := vp_in_nI ha (by decide)
  have hrc := nI_clamp (n := r) (by omega)
  have hri : vp_in (nI r) 11 := vp_in_nI (by omega) (by decide)
  have h4 := pf_w14 w a
  have ha4 := nI_add (a + 1) m
  simp (decide := true) only [wpX_execute, wpX_leaveOutUnlessPositive, hc, hi, hop, hx, hy, hrc, hri, h4, ha4, forall_eq, nI_1, pf_fold, Int32.reduceLT, Int32.reduceLE, true_implies, false_implies, not_true_eq_false, not_false_eq_true, and_true, true_and, implies_true, forall_const]
  exact ⟨h1, h2⟩
theorem pf_y8 {post : Int32 → SY → Prop} {cn : Int32} {op ax ay az c rg lf : Nat → Int32} {a r m : Nat} (ha : a < 30) (hop : op a = 8) (hx : ax a = nI r) (hr : r < 4) (hy : ay a = nI m)
    (h1 : 0 < rg r → post (nI (a + 1)) (cn, op, ax, ay, az, c, rg, lf)) (h2 : ¬ 0 < rg r → post (nI (a + m + 1)) (cn, op, ax, ay, az, c, rg, lf)) : wpY_step post (cn, op, ax, ay, az, c, rg, lf) (nI a) := by
  have hc := nI_clamp (n := a) (by omega)
  have hi : vp_in (nI a) 30 := vp_in_nI ha (by decide)
  have hrc := nI_clamp (n := r) (by omega)
  have hri : vp_in (nI r) 4 := vp_in_nI (by omega) (by decide)
  have ha4 := nI_add a m
  simp (decide := true) only [wpY_step, wY_step_30, wY_step_64, wY_step_98, wY_step_132, wY_step_154, wY_step_176, wY_step_207, wY_step_238, wY_step_264, wY_step_282, hc, hi, hop, hx, hy, hrc, hri, ha4, forall_eq, nI_1, pf_fold, Int32.reduceLT, Int32.reduceLE, true_implies, false_implies, not_true_eq_false, not_false_eq_true, and_true, true_and, implies_true, forall_const]
  exact ⟨h1, h2⟩
theorem pf_x9 {post : SX → Prop} {cn gb tl : Int32} {op ax ay az c b w : Nat → Int32} {a d : Nat} (ha : a < 30) (hop : op a = 9) (hd : d ≤ 1) (h6 : w 6 = nI d)
    (h : post (cn, gb, tl, op, ax, ay, az, c, b, upd (upd (upd (pf_w1 w a) (7 + d) (ax a)) (9 + d) (nI (a + 1))) 6 (nI (d + 1)))) : wpX_execute post (cn, gb, tl, op, ax, ay, az, c, b, w) (nI a) := by
  have hc := nI_clamp (n := a) (by omega)
  have hi : vp_in (nI a) 30 := vp_in_nI ha (by decide)
  have h6' : pf_w1 w a 6 = nI d := (pf_w1n (by decide) (by decide)).trans h6
  have hd0 : ¬ nI d < 0 := nI_pos (by omega)
  have hd2 : ¬ (2 : Int32) ≤ nI d := nI_ge (b := 2) (by omega) (by decide)
  have e7 := pf_7 d
  have e9 := pf_9 d
  have c7 := nI_clamp (n := 7 + d) (by omega)
  have c9 := nI_clamp (n := 9 + d) (by omega)
  have i7 : vp_in (nI (7 + d)) 11 := vp_in_nI (by omega) (by decide)
  have i9 : vp_in (nI (9 + d)) 11 := vp_in_nI (by omega) (by decide)
  have h4 : upd (pf_w1 w a) (7 + d) (ax a) 4 = nI (a + 1) := by rw [pk_un (by omega), pf_w14]
  simp (decide := true) only [wpX_execute, wpX_openLoop, hc, hi, hop, h6', hd0, hd2, e7, e9, c7, c9, i7, i9, h4, forall_eq, nI_1, pf_fold, Int32.reduceLT, Int32.reduceLE, true_implies, false_implies, not_true_eq_false, not_false_eq_true, and_true, true_and, implies_true, forall_const]
  exact h
theorem pf_y9 {post : Int32 → SY → Prop} {cn : Int32} {op ax ay az c rg lf : Nat → Int32} {a : Nat} (ha : a < 30) (hop : op a = 9)
    (h : post (nI (a + 1)) (cn, op, ax, ay, az, c, rg, upd lf a (ax a))) : wpY_step post (cn, op, ax, ay, az, c, rg, lf) (nI a) := by
  have hc := nI_clamp (n := a) (by omega)
  have hi : vp_in (nI a) 30 := vp_in_nI ha (by decide)
  simp (decide := true) only [wpY_step, wY_step_30, wY_step_64, wY_step_98, wY_step_132, wY_step_154, wY_step_176, wY_step_207, wY_step_238, wY_step_264, wY_step_282, hc, hi, hop, forall_eq, nI_1, pf_fold, Int32.reduceLT, Int32.reduceLE, true_implies, false_implies, not_true_eq_false, not_false_eq_true, and_true, true_and, implies_true, forall_const]
  exact h
theorem pf_xA {post : SX → Prop} {cn gb tl : Int32} {op ax ay az c b w : Nat → Int32} {a t l o : Nat} (ha : a < 30) (hop : op a = 10) (ht : t ≤ 1) (h6 : w 6 = nI (t + 1)) (h7 : w (7 + t) = nI (l + 1)) (hl : 1 ≤ l) (hl6 : l ≤ 6) (h9 : w (9 + t) = nI (o + 1))
    (h : post (cn, gb, tl, op, ax, ay, az, c, b, upd (upd (pf_w1 w a) (7 + t) (nI l)) 4 (nI (o + 1)))) : wpX_execute post (cn, gb, tl, op, ax, ay, az, c, b, w) (nI a) := by
  have hc := nI_clamp (n := a) (by omega)
  have hi : vp_in (nI a) 30 := vp_in_nI ha (by decide)
  have h6' : pf_w1 w a 6 - 1 = nI t := by rw [pf_w1n (by decide) (by decide), h6]; exact nI_pred t
  have hd0 : ¬ nI t < 0 := nI_pos (by omega)
  have hd2 : ¬ (2 : Int32) ≤ nI t := nI_ge (b := 2) (by omega) (by decide)
  have e7 := pf_7 t
  have e9 := pf_9 t
  have c7 := nI_clamp (n := 7 + t) (by omega)
  have c9 := nI_clamp (n := 9 + t) (by omega)
  have i7 : vp_in (nI (7 + t)) 11 := vp_in_nI (by omega) (by decide)
  have i9 : vp_in (nI (9 + t)) 11 := vp_in_nI (by omega) (by decide)
  have h7' : pf_w1 w a (7 + t) - 1 = nI l := by rw [pf_w1n (by omega) (by omega), h7]; exact nI_pred l
  have hu : upd (pf_w1 w a) (7 + t) (nI l) (7 + t) = nI l := pk_us
  have hl0 : ¬ nI l ≤ 0 := nI_nle (by omega) (by omega)
  have h9' : upd (pf_w1 w a) (7 + t) (nI l) (9 + t) = nI (o + 1) := by rw [pk_un (by omega), pf_w1n (by omega) (by omega), h9]
  simp (decide := true) only [wpX_execute, wpX_endPass, hc, hi, hop, h6', hd0, hd2, e7, e9, c7, c9, i7, i9, h7', hu, hl0, h9', forall_eq, nI_1, pf_fold, Int32.reduceLT, Int32.reduceLE, true_implies, false_implies, not_true_eq_false, not_false_eq_true, and_true, true_and, implies_true, forall_const]
  exact h
theorem pf_xB {post : SX → Prop} {cn gb tl : Int32} {op ax ay az c b w : Nat → Int32} {a t : Nat} (ha : a < 30) (hop : op a = 10) (ht : t ≤ 1) (h6 : w 6 = nI (t + 1)) (h7 : w (7 + t) = nI 1)
    (h : post (cn, gb, tl, op, ax, ay, az, c, b, upd (upd (pf_w1 w a) (7 + t) (nI 0)) 6 (nI t))) : wpX_execute post (cn, gb, tl, op, ax, ay, az, c, b, w) (nI a) := by
  have hc := nI_clamp (n := a) (by omega)
  have hi : vp_in (nI a) 30 := vp_in_nI ha (by decide)
  have h6' : pf_w1 w a 6 - 1 = nI t := by rw [pf_w1n (by decide) (by decide), h6]; exact nI_pred t
  have hd0 : ¬ nI t < 0 := nI_pos (by omega)
  have hd2 : ¬ (2 : Int32) ≤ nI t := nI_ge (b := 2) (by omega) (by decide)
  have e7 := pf_7 t
  have e9 := pf_9 t
  have c7 := nI_clamp (n := 7 + t) (by omega)
  have c9 := nI_clamp (n := 9 + t) (by omega)
  have i7 : vp_in (nI (7 + t)) 11 := vp_in_nI (by omega) (by decide)
  have i9 : vp_in (nI (9 + t)) 11 := vp_in_nI (by omega) (by decide)
  have h7' : pf_w1 w a (7 + t) - 1 = nI 0 := by rw [pf_w1n (by omega) (by omega), h7]; exact nI_pred 0
  have hu : upd (pf_w1 w a) (7 + t) (nI 0) (7 + t) = nI 0 := pk_us
  have hl0 : nI 0 ≤ 0 := by decide
  simp (decide := true) only [wpX_execute, wpX_endPass, hc, hi, hop, h6', hd0, hd2, e7, e9, c7, c9, i7, i9, h7', hu, hl0, forall_eq, nI_1, pf_fold, Int32.reduceLT, Int32.reduceLE, true_implies, false_implies, not_true_eq_false, not_false_eq_true, and_true, true_and, implies_true, forall_const]
  exact h
end
section
/-! one step of the chain: X's execute and Y's step from the same words (written by wip/whole/gen06.py) -/
theorem pf_opener {post : Int32 → Prop} {cn : Int32} {op ax ay az c rg lf : Nat → Int32} {e o t : Nat} (he : e < 30) (h9 : op o = 9) (hdo : pf_dp op o = t) (hde : pf_dp op (e + 1) = t)
    (hoe : o < e) (hj : ∀ j, o < j → j ≤ e → (t : Int) + 1 ≤ pf_dp op j) (hb : ∀ j, j ≤ e + 1 → pf_dp op j ≤ 2) (h : post (nI o)) :
    wpY_openerOf post (cn, op, ax, ay, az, c, rg, lf) (nI e) := by
  have L : ∀ i k q : Nat, k = o + i → k ≤ e → (q : Int) = pf_dp op (k + 1) - t → wY_openerOf_4 post cn op ax ay az c rg lf (i + 1) (nI q) (nI k) := by
    intro i
    induction i with
    | zero =>
      intro k q hk hi hq
      obtain rfl : k = o := by omega
      have hc := nI_clamp (n := k) (by omega)
      have hv : vp_in (nI k) 30 := vp_in_nI (by omega) (by decide)
      have ho : op (nI k).toNatClampNeg = 9 := by rw [hc]; exact h9
      have hd := pf_dp9 h9
      obtain rfl : q = 1 := by omega
      exact br_f (nI_pos (by omega)) ⟨hv, br_f (by rw [ho]; decide) ⟨hv, br_t ho (nm_r (pk_m1 0) (br_t nI_0 h))⟩⟩
    | succ i ih =>
      intro k q hk hi hq
      obtain ⟨p, rfl⟩ : ∃ p, k = p + 1 := ⟨k - 1, by omega⟩
      have hjk := hj (p + 1) (by omega) (by omega)
      have hb1 := hb (p + 1 + 1) (by omega)
      have hb2 := hb (p + 1) (by omega)
      have hc := nI_clamp (n := p + 1) (by omega)
      have hv : vp_in (nI (p + 1)) 30 := vp_in_nI (by omega) (by decide)
      have ho : op (nI (p + 1)).toNatClampNeg = op (p + 1) := by rw [hc]
      have hg := nI_pos (n := p + 1) (by omega)
      by_cases h10 : op (p + 1) = 10
      · have hd := pf_dp10 h10
        exact br_f hg ⟨hv, br_t (ho.trans h10) (nm_r (nI_1 q) ⟨hv, br_f (by rw [ho, h10]; decide) (br_f (nI_ne0 (by omega) (by omega)) (nm_r (pk_m1 p) (ih p (q + 1) (by omega) (by omega) (by omega))))⟩)⟩
      · have h10' : ¬ op (nI (p + 1)).toNatClampNeg = 10 := by rw [ho]; exact h10
        by_cases h9p : op (p + 1) = 9
        · have hd := pf_dp9 h9p
          obtain ⟨q', rfl⟩ : ∃ q', q = q' + 1 := ⟨q - 1, by omega⟩
          exact br_f hg ⟨hv, br_f h10' ⟨hv, br_t (ho.trans h9p) (nm_r (pk_m1 q') (br_f (nI_ne0 (by omega) (by omega)) (nm_r (pk_m1 p) (ih p q' (by omega) (by omega) (by omega)))))⟩⟩
        · have hd := pf_dpo h9p h10
          have h9' : ¬ op (nI (p + 1)).toNatClampNeg = 9 := by rw [ho]; exact h9p
          exact br_f hg ⟨hv, br_f h10' ⟨hv, br_f h9' (br_f (nI_ne0 (by omega) (by omega)) (nm_r (pk_m1 p) (ih p q (by omega) (by omega) (by omega))))⟩⟩
  have := L (e - o) e 0 (by omega) (by omega) (by omega)
  exact ⟨_, this⟩
theorem pf_yE {post : Int32 → SY → Prop} {cn : Int32} {op ax ay az c rg lf : Nat → Int32} {a o l : Nat} (ha : a < 30) (hop : op a = 10) (ho : o < 30)
    (hO : ∀ P : Int32 → Prop, P (nI o) → wpY_openerOf P (cn, op, ax, ay, az, c, rg, lf) (nI a)) (hl : lf o = nI (l + 1)) (hl6 : l ≤ 6)
    (h1 : l = 0 → post (nI (a + 1)) (cn, op, ax, ay, az, c, rg, upd lf o (nI l))) (h2 : 1 ≤ l → post (nI (o + 1)) (cn, op, ax, ay, az, c, rg, upd lf o (nI l))) :
    wpY_step post (cn, op, ax, ay, az, c, rg, lf) (nI a) := by
  have hc := nI_clamp (n := a) (by omega)
  have hi : vp_in (nI a) 30 := vp_in_nI ha (by decide)
  have hoc := nI_clamp (n := o) (by omega)
  have hoi : vp_in (nI o) 30 := vp_in_nI ho (by decide)
  have n0 : ¬ op (nI a).toNatClampNeg = 0 := by rw [hc, hop]; decide
  have n1 : ¬ op (nI a).toNatClampNeg = 1 := by rw [hc, hop]; decide
  have n2 : ¬ op (nI a).toNatClampNeg = 2 := by rw [hc, hop]; decide
  have n3 : ¬ op (nI a).toNatClampNeg = 3 := by rw [hc, hop]; decide
  have n4 : ¬ op (nI a).toNatClampNeg = 4 := by rw [hc, hop]; decide
  have n5 : ¬ op (nI a).toNatClampNeg = 5 := by rw [hc, hop]; decide
  have n6 : ¬ op (nI a).toNatClampNeg = 6 := by rw [hc, hop]; decide
  have n7 : ¬ op (nI a).toNatClampNeg = 7 := by rw [hc, hop]; decide
  have n8 : ¬ op (nI a).toNatClampNeg = 8 := by rw [hc, hop]; decide
  have n9 : ¬ op (nI a).toNatClampNeg = 9 := by rw [hc, hop]; decide
  have n10 : op (nI a).toNatClampNeg = 10 := by rw [hc]; exact hop
  have hu : upd lf o (nI l) (nI o).toNatClampNeg = nI l := by rw [hoc]; exact pk_us
  refine ⟨hi, nm_e ⟨hi, nm_e ⟨hi, br_f n0 ⟨hi, br_f n1 ⟨hi, br_f n2 ⟨hi, br_f n3 ⟨hi, br_f n4 ⟨hi, br_f n5 ⟨hi, br_f n6 ⟨hi, br_f n7 ⟨hi, br_f n8 ⟨hi, br_f n9 ⟨hi, br_t n10 ?_⟩⟩⟩⟩⟩⟩⟩⟩⟩⟩⟩⟩⟩
  refine hO _ ⟨hoi, hoi, nm_r (e' := upd lf o (nI l)) (by rw [hoc, hl, nI_pred]) ⟨hoi, ?_⟩⟩
  by_cases z : l = 0
  · refine br_t (by rw [hu, z]; decide) ?_
    rw [nI_1]
    exact h1 z
  · refine br_f (by rw [hu]; exact nI_nle (by omega) (by omega)) ?_
    rw [nI_1]
    exact h2 (by omega)
/-- Y's registers and passes against the words -/
def pf_Y (w rg lf : Nat → Int32) : Prop :=
  (∀ r, r < 4 → rg r = w r) ∧ ∀ t d q, w 6 = nI d → d ≤ 2 → t < d → w (9 + t) = nI (q + 1) → q < 30 → lf q = w (7 + t)
/-- one instruction from the words w and the cells c to w' and c' -/
def pf_R (n : Nat) (op ax ay az w c w' c' : Nat → Int32) : Prop :=
  (∃ a, a < n ∧ w 4 = nI a) ∧ w' 5 = w 5 + 1 ∧
  (∀ (post : SX → Prop) (gb : Int32) (T : Nat) (b cX : Nat → Int32), T < 2 ^ 31 → (cX = c ∨ cX = c') → 1 ≤ T →
    (∀ T', T ≤ T' + 1 → T' ≤ T → post (nI n, gb, nI T', op, ax, ay, az, c', b, w')) → wpX_execute post (nI n, gb, nI T, op, ax, ay, az, cX, b, w) (w 4)) ∧
  (∀ (post : SX → Prop) (gb : Int32) (b cX : Nat → Int32), (∀ wk, pf_Z wk → post (nI n, gb, nI 0, op, ax, ay, az, cX, b, wk)) →
    wpX_execute post (nI n, gb, nI 0, op, ax, ay, az, cX, b, w) (w 4)) ∧
  (∀ (post : Int32 → SY → Prop) (rg lf : Nat → Int32), pf_Y w rg lf → (∀ rg' lf', pf_Y w' rg' lf' → post (w' 4) (nI n, op, ax, ay, az, c', rg', lf')) →
    wpY_step post (nI n, op, ax, ay, az, c, rg, lf) (w 4))
section
variable {n a d m r : Nat} {op ax ay az w c rg lf : Nat → Int32} {o e l : Nat → Nat}
theorem pf_iv1 (S : pf_st op n w a d o e l) (hb : pf_bu n a d o e l ≤ m) (ha : a < n) (h9 : ¬ op a = 9) (h10 : ¬ op a = 10) (w' : Nat → Int32) (e4 : w' 4 = nI (a + 1))
    (hw : ∀ i, 6 ≤ i → i ≤ 10 → w' i = w i) : ∃ m', m' < m ∧ pf_iv op n w' m' := by
  have P := pf_plain S (a + 1) (by omega) (by omega) (fun j h1 h2 => by
    obtain rfl : j = a := by omega
    exact ⟨h9, h10⟩) e4 hw
  exact ⟨_, Nat.lt_of_lt_of_le P.2 hb, _, _, _, _, _, P.1, Nat.le_refl _⟩
theorem pf_Yp {w' rg' : Nat → Int32} (hY : pf_Y w rg lf) (hr : ∀ i, i < 4 → rg' i = w' i) (hw : ∀ i, 6 ≤ i → i ≤ 10 → w' i = w i) : pf_Y w' rg' lf := by
  refine ⟨hr, fun t d q h6 hd ht h9 hq => ?_⟩
  rw [hw 6 (by omega) (by omega)] at h6
  rw [hw (9 + t) (by omega) (by omega)] at h9
  rw [hw (7 + t) (by omega) (by omega)]
  exact hY.2 t d q h6 hd ht h9 hq
theorem pf_rw4 {v : Int32} (hr : r < 4) : upd (pf_w1 w a) r v 4 = nI (a + 1) := by rw [pk_un (by omega), pf_w14]
theorem pf_rw5 {v : Int32} (hr : r < 4) : upd (pf_w1 w a) r v 5 = w 5 + 1 := by rw [pk_un (by omega), pf_w15]
theorem pf_rwn {v : Int32} (hr : r < 4) : ∀ i, 6 ≤ i → i ≤ 10 → upd (pf_w1 w a) r v i = w i := by
  intro i h1 h2
  rw [pk_un (by omega), pf_w1n (by omega) (by omega)]
theorem pf_w1m : ∀ i, 6 ≤ i → i ≤ 10 → pf_w1 w a i = w i := fun _ _ _ => pf_w1n (by omega) (by omega)
theorem pf_w1r (h : ∀ i, i < 4 → rg i = w i) : ∀ i, i < 4 → rg i = pf_w1 w a i := by
  intro i hi
  rw [pf_w1n (by omega) (by omega)]
  exact h i hi
theorem pf_rwr {v : Int32} (h : ∀ i, i < 4 → rg i = w i) : ∀ i, i < 4 → upd rg r v i = upd (pf_w1 w a) r v i := by
  intro i hi
  by_cases z : i = r
  · rw [z, pk_us, pk_us]
  · rw [pk_un z, pk_un z]
    exact pf_w1r h i hi
theorem pf_rwZ {v : Int32} (hr : r < 4) (hz : pf_Z w) : pf_Z (upd (pf_w1 w a) r v) := pf_Zu (pf_w1Z hz) (by omega)
theorem pf_uu (f : Nat → Int32) (k : Nat) (x : Int32) : upd (upd f k x) k x = upd f k x := by
  funext j
  by_cases z : j = k
  · rw [z, pk_us, pk_us]
  · rw [pk_un z]
theorem pf_c0 (hn : n ≤ 30) (S : pf_st op n w a d o e l) (hb : pf_bu n a d o e l ≤ m) (hz : pf_Z w) (ha : a < n) (hop : op a = 0) (hx : ax a = nI r) (hr : r < 4)  : ∃ w' c' : Nat → Int32, ∃ m', m' < m ∧ pf_iv op n w' m' ∧ pf_Z w' ∧ pf_R n op ax ay az w c w' c' := by
  obtain ⟨m', hm, hv⟩ := pf_iv1 S hb ha (by rw [hop]; decide) (by rw [hop]; decide) (upd (pf_w1 w a) r (ay a)) (pf_rw4 hr) (pf_rwn hr)
  refine ⟨upd (pf_w1 w a) r (ay a), c, m', hm, hv, pf_rwZ hr hz, ⟨a, ha, S.1⟩, pf_rw5 hr, ?_, ?_, ?_⟩
  · intro post gb T b cX hT hc h1 h
    rw [S.1]
    obtain rfl : cX = c := by
      rcases hc with z | z
      · exact z
      · exact z
    exact pf_x0 (by omega) hop hx hr  (h T (by omega) (Nat.le_refl _))
  · intro post gb b cX h
    rw [S.1]
    exact pf_x0 (by omega) hop hx hr  (h _ (pf_rwZ hr hz))
  · intro post rg lf hY h
    rw [S.1]
    have hq := h _ lf (pf_Yp hY (pf_rwr (r := r) (v := ay a) hY.1) (pf_rwn hr))
    rw [pf_rw4 hr] at hq
    refine pf_y0 (by omega) hop hx hr ?_
    exact hq
theorem pf_c1 (hn : n ≤ 30) (S : pf_st op n w a d o e l) (hb : pf_bu n a d o e l ≤ m) (hz : pf_Z w) (ha : a < n) (hop : op a = 1) (hx : ax a = nI r) (hr : r < 4) {s t : Nat} (hy : ay a = nI s) (hs : s < 4) (hzz : az a = nI t) (ht : t < 4) : ∃ w' c' : Nat → Int32, ∃ m', m' < m ∧ pf_iv op n w' m' ∧ pf_Z w' ∧ pf_R n op ax ay az w c w' c' := by
  obtain ⟨m', hm, hv⟩ := pf_iv1 S hb ha (by rw [hop]; decide) (by rw [hop]; decide) (upd (pf_w1 w a) r (pf_w1 w a s + pf_w1 w a t)) (pf_rw4 hr) (pf_rwn hr)
  refine ⟨upd (pf_w1 w a) r (pf_w1 w a s + pf_w1 w a t), c, m', hm, hv, pf_rwZ hr hz, ⟨a, ha, S.1⟩, pf_rw5 hr, ?_, ?_, ?_⟩
  · intro post gb T b cX hT hc h1 h
    rw [S.1]
    obtain rfl : cX = c := by
      rcases hc with z | z
      · exact z
      · exact z
    exact pf_x1 (by omega) hop hx hr hy hs hzz ht (h T (by omega) (Nat.le_refl _))
  · intro post gb b cX h
    rw [S.1]
    exact pf_x1 (by omega) hop hx hr hy hs hzz ht (h _ (pf_rwZ hr hz))
  · intro post rg lf hY h
    rw [S.1]
    have hq := h _ lf (pf_Yp hY (pf_rwr (r := r) (v := pf_w1 w a s + pf_w1 w a t) hY.1) (pf_rwn hr))
    rw [pf_rw4 hr] at hq
    refine pf_y1 (by omega) hop hx hr hy hs hzz ht ?_
    rw [pf_w1r (a := a) hY.1 s hs, pf_w1r (a := a) hY.1 t ht]
    exact hq
theorem pf_c2 (hn : n ≤ 30) (S : pf_st op n w a d o e l) (hb : pf_bu n a d o e l ≤ m) (hz : pf_Z w) (ha : a < n) (hop : op a = 2) (hx : ax a = nI r) (hr : r < 4) {s t : Nat} (hy : ay a = nI s) (hs : s < 4) (hzz : az a = nI t) (ht : t < 4) : ∃ w' c' : Nat → Int32, ∃ m', m' < m ∧ pf_iv op n w' m' ∧ pf_Z w' ∧ pf_R n op ax ay az w c w' c' := by
  obtain ⟨m', hm, hv⟩ := pf_iv1 S hb ha (by rw [hop]; decide) (by rw [hop]; decide) (upd (pf_w1 w a) r (pf_w1 w a s - pf_w1 w a t)) (pf_rw4 hr) (pf_rwn hr)
  refine ⟨upd (pf_w1 w a) r (pf_w1 w a s - pf_w1 w a t), c, m', hm, hv, pf_rwZ hr hz, ⟨a, ha, S.1⟩, pf_rw5 hr, ?_, ?_, ?_⟩
  · intro post gb T b cX hT hc h1 h
    rw [S.1]
    obtain rfl : cX = c := by
      rcases hc with z | z
      · exact z
      · exact z
    exact pf_x2 (by omega) hop hx hr hy hs hzz ht (h T (by omega) (Nat.le_refl _))
  · intro post gb b cX h
    rw [S.1]
    exact pf_x2 (by omega) hop hx hr hy hs hzz ht (h _ (pf_rwZ hr hz))
  · intro post rg lf hY h
    rw [S.1]
    have hq := h _ lf (pf_Yp hY (pf_rwr (r := r) (v := pf_w1 w a s - pf_w1 w a t) hY.1) (pf_rwn hr))
    rw [pf_rw4 hr] at hq
    refine pf_y2 (by omega) hop hx hr hy hs hzz ht ?_
    rw [pf_w1r (a := a) hY.1 s hs, pf_w1r (a := a) hY.1 t ht]
    exact hq
theorem pf_c3 (hn : n ≤ 30) (S : pf_st op n w a d o e l) (hb : pf_bu n a d o e l ≤ m) (hz : pf_Z w) (ha : a < n) (hop : op a = 3) (hx : ax a = nI r) (hr : r < 4) {s t : Nat} (hy : ay a = nI s) (hs : s < 4) (hzz : az a = nI t) (ht : t < 4) : ∃ w' c' : Nat → Int32, ∃ m', m' < m ∧ pf_iv op n w' m' ∧ pf_Z w' ∧ pf_R n op ax ay az w c w' c' := by
  obtain ⟨m', hm, hv⟩ := pf_iv1 S hb ha (by rw [hop]; decide) (by rw [hop]; decide) (upd (pf_w1 w a) r (pf_w1 w a s * pf_w1 w a t)) (pf_rw4 hr) (pf_rwn hr)
  refine ⟨upd (pf_w1 w a) r (pf_w1 w a s * pf_w1 w a t), c, m', hm, hv, pf_rwZ hr hz, ⟨a, ha, S.1⟩, pf_rw5 hr, ?_, ?_, ?_⟩
  · intro post gb T b cX hT hc h1 h
    rw [S.1]
    obtain rfl : cX = c := by
      rcases hc with z | z
      · exact z
      · exact z
    exact pf_x3 (by omega) hop hx hr hy hs hzz ht (h T (by omega) (Nat.le_refl _))
  · intro post gb b cX h
    rw [S.1]
    exact pf_x3 (by omega) hop hx hr hy hs hzz ht (h _ (pf_rwZ hr hz))
  · intro post rg lf hY h
    rw [S.1]
    have hq := h _ lf (pf_Yp hY (pf_rwr (r := r) (v := pf_w1 w a s * pf_w1 w a t) hY.1) (pf_rwn hr))
    rw [pf_rw4 hr] at hq
    refine pf_y3 (by omega) hop hx hr hy hs hzz ht ?_
    rw [pf_w1r (a := a) hY.1 s hs, pf_w1r (a := a) hY.1 t ht]
    exact hq
theorem pf_c4 (hn : n ≤ 30) (S : pf_st op n w a d o e l) (hb : pf_bu n a d o e l ≤ m) (hz : pf_Z w) (ha : a < n) (hop : op a = 4) (hx : ax a = nI r) (hr : r < 4) {j : Nat} (hy : ay a = nI j) (hj : j < 12) : ∃ w' c' : Nat → Int32, ∃ m', m' < m ∧ pf_iv op n w' m' ∧ pf_Z w' ∧ pf_R n op ax ay az w c w' c' := by
  obtain ⟨m', hm, hv⟩ := pf_iv1 S hb ha (by rw [hop]; decide) (by rw [hop]; decide) (upd (pf_w1 w a) r (c j)) (pf_rw4 hr) (pf_rwn hr)
  refine ⟨upd (pf_w1 w a) r (c j), c, m', hm, hv, pf_rwZ hr hz, ⟨a, ha, S.1⟩, pf_rw5 hr, ?_, ?_, ?_⟩
  · intro post gb T b cX hT hc h1 h
    rw [S.1]
    obtain rfl : cX = c := by
      rcases hc with z | z
      · exact z
      · exact z
    obtain ⟨T', rfl⟩ : ∃ T', T = T' + 1 := ⟨T - 1, by omega⟩
    exact pf_x4 (by omega) hT hop hx hr hy hj (h T' (by omega) (by omega))
  · intro post gb b cX h
    rw [S.1]
    exact pf_x4z (by omega) hop hx hr hy hj (h _ (pf_w1Z hz))
  · intro post rg lf hY h
    rw [S.1]
    have hq := h _ lf (pf_Yp hY (pf_rwr (r := r) (v := c j) hY.1) (pf_rwn hr))
    rw [pf_rw4 hr] at hq
    refine pf_y4 (by omega) hop hx hr hy hj ?_
    exact hq
theorem pf_c6 (hn : n ≤ 30) (S : pf_st op n w a d o e l) (hb : pf_bu n a d o e l ≤ m) (hz : pf_Z w) (ha : a < n) (hop : op a = 6) (hx : ax a = nI r) (hr : r < 4) {y : Nat} (hy : ay a = nI y) (hyl : y < 4) : ∃ w' c' : Nat → Int32, ∃ m', m' < m ∧ pf_iv op n w' m' ∧ pf_Z w' ∧ pf_R n op ax ay az w c w' c' := by
  obtain ⟨j, hjl, hj⟩ := pk_andE (pf_w1 w a y) (m := 7) 3 (by decide)
  obtain ⟨m', hm, hv⟩ := pf_iv1 S hb ha (by rw [hop]; decide) (by rw [hop]; decide) (upd (pf_w1 w a) r (c j)) (pf_rw4 hr) (pf_rwn hr)
  refine ⟨upd (pf_w1 w a) r (c j), c, m', hm, hv, pf_rwZ hr hz, ⟨a, ha, S.1⟩, pf_rw5 hr, ?_, ?_, ?_⟩
  · intro post gb T b cX hT hc h1 h
    rw [S.1]
    obtain rfl : cX = c := by
      rcases hc with z | z
      · exact z
      · exact z
    obtain ⟨T', rfl⟩ : ∃ T', T = T' + 1 := ⟨T - 1, by omega⟩
    exact pf_x6 (by omega) hT hop hx hr hy hyl hj hjl (h T' (by omega) (by omega))
  · intro post gb b cX h
    rw [S.1]
    exact pf_x6z (by omega) hop hx hr hy hyl hj hjl (h _ (pf_w1Z hz))
  · intro post rg lf hY h
    rw [S.1]
    have hq := h _ lf (pf_Yp hY (pf_rwr (r := r) (v := c j) hY.1) (pf_rwn hr))
    rw [pf_rw4 hr] at hq
    refine pf_y6 (by omega) hop hx hr hy hyl (by rw [pf_w1r (a := a) hY.1 y hyl]; exact hj) hjl ?_
    exact hq
theorem pf_c5 (hn : n ≤ 30) (S : pf_st op n w a d o e l) (hb : pf_bu n a d o e l ≤ m) (hz : pf_Z w) (ha : a < n) (hop : op a = 5) (hx : ax a = nI r) (hr : r < 4) {j : Nat} (hy : ay a = nI j) (hj : j < 12) : ∃ w' c' : Nat → Int32, ∃ m', m' < m ∧ pf_iv op n w' m' ∧ pf_Z w' ∧ pf_R n op ax ay az w c w' c' := by
  obtain ⟨m', hm, hv⟩ := pf_iv1 S hb ha (by rw [hop]; decide) (by rw [hop]; decide) (pf_w1 w a) (pf_w14 w a) pf_w1m
  refine ⟨pf_w1 w a, upd c j (pf_w1 w a r), m', hm, hv, pf_w1Z hz, ⟨a, ha, S.1⟩, pf_w15 w a, ?_, ?_, ?_⟩
  · intro post gb T b cX hT hc h1 h
    rw [S.1]
    have hcc : upd cX j (pf_w1 w a r) = upd c j (pf_w1 w a r) := by
      rcases hc with z | z
      · rw [z]
      · rw [z, pf_uu]
    obtain ⟨T', rfl⟩ : ∃ T', T = T' + 1 := ⟨T - 1, by omega⟩
    refine pf_x5 (by omega) hT hop hx hr hy hj ?_
    rw [hcc]
    exact h T' (by omega) (by omega)
  · intro post gb b cX h
    rw [S.1]
    exact pf_x5z (by omega) hop hx hr hy hj (h _ (pf_w1Z hz))
  · intro post rg lf hY h
    rw [S.1]
    have hq := h rg lf (pf_Yp hY (pf_w1r hY.1) pf_w1m)
    rw [pf_w14] at hq
    refine pf_y5 (by omega) hop hx hr hy hj ?_
    rw [pf_w1r (a := a) hY.1 r hr]
    exact hq
theorem pf_c7 (hn : n ≤ 30) (S : pf_st op n w a d o e l) (hb : pf_bu n a d o e l ≤ m) (hz : pf_Z w) (ha : a < n) (hop : op a = 7) (hx : ax a = nI r) (hr : r < 4) {y : Nat} (hy : ay a = nI y) (hyl : y < 4) : ∃ w' c' : Nat → Int32, ∃ m', m' < m ∧ pf_iv op n w' m' ∧ pf_Z w' ∧ pf_R n op ax ay az w c w' c' := by
  obtain ⟨j, hjl, hj⟩ := pk_andE (pf_w1 w a y) (m := 7) 3 (by decide)
  obtain ⟨m', hm, hv⟩ := pf_iv1 S hb ha (by rw [hop]; decide) (by rw [hop]; decide) (pf_w1 w a) (pf_w14 w a) pf_w1m
  refine ⟨pf_w1 w a, upd c j (pf_w1 w a r), m', hm, hv, pf_w1Z hz, ⟨a, ha, S.1⟩, pf_w15 w a, ?_, ?_, ?_⟩
  · intro post gb T b cX hT hc h1 h
    rw [S.1]
    have hcc : upd cX j (pf_w1 w a r) = upd c j (pf_w1 w a r) := by
      rcases hc with z | z
      · rw [z]
      · rw [z, pf_uu]
    obtain ⟨T', rfl⟩ : ∃ T', T = T' + 1 := ⟨T - 1, by omega⟩
    refine pf_x7 (by omega) hT hop hx hr hy hyl hj hjl ?_
    rw [hcc]
    exact h T' (by omega) (by omega)
  · intro post gb b cX h
    rw [S.1]
    exact pf_x7z (by omega) hop hx hr hy hyl hj hjl (h _ (pf_w1Z hz))
  · intro post rg lf hY h
    rw [S.1]
    have hq := h rg lf (pf_Yp hY (pf_w1r hY.1) pf_w1m)
    rw [pf_w14] at hq
    refine pf_y7 (by omega) hop hx hr hy hyl (by rw [pf_w1r (a := a) hY.1 y hyl]; exact hj) hjl ?_
    rw [pf_w1r (a := a) hY.1 r hr]
    exact hq
theorem pf_c8 (hs : pf_so op ay n) (hn : n ≤ 30) (S : pf_st op n w a d o e l) (hb : pf_bu n a d o e l ≤ m) (hz : pf_Z w) (ha : a < n) (hop : op a = 8) (hx : ax a = nI r) (hr : r < 4) {k : Nat} (hy : ay a = nI k) (hk : k ≤ 6) : ∃ w' c' : Nat → Int32, ∃ m', m' < m ∧ pf_iv op n w' m' ∧ pf_Z w' ∧ pf_R n op ax ay az w c w' c' := by
  by_cases hp : 0 < pf_w1 w a r
  · obtain ⟨m', hm, hv⟩ := pf_iv1 S hb ha (by rw [hop]; decide) (by rw [hop]; decide) (pf_w1 w a) (pf_w14 w a) pf_w1m
    refine ⟨pf_w1 w a, c, m', hm, hv, pf_w1Z hz, ⟨a, ha, S.1⟩, pf_w15 w a, ?_, ?_, ?_⟩
    · intro post gb T b cX hT hc h1 h
      rw [S.1]
      obtain rfl : cX = c := by
        rcases hc with z | z
        · exact z
        · exact z
      exact pf_x8 (by omega) hop hx hr hy (fun _ => h T (by omega) (Nat.le_refl _)) (fun z => absurd hp z)
    · intro post gb b cX h
      rw [S.1]
      exact pf_x8 (by omega) hop hx hr hy (fun _ => h _ (pf_w1Z hz)) (fun z => absurd hp z)
    · intro post rg lf hY h
      rw [S.1]
      have hq := h rg lf (pf_Yp hY (pf_w1r hY.1) pf_w1m)
      rw [pf_w14] at hq
      have hp' : 0 < rg r := by rw [pf_w1r (a := a) hY.1 r hr]; exact hp
      exact pf_y8 (by omega) hop hx hr hy (fun _ => hq) (fun z => absurd hp' z)
  · obtain ⟨hk1, hk2⟩ := hs.2.2 a k ha hop hk hy
    have e4 : upd (pf_w1 w a) 4 (nI (a + 1 + k)) 4 = nI (a + 1 + k) := pk_us
    have e5 : upd (pf_w1 w a) 4 (nI (a + 1 + k)) 5 = w 5 + 1 := by rw [pk_un (by decide), pf_w15]
    have en : ∀ i, 6 ≤ i → i ≤ 10 → upd (pf_w1 w a) 4 (nI (a + 1 + k)) i = w i := by
      intro i h1 h2
      rw [pk_un (by omega), pf_w1n (by omega) (by omega)]
    have eZ : pf_Z (upd (pf_w1 w a) 4 (nI (a + 1 + k))) := pf_Zu (pf_w1Z hz) (by omega)
    have P := pf_plain S (a + 1 + k) (by omega) (by omega) (fun j h1 h2 => by
      by_cases z : j = a
      · rw [z, hop]
        exact ⟨by decide, by decide⟩
      · exact hk2 j (by omega) (by omega)) e4 en
    refine ⟨upd (pf_w1 w a) 4 (nI (a + 1 + k)), c, _, Nat.lt_of_lt_of_le P.2 hb, ⟨_, _, _, _, _, P.1, Nat.le_refl _⟩, eZ, ⟨a, ha, S.1⟩, e5, ?_, ?_, ?_⟩
    · intro post gb T b cX hT hc h1 h
      rw [S.1]
      obtain rfl : cX = c := by
        rcases hc with z | z
        · exact z
        · exact z
      exact pf_x8 (by omega) hop hx hr hy (fun z => absurd z hp) (fun _ => h T (by omega) (Nat.le_refl _))
    · intro post gb b cX h
      rw [S.1]
      exact pf_x8 (by omega) hop hx hr hy (fun z => absurd z hp) (fun _ => h _ eZ)
    · intro post rg lf hY h
      rw [S.1]
      have hq := h rg lf (pf_Yp hY (fun i hi => by rw [pk_un (by omega)]; exact pf_w1r hY.1 i hi) en)
      rw [e4, show a + 1 + k = a + k + 1 by omega] at hq
      have hp' : ¬ 0 < rg r := by rw [pf_w1r (a := a) hY.1 r hr]; exact hp
      exact pf_y8 (by omega) hop hx hr hy (fun z => absurd z hp') (fun _ => hq)
theorem pf_c9 (hs : pf_so op ay n) (hn : n ≤ 30) (S : pf_st op n w a d o e l) (hb : pf_bu n a d o e l ≤ m) (hz : pf_Z w) (ha : a < n) (hop : op a = 9) {x : Nat} (hx : ax a = nI x) (hx1 : 1 ≤ x) (hx6 : x ≤ 6) : ∃ w' c' : Nat → Int32, ∃ m', m' < m ∧ pf_iv op n w' m' ∧ pf_Z w' ∧ pf_R n op ax ay az w c w' c' := by
  have hd1 : d ≤ 1 := by
    have h1 := pf_dp9 hop
    have h2 := (hs.1 (a + 1) (by omega)).2
    have h3 := S.2.2.2.2.1
    omega
  have e4 : (upd (upd (upd (pf_w1 w a) (7 + d) (ax a)) (9 + d) (nI (a + 1))) 6 (nI (d + 1))) 4 = nI (a + 1) := by rw [pk_un (by omega), pk_un (by omega), pk_un (by omega), pf_w14]
  have e5 : (upd (upd (upd (pf_w1 w a) (7 + d) (ax a)) (9 + d) (nI (a + 1))) 6 (nI (d + 1))) 5 = w 5 + 1 := by rw [pk_un (by omega), pk_un (by omega), pk_un (by omega), pf_w15]
  have e6 : (upd (upd (upd (pf_w1 w a) (7 + d) (ax a)) (9 + d) (nI (a + 1))) 6 (nI (d + 1))) 6 = nI (d + 1) := pk_us
  have e7 : (upd (upd (upd (pf_w1 w a) (7 + d) (ax a)) (9 + d) (nI (a + 1))) 6 (nI (d + 1))) (7 + d) = ax a := by rw [pk_un (by omega), pk_un (by omega), pk_us]
  have e9 : (upd (upd (upd (pf_w1 w a) (7 + d) (ax a)) (9 + d) (nI (a + 1))) 6 (nI (d + 1))) (9 + d) = nI (a + 1) := by rw [pk_un (by omega), pk_us]
  have en : ∀ t, t < d → (upd (upd (upd (pf_w1 w a) (7 + d) (ax a)) (9 + d) (nI (a + 1))) 6 (nI (d + 1))) (7 + t) = w (7 + t) ∧ (upd (upd (upd (pf_w1 w a) (7 + d) (ax a)) (9 + d) (nI (a + 1))) 6 (nI (d + 1))) (9 + t) = w (9 + t) := by
    intro t ht
    constructor
    · rw [pk_un (by omega), pk_un (by omega), pk_un (by omega), pf_w1n (by omega) (by omega)]
    · rw [pk_un (by omega), pk_un (by omega), pk_un (by omega), pf_w1n (by omega) (by omega)]
  have er : ∀ i, i < 4 → (upd (upd (upd (pf_w1 w a) (7 + d) (ax a)) (9 + d) (nI (a + 1))) 6 (nI (d + 1))) i = w i := by
    intro i hi
    rw [pk_un (by omega), pk_un (by omega), pk_un (by omega), pf_w1n (by omega) (by omega)]
  have eZ : pf_Z (upd (upd (upd (pf_w1 w a) (7 + d) (ax a)) (9 + d) (nI (a + 1))) 6 (nI (d + 1))) := pf_Zu (pf_Zu (pf_Zu (pf_w1Z hz) (by omega)) (by omega)) (by omega)
  obtain ⟨e2, P1, P2⟩ := pf_loopS hs S ha hop hx1 hx6 e4 e6 (e7.trans hx) e9 en
  obtain ⟨s4, s6, sn, sd, sp, sl⟩ := S
  refine ⟨(upd (upd (upd (pf_w1 w a) (7 + d) (ax a)) (9 + d) (nI (a + 1))) 6 (nI (d + 1))), c, _, Nat.lt_of_lt_of_le P2 hb, ⟨_, _, _, _, _, P1, Nat.le_refl _⟩, eZ, ⟨a, ha, s4⟩, e5, ?_, ?_, ?_⟩
  · intro post gb T b cX hT hc h1 h
    rw [s4]
    obtain rfl : cX = c := by
      rcases hc with z | z
      · exact z
      · exact z
    exact pf_x9 (by omega) hop hd1 s6 (h T (by omega) (Nat.le_refl _))
  · intro post gb b cX h
    rw [s4]
    exact pf_x9 (by omega) hop hd1 s6 (h _ eZ)
  · intro post rg lf hY h
    rw [s4]
    have hq := h rg (upd lf a (ax a)) ⟨fun i hi => (hY.1 i hi).trans (er i hi).symm, fun t d' q h6 hd' ht h9 hq => ?_⟩
    · rw [e4] at hq
      exact pf_y9 (by omega) hop hq
    · rw [e6] at h6
      have hdd : d + 1 = d' := (nI_eq (by omega) (by omega)).mp h6
      by_cases z : t = d
      · subst z
        rw [e9] at h9
        have hqa : a + 1 = q + 1 := (nI_eq (by omega) (by omega)).mp h9
        obtain rfl : a = q := by omega
        rw [e7, pk_us]
      · have hn1 := en t (by omega)
        obtain ⟨L, r1, r2⟩ := sl t (by omega)
        rw [hn1.2] at h9
        have hqo : o t + 1 = q + 1 := (nI_eq (by have := L.2.2.1; omega) (by omega)).mp (r2.symm.trans h9)
        have hlt := L.2.2.1
        rw [hn1.1, pk_un (by omega)]
        exact hY.2 t d q s6 sd (by omega) h9 hq
theorem pf_cE (hs : pf_so op ay n) (hn : n ≤ 30) (S : pf_st op n w a d o e l) (hb : pf_bu n a d o e l ≤ m) (hz : pf_Z w) (ha : a < n) (hop : op a = 10) : ∃ w' c' : Nat → Int32, ∃ m', m' < m ∧ pf_iv op n w' m' ∧ pf_Z w' ∧ pf_R n op ax ay az w c w' c' := by
  obtain ⟨t, rfl, hae⟩ := pf_endS hs S ha hop
  have S' := S
  obtain ⟨s4, s6, sn, sd, sp, sl⟩ := S'
  obtain ⟨⟨q1, q2, q3, q4, q5, q6, q7, q8, q9, q10⟩, r1, r2⟩ := sl t (by omega)
  obtain ⟨k, hk⟩ : ∃ k, l t = k + 1 := ⟨l t - 1, by omega⟩
  have hO : ∀ (rg lf : Nat → Int32) (P : Int32 → Prop), P (nI (o t)) → wpY_openerOf P (nI n, op, ax, ay, az, c, rg, lf) (nI a) := by
    intro rg lf P hP
    refine pf_opener (e := a) (o := o t) (t := t) (by omega) q1 q2 (by rw [hae]; exact q7) q3 (fun j h1 h2 => q8 j h1 (by omega)) (fun j h1 => (hs.1 j (by omega)).2) hP
  have hlf : ∀ rg lf : Nat → Int32, pf_Y w rg lf → lf (o t) = nI (k + 1) := by
    intro rg lf hY
    have := hY.2 t (t + 1) (o t) s6 sd (by omega) r2 (by omega)
    rw [this, r1, hk]
  have hne : ∀ s, s < t → o s ≠ o t := by
    intro s hst z
    obtain ⟨L, _, _⟩ := sl s (by omega)
    have := L.2.1
    rw [z, q2] at this
    omega
  by_cases hk0 : k = 0
  · subst hk0
    have e4 : (upd (upd (pf_w1 w a) (7 + t) (nI 0)) 6 (nI t)) 4 = nI (a + 1) := by rw [pk_un (by omega), pk_un (by omega), pf_w14]
    have e5 : (upd (upd (pf_w1 w a) (7 + t) (nI 0)) 6 (nI t)) 5 = w 5 + 1 := by rw [pk_un (by omega), pk_un (by omega), pf_w15]
    have e6 : (upd (upd (pf_w1 w a) (7 + t) (nI 0)) 6 (nI t)) 6 = nI t := pk_us
    have en : ∀ s, s < t → (upd (upd (pf_w1 w a) (7 + t) (nI 0)) 6 (nI t)) (7 + s) = w (7 + s) ∧ (upd (upd (pf_w1 w a) (7 + t) (nI 0)) 6 (nI t)) (9 + s) = w (9 + s) := by
      intro s hst
      constructor
      · rw [pk_un (by omega), pk_un (by omega), pf_w1n (by omega) (by omega)]
      · rw [pk_un (by omega), pk_un (by omega), pf_w1n (by omega) (by omega)]
    have er : ∀ i, i < 4 → (upd (upd (pf_w1 w a) (7 + t) (nI 0)) 6 (nI t)) i = w i := by
      intro i hi
      rw [pk_un (by omega), pk_un (by omega), pf_w1n (by omega) (by omega)]
    have eZ : pf_Z (upd (upd (pf_w1 w a) (7 + t) (nI 0)) 6 (nI t)) := pf_Zu (pf_Zu (pf_w1Z hz) (by omega)) (by omega)
    obtain ⟨P1, P2⟩ := pf_endB S hae e4 e6 en
    have h7 : w (7 + t) = nI 1 := by rw [r1, hk]
    refine ⟨(upd (upd (pf_w1 w a) (7 + t) (nI 0)) 6 (nI t)), c, _, Nat.lt_of_lt_of_le P2 hb, ⟨_, _, _, _, _, P1, Nat.le_refl _⟩, eZ, ⟨a, ha, s4⟩, e5, ?_, ?_, ?_⟩
    · intro post gb T b cX hT hc h1 h
      rw [s4]
      obtain rfl : cX = c := by
        rcases hc with z | z
        · exact z
        · exact z
      exact pf_xB (by omega) hop (by omega) s6 h7 (h T (by omega) (Nat.le_refl _))
    · intro post gb b cX h
      rw [s4]
      exact pf_xB (by omega) hop (by omega) s6 h7 (h _ eZ)
    · intro post rg lf hY h
      rw [s4]
      have hq := h rg (upd lf (o t) (nI 0)) ⟨fun i hi => (hY.1 i hi).trans (er i hi).symm, fun s d' q h6 hd' hst h9 hq => ?_⟩
      · rw [e4] at hq
        exact pf_yE (l := 0) (by omega) hop (by omega) (hO rg lf) (hlf rg lf hY) (by omega) (fun _ => hq) (fun z => absurd z (by omega))
      · rw [e6] at h6
        have hdd : t = d' := (nI_eq (by omega) (by omega)).mp h6
        have hn1 := en s (by omega)
        obtain ⟨L, v1, v2⟩ := sl s (by omega)
        rw [hn1.2] at h9
        have hqo : o s + 1 = q + 1 := (nI_eq (by have := L.2.2.1; omega) (by omega)).mp (v2.symm.trans h9)
        have hno := hne s (by omega)
        rw [hn1.1, pk_un (by omega)]
        exact hY.2 s (t + 1) q s6 sd (by omega) h9 hq
  · have e4 : (upd (upd (pf_w1 w a) (7 + t) (nI k)) 4 (nI (o t + 1))) 4 = nI (o t + 1) := pk_us
    have e5 : (upd (upd (pf_w1 w a) (7 + t) (nI k)) 4 (nI (o t + 1))) 5 = w 5 + 1 := by rw [pk_un (by omega), pk_un (by omega), pf_w15]
    have e6 : (upd (upd (pf_w1 w a) (7 + t) (nI k)) 4 (nI (o t + 1))) 6 = w 6 := by rw [pk_un (by omega), pk_un (by omega), pf_w1n (by omega) (by omega)]
    have e7 : (upd (upd (pf_w1 w a) (7 + t) (nI k)) 4 (nI (o t + 1))) (7 + t) = nI k := by rw [pk_un (by omega), pk_us]
    have e9 : (upd (upd (pf_w1 w a) (7 + t) (nI k)) 4 (nI (o t + 1))) (9 + t) = w (9 + t) := by rw [pk_un (by omega), pk_un (by omega), pf_w1n (by omega) (by omega)]
    have en : ∀ s, s < t → (upd (upd (pf_w1 w a) (7 + t) (nI k)) 4 (nI (o t + 1))) (7 + s) = w (7 + s) ∧ (upd (upd (pf_w1 w a) (7 + t) (nI k)) 4 (nI (o t + 1))) (9 + s) = w (9 + s) := by
      intro s hst
      constructor
      · rw [pk_un (by omega), pk_un (by omega), pf_w1n (by omega) (by omega)]
      · rw [pk_un (by omega), pk_un (by omega), pf_w1n (by omega) (by omega)]
    have er : ∀ i, i < 4 → (upd (upd (pf_w1 w a) (7 + t) (nI k)) 4 (nI (o t + 1))) i = w i := by
      intro i hi
      rw [pk_un (by omega), pk_un (by omega), pf_w1n (by omega) (by omega)]
    have eZ : pf_Z (upd (upd (pf_w1 w a) (7 + t) (nI k)) 4 (nI (o t + 1))) := pf_Zu (pf_Zu (pf_w1Z hz) (by omega)) (by omega)
    obtain ⟨P1, P2⟩ := pf_endA S hae (by omega) e4 e6 (by rw [e7, hk]; rfl) e9 en
    have h7 : w (7 + t) = nI (k + 1) := by rw [r1, hk]
    refine ⟨(upd (upd (pf_w1 w a) (7 + t) (nI k)) 4 (nI (o t + 1))), c, _, Nat.lt_of_lt_of_le P2 hb, ⟨_, _, _, _, _, P1, Nat.le_refl _⟩, eZ, ⟨a, ha, s4⟩, e5, ?_, ?_, ?_⟩
    · intro post gb T b cX hT hc h1 h
      rw [s4]
      obtain rfl : cX = c := by
        rcases hc with z | z
        · exact z
        · exact z
      exact pf_xA (by omega) hop (by omega) s6 h7 (by omega) (by omega) r2 (h T (by omega) (Nat.le_refl _))
    · intro post gb b cX h
      rw [s4]
      exact pf_xA (by omega) hop (by omega) s6 h7 (by omega) (by omega) r2 (h _ eZ)
    · intro post rg lf hY h
      rw [s4]
      have hq := h rg (upd lf (o t) (nI k)) ⟨fun i hi => (hY.1 i hi).trans (er i hi).symm, fun s d' q h6 hd' hst h9 hq => ?_⟩
      · rw [e4] at hq
        exact pf_yE (l := k) (by omega) hop (by omega) (hO rg lf) (hlf rg lf hY) (by omega) (fun z => absurd z hk0) (fun _ => hq)
      · rw [e6, s6] at h6
        have hdd : t + 1 = d' := (nI_eq (by omega) (by omega)).mp h6
        by_cases z : s = t
        · subst z
          rw [e9] at h9
          have hqo : o s + 1 = q + 1 := (nI_eq (by omega) (by omega)).mp (r2.symm.trans h9)
          obtain rfl : q = o s := by omega
          rw [e7, pk_us]
        · have hn1 := en s (by omega)
          obtain ⟨L, v1, v2⟩ := sl s (by omega)
          rw [hn1.2] at h9
          have hqo : o s + 1 = q + 1 := (nI_eq (by have := L.2.2.1; omega) (by omega)).mp (v2.symm.trans h9)
          have hno := hne s (by omega)
          rw [hn1.1, pk_un (by omega)]
          exact hY.2 s (t + 1) q s6 sd (by omega) h9 hq
end
/-- from a state that isn't the end: a step -/
theorem pf_step {n : Nat} {op ax ay az : Nat → Int32} (hn : n ≤ 30) (hs : pf_so op ay n) (hk : ∀ i, i < n → pf_ok (op i) (ax i) (ay i) (az i))
    (m : Nat) (w c : Nat → Int32) (hi : pf_iv op n w m) (hz : pf_Z w) (h : ¬ w 4 = nI n) : ∃ w' c' : Nat → Int32, ∃ m', m' < m ∧ pf_iv op n w' m' ∧ pf_Z w' ∧ pf_R n op ax ay az w c w' c' := by
  obtain ⟨a, d, o, e, l, S, hb⟩ := hi
  have ha : a < n := by
    have h1 := S.2.2.1
    by_cases z : a = n
    · rw [S.1, z] at h; exact absurd rfl h
    · omega
  obtain ⟨q, hq, hoq, hf⟩ := hk a ha
  rcases hf with rfl | ⟨rfl, x, hx1, hx6, hx⟩ | ⟨h8, ⟨r, hr, hx⟩, f1, f4, f6, f8⟩
  · exact pf_cE hs hn S hb hz ha hoq
  · exact pf_c9 hs hn S hb hz ha hoq hx hx1 hx6
  · have hc : q = 0 ∨ q = 1 ∨ q = 2 ∨ q = 3 ∨ q = 4 ∨ q = 5 ∨ q = 6 ∨ q = 7 ∨ q = 8 := by omega
    rcases hc with rfl | rfl | rfl | rfl | rfl | rfl | rfl | rfl | rfl
    · exact pf_c0 hn S hb hz ha hoq hx hr
    · obtain ⟨⟨s, hs1, hy⟩, t, ht, hzz⟩ := f1 (by omega) (by omega)
      exact pf_c1 hn S hb hz ha hoq hx hr hy hs1 hzz ht
    · obtain ⟨⟨s, hs1, hy⟩, t, ht, hzz⟩ := f1 (by omega) (by omega)
      exact pf_c2 hn S hb hz ha hoq hx hr hy hs1 hzz ht
    · obtain ⟨⟨s, hs1, hy⟩, t, ht, hzz⟩ := f1 (by omega) (by omega)
      exact pf_c3 hn S hb hz ha hoq hx hr hy hs1 hzz ht
    · obtain ⟨j, hj, hy⟩ := f4 (by omega) (by omega)
      exact pf_c4 hn S hb hz ha hoq hx hr hy hj
    · obtain ⟨j, hj, hy⟩ := f4 (by omega) (by omega)
      exact pf_c5 hn S hb hz ha hoq hx hr hy hj
    · obtain ⟨j, hj, hy⟩ := f6 (by omega) (by omega)
      exact pf_c6 hn S hb hz ha hoq hx hr hy hj
    · obtain ⟨j, hj, hy⟩ := f6 (by omega) (by omega)
      exact pf_c7 hn S hb hz ha hoq hx hr hy hj
    · obtain ⟨k, hk1, hk6, hy⟩ := f8 rfl
      exact pf_c8 hs hn S hb hz ha hoq hx hr hy hk6
end
section
/-! the run: X's powerings and Y's loop along the chain -/
def pf_Ch (n : Nat) (op ax ay az : Nat → Int32) (K : Nat) (W C : Nat → Nat → Int32) : Prop :=
  (∀ j, j < K → pf_R n op ax ay az (W j) (C j) (W (j + 1)) (C (j + 1))) ∧ W K 4 = nI n ∧ ∀ j, j ≤ K → pf_Z (W j)
/-- the cells: those of the j-th state, or a store of the next instruction is done already -/
def pf_cc (K : Nat) (C : Nat → Nat → Int32) (j : Nat) (cX : Nat → Int32) : Prop := cX = C j ∨ (j < K ∧ cX = C (j + 1))
theorem pf_ch5 {n K : Nat} {op ax ay az : Nat → Int32} {W C : Nat → Nat → Int32} (H : pf_Ch n op ax ay az K W C) (h0 : W 0 5 = nI 0) : ∀ j, j ≤ K → W j 5 = nI j := by
  intro j
  induction j with
  | zero => intro _; exact h0
  | succ j ih =>
    intro hj
    have h1 := (H.1 j (by omega)).2.1
    rw [h1, ih (by omega), nI_1]
theorem pf_work0 {post : SX → Prop} {cn gb : Int32} {op ax ay az c b w : Nat → Int32} {tk i f : Nat} (ht : tk < 2 ^ 31) (hi : i < 2 ^ 31)
    (h : post (cn, gb, nI 0, op, ax, ay, az, c, b, w)) : wX_workOn_2 post (nI tk) (f + 1) (nI i) cn gb (nI 0) op ax ay az c b w := by
  by_cases z : tk ≤ i
  · exact br_t (nI_le z hi) h
  · exact br_f (nI_ge (by omega) ht) (br_t (by decide) h)
/-- from the words of the j-th state: the machine works on until the ticks are spent -/
theorem pf_work {post : SX → Prop} {n K tk : Nat} {op ax ay az : Nat → Int32} {W C : Nat → Nat → Int32} (hn : n ≤ 30) (H : pf_Ch n op ax ay az K W C) (htk : tk ≤ 100) :
    ∀ (f T i j g : Nat) (b cX : Nat → Int32), i + T ≤ tk → tk - i < f → j ≤ K → g ≤ 1 → pf_B b g = W j → pf_cc K C j cX →
      (∀ (j' g' : Nat) (tl : Int32) (b' c' wk : Nat → Int32), j ≤ j' → (15 ≤ T → j < K → j < j') → j' ≤ K → g' ≤ 1 → pf_B b' g' = W j' → pf_cc K C j' c' → pf_Z wk →
        post (nI n, nI g', tl, op, ax, ay, az, c', b', wk)) →
      wX_workOn_2 post (nI tk) f (nI i) (nI n) (nI g) (nI T) op ax ay az cX b (W j) := by
  intro f
  induction f with
  | zero => intro T i j g b cX h1 h2; omega
  | succ f ih =>
    intro T i j g b cX h1 h2 h3 h4 h5 h6 h
    by_cases z : T = 0
    · subst z
      exact pf_work0 (by omega) (by omega) (h j g _ b cX _ (Nat.le_refl _) (by omega) h3 h4 h5 h6 (H.2.2 j h3))
    · obtain ⟨s, rfl⟩ : ∃ s, T = s + 1 := ⟨T - 1, by omega⟩
      refine br_f (nI_ge (by omega) (by omega)) (br_f (nI_nle (by omega) (by omega)) ?_)
      by_cases zK : j = K
      · subst zK
        exact nm_r H.2.1 (br_f (nI_pos (by omega)) (br_f (nI_nlt (Nat.le_refl _) (by omega)) (h j g _ b cX _ (Nat.le_refl _) (by omega) h3 h4 h5 h6 (H.2.2 j h3))))
      · have hjK : j < K := by omega
        obtain ⟨⟨a, ha, e4⟩, _, RX, RX0, _⟩ := H.1 j hjK
        refine nm_e (br_f (by rw [e4]; exact nI_pos (by omega)) (br_t (by rw [e4]; exact nI_lt ha (by omega)) (pf_tick1 (by omega) (br_f pf_10 ?_))))
        obtain ⟨f', rfl⟩ : ∃ f', f = f' + 1 := ⟨f - 1, by omega⟩
        by_cases zs : s = 0
        · subst zs
          refine RX0 _ _ _ _ (fun wk hwk => ?_)
          refine pf_save h4 (by omega) hwk (fun b' _ hB => ?_) (fun b' hh => absurd hh (by omega))
          exact nm_r (nI_1 i) (pf_work0 (by omega) (by omega) (h j g _ b' cX _ (Nat.le_refl _) (by omega) h3 h4 (hB.trans h5) h6 hwk))
        · have hcX : cX = C j ∨ cX = C (j + 1) := by
            rcases h6 with q | q
            · exact Or.inl q
            · exact Or.inr q.2
          refine RX _ _ _ _ _ (by omega) hcX (by omega) (fun T' hT1 hT2 => ?_)
          refine pf_save h4 (by omega) (H.2.2 (j + 1) (by omega)) (fun b' hlt hB => ?_) (fun b' hge hB => ?_)
          · exact nm_r (nI_1 i) (pf_work0 (by omega) (by omega) (h j g _ b' _ _ (Nat.le_refl _) (by omega) h3 h4 (hB.trans h5) (Or.inr ⟨hjK, rfl⟩) (H.2.2 (j + 1) (by omega))))
          · exact nm_r (nI_1 i) (ih (T' - 13) (i + 1) (j + 1) (1 - g) b' _ (by omega) (by omega) (by omega) (by omega) hB (Or.inl rfl)
              (fun j' g' tl b'' c'' wk k1 k2 k3 k4 k5 k6 k7 => h j' g' tl b'' c'' wk (by omega) (by omega) k3 k4 k5 k6 k7))
theorem pf_kept {post : Int32 → Prop} {cn tl : Int32} {op ax ay az c b w : Nat → Int32} {g i : Nat} (hg : g ≤ 1) (hi : i < 11)
    (h : post (pf_B b g i)) : wpX_kept post (cn, nI g, tl, op, ax, ay, az, c, b, w) (nI i) := by
  unfold wpX_kept
  dsimp only
  rw [pf_i11, nI_clamp (by omega)]
  rw [pf_B_lo hi] at h
  exact ⟨vp_in_nI (by omega) (by decide), h⟩
theorem pf_runX {post : Int32 → SX → Prop} {n K tk : Nat} {op ax ay az : Nat → Int32} {W C : Nat → Nat → Int32} (hn : n ≤ 30) (H : pf_Ch n op ax ay az K W C) (hK : K ≤ 1080)
    (ht1 : 40 ≤ tk) (ht2 : tk ≤ 100)
    (h : ∀ (g : Nat) (tl : Int32) (b wk : Nat → Int32), g ≤ 1 → pf_B b g = W K → pf_Z wk → post (W K 5) (nI n, nI g, tl, op, ax, ay, az, C K, b, wk)) :
    ∀ (f i j g : Nat) (tl : Int32) (b cX wk : Nat → Int32), i ≤ j → j ≤ K → K - j < f → g ≤ 1 → pf_B b g = W j → pf_cc K C j cX → pf_Z wk →
      wX_run_21 post (nI tk) f (nI i) (nI n) (nI g) tl op ax ay az cX b wk := by
  intro f
  induction f with
  | zero => intro i j g tl b cX wk h1 h2 h3; omega
  | succ f ih =>
    intro i j g tl b cX wk h1 h2 h3 h4 h5 h6 h7
    refine br_f (nI_ge (b := 1000000) (by omega) (by decide)) ?_
    refine pf_kept (i := 4) h4 (by omega) ?_
    rw [h5]
    by_cases zK : j = K
    · subst zK
      have hc : cX = C j := by
        rcases h6 with q | q
        · exact q
        · omega
      subst hc
      refine br_t (by rw [H.2.1]; exact nI_le (Nat.le_refl _) (by omega)) ?_
      unfold wX_run_63
      refine pf_kept (i := 5) h4 (by omega) ?_
      rw [h5]
      exact h g tl b wk h4 h5 h7
    · have hjK : j < K := by omega
      obtain ⟨⟨a, ha, e4⟩, _, _, _, _⟩ := H.1 j hjK
      refine br_f (by rw [e4]; exact nI_ge ha (by omega)) ?_
      refine pf_lose ?_
      obtain ⟨T, rfl⟩ : ∃ T, tk = T + 12 := ⟨tk - 12, by omega⟩
      refine pf_wake h4 (by omega) ?_
      rw [pf_flB (pf_flZ h7 (Nat.le_refl _)), h5]
      refine ⟨T + 12 + 1, ?_⟩
      refine pf_work hn H ht2 (T + 12 + 1) T 0 j g b cX (by omega) (by omega) h2 h4 h5 h6 (fun j' g' tl' b' c' wk' k1 k2 k3 k4 k5 k6 k7 => ?_)
      have k8 := k2 (by omega) hjK
      exact nm_r (nI_1 i) (ih (i + 1) j' g' tl' b' c' wk' (by omega) k3 (by omega) k4 k5 k6 k7)
theorem pf_runY {post : Int32 → SY → Prop} {n K : Nat} {op ax ay az : Nat → Int32} {W C : Nat → Nat → Int32} (hn : n ≤ 30) (H : pf_Ch n op ax ay az K W C) (hK : K ≤ 1080)
    (h : ∀ rg lf : Nat → Int32, pf_Y (W K) rg lf → post (nI K) (nI n, op, ax, ay, az, C K, rg, lf)) :
    ∀ (f j : Nat) (rg lf : Nat → Int32), j ≤ K → K - j < f → pf_Y (W j) rg lf → wY_run_37 post f (W j 4) (nI j) (nI j) (nI n) op ax ay az (C j) rg lf := by
  intro f
  induction f with
  | zero => intro j rg lf h1 h2; omega
  | succ f ih =>
    intro j rg lf h1 h2 hY
    by_cases zK : j = K
    · subst zK
      by_cases z : 1080 ≤ j
      · exact br_t (nI_le (a := 1080) z (by omega)) (h rg lf hY)
      · exact br_f (nI_ge (b := 1080) (by omega) (by decide)) (br_t (by rw [H.2.1]; exact nI_le (Nat.le_refl _) (by omega)) (h rg lf hY))
    · have hjK : j < K := by omega
      obtain ⟨⟨a, ha, e4⟩, _, _, _, RY⟩ := H.1 j hjK
      refine br_f (nI_ge (b := 1080) (by omega) (by decide)) (br_f (by rw [e4]; exact nI_ge ha (by omega)) ?_)
      refine RY _ rg lf hY (fun rg' lf' hY' => ?_)
      exact nm_r (nI_1 j) (nm_r (nI_1 j) (ih (j + 1) rg' lf' (by omega) (by omega) hY'))
/-- Y's registers made 0 -/
theorem pf_zeroY {post : Int32 → SY → Prop} {cn : Int32} {op ax ay az c rg lf : Nat → Int32}
    (h : ∃ f, wY_run_37 post f 0 0 0 cn op ax ay az c (pf_fl rg (fun _ => 0) 4) lf) : ∃ f, wY_run_12 post cn f 0 op ax ay az c rg lf := by
  have L : ∀ d i, i + d = 4 → wY_run_12 post cn (d + 1) (nI i) op ax ay az c (pf_fl rg (fun _ => 0) i) lf := by
    intro d
    induction d with
    | zero =>
      intro i hi
      obtain rfl : i = 4 := by omega
      exact br_t (nI_le (a := 4) (by omega) (by decide)) h
    | succ d ih =>
      intro i hi
      refine br_f (nI_ge (b := 4) (by omega) (by decide)) ⟨vp_in_nI (by omega) (by decide), nm_r (e' := pf_fl rg (fun _ => 0) (i + 1)) ?_ (nm_r (nI_1 i) (ih (i + 1) (by omega)))⟩
      rw [nI_clamp (by omega)]
      exact pf_flS rg (fun _ => 0) i
  have := L 4 0 (by omega)
  rw [pf_fl0, nI_0] at this
  exact ⟨_, this⟩
theorem pf_clamp {post : Int32 → Prop} (p : Int32) (h : ∀ tk : Nat, 40 ≤ tk → tk ≤ 100 → post (nI tk)) : wpX_clampPeriod post p := by
  unfold wpX_clampPeriod
  by_cases h40 : 40 ≤ p
  · refine br_t h40 ?_
    by_cases h100 : p ≤ 100
    · refine br_t h100 ?_
      have hp : ¬ p < 0 := Int32.not_lt.mpr (Int32.le_trans (by decide) h40)
      obtain ⟨j, hj, rfl⟩ := nI_of hp
      have a1 : 40 ≤ j := (nI_leI (a := 40) (by omega) hj).mp h40
      have a2 : j ≤ 100 := (nI_leI (b := 100) hj (by omega)).mp h100
      exact h j a1 a2
    · exact br_f h100 (h 100 (by omega) (by omega))
  · exact br_f h40 (h 40 (by omega) (by omega))
end
section
/-! sound, in lockstep -/
theorem pf_okc {o x y z : Int32} (h : pf_ok o x y z) : o = 9 ∨ o = 10 ∨ (o < 9 ∧ ¬ o = 9 ∧ ¬ o = 10) := by
  obtain ⟨q, hq, rfl, _⟩ := h
  by_cases z9 : q = 9
  · subst z9; exact Or.inl rfl
  · by_cases z10 : q = 10
    · subst z10; exact Or.inr (Or.inl rfl)
    · refine Or.inr (Or.inr ⟨nI_lt (b := 9) (by omega) (by decide), fun e => ?_, fun e => ?_⟩)
      · exact z9 ((nI_eq (b := 9) (by omega) (by omega)).mp e)
      · exact z10 ((nI_eq (b := 10) (by omega) (by omega)).mp e)
theorem pf_ok8 {o x y z : Int32} (h : pf_ok o x y z) (h8 : o = 8) : ∃ m, m ≤ 6 ∧ y = nI m := by
  obtain ⟨q, hq, rfl, hf⟩ := h
  have z8 : q = 8 := (nI_eq (b := 8) (by omega) (by omega)).mp h8
  subst z8
  rcases hf with z | ⟨z, _⟩ | ⟨_, _, _, _, _, f8⟩
  · omega
  · omega
  · obtain ⟨m, _, hm, e⟩ := f8 rfl
    exact ⟨m, hm, e⟩
section
variable {n : Nat} {gb tl : Int32} {op ax ay az c b w cY rg lf : Nat → Int32}
theorem pf_may (hn : n ≤ 30) (hk : ∀ i, i < n → pf_ok (op i) (ax i) (ay i) (az i)) {a m : Nat} (ha : a < n) (hm : m ≤ 6) (hy : ay a = nI m) :
    ∃ s : Int32, (s = 0 ∨ s = 1 ∧ a + m < n ∧ ∀ j, a < j → j ≤ a + m → ¬ op j = 9 ∧ ¬ op j = 10) ∧
      (∀ post : Int32 → Prop, post s → wpX_mayLeaveOut post (nI n, gb, tl, op, ax, ay, az, c, b, w) (nI (a + 1)) (nI (a + m))) ∧
      (∀ post : Int32 → Prop, post s → wpY_skipFits post (nI n, op, ax, ay, az, cY, rg, lf) (nI a)) := by
  have hc := nI_clamp (n := a) (by omega)
  have hv : vp_in (nI a) 30 := vp_in_nI (by omega) (by decide)
  have hs : nI a + ay (nI a).toNatClampNeg = nI (a + m) := by rw [hc, hy, nI_add]
  by_cases hl : a + m < n
  · have L : ∀ d i, i + d = a + m + 1 → a < i → (∀ j, a < j → j < i → ¬ op j = 9 ∧ ¬ op j = 10) →
        ∃ s : Int32, (s = 0 ∨ s = 1 ∧ ∀ j, a < j → j ≤ a + m → ¬ op j = 9 ∧ ¬ op j = 10) ∧
          (∀ post : Int32 → Prop, post s → wX_mayLeaveOut_12 post (nI (a + m)) (nI n) gb tl op ax ay az c b w (d + 1) (nI i)) ∧
          (∀ post : Int32 → Prop, post s → wY_skipFits_21 post (nI a) (nI n) op ax ay az cY rg lf (d + 1) (nI i)) := by
      intro d
      induction d with
      | zero =>
        intro i hi hai hp
        refine ⟨1, Or.inr ⟨rfl, fun j h1 h2 => hp j h1 (by omega)⟩, fun post h => br_t (nI_lt (by omega) (by omega)) h, fun post h => ⟨hv, br_t (by rw [hs]; exact nI_lt (by omega) (by omega)) h⟩⟩
      | succ d ih =>
        intro i hi hai hp
        have hx : ¬ nI (a + m) < nI i := nI_nlt (by omega) (by omega)
        have hY : ¬ nI a + ay (nI a).toNatClampNeg < nI i := by rw [hs]; exact hx
        have hvi : vp_in (nI i) 30 := vp_in_nI (by omega) (by decide)
        have hci : op (nI i).toNatClampNeg = op i := by rw [nI_clamp (by omega)]
        rcases pf_okc (hk i (by omega)) with h9 | h10 | ⟨hlt, h9, h10⟩
        · refine ⟨0, Or.inl rfl, fun post h => br_f hx ⟨hvi, br_t (hci.trans h9) h⟩, fun post h => ⟨hv, br_f hY ⟨hvi, br_f (by rw [hci, h9]; decide) h⟩⟩⟩
        · refine ⟨0, Or.inl rfl, fun post h => br_f hx ⟨hvi, br_f (by rw [hci, h10]; decide) ⟨hvi, br_t (hci.trans h10) h⟩⟩, fun post h => ⟨hv, br_f hY ⟨hvi, br_f (by rw [hci, h10]; decide) h⟩⟩⟩
        · obtain ⟨s, hs1, hX, hYY⟩ := ih (i + 1) (by omega) (by omega) (fun j h1 h2 => by
            by_cases z : j = i
            · rw [z]; exact ⟨h9, h10⟩
            · exact hp j h1 (by omega))
          refine ⟨s, hs1, fun post h => br_f hx ⟨hvi, br_f (by rw [hci]; exact h9) ⟨hvi, br_f (by rw [hci]; exact h10) (nm_r (nI_1 i) (hX post h))⟩⟩,
            fun post h => ⟨hv, br_f hY ⟨hvi, br_t (by rw [hci]; exact hlt) (nm_r (nI_1 i) (hYY post h))⟩⟩⟩
    obtain ⟨s, hs1, hX, hY⟩ := L m (a + 1) (by omega) (by omega) (fun j h1 h2 => by omega)
    refine ⟨s, ?_, fun post h => br_t (nI_lt hl (by omega)) ⟨_, hX post h⟩, fun post h => ⟨hv, br_t (by rw [hs]; exact nI_lt hl (by omega)) (nm_r (nI_1 a) ⟨_, hY post h⟩)⟩⟩
    rcases hs1 with z | ⟨z, z2⟩
    · exact Or.inl z
    · exact Or.inr ⟨z, hl, z2⟩
  · exact ⟨0, Or.inl rfl, fun post h => br_f (nI_nlt (by omega) (by omega)) h, fun post h => ⟨hv, br_f (by rw [hs]; exact nI_nlt (by omega) (by omega)) h⟩⟩
theorem pf_m10 : nI 0 + (-1) < 0 := by decide
theorem pf_sound (hn : n ≤ 30) (hk : ∀ i, i < n → pf_ok (op i) (ax i) (ay i) (az i)) :
    ∃ s : Int32, (s = 0 ∨ s = 1 ∧ pf_so op ay n) ∧
      (∀ post : Int32 → Prop, post s → wpX_sound post (nI n, gb, tl, op, ax, ay, az, c, b, w)) ∧
      (∀ post : Int32 → Prop, post s → wpY_sound post (nI n, op, ax, ay, az, cY, rg, lf)) := by
  have L : ∀ d i q : Nat, i + d = n → (q : Int) = pf_dp op i → q ≤ 2 → (∀ j, j ≤ i → 0 ≤ pf_dp op j ∧ pf_dp op j ≤ 2) →
      (∀ j m, j < i → op j = 8 → m ≤ 6 → ay j = nI m → j + m < n ∧ ∀ k, j < k → k ≤ j + m → ¬ op k = 9 ∧ ¬ op k = 10) →
      ∃ s : Int32, (s = 0 ∨ s = 1 ∧ pf_so op ay n) ∧
        (∀ post : Int32 → Prop, post s → wX_sound_4 post (nI n) gb tl op ax ay az c b w (d + 1) (nI q) (nI i)) ∧
        (∀ post : Int32 → Prop, post s → wY_sound_4 post (nI n) op ax ay az cY rg lf (d + 1) (nI q) (nI i)) := by
    intro d
    induction d with
    | zero =>
      intro i q hi hq hq2 hp hm
      obtain rfl : i = n := by omega
      have hle : nI i ≤ nI i := nI_le (Nat.le_refl _) (by omega)
      by_cases z : q = 0
      · subst z
        exact ⟨1, Or.inr ⟨rfl, hp, by omega, fun i m h1 h2 h3 h4 => hm i m h1 h2 h3 h4⟩, fun post h => br_t hle (br_t nI_0 h), fun post h => br_t hle (br_t nI_0 h)⟩
      · have hz : ¬ nI q = 0 := nI_ne0 (by omega) (by omega)
        exact ⟨0, Or.inl rfl, fun post h => br_t hle (br_f hz h), fun post h => br_t hle (br_f hz h)⟩
    | succ d ih =>
      intro i q hi hq hq2 hp hm
      have hge : ¬ nI n ≤ nI i := nI_ge (by omega) (by omega)
      have hvi : vp_in (nI i) 30 := vp_in_nI (by omega) (by decide)
      have hci : op (nI i).toNatClampNeg = op i := by rw [nI_clamp (by omega)]
      have hi1 := nI_1 i
      have hq0 : ¬ nI q < 0 := nI_pos (by omega)
      have hqq : nI q ≤ 2 := nI_le (b := 2) hq2 (by decide)
      have ext : ∀ q' : Nat, (q' : Int) = pf_dp op (i + 1) → q' ≤ 2 → ∀ j, j ≤ i + 1 → 0 ≤ pf_dp op j ∧ pf_dp op j ≤ 2 := by
        intro q' h1 h2 j hj
        by_cases z : j = i + 1
        · rw [z]; omega
        · exact hp j (by omega)
      have exm : ¬ op i = 8 → ∀ j m, j < i + 1 → op j = 8 → m ≤ 6 → ay j = nI m → j + m < n ∧ ∀ k, j < k → k ≤ j + m → ¬ op k = 9 ∧ ¬ op k = 10 := by
        intro h8 j m h1 h2 h3 h4
        by_cases z : j = i
        · rw [z] at h2; exact absurd h2 h8
        · exact hm j m (by omega) h2 h3 h4
      rcases pf_okc (hk i (by omega)) with h9 | h10 | ⟨hlt, h9, h10⟩
      · have hd := pf_dp9 h9
        have h9' := hci.trans h9
        have h10' : ¬ op (nI i).toNatClampNeg = 10 := by rw [h9']; decide
        have h8' : ¬ op (nI i).toNatClampNeg = 8 := by rw [h9']; decide
        have h8 : ¬ op i = 8 := by rw [h9]; decide
        have hp0 : ¬ nI (q + 1) < 0 := nI_pos (by omega)
        by_cases z : q + 1 ≤ 2
        · obtain ⟨s, hs, hX, hY⟩ := ih (i + 1) (q + 1) (by omega) (by omega) z (ext (q + 1) (by omega) z) (exm h8)
          have hp2 : nI (q + 1) ≤ 2 := nI_le (b := 2) z (by decide)
          exact ⟨s, hs, fun post h => br_f hge ⟨hvi, br_t h9' (nm_r (nI_1 q) (br_f hp0 (br_t hp2 (nm_r hi1 (hX post h)))))⟩,
            fun post h => br_f hge ⟨hvi, br_t h9' (nm_r (nI_1 q) ⟨hvi, br_f h10' (br_f hp0 (br_t hp2 ⟨hvi, br_f h8' (nm_r hi1 (hY post h))⟩))⟩)⟩⟩
        · have hp2 : ¬ nI (q + 1) ≤ 2 := nI_ge (a := 2) (by omega) (by omega)
          exact ⟨0, Or.inl rfl, fun post h => br_f hge ⟨hvi, br_t h9' (nm_r (nI_1 q) (br_f hp0 (br_f hp2 h)))⟩,
            fun post h => br_f hge ⟨hvi, br_t h9' (nm_r (nI_1 q) ⟨hvi, br_f h10' (br_f hp0 (br_f hp2 h))⟩)⟩⟩
      · have hd := pf_dp10 h10
        have h10' := hci.trans h10
        have h9' : ¬ op (nI i).toNatClampNeg = 9 := by rw [h10']; decide
        have h8' : ¬ op (nI i).toNatClampNeg = 8 := by rw [h10']; decide
        have h8 : ¬ op i = 8 := by rw [h10]; decide
        by_cases z : q = 0
        · subst z
          exact ⟨0, Or.inl rfl, fun post h => br_f hge ⟨hvi, br_f h9' ⟨hvi, br_t h10' (nm_e (br_t pf_m10 h))⟩⟩,
            fun post h => br_f hge ⟨hvi, br_f h9' ⟨hvi, br_t h10' (nm_e (br_t pf_m10 h))⟩⟩⟩
        · obtain ⟨p, rfl⟩ : ∃ p, q = p + 1 := ⟨q - 1, by omega⟩
          have hp0 : ¬ nI p < 0 := nI_pos (by omega)
          have hp2 : nI p ≤ 2 := nI_le (b := 2) (by omega) (by decide)
          obtain ⟨s, hs, hX, hY⟩ := ih (i + 1) p (by omega) (by omega) (by omega) (ext p (by omega) (by omega)) (exm h8)
          exact ⟨s, hs, fun post h => br_f hge ⟨hvi, br_f h9' ⟨hvi, br_t h10' (nm_r (pk_m1 p) (br_f hp0 (br_t hp2 (nm_r hi1 (hX post h)))))⟩⟩,
            fun post h => br_f hge ⟨hvi, br_f h9' ⟨hvi, br_t h10' (nm_r (pk_m1 p) (br_f hp0 (br_t hp2 ⟨hvi, br_f h8' (nm_r hi1 (hY post h))⟩)))⟩⟩⟩
      · have hd := pf_dpo h9 h10
        have h9' : ¬ op (nI i).toNatClampNeg = 9 := by rw [hci]; exact h9
        have h10' : ¬ op (nI i).toNatClampNeg = 10 := by rw [hci]; exact h10
        by_cases h8 : op i = 8
        · have h8' := hci.trans h8
          obtain ⟨m, hm6, hy⟩ := pf_ok8 (hk i (by omega)) h8
          obtain ⟨s0, hs0, hX0, hY0⟩ := pf_may (gb := gb) (tl := tl) (c := c) (b := b) (w := w) (cY := cY) (rg := rg) (lf := lf) hn hk (a := i) (by omega) hm6 hy
          have hsum : nI i + ay (nI i).toNatClampNeg = nI (i + m) := by rw [nI_clamp (by omega), hy, nI_add]
          rcases hs0 with rfl | ⟨rfl, g1, g2⟩
          · refine ⟨0, Or.inl rfl, fun post h => br_f hge ⟨hvi, br_f h9' ⟨hvi, br_f h10' ⟨hvi, br_t h8' ⟨hvi, ?_⟩⟩⟩⟩,
              fun post h => br_f hge ⟨hvi, br_f h9' ⟨hvi, br_f h10' (br_f hq0 (br_t hqq ⟨hvi, br_t h8' (hY0 _ (br_t rfl h))⟩))⟩⟩⟩
            rw [hsum, hi1]
            exact hX0 _ (br_t rfl h)
          · obtain ⟨s, hs, hX, hY⟩ := ih (i + 1) q (by omega) (by omega) hq2 (ext q (by omega) hq2) (by
              intro j m' h1 h2 h3 h4
              by_cases z : j = i
              · subst z
                have hmm : m' = m := (nI_eq (by omega) (by omega)).mp (h4.symm.trans hy)
                rw [hmm]
                exact ⟨g1, g2⟩
              · exact hm j m' (by omega) h2 h3 h4)
            refine ⟨s, hs, fun post h => br_f hge ⟨hvi, br_f h9' ⟨hvi, br_f h10' ⟨hvi, br_t h8' ⟨hvi, ?_⟩⟩⟩⟩,
              fun post h => br_f hge ⟨hvi, br_f h9' ⟨hvi, br_f h10' (br_f hq0 (br_t hqq ⟨hvi, br_t h8' (hY0 _ (br_f pf_10 (nm_r hi1 (hY post h))))⟩))⟩⟩⟩
            rw [hsum, hi1]
            exact hX0 _ (br_f pf_10 (br_f hq0 (br_t hqq (nm_r hi1 (hX post h)))))
        · have h8' : ¬ op (nI i).toNatClampNeg = 8 := by rw [hci]; exact h8
          obtain ⟨s, hs, hX, hY⟩ := ih (i + 1) q (by omega) (by omega) hq2 (ext q (by omega) hq2) (exm h8)
          exact ⟨s, hs, fun post h => br_f hge ⟨hvi, br_f h9' ⟨hvi, br_f h10' ⟨hvi, br_f h8' (br_f hq0 (br_t hqq (nm_r hi1 (hX post h))))⟩⟩⟩,
            fun post h => br_f hge ⟨hvi, br_f h9' ⟨hvi, br_f h10' (br_f hq0 (br_t hqq ⟨hvi, br_f h8' (nm_r hi1 (hY post h))⟩))⟩⟩⟩
  obtain ⟨s, hs, hX, hY⟩ := L n 0 0 (by omega) rfl (by omega) (fun j hj => by
    obtain rfl : j = 0 := by omega
    show (0 : Int) ≤ 0 ∧ (0 : Int) ≤ 2
    omega) (fun j m h1 => absurd h1 (by omega))
  exact ⟨s, hs, fun post h => ⟨_, hX post h⟩, fun post h => ⟨_, hY post h⟩⟩
end
end
section
/-! emit's operands, X against Y (written by wip/whole/gen09.py) -/
theorem pf_nar {s : Int32} (h : s = 0 ∨ s = 1) : narrow .boolean (.int s) = .int s := by
  rcases h with rfl | rfl
  · rfl
  · rfl
theorem pf_n01 {s : Int32} {P : Prop} (h : s = 0 ∨ s = 1 ∧ P) : s = 0 ∨ s = 1 := by
  rcases h with h | h
  · exact Or.inl h
  · exact Or.inr h.1
theorem pf_reg (x : Int32) : ∃ s : Int32, (s = 0 ∨ s = 1 ∧ ∃ r, r < 4 ∧ x = nI r) ∧ (∀ post : Int32 → Prop, post s → wpX_isRegister post x) ∧
    (∀ (post : Int32 → Prop) (cn : Int32) (op ax ay az c rg lf : Nat → Int32), post s → wpY_in post (cn, op, ax, ay, az, c, rg, lf) x 3) := by
  by_cases h0 : x < 0
  · exact ⟨0, Or.inl rfl, fun post h => br_t h0 h, fun post cn op ax ay az c rg lf h => br_t h0 h⟩
  · obtain ⟨j, hj, rfl⟩ := nI_of h0
    by_cases hl : j < 4
    · exact ⟨1, Or.inr ⟨rfl, j, hl, rfl⟩, fun post h => br_f h0 (br_f (nI_ge (b := 4) hl (by decide)) h), fun post cn op ax ay az c rg lf h => br_f h0 (br_f (nI_nlt (a := 3) (by omega) (by decide)) h)⟩
    · exact ⟨0, Or.inl rfl, fun post h => br_f h0 (br_t (nI_le (a := 4) (by omega) hj) h), fun post cn op ax ay az c rg lf h => br_f h0 (br_t (nI_lt (a := 3) (by omega) hj) h)⟩
theorem pf_cel (x : Int32) : ∃ s : Int32, (s = 0 ∨ s = 1 ∧ ∃ r, r < 12 ∧ x = nI r) ∧ (∀ post : Int32 → Prop, post s → wpX_isCell post x) ∧
    (∀ (post : Int32 → Prop) (cn : Int32) (op ax ay az c rg lf : Nat → Int32), post s → wpY_in post (cn, op, ax, ay, az, c, rg, lf) x 11) := by
  by_cases h0 : x < 0
  · exact ⟨0, Or.inl rfl, fun post h => br_t h0 h, fun post cn op ax ay az c rg lf h => br_t h0 h⟩
  · obtain ⟨j, hj, rfl⟩ := nI_of h0
    by_cases hl : j < 12
    · exact ⟨1, Or.inr ⟨rfl, j, hl, rfl⟩, fun post h => br_f h0 (br_f (nI_ge (b := 12) hl (by decide)) h), fun post cn op ax ay az c rg lf h => br_f h0 (br_f (nI_nlt (a := 11) (by omega) (by decide)) h)⟩
    · exact ⟨0, Or.inl rfl, fun post h => br_f h0 (br_t (nI_le (a := 12) (by omega) hj) h), fun post cn op ax ay az c rg lf h => br_f h0 (br_t (nI_lt (a := 11) (by omega) hj) h)⟩
theorem pf_rep (x : Int32) : ∃ s : Int32, (s = 0 ∨ s = 1 ∧ ∃ m, 1 ≤ m ∧ m ≤ 6 ∧ x = nI m) ∧
    (∀ post : Int32 → Prop, post s → ((x < 1 → post 0) ∧ (¬ x < 1 → ((6 < x → post 0) ∧ (¬ 6 < x → post 1))))) := by
  by_cases h1 : x < 1
  · exact ⟨0, Or.inl rfl, fun post h => br_t h1 h⟩
  · have h0 : ¬ x < 0 := fun z => h1 (Int32.lt_trans z (by decide))
    obtain ⟨j, hj, rfl⟩ := nI_of h0
    have hj1 : 1 ≤ j := by
      by_cases z : j < 1
      · exact absurd (nI_lt (b := 1) z (by decide)) h1
      · omega
    by_cases hl : j ≤ 6
    · exact ⟨1, Or.inr ⟨rfl, j, hj1, hl, rfl⟩, fun post h => br_f h1 (br_f (nI_nlt (a := 6) hl (by decide)) h)⟩
    · exact ⟨0, Or.inl rfl, fun post h => br_f h1 (br_t (nI_lt (a := 6) (by omega) hj) h)⟩
theorem pf_f10 {cn : Int32} {op ax ay az c rg lf : Nat → Int32} (x y z : Int32) : ∃ s : Int32, (s = 0 ∨ s = 1 ∧ pf_fit 10 x y z) ∧ (∀ post : Int32 → Prop, post s → wpX_operandsFit post (nI 10) x y z) ∧
    (∀ post : Int32 → Prop, post s → wpY_fits post (cn, op, ax, ay, az, c, rg, lf) (nI 10) x y z) := by
  refine ⟨1, Or.inr ⟨rfl, Or.inl rfl⟩, fun post h => br_t (by decide) h, fun post h => br_f (by decide) (br_t (by decide) (br_t (by decide) h))⟩
theorem pf_f9 {cn : Int32} {op ax ay az c rg lf : Nat → Int32} (x y z : Int32) : ∃ s : Int32, (s = 0 ∨ s = 1 ∧ pf_fit 9 x y z) ∧ (∀ post : Int32 → Prop, post s → wpX_operandsFit post (nI 9) x y z) ∧
    (∀ post : Int32 → Prop, post s → wpY_fits post (cn, op, ax, ay, az, c, rg, lf) (nI 9) x y z) := by
  obtain ⟨s, hs, hR⟩ := pf_rep x
  refine ⟨s, ?_, fun post h => br_f (by decide) (br_t (by decide) ?_), fun post h => br_f (by decide) (br_t (by decide) (br_f (by decide) (br_t (by decide) (hR post h))))⟩
  · rcases hs with z | ⟨z, m, h1, h2, h3⟩
    · exact Or.inl z
    · exact Or.inr ⟨z, Or.inr (Or.inl ⟨rfl, m, h1, h2, h3⟩)⟩
  · exact hR (fun r => narrow .boolean (.int r) = .int r ∧ post r) ⟨pf_nar (pf_n01 hs), h⟩
theorem pf_f0 {cn : Int32} {op ax ay az c rg lf : Nat → Int32} (x y z : Int32) : ∃ s : Int32, (s = 0 ∨ s = 1 ∧ pf_fit 0 x y z) ∧ (∀ post : Int32 → Prop, post s → wpX_operandsFit post (nI 0) x y z) ∧
    (∀ post : Int32 → Prop, post s → wpY_fits post (cn, op, ax, ay, az, c, rg, lf) (nI 0) x y z) := by
  obtain ⟨sx, hsx, xX, xY⟩ := pf_reg x
  rcases hsx with rfl | ⟨rfl, hx⟩
  · refine ⟨0, Or.inl rfl, fun post h => br_f (by decide) (br_f (by decide) ?_), fun post h => br_f (by decide) (br_t (by decide) (br_f (by decide) (br_f (by decide) ?_)))⟩
    · refine xX _ ?_
      exact br_t rfl h
    · refine xY _ _ _ _ _ _ _ _ _ ?_
      exact br_t rfl h
  · refine ⟨1, Or.inr ⟨rfl, Or.inr (Or.inr ⟨by omega, hx, (fun h => absurd h (by omega)), (fun h => absurd h (by omega)), (fun h => absurd h (by omega)), (fun h => absurd h (by omega))⟩)⟩, fun post h => br_f (by decide) (br_f (by decide) ?_), fun post h => br_f (by decide) (br_t (by decide) (br_f (by decide) (br_f (by decide) ?_)))⟩
    · refine xX _ ?_
      exact br_f pf_10 (br_t (by decide) (h))
    · refine xY _ _ _ _ _ _ _ _ _ ?_
      exact br_f pf_10 (br_t (by decide) (br_f (by decide) (br_f (by decide) (br_f (by decide) (br_f (by decide) (br_f (by decide) (h)))))))
theorem pf_f1 {cn : Int32} {op ax ay az c rg lf : Nat → Int32} (x y z : Int32) : ∃ s : Int32, (s = 0 ∨ s = 1 ∧ pf_fit 1 x y z) ∧ (∀ post : Int32 → Prop, post s → wpX_operandsFit post (nI 1) x y z) ∧
    (∀ post : Int32 → Prop, post s → wpY_fits post (cn, op, ax, ay, az, c, rg, lf) (nI 1) x y z) := by
  obtain ⟨sx, hsx, xX, xY⟩ := pf_reg x
  rcases hsx with rfl | ⟨rfl, hx⟩
  · refine ⟨0, Or.inl rfl, fun post h => br_f (by decide) (br_f (by decide) ?_), fun post h => br_f (by decide) (br_t (by decide) (br_f (by decide) (br_f (by decide) ?_)))⟩
    · refine xX _ ?_
      exact br_t rfl h
    · refine xY _ _ _ _ _ _ _ _ _ ?_
      exact br_t rfl h
  · obtain ⟨sy, hsy, yX, yY⟩ := pf_reg y
    rcases hsy with rfl | ⟨rfl, hy⟩
    · refine ⟨0, Or.inl rfl, fun post h => br_f (by decide) (br_f (by decide) ?_), fun post h => br_f (by decide) (br_t (by decide) (br_f (by decide) (br_f (by decide) ?_)))⟩
      · refine xX _ ?_
        refine br_f pf_10 (br_f (by decide) (br_f (by decide) (br_t (by decide) ?_)))
        unfold wX_operandsFit_76
        refine yX _ ?_
        exact br_t rfl h
      · refine xY _ _ _ _ _ _ _ _ _ ?_
        refine br_f pf_10 (br_f (by decide) (br_f (by decide) ?_))
        refine yY _ _ _ _ _ _ _ _ _ ?_
        exact br_t rfl h
    · obtain ⟨sz, hsz, zX, zY⟩ := pf_reg z
      refine ⟨sz, ?_, fun post h => br_f (by decide) (br_f (by decide) ?_), fun post h => br_f (by decide) (br_t (by decide) (br_f (by decide) (br_f (by decide) ?_)))⟩
      · rcases hsz with e | ⟨e, hz⟩
        · exact Or.inl e
        · exact Or.inr ⟨e, Or.inr (Or.inr ⟨by omega, hx, fun _ _ => ⟨hy, hz⟩, (fun h => absurd h (by omega)), (fun h => absurd h (by omega)), (fun h => absurd h (by omega))⟩)⟩
      · refine xX _ ?_
        refine br_f pf_10 (br_f (by decide) (br_f (by decide) (br_t (by decide) ?_)))
        unfold wX_operandsFit_76
        refine yX _ ?_
        refine br_f pf_10 ?_
        refine zX _ ?_
        rcases pf_n01 hsz with rfl | rfl
        · exact br_t rfl h
        · exact br_f pf_10 h
      · refine xY _ _ _ _ _ _ _ _ _ ?_
        refine br_f pf_10 (br_f (by decide) (br_f (by decide) ?_))
        refine yY _ _ _ _ _ _ _ _ _ ?_
        refine br_f pf_10 ?_
        refine zY _ _ _ _ _ _ _ _ _ ?_
        rcases pf_n01 hsz with rfl | rfl
        · exact br_t rfl h
        · exact br_f pf_10 h
theorem pf_f2 {cn : Int32} {op ax ay az c rg lf : Nat → Int32} (x y z : Int32) : ∃ s : Int32, (s = 0 ∨ s = 1 ∧ pf_fit 2 x y z) ∧ (∀ post : Int32 → Prop, post s → wpX_operandsFit post (nI 2) x y z) ∧
    (∀ post : Int32 → Prop, post s → wpY_fits post (cn, op, ax, ay, az, c, rg, lf) (nI 2) x y z) := by
  obtain ⟨sx, hsx, xX, xY⟩ := pf_reg x
  rcases hsx with rfl | ⟨rfl, hx⟩
  · refine ⟨0, Or.inl rfl, fun post h => br_f (by decide) (br_f (by decide) ?_), fun post h => br_f (by decide) (br_t (by decide) (br_f (by decide) (br_f (by decide) ?_)))⟩
    · refine xX _ ?_
      exact br_t rfl h
    · refine xY _ _ _ _ _ _ _ _ _ ?_
      exact br_t rfl h
  · obtain ⟨sy, hsy, yX, yY⟩ := pf_reg y
    rcases hsy with rfl | ⟨rfl, hy⟩
    · refine ⟨0, Or.inl rfl, fun post h => br_f (by decide) (br_f (by decide) ?_), fun post h => br_f (by decide) (br_t (by decide) (br_f (by decide) (br_f (by decide) ?_)))⟩
      · refine xX _ ?_
        refine br_f pf_10 (br_f (by decide) (br_f (by decide) (br_f (by decide) (br_t (by decide) ?_))))
        unfold wX_operandsFit_76
        refine yX _ ?_
        exact br_t rfl h
      · refine xY _ _ _ _ _ _ _ _ _ ?_
        refine br_f pf_10 (br_f (by decide) (br_f (by decide) ?_))
        refine yY _ _ _ _ _ _ _ _ _ ?_
        exact br_t rfl h
    · obtain ⟨sz, hsz, zX, zY⟩ := pf_reg z
      refine ⟨sz, ?_, fun post h => br_f (by decide) (br_f (by decide) ?_), fun post h => br_f (by decide) (br_t (by decide) (br_f (by decide) (br_f (by decide) ?_)))⟩
      · rcases hsz with e | ⟨e, hz⟩
        · exact Or.inl e
        · exact Or.inr ⟨e, Or.inr (Or.inr ⟨by omega, hx, fun _ _ => ⟨hy, hz⟩, (fun h => absurd h (by omega)), (fun h => absurd h (by omega)), (fun h => absurd h (by omega))⟩)⟩
      · refine xX _ ?_
        refine br_f pf_10 (br_f (by decide) (br_f (by decide) (br_f (by decide) (br_t (by decide) ?_))))
        unfold wX_operandsFit_76
        refine yX _ ?_
        refine br_f pf_10 ?_
        refine zX _ ?_
        rcases pf_n01 hsz with rfl | rfl
        · exact br_t rfl h
        · exact br_f pf_10 h
      · refine xY _ _ _ _ _ _ _ _ _ ?_
        refine br_f pf_10 (br_f (by decide) (br_f (by decide) ?_))
        refine yY _ _ _ _ _ _ _ _ _ ?_
        refine br_f pf_10 ?_
        refine zY _ _ _ _ _ _ _ _ _ ?_
        rcases pf_n01 hsz with rfl | rfl
        · exact br_t rfl h
        · exact br_f pf_10 h
theorem pf_f3 {cn : Int32} {op ax ay az c rg lf : Nat → Int32} (x y z : Int32) : ∃ s : Int32, (s = 0 ∨ s = 1 ∧ pf_fit 3 x y z) ∧ (∀ post : Int32 → Prop, post s → wpX_operandsFit post (nI 3) x y z) ∧
    (∀ post : Int32 → Prop, post s → wpY_fits post (cn, op, ax, ay, az, c, rg, lf) (nI 3) x y z) := by
  obtain ⟨sx, hsx, xX, xY⟩ := pf_reg x
  rcases hsx with rfl | ⟨rfl, hx⟩
  · refine ⟨0, Or.inl rfl, fun post h => br_f (by decide) (br_f (by decide) ?_), fun post h => br_f (by decide) (br_t (by decide) (br_f (by decide) (br_f (by decide) ?_)))⟩
    · refine xX _ ?_
      exact br_t rfl h
    · refine xY _ _ _ _ _ _ _ _ _ ?_
      exact br_t rfl h
  · obtain ⟨sy, hsy, yX, yY⟩ := pf_reg y
    rcases hsy with rfl | ⟨rfl, hy⟩
    · refine ⟨0, Or.inl rfl, fun post h => br_f (by decide) (br_f (by decide) ?_), fun post h => br_f (by decide) (br_t (by decide) (br_f (by decide) (br_f (by decide) ?_)))⟩
      · refine xX _ ?_
        refine br_f pf_10 (br_f (by decide) (br_f (by decide) (br_f (by decide) (br_f (by decide) (br_t (by decide) ?_)))))
        unfold wX_operandsFit_76
        refine yX _ ?_
        exact br_t rfl h
      · refine xY _ _ _ _ _ _ _ _ _ ?_
        refine br_f pf_10 (br_f (by decide) (br_f (by decide) ?_))
        refine yY _ _ _ _ _ _ _ _ _ ?_
        exact br_t rfl h
    · obtain ⟨sz, hsz, zX, zY⟩ := pf_reg z
      refine ⟨sz, ?_, fun post h => br_f (by decide) (br_f (by decide) ?_), fun post h => br_f (by decide) (br_t (by decide) (br_f (by decide) (br_f (by decide) ?_)))⟩
      · rcases hsz with e | ⟨e, hz⟩
        · exact Or.inl e
        · exact Or.inr ⟨e, Or.inr (Or.inr ⟨by omega, hx, fun _ _ => ⟨hy, hz⟩, (fun h => absurd h (by omega)), (fun h => absurd h (by omega)), (fun h => absurd h (by omega))⟩)⟩
      · refine xX _ ?_
        refine br_f pf_10 (br_f (by decide) (br_f (by decide) (br_f (by decide) (br_f (by decide) (br_t (by decide) ?_)))))
        unfold wX_operandsFit_76
        refine yX _ ?_
        refine br_f pf_10 ?_
        refine zX _ ?_
        rcases pf_n01 hsz with rfl | rfl
        · exact br_t rfl h
        · exact br_f pf_10 h
      · refine xY _ _ _ _ _ _ _ _ _ ?_
        refine br_f pf_10 (br_f (by decide) (br_f (by decide) ?_))
        refine yY _ _ _ _ _ _ _ _ _ ?_
        refine br_f pf_10 ?_
        refine zY _ _ _ _ _ _ _ _ _ ?_
        rcases pf_n01 hsz with rfl | rfl
        · exact br_t rfl h
        · exact br_f pf_10 h
theorem pf_f4 {cn : Int32} {op ax ay az c rg lf : Nat → Int32} (x y z : Int32) : ∃ s : Int32, (s = 0 ∨ s = 1 ∧ pf_fit 4 x y z) ∧ (∀ post : Int32 → Prop, post s → wpX_operandsFit post (nI 4) x y z) ∧
    (∀ post : Int32 → Prop, post s → wpY_fits post (cn, op, ax, ay, az, c, rg, lf) (nI 4) x y z) := by
  obtain ⟨sx, hsx, xX, xY⟩ := pf_reg x
  rcases hsx with rfl | ⟨rfl, hx⟩
  · refine ⟨0, Or.inl rfl, fun post h => br_f (by decide) (br_f (by decide) ?_), fun post h => br_f (by decide) (br_t (by decide) (br_f (by decide) (br_f (by decide) ?_)))⟩
    · refine xX _ ?_
      exact br_t rfl h
    · refine xY _ _ _ _ _ _ _ _ _ ?_
      exact br_t rfl h
  · obtain ⟨sy, hsy, yX, yY⟩ := pf_cel y
    refine ⟨sy, ?_, fun post h => br_f (by decide) (br_f (by decide) ?_), fun post h => br_f (by decide) (br_t (by decide) (br_f (by decide) (br_f (by decide) ?_)))⟩
    · rcases hsy with e | ⟨e, hy⟩
      · exact Or.inl e
      · exact Or.inr ⟨e, Or.inr (Or.inr ⟨by omega, hx, fun _ h => absurd h (by omega), fun _ _ => hy, (fun h => absurd h (by omega)), (fun h => absurd h (by omega))⟩)⟩
    · refine xX _ ?_
      refine br_f pf_10 (br_f (by decide) (br_f (by decide) (br_f (by decide) (br_f (by decide) (br_f (by decide) (br_t (by decide) ?_))))))
      unfold wX_operandsFit_96
      refine yX _ ?_
      exact ⟨pf_nar (pf_n01 hsy), h⟩
    · refine xY _ _ _ _ _ _ _ _ _ ?_
      refine br_f pf_10 (br_f (by decide) (br_t (by decide) (br_t (by decide) ?_)))
      unfold wY_fits_99
      refine yY _ _ _ _ _ _ _ _ _ ?_
      exact ⟨pf_nar (pf_n01 hsy), h⟩
theorem pf_f5 {cn : Int32} {op ax ay az c rg lf : Nat → Int32} (x y z : Int32) : ∃ s : Int32, (s = 0 ∨ s = 1 ∧ pf_fit 5 x y z) ∧ (∀ post : Int32 → Prop, post s → wpX_operandsFit post (nI 5) x y z) ∧
    (∀ post : Int32 → Prop, post s → wpY_fits post (cn, op, ax, ay, az, c, rg, lf) (nI 5) x y z) := by
  obtain ⟨sx, hsx, xX, xY⟩ := pf_reg x
  rcases hsx with rfl | ⟨rfl, hx⟩
  · refine ⟨0, Or.inl rfl, fun post h => br_f (by decide) (br_f (by decide) ?_), fun post h => br_f (by decide) (br_t (by decide) (br_f (by decide) (br_f (by decide) ?_)))⟩
    · refine xX _ ?_
      exact br_t rfl h
    · refine xY _ _ _ _ _ _ _ _ _ ?_
      exact br_t rfl h
  · obtain ⟨sy, hsy, yX, yY⟩ := pf_cel y
    refine ⟨sy, ?_, fun post h => br_f (by decide) (br_f (by decide) ?_), fun post h => br_f (by decide) (br_t (by decide) (br_f (by decide) (br_f (by decide) ?_)))⟩
    · rcases hsy with e | ⟨e, hy⟩
      · exact Or.inl e
      · exact Or.inr ⟨e, Or.inr (Or.inr ⟨by omega, hx, fun _ h => absurd h (by omega), fun _ _ => hy, (fun h => absurd h (by omega)), (fun h => absurd h (by omega))⟩)⟩
    · refine xX _ ?_
      refine br_f pf_10 (br_f (by decide) (br_f (by decide) (br_f (by decide) (br_f (by decide) (br_f (by decide) (br_f (by decide) (br_t (by decide) ?_)))))))
      unfold wX_operandsFit_96
      refine yX _ ?_
      exact ⟨pf_nar (pf_n01 hsy), h⟩
    · refine xY _ _ _ _ _ _ _ _ _ ?_
      refine br_f pf_10 (br_f (by decide) (br_t (by decide) (br_f (by decide) (br_t (by decide) ?_))))
      unfold wY_fits_99
      refine yY _ _ _ _ _ _ _ _ _ ?_
      exact ⟨pf_nar (pf_n01 hsy), h⟩
theorem pf_f6 {cn : Int32} {op ax ay az c rg lf : Nat → Int32} (x y z : Int32) : ∃ s : Int32, (s = 0 ∨ s = 1 ∧ pf_fit 6 x y z) ∧ (∀ post : Int32 → Prop, post s → wpX_operandsFit post (nI 6) x y z) ∧
    (∀ post : Int32 → Prop, post s → wpY_fits post (cn, op, ax, ay, az, c, rg, lf) (nI 6) x y z) := by
  obtain ⟨sx, hsx, xX, xY⟩ := pf_reg x
  rcases hsx with rfl | ⟨rfl, hx⟩
  · refine ⟨0, Or.inl rfl, fun post h => br_f (by decide) (br_f (by decide) ?_), fun post h => br_f (by decide) (br_t (by decide) (br_f (by decide) (br_f (by decide) ?_)))⟩
    · refine xX _ ?_
      exact br_t rfl h
    · refine xY _ _ _ _ _ _ _ _ _ ?_
      exact br_t rfl h
  · obtain ⟨sy, hsy, yX, yY⟩ := pf_reg y
    refine ⟨sy, ?_, fun post h => br_f (by decide) (br_f (by decide) ?_), fun post h => br_f (by decide) (br_t (by decide) (br_f (by decide) (br_f (by decide) ?_)))⟩
    · rcases hsy with e | ⟨e, hy⟩
      · exact Or.inl e
      · exact Or.inr ⟨e, Or.inr (Or.inr ⟨by omega, hx, fun _ h => absurd h (by omega), fun _ h => absurd h (by omega), fun _ _ => hy, (fun h => absurd h (by omega))⟩)⟩
    · refine xX _ ?_
      refine br_f pf_10 (br_f (by decide) (br_f (by decide) (br_f (by decide) (br_f (by decide) (br_f (by decide) (br_f (by decide) (br_f (by decide) (br_t (by decide) ?_))))))))
      unfold wX_operandsFit_101
      refine yX _ ?_
      exact ⟨pf_nar (pf_n01 hsy), h⟩
    · refine xY _ _ _ _ _ _ _ _ _ ?_
      refine br_f pf_10 (br_f (by decide) (br_t (by decide) (br_f (by decide) (br_f (by decide) (br_t (by decide) ?_)))))
      unfold wY_fits_119
      refine yY _ _ _ _ _ _ _ _ _ ?_
      exact ⟨pf_nar (pf_n01 hsy), h⟩
theorem pf_f7 {cn : Int32} {op ax ay az c rg lf : Nat → Int32} (x y z : Int32) : ∃ s : Int32, (s = 0 ∨ s = 1 ∧ pf_fit 7 x y z) ∧ (∀ post : Int32 → Prop, post s → wpX_operandsFit post (nI 7) x y z) ∧
    (∀ post : Int32 → Prop, post s → wpY_fits post (cn, op, ax, ay, az, c, rg, lf) (nI 7) x y z) := by
  obtain ⟨sx, hsx, xX, xY⟩ := pf_reg x
  rcases hsx with rfl | ⟨rfl, hx⟩
  · refine ⟨0, Or.inl rfl, fun post h => br_f (by decide) (br_f (by decide) ?_), fun post h => br_f (by decide) (br_t (by decide) (br_f (by decide) (br_f (by decide) ?_)))⟩
    · refine xX _ ?_
      exact br_t rfl h
    · refine xY _ _ _ _ _ _ _ _ _ ?_
      exact br_t rfl h
  · obtain ⟨sy, hsy, yX, yY⟩ := pf_reg y
    refine ⟨sy, ?_, fun post h => br_f (by decide) (br_f (by decide) ?_), fun post h => br_f (by decide) (br_t (by decide) (br_f (by decide) (br_f (by decide) ?_)))⟩
    · rcases hsy with e | ⟨e, hy⟩
      · exact Or.inl e
      · exact Or.inr ⟨e, Or.inr (Or.inr ⟨by omega, hx, fun _ h => absurd h (by omega), fun _ h => absurd h (by omega), fun _ _ => hy, (fun h => absurd h (by omega))⟩)⟩
    · refine xX _ ?_
      refine br_f pf_10 (br_f (by decide) (br_f (by decide) (br_f (by decide) (br_f (by decide) (br_f (by decide) (br_f (by decide) (br_f (by decide) (br_f (by decide) (br_t (by decide) ?_)))))))))
      unfold wX_operandsFit_101
      refine yX _ ?_
      exact ⟨pf_nar (pf_n01 hsy), h⟩
    · refine xY _ _ _ _ _ _ _ _ _ ?_
      refine br_f pf_10 (br_f (by decide) (br_t (by decide) (br_f (by decide) (br_f (by decide) (br_f (by decide) (br_t (by decide) ?_))))))
      unfold wY_fits_119
      refine yY _ _ _ _ _ _ _ _ _ ?_
      exact ⟨pf_nar (pf_n01 hsy), h⟩
theorem pf_f8 {cn : Int32} {op ax ay az c rg lf : Nat → Int32} (x y z : Int32) : ∃ s : Int32, (s = 0 ∨ s = 1 ∧ pf_fit 8 x y z) ∧ (∀ post : Int32 → Prop, post s → wpX_operandsFit post (nI 8) x y z) ∧
    (∀ post : Int32 → Prop, post s → wpY_fits post (cn, op, ax, ay, az, c, rg, lf) (nI 8) x y z) := by
  obtain ⟨sx, hsx, xX, xY⟩ := pf_reg x
  rcases hsx with rfl | ⟨rfl, hx⟩
  · refine ⟨0, Or.inl rfl, fun post h => br_f (by decide) (br_f (by decide) ?_), fun post h => br_f (by decide) (br_t (by decide) (br_f (by decide) (br_f (by decide) ?_)))⟩
    · refine xX _ ?_
      exact br_t rfl h
    · refine xY _ _ _ _ _ _ _ _ _ ?_
      exact br_t rfl h
  · obtain ⟨sy, hsy, hR⟩ := pf_rep y
    refine ⟨sy, ?_, fun post h => br_f (by decide) (br_f (by decide) ?_), fun post h => br_f (by decide) (br_t (by decide) (br_f (by decide) (br_f (by decide) ?_)))⟩
    · rcases hsy with e | ⟨e, hy⟩
      · exact Or.inl e
      · exact Or.inr ⟨e, Or.inr (Or.inr ⟨by omega, hx, fun _ h => absurd h (by omega), fun _ h => absurd h (by omega), fun _ h => absurd h (by omega), fun _ => hy⟩)⟩
    · refine xX _ ?_
      refine br_f pf_10 (br_f (by decide) (br_f (by decide) (br_f (by decide) (br_f (by decide) (br_f (by decide) (br_f (by decide) (br_f (by decide) (br_f (by decide) (br_f (by decide) (br_t (by decide) ?_))))))))))
      exact hR (fun r => narrow .boolean (.int r) = .int r ∧ post r) ⟨pf_nar (pf_n01 hsy), h⟩
    · refine xY _ _ _ _ _ _ _ _ _ ?_
      refine br_f pf_10 (br_f (by decide) (br_t (by decide) (br_f (by decide) (br_f (by decide) (br_f (by decide) (br_f (by decide) (br_t (by decide) ?_)))))))
      exact hR post h
theorem pf_fits {cn : Int32} {op ax ay az c rg lf : Nat → Int32} (x y z : Int32) {q : Nat} (hq : q ≤ 10) : ∃ s : Int32, (s = 0 ∨ s = 1 ∧ pf_fit q x y z) ∧ (∀ post : Int32 → Prop, post s → wpX_operandsFit post (nI q) x y z) ∧
    (∀ post : Int32 → Prop, post s → wpY_fits post (cn, op, ax, ay, az, c, rg, lf) (nI q) x y z) := by
  have hc : q = 0 ∨ q = 1 ∨ q = 2 ∨ q = 3 ∨ q = 4 ∨ q = 5 ∨ q = 6 ∨ q = 7 ∨ q = 8 ∨ q = 9 ∨ q = 10 := by omega
  rcases hc with rfl | rfl | rfl | rfl | rfl | rfl | rfl | rfl | rfl | rfl | rfl
  · exact pf_f0 x y z
  · exact pf_f1 x y z
  · exact pf_f2 x y z
  · exact pf_f3 x y z
  · exact pf_f4 x y z
  · exact pf_f5 x y z
  · exact pf_f6 x y z
  · exact pf_f7 x y z
  · exact pf_f8 x y z
  · exact pf_f9 x y z
  · exact pf_f10 x y z
end
section
/-! the owed statements -/
/-- the same program and cells; the good bank holds the registers; each instruction's operands fit -/
def i_Rel (_ : Nat) (u : SX) (v : SY) : Prop := ∃ (n g : Nat) (tl : Int32) (op ax ay az c b w rg lf : Nat → Int32),
  u = (nI n, nI g, tl, op, ax, ay, az, c, b, w) ∧ v = (nI n, op, ax, ay, az, c, rg, lf) ∧ n ≤ 30 ∧ g ≤ 1 ∧ pf_Z w ∧
  (∀ r, r < 4 → rg r = b (11 * g + r)) ∧ ∀ i, i < n → pf_ok (op i) (ax i) (ay i) (az i)
theorem i_up {k : Nat} {u : SX} {v : SY} (h : i_Rel k u v) : i_Rel (k + 5) u v := h
theorem i_vc0 : wpX_init (fun u => wpY_init (fun v => i_Rel 0 u v)) :=
  ⟨0, 0, 0, _, _, _, _, _, _, _, _, _, rfl, rfl, by omega, by omega, fun _ _ => rfl, fun _ _ => rfl, fun _ h => absurd h (by omega)⟩
theorem i_vc_emit {k : Nat} {u : SX} {v : SY} (I : i_Rel k u v) (hk : k + 5 ≤ 2560) (v1 : Int32) (v2 : Int32) (v3 : Int32) (v4 : Int32) : wpX_emit (fun r u' => wpY_emit (fun r' v' => r' = r ∧ i_Rel (k + 5) u' v') v v1 v2 v3 v4) u v1 v2 v3 v4 := by
  obtain ⟨n, g, tl, op, ax, ay, az, c, b, w, rg, lf, rfl, rfl, hn, hg, hz, hr, hok⟩ := I
  have J : i_Rel (k + 5) (nI n, nI g, tl, op, ax, ay, az, c, b, w) (nI n, op, ax, ay, az, c, rg, lf) := ⟨n, g, tl, op, ax, ay, az, c, b, w, rg, lf, rfl, rfl, hn, hg, hz, hr, hok⟩
  by_cases h30 : n = 30
  · subst h30
    exact br_f (by decide) (br_t rfl ⟨rfl, J⟩)
  · have hlt : nI n < 30 := nI_lt (b := 30) (by omega) (by decide)
    have hne : ¬ nI n = 30 := fun e => h30 ((nI_eq (b := 30) (by omega) (by omega)).mp e)
    refine br_t hlt ?_
    by_cases h0 : v1 < 0
    · refine br_t h0 (br_f hne ?_)
      exact br_t h0 (br_t rfl ⟨rfl, J⟩)
    · obtain ⟨q, hq, rfl⟩ := nI_of h0
      by_cases h10 : q ≤ 10
      · obtain ⟨s, hs, hX, hY⟩ := pf_fits (cn := nI n) (op := op) (ax := ax) (ay := ay) (az := az) (c := c) (rg := rg) (lf := lf) v2 v3 v4 h10
        refine br_f h0 (br_f (nI_nlt (a := 10) h10 (by decide)) ?_)
        refine hX _ ?_
        rcases hs with rfl | ⟨rfl, hfit⟩
        · refine br_t rfl (br_f hne ?_)
          refine hY _ ?_
          exact br_t rfl ⟨rfl, J⟩
        · have hv : vp_in (nI n) 30 := vp_in_nI (by omega) (by decide)
          have hc := nI_clamp (n := n) (by omega)
          have e1 : upd op (nI n).toNatClampNeg (nI q) = upd op n (nI q) := by rw [hc]
          have e2 : upd ax (nI n).toNatClampNeg v2 = upd ax n v2 := by rw [hc]
          have e3 : upd ay (nI n).toNatClampNeg v3 = upd ay n v3 := by rw [hc]
          have e4 : upd az (nI n).toNatClampNeg v4 = upd az n v4 := by rw [hc]
          refine br_f pf_10 ⟨hv, nm_r e1 ⟨hv, nm_r e2 ⟨hv, nm_r e3 ⟨hv, nm_r e4 (nm_r (nI_1 n) (br_f hne ?_))⟩⟩⟩⟩
          refine hY _ ?_
          refine br_f pf_10 ⟨hv, nm_r e1 ⟨hv, nm_r e2 ⟨hv, nm_r e3 ⟨hv, nm_r e4 (nm_r (nI_1 n) ⟨rfl, ?_⟩)⟩⟩⟩⟩
          refine ⟨n + 1, g, tl, upd op n (nI q), upd ax n v2, upd ay n v3, upd az n v4, c, b, w, rg, lf, rfl, rfl, by omega, hg, hz, hr, fun i hi => ?_⟩
          by_cases z : i = n
          · rw [z, pk_us, pk_us, pk_us, pk_us]
            exact ⟨q, h10, rfl, hfit⟩
          · rw [pk_un z, pk_un z, pk_un z, pk_un z]
            exact hok i (by omega)
      · refine br_f h0 (br_t (nI_lt (a := 10) (by omega) hq) (br_f hne ?_))
        exact br_f h0 (br_f (nI_ge (a := 10) (by omega) hq) (br_t rfl ⟨rfl, J⟩))
theorem i_vc_retract {k : Nat} {u : SX} {v : SY} (I : i_Rel k u v) (hk : k + 5 ≤ 2560) : wpX_retract (fun r u' => wpY_retract (fun r' v' => r' = r ∧ i_Rel (k + 5) u' v') v) u := by
  obtain ⟨n, g, tl, op, ax, ay, az, c, b, w, rg, lf, rfl, rfl, hn, hg, hz, hr, hok⟩ := I
  by_cases h0 : n = 0
  · subst h0
    exact br_t nI_0 (br_t nI_0 ⟨rfl, 0, g, tl, op, ax, ay, az, c, b, w, rg, lf, rfl, rfl, hn, hg, hz, hr, hok⟩)
  · obtain ⟨m, rfl⟩ : ∃ m, n = m + 1 := ⟨n - 1, by omega⟩
    have hne : ¬ nI (m + 1) = 0 := nI_ne0 (by omega) (by omega)
    exact br_f hne (nm_r (nI_pred m) (br_f hne (nm_r (nI_pred m) ⟨rfl, m, g, tl, op, ax, ay, az, c, b, w, rg, lf, rfl, rfl, by omega, hg, hz, hr, fun i hi => hok i (by omega)⟩)))
theorem i_vc_sound {k : Nat} {u : SX} {v : SY} (I : i_Rel k u v) (hk : k + 5 ≤ 2560) : wpX_sound (fun r => wpY_sound (fun r' => r' = r ∧ i_Rel (k + 5) u v) v) u := by
  have J := i_up I
  obtain ⟨n, g, tl, op, ax, ay, az, c, b, w, rg, lf, rfl, rfl, hn, hg, hz, hr, hok⟩ := I
  obtain ⟨s, hs, hX, hY⟩ := pf_sound (gb := nI g) (tl := tl) (c := c) (b := b) (w := w) (cY := c) (rg := rg) (lf := lf) hn hok
  exact hX _ (hY _ ⟨rfl, J⟩)
theorem i_vc_setCell {k : Nat} {u : SX} {v : SY} (I : i_Rel k u v) (hk : k + 5 ≤ 2560) (v1 : Int32) (v2 : Int32) : wpX_setCell (fun r u' => wpY_setCell (fun r' v' => r' = r ∧ i_Rel (k + 5) u' v') v v1 v2) u v1 v2 := by
  obtain ⟨n, g, tl, op, ax, ay, az, c, b, w, rg, lf, rfl, rfl, hn, hg, hz, hr, hok⟩ := I
  obtain ⟨s, hs, hX, hY⟩ := pf_cel v1
  unfold wpX_setCell
  refine hX _ ?_
  rcases hs with rfl | ⟨rfl, r, hrl, rfl⟩
  · refine br_t rfl ?_
    unfold wpY_setCell
    refine hY _ _ _ _ _ _ _ _ _ ?_
    exact br_t rfl ⟨rfl, n, g, tl, op, ax, ay, az, c, b, w, rg, lf, rfl, rfl, hn, hg, hz, hr, hok⟩
  · have hv : vp_in (nI r) 12 := vp_in_nI hrl (by decide)
    refine br_f pf_10 ⟨hv, nm_e ?_⟩
    unfold wpY_setCell
    refine hY _ _ _ _ _ _ _ _ _ ?_
    exact br_f pf_10 ⟨hv, nm_e ⟨rfl, n, g, tl, op, ax, ay, az, _, b, w, rg, lf, rfl, rfl, hn, hg, hz, hr, hok⟩⟩
theorem i_vc_run {k : Nat} {u : SX} {v : SY} (I : i_Rel k u v) (hk : k + 5 ≤ 2560) (v1 : Int32) : wpX_run (fun r u' => wpY_run (fun r' v' => r' = r ∧ i_Rel (k + 5) u' v') v v1) u v1 := by
  obtain ⟨n, g, tl, op, ax, ay, az, c, b, w, rg, lf, rfl, rfl, hn, hg, hz, hr, hok⟩ := I
  obtain ⟨s, hs, hX, hY⟩ := pf_sound (gb := nI g) (tl := tl) (c := c) (b := b) (w := w) (cY := c) (rg := rg) (lf := lf) hn hok
  unfold wpX_run
  refine hX _ ?_
  rcases hs with rfl | ⟨rfl, hso⟩
  · refine br_t rfl ?_
    unfold wpY_run
    refine hY _ ?_
    exact br_t rfl ⟨rfl, n, g, tl, op, ax, ay, az, c, b, w, rg, lf, rfl, rfl, hn, hg, hz, hr, hok⟩
  · refine br_f pf_10 ?_
    have hst : pf_st op n (fun _ => 0) 0 0 (fun _ => 0) (fun _ => 0) (fun _ => 0) := ⟨rfl, rfl, by omega, by omega, rfl, fun t ht => absurd ht (by omega)⟩
    obtain ⟨K, hK, W, C, hW0, hC0, hR, hKn, hZ⟩ := pf_chain (op := op) (n := n) (pf_R n op ax ay az) (fun m w c h1 h2 h3 => pf_step hn hso hok m w c h1 h2 h3)
      (36 * n) (fun _ => 0) c ⟨0, 0, _, _, _, hst, by rw [pf_bu0]; omega⟩ (fun _ _ => rfl)
    have H : pf_Ch n op ax ay az K W C := ⟨hR, hKn, hZ⟩
    have hK5 : W K 5 = nI K := pf_ch5 H (by rw [hW0]; rfl) K (Nat.le_refl _)
    refine pf_clamp v1 (fun tk ht1 ht2 => ?_)
    refine pf_forget ?_
    refine ⟨K + 1, ?_⟩
    refine pf_runX (K := K) (W := W) (C := C) hn H (by omega) ht1 ht2 (fun g' tl' b' wk' hg' hB' hz' => ?_) (K + 1) 0 0 0 tl _ c w (by omega) (by omega) (by omega) (by omega) ?_ (Or.inl hC0.symm) hz
    · unfold wpY_run
      refine hY _ ?_
      refine br_f pf_10 ?_
      refine pf_zeroY ?_
      refine ⟨K + 1, ?_⟩
      have Y := pf_runY (post := fun r' v' => r' = W K 5 ∧ i_Rel (k + 5) (nI n, nI g', tl', op, ax, ay, az, C K, b', wk') v') hn H (by omega) (fun rg' lf' hY' => ?_)
        (K + 1) 0 (pf_fl rg (fun _ => 0) 4) lf (by omega) (by omega) ⟨fun r hr4 => by rw [hW0]; exact pf_flo hr4, fun t d q h6 hd ht => ?_⟩
      · rw [hW0, hC0] at Y
        exact Y
      · refine ⟨hK5.symm, n, g', tl', op, ax, ay, az, C K, b', wk', rg', lf', rfl, rfl, hn, hg', hz', fun r hr4 => ?_, hok⟩
        rw [hY'.1 r hr4, ← hB', pf_B_lo (by omega)]
      · rw [hW0] at h6
        have : 0 = d := (nI_eq (a := 0) (by omega) (by omega)).mp h6
        omega
    · rw [hW0]
      funext i
      show (if i < 11 then (if 11 * 0 + i < 22 then (0 : Int32) else b (11 * 0 + i)) else 0) = 0
      by_cases hi : i < 11
      · rw [if_pos hi, if_pos (by omega)]
      · rw [if_neg hi]
theorem i_vc_cell {k : Nat} {u : SX} {v : SY} (I : i_Rel k u v) (hk : k + 5 ≤ 2560) (v1 : Int32) : wpX_cell (fun r => wpY_cell (fun r' => r' = r ∧ i_Rel (k + 5) u v) v v1) u v1 := by
  have J := i_up I
  obtain ⟨n, g, tl, op, ax, ay, az, c, b, w, rg, lf, rfl, rfl, hn, hg, hz, hr, hok⟩ := I
  obtain ⟨s, hs, hX, hY⟩ := pf_cel v1
  unfold wpX_cell
  refine hX _ ?_
  rcases hs with rfl | ⟨rfl, r, hrl, rfl⟩
  · refine br_t rfl ?_
    unfold wpY_cell
    refine hY _ _ _ _ _ _ _ _ _ ?_
    exact br_t rfl ⟨rfl, J⟩
  · have hv : vp_in (nI r) 12 := vp_in_nI hrl (by decide)
    refine br_f pf_10 ⟨hv, ?_⟩
    unfold wpY_cell
    refine hY _ _ _ _ _ _ _ _ _ ?_
    exact br_f pf_10 ⟨hv, rfl, J⟩
theorem i_vc_register {k : Nat} {u : SX} {v : SY} (I : i_Rel k u v) (hk : k + 5 ≤ 2560) (v1 : Int32) : wpX_register (fun r => wpY_register (fun r' => r' = r ∧ i_Rel (k + 5) u v) v v1) u v1 := by
  have J := i_up I
  obtain ⟨n, g, tl, op, ax, ay, az, c, b, w, rg, lf, rfl, rfl, hn, hg, hz, hr, hok⟩ := I
  obtain ⟨s, hs, hX, hY⟩ := pf_reg v1
  unfold wpX_register
  refine hX _ ?_
  rcases hs with rfl | ⟨rfl, r, hrl, rfl⟩
  · refine br_t rfl ?_
    unfold wpY_register
    refine hY _ _ _ _ _ _ _ _ _ ?_
    exact br_t rfl ⟨rfl, J⟩
  · have hv : vp_in (nI r) 4 := vp_in_nI hrl (by decide)
    refine br_f pf_10 ?_
    refine pf_kept hg (by omega) ?_
    unfold wpY_register
    refine hY _ _ _ _ _ _ _ _ _ ?_
    refine br_f pf_10 ⟨hv, ?_, J⟩
    rw [nI_clamp (by omega), pf_B_lo (by omega)]
    exact hr r hrl
theorem pf_clX {post : SX → Prop} {cn gb tl : Int32} {op ax ay az c b w : Nat → Int32}
    (h : post (cn, 0, 0, op, ax, ay, az, pf_fl c (fun _ => 0) 12, pf_fl b (fun _ => 0) 22, pf_fl w (fun _ => 0) 11)) : ∃ f, wX_clear_7 post cn gb tl f 0 op ax ay az c b w := by
  have L : ∀ d i, i + d = 12 → wX_clear_7 post cn gb tl (d + 1) (nI i) op ax ay az (pf_fl c (fun _ => 0) i) b w := by
    intro d
    induction d with
    | zero =>
      intro i hi
      obtain rfl : i = 12 := by omega
      refine br_t (nI_le (a := 12) (by omega) (by decide)) ?_
      refine pf_forget ?_
      refine pf_lose ?_
      exact h
    | succ d ih =>
      intro i hi
      refine br_f (nI_ge (b := 12) (by omega) (by decide)) ⟨vp_in_nI (by omega) (by decide), nm_r (e' := pf_fl c (fun _ => 0) (i + 1)) ?_ (nm_r (nI_1 i) (ih (i + 1) (by omega)))⟩
      rw [nI_clamp (by omega)]
      exact pf_flS c (fun _ => 0) i
  have := L 12 0 (by omega)
  rw [pf_fl0, nI_0] at this
  exact ⟨_, this⟩
theorem pf_clY {post : SY → Prop} {cn : Int32} {op ax ay az c rg lf : Nat → Int32}
    (h : post (cn, op, ax, ay, az, pf_fl c (fun _ => 0) 12, pf_fl rg (fun _ => 0) 4, lf)) : ∃ f, wY_clear_7 post cn f 0 op ax ay az c rg lf := by
  have L4 : ∀ d i, i + d = 4 → wY_clear_28 post cn (d + 1) (nI i) op ax ay az (pf_fl c (fun _ => 0) 12) (pf_fl rg (fun _ => 0) i) lf := by
    intro d
    induction d with
    | zero =>
      intro i hi
      obtain rfl : i = 4 := by omega
      exact br_t (nI_le (a := 4) (by omega) (by decide)) h
    | succ d ih =>
      intro i hi
      refine br_f (nI_ge (b := 4) (by omega) (by decide)) ⟨vp_in_nI (by omega) (by decide), nm_r (e' := pf_fl rg (fun _ => 0) (i + 1)) ?_ (nm_r (nI_1 i) (ih (i + 1) (by omega)))⟩
      rw [nI_clamp (by omega)]
      exact pf_flS rg (fun _ => 0) i
  have h4 := L4 4 0 (by omega)
  rw [pf_fl0, nI_0] at h4
  have L : ∀ d i, i + d = 12 → wY_clear_7 post cn (d + 1) (nI i) op ax ay az (pf_fl c (fun _ => 0) i) rg lf := by
    intro d
    induction d with
    | zero =>
      intro i hi
      obtain rfl : i = 12 := by omega
      exact br_t (nI_le (a := 12) (by omega) (by decide)) ⟨_, h4⟩
    | succ d ih =>
      intro i hi
      refine br_f (nI_ge (b := 12) (by omega) (by decide)) ⟨vp_in_nI (by omega) (by decide), nm_r (e' := pf_fl c (fun _ => 0) (i + 1)) ?_ (nm_r (nI_1 i) (ih (i + 1) (by omega)))⟩
      rw [nI_clamp (by omega)]
      exact pf_flS c (fun _ => 0) i
  have := L 12 0 (by omega)
  rw [pf_fl0, nI_0] at this
  exact ⟨_, this⟩
theorem i_vc_clear {k : Nat} {u : SX} {v : SY} (I : i_Rel k u v) (hk : k + 5 ≤ 2560) : wpX_clear (fun u' => wpY_clear (fun v' => i_Rel (k + 5) u' v') v) u := by
  obtain ⟨n, g, tl, op, ax, ay, az, c, b, w, rg, lf, rfl, rfl, hn, hg, hz, hr, hok⟩ := I
  unfold wpX_clear
  refine pf_clX ?_
  unfold wpY_clear
  refine pf_clY ?_
  refine ⟨0, 0, 0, op, ax, ay, az, _, _, _, _, lf, rfl, rfl, by omega, by omega, pf_flZ hz (Nat.le_refl _), fun r hr4 => ?_, fun i hi => absurd hi (by omega)⟩
  rw [pf_flo hr4, pf_flo (by omega)]
end
