section
/-! rows of kit/rows, pasted -/
theorem pk_us {f : Nat → Int32} {k : Nat} {x : Int32} : upd f k x k = x := if_pos rfl
theorem pk_un {f : Nat → Int32} {k j : Nat} {x : Int32} (h : j ≠ k) : upd f k x j = f j := if_neg h
theorem pk_sub {a b : Nat} (h : b ≤ a) : nI a - nI b = nI (a - b) := by
  obtain ⟨c, rfl⟩ : ∃ c, a = c + b := ⟨a - b, by omega⟩
  rw [← nI_add, Int32.add_sub_cancel, Nat.add_sub_cancel]
theorem pk_m1 (n : Nat) : nI (n + 1) + (-1) = nI n := by
  rw [← nI_1, Int32.add_assoc, show (1 : Int32) + (-1) = 0 from rfl, Int32.add_zero]
theorem pk_ix (x : Int32) {n : Nat} (hn : n < 2 ^ 31) : x < 0 ∨ nI n ≤ x ∨ ∃ j : Nat, j < n ∧ x = nI j := by
  by_cases h : x < 0
  · exact Or.inl h
  · obtain ⟨j, hj, rfl⟩ := nI_of h
    by_cases h2 : j < n
    · exact Or.inr (Or.inr ⟨j, h2, rfl⟩)
    · exact Or.inr (Or.inl (nI_le (by omega) hj))
theorem pk_le {x y : Int32} {A B : Prop} (a b : Nat) (f : a ≤ b → A) (g : b < a → B) (hx : x = nI a := by rfl) (hy : y = nI b := by rfl) (ha : a < 2 ^ 31 := by omega) (hb : b < 2 ^ 31 := by omega) : (x ≤ y → A) ∧ (¬ x ≤ y → B) := by
  subst hx hy
  rw [nI_leI ha hb]
  exact ⟨f, fun z => g (by omega)⟩
theorem pk_lt {x y : Int32} {A B : Prop} (a b : Nat) (f : a < b → A) (g : b ≤ a → B) (hx : x = nI a := by rfl) (hy : y = nI b := by rfl) (ha : a < 2 ^ 31 := by omega) (hb : b < 2 ^ 31 := by omega) : (x < y → A) ∧ (¬ x < y → B) := by
  subst hx hy
  rw [nI_ltI ha hb]
  exact ⟨f, fun z => g (by omega)⟩
theorem pk_eq {x y : Int32} {A B : Prop} (a b : Nat) (f : a = b → A) (g : a ≠ b → B) (hx : x = nI a := by rfl) (hy : y = nI b := by rfl) (ha : a < 2 ^ 31 := by omega) (hb : b < 2 ^ 31 := by omega) : (x = y → A) ∧ (¬ x = y → B) := by
  subst hx hy
  rw [nI_eq ha hb]
  exact ⟨f, g⟩
theorem pk_in {x : Int32} (n N : Nat) (h : n < N) (hx : x = nI n := by rfl) (hN : N < 2 ^ 31 := by omega) : vp_in x N := by
  subst hx
  exact vp_in_nI h hN
theorem pk_cl {x : Int32} (n : Nat) (hx : x = nI n := by rfl) (h : n < 2 ^ 31 := by omega) : x.toNatClampNeg = n := by
  subst hx
  exact nI_clamp h
theorem pk_tn {n : Nat} (h : n < 2 ^ 32) : (nI n).toBitVec.toNat = n := Nat.mod_eq_of_lt h
theorem pk_and (x : Int32) {m : Int32} (k : Nat) (hm : m.toBitVec.toNat = 2 ^ k - 1) : x &&& m = nI (x.toBitVec.toNat % 2 ^ k) := by
  apply Int32.toBitVec_inj.mp
  apply BitVec.eq_of_toNat_eq
  rw [Int32.toBitVec_and, BitVec.toNat_and, hm, Nat.and_two_pow_sub_one_eq_mod]
  show _ = (BitVec.ofNat 32 _).toNat
  rw [BitVec.toNat_ofNat]
  exact (Nat.mod_eq_of_lt (Nat.lt_of_le_of_lt (Nat.mod_le _ _) x.toBitVec.isLt)).symm
theorem pk_andE (x : Int32) {m : Int32} (k : Nat) (hm : m.toBitVec.toNat = 2 ^ k - 1) : ∃ j : Nat, j < 2 ^ k ∧ x &&& m = nI j := ⟨_, Nat.mod_lt _ (Nat.two_pow_pos k), pk_and x k hm⟩
theorem pk_andIn (x : Int32) {m : Int32} (k : Nat) (hm : m.toBitVec.toNat = 2 ^ k - 1) (hk : k ≤ 30) : vp_in (x &&& m) (2 ^ k) := by
  obtain ⟨j, hj, e⟩ := pk_andE x k hm
  rw [e]
  exact vp_in_nI hj (Nat.lt_of_le_of_lt (Nat.pow_le_pow_right (by decide) hk) (by decide))
theorem pk_least (P : Nat → Prop) (h : ∃ k, P k) : ∃ k, P k ∧ ∀ j, j < k → ¬ P j := by
  obtain ⟨k, hk⟩ := h
  induction k using Nat.strongRecOn with
  | ind k ih =>
    by_cases e : ∃ j, j < k ∧ P j
    · obtain ⟨j, hj, pj⟩ := e
      exact ih j hj pj
    · exact ⟨k, hk, fun j hj pj => e ⟨j, hj, pj⟩⟩
theorem pk_mul (a b : Nat) : nI a * nI b = nI (a * b) := (Int32.ofNat_mul a b).symm
end
section
/-! the program as it is read: depths, soundness, operands; nothing printed is named here -/
/-- how many loops are open ahead of place i -/
def pf_dp (op : Nat → Int32) : Nat → Int
  | 0 => 0
  | i + 1 => if op i = 9 then pf_dp op i + 1 else if op i = 10 then pf_dp op i - 1 else pf_dp op i
theorem pf_910 : ¬ (10 : Int32) = 9 := by decide
theorem pf_109 : ¬ (9 : Int32) = 10 := by decide
theorem pf_dp9 {op : Nat → Int32} {i : Nat} (h : op i = 9) : pf_dp op (i + 1) = pf_dp op i + 1 := by
  rw [pf_dp, if_pos h]
theorem pf_dp10 {op : Nat → Int32} {i : Nat} (h : op i = 10) : pf_dp op (i + 1) = pf_dp op i - 1 := by
  have h9 : ¬ op i = 9 := by rw [h]; exact pf_910
  rw [pf_dp, if_neg h9, if_pos h]
theorem pf_dpo {op : Nat → Int32} {i : Nat} (h9 : ¬ op i = 9) (h10 : ¬ op i = 10) : pf_dp op (i + 1) = pf_dp op i := by
  rw [pf_dp, if_neg h9, if_neg h10]
theorem pf_dpm (op : Nat → Int32) (i : Nat) : pf_dp op i - 1 ≤ pf_dp op (i + 1) := by
  by_cases h9 : op i = 9
  · rw [pf_dp9 h9]; omega
  · by_cases h10 : op i = 10
    · rw [pf_dp10 h10]; omega
    · rw [pf_dpo h9 h10]; omega
theorem pf_dpr {op : Nat → Int32} {a : Nat} : ∀ k, (∀ j, a ≤ j → j < a + k → ¬ op j = 9 ∧ ¬ op j = 10) → pf_dp op (a + k) = pf_dp op a := by
  intro k
  induction k with
  | zero => intro _; rfl
  | succ k ih =>
    intro h
    have h1 := h (a + k) (by omega) (by omega)
    have h2 : pf_dp op (a + k + 1) = pf_dp op (a + k) := pf_dpo h1.1 h1.2
    rw [← Nat.add_assoc, h2]
    exact ih (fun j ha hj => h j ha (by omega))
/-- a sound program -/
def pf_so (op ay : Nat → Int32) (n : Nat) : Prop :=
  (∀ i, i ≤ n → 0 ≤ pf_dp op i ∧ pf_dp op i ≤ 2) ∧ pf_dp op n = 0 ∧
  ∀ i m, i < n → op i = 8 → m ≤ 6 → ay i = nI m → i + m < n ∧ ∀ j, i < j → j ≤ i + m → ¬ op j = 9 ∧ ¬ op j = 10
/-- an instruction whose operands fit, by its code q -/
def pf_fit (q : Nat) (x y z : Int32) : Prop :=
  q = 10 ∨ (q = 9 ∧ ∃ m, 1 ≤ m ∧ m ≤ 6 ∧ x = nI m) ∨
  (q ≤ 8 ∧ (∃ r, r < 4 ∧ x = nI r) ∧ (1 ≤ q → q ≤ 3 → (∃ s, s < 4 ∧ y = nI s) ∧ ∃ t, t < 4 ∧ z = nI t) ∧
    (4 ≤ q → q ≤ 5 → ∃ c, c < 12 ∧ y = nI c) ∧ (6 ≤ q → q ≤ 7 → ∃ s, s < 4 ∧ y = nI s) ∧
    (q = 8 → ∃ m, 1 ≤ m ∧ m ≤ 6 ∧ y = nI m))
def pf_ok (o x y z : Int32) : Prop := ∃ q : Nat, q ≤ 10 ∧ o = nI q ∧ pf_fit q x y z
/-- the END of the LOOP at a -/
theorem pf_end {op ay : Nat → Int32} {n a d : Nat} (hs : pf_so op ay n) (ha : a < n) (h9 : op a = 9) (hd : pf_dp op a = d) :
    ∃ e, a < e ∧ e < n ∧ op e = 10 ∧ pf_dp op (e + 1) = d ∧ ∀ j, a < j → j ≤ e → (d : Int) + 1 ≤ pf_dp op j := by
  obtain ⟨k, ⟨hk1, hk2⟩, hk3⟩ := pk_least (fun j => a < j ∧ pf_dp op j ≤ d) ⟨n, ha, by rw [hs.2.1]; omega⟩
  have hkn : k ≤ n := by
    by_cases z : k ≤ n
    · exact z
    · exact absurd ⟨ha, by rw [hs.2.1]; omega⟩ (hk3 n (by omega))
  have h1 : pf_dp op (a + 1) = d + 1 := by rw [pf_dp9 h9, hd]
  have hk4 : k ≠ a + 1 := by
    intro z; rw [z, h1] at hk2; omega
  obtain ⟨e, rfl⟩ : ∃ e, k = e + 1 := ⟨k - 1, by omega⟩
  have hj : ∀ j, a < j → j ≤ e → (d : Int) + 1 ≤ pf_dp op j := by
    intro j hj1 hj2
    by_cases z : pf_dp op j ≤ d
    · exact absurd ⟨hj1, z⟩ (hk3 j (by omega))
    · omega
  have he := hj e (by omega) (by omega)
  have hm := pf_dpm op e
  have h9e : ¬ op e = 9 := by
    intro z; rw [pf_dp9 z] at hk2; omega
  have h10e : op e = 10 := by
    by_cases z : op e = 10
    · exact z
    · rw [pf_dpo h9e z] at hk2; omega
  exact ⟨e, by omega, by omega, h10e, by omega, hj⟩
/-- an open loop of depth t, seen from place a: LOOP at o, END at e, l passes to go -/
def pf_lp (op : Nat → Int32) (n a t o e l : Nat) : Prop :=
  op o = 9 ∧ pf_dp op o = t ∧ o < a ∧ a ≤ e ∧ e < n ∧ op e = 10 ∧ pf_dp op (e + 1) = t ∧
  (∀ j, o < j → j ≤ e → (t : Int) + 1 ≤ pf_dp op j) ∧ 1 ≤ l ∧ l ≤ 6
/-- the machine's words w at place a with d loops open -/
def pf_st (op : Nat → Int32) (n : Nat) (w : Nat → Int32) (a d : Nat) (o e l : Nat → Nat) : Prop :=
  w 4 = nI a ∧ w 6 = nI d ∧ a ≤ n ∧ d ≤ 2 ∧ pf_dp op a = d ∧
  ∀ t, t < d → pf_lp op n a t (o t) (e t) (l t) ∧ w (7 + t) = nI (l t) ∧ w (9 + t) = nI (o t + 1)
/-- a bound on the steps that are left -/
def pf_bu (n a d : Nat) (o e l : Nat → Nat) : Nat :=
  if d = 0 then 36 * (n - a)
  else if d = 1 then 6 * (e 0 + 1 - a) + (l 0 - 1) * (6 * (e 0 - o 0)) + 36 * (n - (e 0 + 1))
  else (e 1 + 1 - a) + (l 1 - 1) * (e 1 - o 1) + 6 * (e 0 - e 1) + (l 0 - 1) * (6 * (e 0 - o 0)) + 36 * (n - (e 0 + 1))
theorem pf_bu0 (n a : Nat) (o e l : Nat → Nat) : pf_bu n a 0 o e l = 36 * (n - a) := rfl
theorem pf_bu1 (n a : Nat) (o e l : Nat → Nat) : pf_bu n a 1 o e l = 6 * (e 0 + 1 - a) + (l 0 - 1) * (6 * (e 0 - o 0)) + 36 * (n - (e 0 + 1)) := rfl
theorem pf_bu2 (n a : Nat) (o e l : Nat → Nat) : pf_bu n a 2 o e l = (e 1 + 1 - a) + (l 1 - 1) * (e 1 - o 1) + 6 * (e 0 - e 1) + (l 0 - 1) * (6 * (e 0 - o 0)) + 36 * (n - (e 0 + 1)) := rfl
def pf_iv (op : Nat → Int32) (n : Nat) (w : Nat → Int32) (m : Nat) : Prop :=
  ∃ (a d : Nat) (o e l : Nat → Nat), pf_st op n w a d o e l ∧ pf_bu n a d o e l ≤ m
/-- a step to a later place a' behind no LOOP and no END -/
theorem pf_plain {op : Nat → Int32} {n a d : Nat} {w w' : Nat → Int32} {o e l : Nat → Nat} (S : pf_st op n w a d o e l) (a' : Nat)
    (h1 : a < a') (h2 : a' ≤ n) (hp : ∀ j, a ≤ j → j < a' → ¬ op j = 9 ∧ ¬ op j = 10)
    (e4 : w' 4 = nI a') (hw : ∀ i, 6 ≤ i → i ≤ 10 → w' i = w i) :
    pf_st op n w' a' d o e l ∧ pf_bu n a' d o e l < pf_bu n a d o e l := by
  obtain ⟨s4, s6, sn, sd, sp, sl⟩ := S
  have hdp : pf_dp op a' = pf_dp op a := by
    obtain ⟨k, rfl⟩ : ∃ k, a' = a + k := ⟨a' - a, by omega⟩
    exact pf_dpr k hp
  have he : ∀ t, t < d → a' ≤ e t := by
    intro t ht
    obtain ⟨⟨q1, q2, q3, q4, q5, q6, q7, q8, q9, q10⟩, r1, r2⟩ := sl t ht
    by_cases z : a' ≤ e t
    · exact z
    · exact absurd q6 (hp (e t) q4 (by omega)).2
  refine ⟨⟨e4, (hw 6 (by omega) (by omega)).trans s6, h2, sd, hdp.trans sp, fun t ht => ?_⟩, ?_⟩
  · obtain ⟨⟨q1, q2, q3, q4, q5, q6, q7, q8, q9, q10⟩, r1, r2⟩ := sl t ht
    exact ⟨⟨q1, q2, by omega, he t ht, q5, q6, q7, q8, q9, q10⟩, (hw (7 + t) (by omega) (by omega)).trans r1, (hw (9 + t) (by omega) (by omega)).trans r2⟩
  · have hd : d = 0 ∨ d = 1 ∨ d = 2 := by omega
    rcases hd with rfl | rfl | rfl
    · rw [pf_bu0, pf_bu0]; omega
    · have h := he 0 (by omega)
      rw [pf_bu1, pf_bu1]; omega
    · have h := he 1 (by omega)
      rw [pf_bu2, pf_bu2]; omega
def pf_un (f : Nat → Nat) (k x : Nat) : Nat → Nat := fun j => if j = k then x else f j
theorem pf_uns {f : Nat → Nat} {k x : Nat} : pf_un f k x k = x := if_pos rfl
theorem pf_unn {f : Nat → Nat} {k x j : Nat} (h : j ≠ k) : pf_un f k x j = f j := if_neg h
theorem pf_m5 {x q : Nat} (h : x ≤ 6) : (x - 1) * q ≤ 5 * q := Nat.mul_le_mul_right q (by omega)
theorem pf_mm {x q : Nat} (h : 2 ≤ x) : (x - 1) * q = q + (x - 1 - 1) * q := by
  obtain ⟨y, rfl⟩ : ∃ y, x = y + 2 := ⟨x - 2, by omega⟩
  show (y + 1) * q = q + y * q
  rw [Nat.succ_mul, Nat.add_comm]
/-- a LOOP is opened -/
theorem pf_loopS {op ay : Nat → Int32} {n a d x : Nat} {w w' : Nat → Int32} {o e l : Nat → Nat} (hs : pf_so op ay n) (S : pf_st op n w a d o e l)
    (ha : a < n) (h9 : op a = 9) (hx1 : 1 ≤ x) (hx6 : x ≤ 6) (e4 : w' 4 = nI (a + 1)) (e6 : w' 6 = nI (d + 1)) (e7 : w' (7 + d) = nI x)
    (e9 : w' (9 + d) = nI (a + 1)) (hw : ∀ t, t < d → w' (7 + t) = w (7 + t) ∧ w' (9 + t) = w (9 + t)) :
    ∃ e2, pf_st op n w' (a + 1) (d + 1) (pf_un o d a) (pf_un e d e2) (pf_un l d x) ∧
      pf_bu n (a + 1) (d + 1) (pf_un o d a) (pf_un e d e2) (pf_un l d x) < pf_bu n a d o e l := by
  obtain ⟨s4, s6, sn, sd, sp, sl⟩ := S
  obtain ⟨e2, g1, g2, g3, g4, g5⟩ := pf_end hs ha h9 sp
  have hd1 : pf_dp op (a + 1) = d + 1 := by rw [pf_dp9 h9, sp]
  have hd2 := (hs.1 (a + 1) (by omega)).2
  have he : ∀ t, t < d → a + 1 ≤ e t := by
    intro t ht
    obtain ⟨⟨q1, q2, q3, q4, q5, q6, q7, q8, q9, q10⟩, r1, r2⟩ := sl t ht
    have z : e t ≠ a := by
      intro z; rw [z, h9] at q6; exact pf_109 q6
    omega
  refine ⟨e2, ⟨e4, e6, by omega, by omega, by omega, fun t ht => ?_⟩, ?_⟩
  · by_cases z : t = d
    · subst z
      rw [pf_uns, pf_uns, pf_uns]
      exact ⟨⟨h9, sp, by omega, by omega, g2, g3, g4, g5, hx1, hx6⟩, e7, e9⟩
    · rw [pf_unn z, pf_unn z, pf_unn z]
      obtain ⟨⟨q1, q2, q3, q4, q5, q6, q7, q8, q9, q10⟩, r1, r2⟩ := sl t (by omega)
      have hh := hw t (by omega)
      exact ⟨⟨q1, q2, by omega, he t (by omega), q5, q6, q7, q8, q9, q10⟩, hh.1.trans r1, hh.2.trans r2⟩
  · have hd : d = 0 ∨ d = 1 := by omega
    rcases hd with rfl | rfl
    · rw [pf_bu0, pf_bu1, pf_uns, pf_uns, pf_uns]
      have := pf_m5 (q := 6 * (e2 - a)) hx6
      omega
    · obtain ⟨⟨q1, q2, q3, q4, q5, q6, q7, q8, q9, q10⟩, r1, r2⟩ := sl 0 (by omega)
      have z1 : e2 < e 0 := by
        by_cases z : e 0 + 1 ≤ e2
        · have := g5 (e 0 + 1) (by omega) z
          omega
        · by_cases z2 : e2 = e 0
          · rw [z2, q7] at g4; omega
          · omega
      rw [pf_bu1, pf_bu2, pf_uns, pf_uns, pf_uns, pf_unn (by omega), pf_unn (by omega), pf_unn (by omega)]
      have := pf_m5 (q := e2 - a) hx6
      omega
/-- at an END: it is the innermost loop's -/
theorem pf_endS {op ay : Nat → Int32} {n a d : Nat} {w : Nat → Int32} {o e l : Nat → Nat} (hs : pf_so op ay n) (S : pf_st op n w a d o e l)
    (ha : a < n) (h10 : op a = 10) : ∃ t, d = t + 1 ∧ a = e t := by
  obtain ⟨s4, s6, sn, sd, sp, sl⟩ := S
  have hd1 : pf_dp op (a + 1) = d - 1 := by rw [pf_dp10 h10, sp]
  have hd2 := (hs.1 (a + 1) (by omega)).1
  obtain ⟨t, rfl⟩ : ∃ t, d = t + 1 := ⟨d - 1, by omega⟩
  refine ⟨t, rfl, ?_⟩
  obtain ⟨⟨q1, q2, q3, q4, q5, q6, q7, q8, q9, q10⟩, r1, r2⟩ := sl t (by omega)
  by_cases z : a = e t
  · exact z
  · have := q8 (a + 1) (by omega) (by omega)
    omega
/-- .. another pass -/
theorem pf_endA {op : Nat → Int32} {n a t : Nat} {w w' : Nat → Int32} {o e l : Nat → Nat} (S : pf_st op n w a (t + 1) o e l)
    (hae : a = e t) (hl : 2 ≤ l t) (e4 : w' 4 = nI (o t + 1)) (e6 : w' 6 = w 6) (e7 : w' (7 + t) = nI (l t - 1)) (e9 : w' (9 + t) = w (9 + t))
    (hw : ∀ s, s < t → w' (7 + s) = w (7 + s) ∧ w' (9 + s) = w (9 + s)) :
    pf_st op n w' (o t + 1) (t + 1) o e (pf_un l t (l t - 1)) ∧ pf_bu n (o t + 1) (t + 1) o e (pf_un l t (l t - 1)) < pf_bu n a (t + 1) o e l := by
  obtain ⟨s4, s6, sn, sd, sp, sl⟩ := S
  obtain ⟨⟨q1, q2, q3, q4, q5, q6, q7, q8, q9, q10⟩, r1, r2⟩ := sl t (by omega)
  have hord : ∀ s, s < t → o s < o t := by
    intro s hst
    obtain ⟨⟨p1, p2, p3, p4, p5, p6, p7, p8, p9, p10⟩, _, _⟩ := sl s (by omega)
    by_cases z : o s < o t
    · exact z
    · by_cases z2 : o s = o t
      · rw [z2, q2] at p2; omega
      · have := q8 (o s) (by omega) (by omega)
        omega
  refine ⟨⟨e4, e6.trans s6, by omega, sd, by have := pf_dp9 q1; omega, fun s hst => ?_⟩, ?_⟩
  · by_cases z : s = t
    · subst z
      rw [pf_uns]
      exact ⟨⟨q1, q2, by omega, by omega, q5, q6, q7, q8, by omega, by omega⟩, e7, e9.trans r2⟩
    · rw [pf_unn z]
      obtain ⟨⟨p1, p2, p3, p4, p5, p6, p7, p8, p9, p10⟩, v1, v2⟩ := sl s (by omega)
      have hh := hw s (by omega)
      have ho := hord s (by omega)
      exact ⟨⟨p1, p2, by omega, by omega, p5, p6, p7, p8, p9, p10⟩, hh.1.trans v1, hh.2.trans v2⟩
  · have ht : t = 0 ∨ t = 1 := by omega
    rcases ht with rfl | rfl
    · rw [pf_bu1, pf_bu1, pf_uns]
      have := pf_mm (q := 6 * (e 0 - o 0)) hl
      omega
    · rw [pf_bu2, pf_bu2, pf_uns, pf_unn (by omega)]
      have := pf_mm (q := e 1 - o 1) hl
      omega
/-- .. the last pass -/
theorem pf_endB {op : Nat → Int32} {n a t : Nat} {w w' : Nat → Int32} {o e l : Nat → Nat} (S : pf_st op n w a (t + 1) o e l)
    (hae : a = e t) (e4 : w' 4 = nI (a + 1)) (e6 : w' 6 = nI t)
    (hw : ∀ s, s < t → w' (7 + s) = w (7 + s) ∧ w' (9 + s) = w (9 + s)) :
    pf_st op n w' (a + 1) t o e l ∧ pf_bu n (a + 1) t o e l < pf_bu n a (t + 1) o e l := by
  obtain ⟨s4, s6, sn, sd, sp, sl⟩ := S
  obtain ⟨⟨q1, q2, q3, q4, q5, q6, q7, q8, q9, q10⟩, r1, r2⟩ := sl t (by omega)
  have he : ∀ s, s < t → a + 1 ≤ e s := by
    intro s hst
    obtain ⟨⟨p1, p2, p3, p4, p5, p6, p7, p8, p9, p10⟩, _, _⟩ := sl s (by omega)
    have z : e s ≠ a := by
      intro z; rw [z, hae, q7] at p7; omega
    omega
  refine ⟨⟨e4, e6, by omega, by omega, by rw [hae]; exact q7, fun s hst => ?_⟩, ?_⟩
  · obtain ⟨⟨p1, p2, p3, p4, p5, p6, p7, p8, p9, p10⟩, v1, v2⟩ := sl s (by omega)
    have hh := hw s hst
    exact ⟨⟨p1, p2, by omega, he s hst, p5, p6, p7, p8, p9, p10⟩, hh.1.trans v1, hh.2.trans v2⟩
  · have ht : t = 0 ∨ t = 1 := by omega
    rcases ht with rfl | rfl
    · rw [pf_bu1, pf_bu0]
      omega
    · have := he 0 (by omega)
      rw [pf_bu2, pf_bu1]
      omega
end
section
/-! banks, fills, the chain of steps -/
/-- the bank o of b with the first m words of w written -/
def pf_sv (b w : Nat → Int32) (o m : Nat) : Nat → Int32 := fun i => if 11 * o ≤ i ∧ i < 11 * o + m then w (i - 11 * o) else b i
theorem pf_sv0 (b w : Nat → Int32) (o : Nat) : pf_sv b w o 0 = b := by
  funext i
  exact if_neg (by omega)
theorem pf_svS (b w : Nat → Int32) (o m : Nat) : upd (pf_sv b w o m) (11 * o + m) (w m) = pf_sv b w o (m + 1) := by
  funext i
  show (if i = 11 * o + m then w m else if 11 * o ≤ i ∧ i < 11 * o + m then w (i - 11 * o) else b i) = if 11 * o ≤ i ∧ i < 11 * o + (m + 1) then w (i - 11 * o) else b i
  by_cases h : i = 11 * o + m
  · rw [if_pos h, if_pos (by omega), show i - 11 * o = m by omega]
  · rw [if_neg h]
    by_cases h2 : 11 * o ≤ i ∧ i < 11 * o + m
    · rw [if_pos h2, if_pos (by omega)]
    · rw [if_neg h2, if_neg (by omega)]
/-- the words of bank g -/
def pf_B (b : Nat → Int32) (g : Nat) : Nat → Int32 := fun i => if i < 11 then b (11 * g + i) else 0
def pf_Z (w : Nat → Int32) : Prop := ∀ i, 11 ≤ i → w i = 0
theorem pf_B_lo {b : Nat → Int32} {g i : Nat} (h : i < 11) : pf_B b g i = b (11 * g + i) := if_pos h
theorem pf_BZ (b : Nat → Int32) (g : Nat) : pf_Z (pf_B b g) := fun _ h => if_neg (by omega)
theorem pf_Bfull {b w : Nat → Int32} {o : Nat} (hz : pf_Z w) : pf_B (pf_sv b w o 11) o = w := by
  funext i
  show (if i < 11 then (if 11 * o ≤ 11 * o + i ∧ 11 * o + i < 11 * o + 11 then w (11 * o + i - 11 * o) else b (11 * o + i)) else 0) = w i
  by_cases h : i < 11
  · rw [if_pos h, if_pos (by omega), show 11 * o + i - 11 * o = i by omega]
  · rw [if_neg h, hz i (by omega)]
theorem pf_Bpart {b w : Nat → Int32} {g m : Nat} (hg : g ≤ 1) (hm : m ≤ 11) : pf_B (pf_sv b w (1 - g) m) g = pf_B b g := by
  funext i
  show (if i < 11 then (if 11 * (1 - g) ≤ 11 * g + i ∧ 11 * g + i < 11 * (1 - g) + m then w (11 * g + i - 11 * (1 - g)) else b (11 * g + i)) else 0) = if i < 11 then b (11 * g + i) else 0
  by_cases h : i < 11
  · rw [if_pos h, if_pos h, if_neg (by omega)]
  · rw [if_neg h, if_neg h]
theorem pf_Zu {w : Nat → Int32} {k : Nat} {x : Int32} (hz : pf_Z w) (hk : k < 11) : pf_Z (upd w k x) := by
  intro i hi
  rw [pk_un (by omega)]
  exact hz i hi
/-- the first m words of f taken from g -/
def pf_fl (f g : Nat → Int32) (m : Nat) : Nat → Int32 := fun i => if i < m then g i else f i
theorem pf_fl0 (f g : Nat → Int32) : pf_fl f g 0 = f := by
  funext i
  exact if_neg (by omega)
theorem pf_flS (f g : Nat → Int32) (m : Nat) : upd (pf_fl f g m) m (g m) = pf_fl f g (m + 1) := by
  funext i
  show (if i = m then g m else if i < m then g i else f i) = if i < m + 1 then g i else f i
  by_cases h : i = m
  · rw [if_pos h, if_pos (by omega), h]
  · rw [if_neg h]
    by_cases h2 : i < m
    · rw [if_pos h2, if_pos (by omega)]
    · rw [if_neg h2, if_neg (by omega)]
theorem pf_flo {f g : Nat → Int32} {m i : Nat} (h : i < m) : pf_fl f g m i = g i := if_pos h
theorem pf_fln {f g : Nat → Int32} {m i : Nat} (h : m ≤ i) : pf_fl f g m i = f i := if_neg (by omega)
theorem pf_flB {f b : Nat → Int32} {g : Nat} (hz : pf_Z f) : pf_fl f (fun i => b (11 * g + i)) 11 = pf_B b g := by
  funext i
  show (if i < 11 then b (11 * g + i) else f i) = if i < 11 then b (11 * g + i) else 0
  by_cases h : i < 11
  · rw [if_pos h, if_pos h]
  · rw [if_neg h, if_neg h, hz i (by omega)]
theorem pf_flZ {f g : Nat → Int32} {m : Nat} (hz : pf_Z f) (hm : m ≤ 11) : pf_Z (pf_fl f g m) := by
  intro i hi
  rw [pf_fln (by omega)]
  exact hz i hi
def pf_cons {α : Type} (x : α) (f : Nat → α) : Nat → α
  | 0 => x
  | j + 1 => f j
/-- from a state with a budget of m steps the steps lead to the program's end -/
theorem pf_chain {op : Nat → Int32} {n : Nat} (R : (Nat → Int32) → (Nat → Int32) → (Nat → Int32) → (Nat → Int32) → Prop)
    (hR : ∀ (m : Nat) (w c : Nat → Int32), pf_iv op n w m → pf_Z w → ¬ w 4 = nI n → ∃ w' c' : Nat → Int32, ∃ m', m' < m ∧ pf_iv op n w' m' ∧ pf_Z w' ∧ R w c w' c') :
    ∀ (m : Nat) (w c : Nat → Int32), pf_iv op n w m → pf_Z w → ∃ K, K ≤ m ∧ ∃ W C : Nat → Nat → Int32, W 0 = w ∧ C 0 = c ∧
      (∀ j, j < K → R (W j) (C j) (W (j + 1)) (C (j + 1))) ∧ W K 4 = nI n ∧ ∀ j, j ≤ K → pf_Z (W j) := by
  intro m
  induction m using Nat.strongRecOn with
  | ind m ih =>
    intro w c hi hz
    by_cases h : w 4 = nI n
    · exact ⟨0, by omega, fun _ => w, fun _ => c, rfl, rfl, fun j hj => absurd hj (by omega), h, fun _ _ => hz⟩
    · obtain ⟨w', c', m', hm, hi', hz', hr⟩ := hR m w c hi hz h
      obtain ⟨K, hK, W, C, h0, h1, h2, h3, h4⟩ := ih m' hm w' c' hi' hz'
      refine ⟨K + 1, by omega, pf_cons w W, pf_cons c C, rfl, rfl, fun j hj => ?_, h3, fun j hj => ?_⟩
      · match j with
        | 0 =>
          show R w c (W 0) (C 0)
          rw [h0, h1]
          exact hr
        | j + 1 => exact h2 j (by omega)
      · match j with
        | 0 => exact hz
        | j + 1 => exact h4 j (by omega)
end
section
/-! the small walks of X: ticks, fills, wake, save -/
theorem pf_10 : ¬ (1 : Int32) = 0 := by decide
theorem pf_i11 (g i : Nat) : nI g * 11 + nI i = nI (11 * g + i) := by
  show nI g * nI 11 + nI i = _
  rw [pk_mul, nI_add, Nat.mul_comm]
theorem pf_m11 (g : Nat) : nI g * 11 = nI (11 * g) := by
  show nI g * nI 11 = _
  rw [pk_mul, Nat.mul_comm]
theorem pf_tick1 {post : Int32 → SX → Prop} {cn gb : Int32} {op ax ay az c b w : Nat → Int32} {T : Nat} (hT : T + 1 < 2 ^ 31)
    (h : post 1 (cn, gb, nI T, op, ax, ay, az, c, b, w)) : wpX_tick post (cn, gb, nI (T + 1), op, ax, ay, az, c, b, w) :=
  br_t (nI_lt (a := 0) (by omega) hT) (nm_r (nI_pred T) h)
theorem pf_00 : ¬ (0 : Int32) < nI 0 := by decide
theorem pf_tick0 {post : Int32 → SX → Prop} {cn gb : Int32} {op ax ay az c b w : Nat → Int32}
    (h : post 0 (cn, gb, nI 0, op, ax, ay, az, c, b, w)) : wpX_tick post (cn, gb, nI 0, op, ax, ay, az, c, b, w) :=
  br_f pf_00 h
theorem pf_forget {post : SX → Prop} {cn gb tl : Int32} {op ax ay az c b w : Nat → Int32}
    (h : post (cn, 0, tl, op, ax, ay, az, c, pf_fl b (fun _ => 0) 22, w)) : wpX_forgetBanks post (cn, gb, tl, op, ax, ay, az, c, b, w) := by
  have L : ∀ d i, i + d = 22 → wX_forgetBanks_2 post cn gb tl (d + 1) (nI i) op ax ay az c (pf_fl b (fun _ => 0) i) w := by
    intro d
    induction d with
    | zero =>
      intro i hi
      obtain rfl : i = 22 := by omega
      exact br_t (nI_le (a := 22) (by omega) (by decide)) h
    | succ d ih =>
      intro i hi
      refine br_f (nI_ge (b := 22) (by omega) (by decide)) ⟨vp_in_nI (by omega) (by decide), nm_r (e' := pf_fl b (fun _ => 0) (i + 1)) ?_ (nm_r (nI_1 i) (ih (i + 1) (by omega)))⟩
      rw [nI_clamp (by omega)]
      exact pf_flS b (fun _ => 0) i
  have := L 22 0 (by omega)
  rw [pf_fl0, nI_0] at this
  exact ⟨_, this⟩
theorem pf_lose {post : SX → Prop} {cn gb tl : Int32} {op ax ay az c b w : Nat → Int32}
    (h : post (cn, gb, 0, op, ax, ay, az, c, b, pf_fl w (fun _ => 0) 11)) : wpX_losePower post (cn, gb, tl, op, ax, ay, az, c, b, w) := by
  have L : ∀ d i, i + d = 11 → wX_losePower_7 post cn gb 0 (d + 1) (nI i) op ax ay az c b (pf_fl w (fun _ => 0) i) := by
    intro d
    induction d with
    | zero =>
      intro i hi
      obtain rfl : i = 11 := by omega
      exact br_t (nI_le (a := 11) (by omega) (by decide)) h
    | succ d ih =>
      intro i hi
      refine br_f (nI_ge (b := 11) (by omega) (by decide)) ⟨vp_in_nI (by omega) (by decide), nm_r (e' := pf_fl w (fun _ => 0) (i + 1)) ?_ (nm_r (nI_1 i) (ih (i + 1) (by omega)))⟩
      rw [nI_clamp (by omega)]
      exact pf_flS w (fun _ => 0) i
  have := L 11 0 (by omega)
  rw [pf_fl0, nI_0] at this
  exact ⟨_, this⟩
/-- with twelve ticks the machine wakes -/
theorem pf_wake {post : SX → Prop} {cn : Int32} {op ax ay az c b w : Nat → Int32} {g T : Nat} (hg : g ≤ 1) (hT : T + 12 < 2 ^ 31)
    (h : post (cn, nI g, nI T, op, ax, ay, az, c, b, pf_fl w (fun i => b (11 * g + i)) 11)) : wpX_wake post (cn, nI g, nI (T + 12), op, ax, ay, az, c, b, w) := by
  have L : ∀ d i t, i + d = 11 → t = T + d → wX_wake_21 post (nI (11 * g)) (d + 1) (nI i) cn (nI g) (nI t) op ax ay az c b (pf_fl w (fun i => b (11 * g + i)) i) := by
    intro d
    induction d with
    | zero =>
      intro i t hi ht
      obtain rfl : i = 11 := by omega
      obtain rfl : t = T := by omega
      exact br_t (nI_le (a := 11) (by omega) (by decide)) h
    | succ d ih =>
      intro i t hi ht
      obtain ⟨s, rfl⟩ : ∃ s, t = s + 1 := ⟨t - 1, by omega⟩
      refine br_f (nI_ge (b := 11) (by omega) (by decide)) (pf_tick1 (by omega) (br_f pf_10 ⟨?_, vp_in_nI (by omega) (by decide), nm_r (e' := pf_fl w (fun i => b (11 * g + i)) (i + 1)) ?_ (nm_r (nI_1 i) (ih (i + 1) s (by omega) (by omega)))⟩))
      · rw [nI_add]
        exact vp_in_nI (by omega) (by decide)
      · rw [nI_add, nI_clamp (by omega), nI_clamp (by omega)]
        exact pf_flS w (fun i => b (11 * g + i)) i
  have := L 11 0 (T + 11) (by omega) (by omega)
  rw [pf_fl0, nI_0] at this
  unfold wpX_wake
  refine pf_tick1 (T := T + 11) (by omega) ?_
  exact br_f pf_10 (nm_r (pf_m11 g) ⟨_, this⟩)
/-- save's loop without a tick -/
theorem pf_save0 {post : SX → Prop} {cn gb x1 : Int32} {op ax ay az c b w : Nat → Int32}
    (h : post (cn, gb, nI 0, op, ax, ay, az, c, b, w)) : ∀ d i, i + d = 11 → wX_save_20 post x1 (d + 1) (nI i) cn gb (nI 0) op ax ay az c b w := by
  intro d
  induction d with
  | zero =>
    intro i hi
    obtain rfl : i = 11 := by omega
    exact br_t (nI_le (a := 11) (by omega) (by decide)) (pf_tick0 (br_t rfl h))
  | succ d ih =>
    intro i hi
    exact br_f (nI_ge (b := 11) (by omega) (by decide)) (pf_tick0 (br_t rfl (nm_r (nI_1 i) (ih (i + 1) (by omega)))))
/-- .. with ticks for every word and the last -/
theorem pf_save1 {post : SX → Prop} {cn gb : Int32} {op ax ay az c b w : Nat → Int32} {o T : Nat} (ho : o ≤ 1) (hT : T + 12 < 2 ^ 31)
    (h : post (cn, nI o, nI T, op, ax, ay, az, c, pf_sv b w o 11, w)) : ∀ d i t, i + d = 11 → t = T + d + 1 → wX_save_20 post (nI o) (d + 1) (nI i) cn gb (nI t) op ax ay az c (pf_sv b w o i) w := by
  intro d
  induction d with
  | zero =>
    intro i t hi ht
    obtain rfl : i = 11 := by omega
    obtain rfl : t = T + 1 := by omega
    exact br_t (nI_le (a := 11) (by omega) (by decide)) (pf_tick1 (by omega) (br_f pf_10 h))
  | succ d ih =>
    intro i t hi ht
    obtain ⟨s, rfl⟩ : ∃ s, t = s + 1 := ⟨t - 1, by omega⟩
    refine br_f (nI_ge (b := 11) (by omega) (by decide)) (pf_tick1 (by omega) (br_f pf_10 ⟨vp_in_nI (by omega) (by decide), ?_, nm_r (e' := pf_sv b w o (i + 1)) ?_ (nm_r (nI_1 i) (ih (i + 1) s (by omega) (by omega)))⟩))
    · rw [pf_i11]
      exact vp_in_nI (by omega) (by decide)
    · rw [pf_i11, nI_clamp (by omega), nI_clamp (by omega)]
      exact pf_svS b w o i
/-- .. with too few -/
theorem pf_save2 {post : SX → Prop} {cn gb : Int32} {op ax ay az c b w : Nat → Int32} {o : Nat} (ho : o ≤ 1) :
    ∀ d i t, i + d = 11 → t ≤ d → post (cn, gb, nI 0, op, ax, ay, az, c, pf_sv b w o (i + t), w) → wX_save_20 post (nI o) (d + 1) (nI i) cn gb (nI t) op ax ay az c (pf_sv b w o i) w := by
  intro d
  induction d with
  | zero =>
    intro i t hi ht h
    obtain rfl : t = 0 := by omega
    exact pf_save0 h 0 i hi
  | succ d ih =>
    intro i t hi ht h
    by_cases z : t = 0
    · subst z
      exact pf_save0 h (d + 1) i hi
    · obtain ⟨s, rfl⟩ : ∃ s, t = s + 1 := ⟨t - 1, by omega⟩
      have h' : post (cn, gb, nI 0, op, ax, ay, az, c, pf_sv b w o (i + 1 + s), w) := by
        rw [show i + 1 + s = i + (s + 1) by omega]
        exact h
      refine br_f (nI_ge (b := 11) (by omega) (by decide)) (pf_tick1 (by omega) (br_f pf_10 ⟨vp_in_nI (by omega) (by decide), ?_, nm_r (e' := pf_sv b w o (i + 1)) ?_ (nm_r (nI_1 i) (ih (i + 1) s (by omega) (by omega) h'))⟩))
      · rw [pf_i11]
        exact vp_in_nI (by omega) (by decide)
      · rw [pf_i11, nI_clamp (by omega), nI_clamp (by omega)]
        exact pf_svS b w o i
/-- save: it is cut off and the good bank stays, or the other bank holds the words and is the good one -/
theorem pf_save {post : SX → Prop} {cn : Int32} {op ax ay az c b w : Nat → Int32} {g t : Nat} (hg : g ≤ 1) (ht : t < 2 ^ 31) (hz : pf_Z w)
    (h0 : ∀ b', t < 13 → pf_B b' g = pf_B b g → post (cn, nI g, nI 0, op, ax, ay, az, c, b', w))
    (h1 : ∀ b', 13 ≤ t → pf_B b' (1 - g) = w → post (cn, nI (1 - g), nI (t - 13), op, ax, ay, az, c, b', w)) :
    wpX_save post (cn, nI g, nI t, op, ax, ay, az, c, b, w) := by
  by_cases z : t = 0
  · subst z
    have := pf_save0 (x1 := 0) (h0 b (by omega) rfl) 11 0 (by omega)
    unfold wpX_save
    refine pf_tick0 ?_
    exact br_t rfl ⟨_, this⟩
  · obtain ⟨s, rfl⟩ : ∃ s, t = s + 1 := ⟨t - 1, by omega⟩
    by_cases z2 : s ≤ 11
    · have e : 0 + s = s := by omega
      have := pf_save2 (post := post) (cn := cn) (gb := nI g) (op := op) (ax := ax) (ay := ay) (az := az) (c := c) (b := b) (w := w) (o := 1 - g) (by omega) 11 0 s (by omega) z2 (by rw [e]; exact h0 _ (by omega) (pf_Bpart hg z2))
      rw [pf_sv0] at this
      unfold wpX_save
      refine pf_tick1 (by omega) ?_
      exact br_f pf_10 (nm_r (pk_sub (a := 1) hg) ⟨_, this⟩)
    · have h := h1 (pf_sv b w (1 - g) 11) (by omega) (pf_Bfull hz)
      have := pf_save1 (gb := nI g) (by omega) (by omega) h 11 0 s (by omega) (by omega)
      rw [pf_sv0] at this
      unfold wpX_save
      refine pf_tick1 (by omega) ?_
      exact br_f pf_10 (nm_r (pk_sub (a := 1) hg) ⟨_, this⟩)
end
section
/-! X's execute and Y's step, a lemma an instruction (written by wip/whole/gen05.py) -/
/-- the words with the place moved on and one more instruction executed -/
def pf_w1 (w : Nat → Int32) (a : Nat) : Nat → Int32 := upd (upd w 4 (nI (a + 1))) 5 (w 5 + 1)
theorem pf_fold (w : Nat → Int32) (a : Nat) : upd (upd w 4 (nI (a + 1))) 5 (upd w 4 (nI (a + 1)) 5 + 1) = pf_w1 w a := by
  rw [pk_un (show 5 ≠ 4 by decide)]
  rfl
theorem pf_w14 (w : Nat → Int32) (a : Nat) : pf_w1 w a 4 = nI (a + 1) := by
  unfold pf_w1
  rw [pk_un (show 4 ≠ 5 by decide), pk_us]
theorem pf_w15 (w : Nat → Int32) (a : Nat) : pf_w1 w a 5 = w 5 + 1 := pk_us
theorem pf_w1n {w : Nat → Int32} {a i : Nat} (h4 : i ≠ 4) (h5 : i ≠ 5) : pf_w1 w a i = w i := by
  unfold pf_w1
  rw [pk_un h5, pk_un h4]
theorem pf_w1Z {w : Nat → Int32} {a : Nat} (hz : pf_Z w) : pf_Z (pf_w1 w a) := pf_Zu (pf_Zu hz (by omega)) (by omega)
theorem pf_7 (d : Nat) : 7 + nI d = nI (7 + d) := nI_add 7 d
theorem pf_9 (d : Nat) : 9 + nI d = nI (9 + d) := nI_add 9 d
theorem pf_x0 {post : SX → Prop} {cn gb tl : Int32} {op ax ay az c b w : Nat → Int32} {a r : Nat} (ha : a < 30) (hop : op a = 0) (hx : ax a = nI r) (hr : r < 4)
    (h : post (cn, gb, tl, op, ax, ay, az, c, b, upd (pf_w1 w a) r (ay a))) : wpX_execute post (cn, gb, tl, op, ax, ay, az, c, b, w) (nI a) := by
  have hc := nI_clamp (n := a) (by omega)
  have hi : vp_in (nI a) 30 := vp_in_nI ha (by decide)
  have hrc := nI_clamp (n := r) (by omega)
  have hri : vp_in (nI r) 11 := vp_in_nI (by omega) (by decide)
  simp (decide := true) only [wpX_execute, hc, hi, hop, hx, hrc, hri, forall_eq, nI_1, pf_fold, Int32.reduceLT, Int32.reduceLE, true_implies, false_implies, not_true_eq_false, not_false_eq_true, and_true, true_and, implies_true, forall_const]
  exact h
theorem pf_y0 {post : Int32 → SY → Prop} {cn : Int32} {op ax ay az c rg lf : Nat → Int32} {a r : Nat} (ha : a < 30) (hop : op a = 0) (hx : ax a = nI r) (hr : r < 4)
    (h : post (nI (a + 1)) (cn, op, ax, ay, az, c, upd rg r (ay a), lf)) : wpY_step post (cn, op, ax, ay, az, c, rg, lf) (nI a) := by
  have hc := nI_clamp (n := a) (by omega)
  have hi : vp_in (nI a) 30 := vp_in_nI ha (by decide)
  have hrc := nI_clamp (n := r) (by omega)
  have hri : vp_in (nI r) 4 := vp_in_nI (by omega) (by decide)
  simp (decide := true) only [wpY_step, wY_step_30, wY_step_64, wY_step_98, wY_step_132, wY_step_154, wY_step_176, wY_step_207, wY_step_238, wY_step_264, wY_step_282, hc, hi, hop, hx, hrc, hri, forall_eq, nI_1, pf_fold, Int32.reduceLT, Int32.reduceLE, true_implies, false_implies, not_true_eq_false, not_false_eq_true, and_true, true_and, implies_true, forall_const]
  exact h
theorem pf_x1 {post : SX → Prop} {cn gb tl : Int32} {op ax ay az c b w : Nat → Int32} {a r s t : Nat} (ha : a < 30) (hop : op a = 1) (hx : ax a = nI r) (hr : r < 4) (hy : ay a = nI s) (hs : s < 4) (hzz : az a = nI t) (ht : t < 4)
    (h : post (cn, gb, tl, op, ax, ay, az, c, b, upd (pf_w1 w a) r (pf_w1 w a s + pf_w1 w a t))) : wpX_execute post (cn, gb, tl, op, ax, ay, az, c, b, w) (nI a) := by
  have hc := nI_clamp (n := a) (by omega)
  have hi : vp_in (nI a) 30 := vp_in_nI ha (by decide)
  have hrc := nI_clamp (n := r) (by omega)
  have hri : vp_in (nI r) 11 := vp_in_nI (by omega) (by decide)
  have hsc := nI_clamp (n := s) (by omega)
  have hsi : vp_in (nI s) 11 := vp_in_nI (by omega) (by decide)
  have htc := nI_clamp (n := t) (by omega)
  have hti : vp_in (nI t) 11 := vp_in_nI (by omega) (by decide)
  simp (decide := true) only [wpX_execute, wpX_calculate, hc, hi, hop, hx, hy, hzz, hrc, hri, hsc, hsi, htc, hti, forall_eq, nI_1, pf_fold, Int32.reduceLT, Int32.reduceLE, true_implies, false_implies, not_true_eq_false, not_false_eq_true, and_true, true_and, implies_true, forall_const]
  exact h
theorem pf_y1 {post : Int32 → SY → Prop} {cn : Int32} {op ax ay az c rg lf : Nat → Int32} {a r s t : Nat} (ha : a < 30) (hop : op a = 1) (hx : ax a = nI r) (hr : r < 4) (hy : ay a = nI s) (hs : s < 4) (hzz : az a = nI t) (ht : t < 4)
    (h : post (nI (a + 1)) (cn, op, ax, ay, az, c, upd rg r (rg s + rg t), lf)) : wpY_step post (cn, op, ax, ay, az, c, rg, lf) (nI a) := by
  have hc := nI_clamp (n := a) (by omega)
  have hi : vp_in (nI a) 30 := vp_in_nI ha (by decide)
  have hrc := nI_clamp (n := r) (by omega)
  have hri : vp_in (nI r) 4 := vp_in_nI (by omega) (by decide)
  have hsc := nI_clamp (n := s) (by omega)
  have hsi : vp_in (nI s) 4 := vp_in_nI (by omega) (by decide)
  have htc := nI_clamp (n := t) (by omega)
  have hti : vp_in (nI t) 4 := vp_in_nI (by omega) (by decide)
  simp (decide := true) only [wpY_step, wY_step_30, wY_step_64, wY_step_98, wY_step_132, wY_step_154, wY_step_176, wY_step_207, wY_step_238, wY_step_264, wY_step_282, hc, hi, hop, hx, hy, hzz, hrc, hri, hsc, hsi, htc, hti, forall_eq, nI_1, pf_fold, Int32.reduceLT, Int32.reduceLE, true_implies, false_implies, not_true_eq_false, not_false_eq_true, and_true, true_and, implies_true, forall_const]
  exact h
theorem pf_x2 {post : SX → Prop} {cn gb tl : Int32} {op ax ay az c b w : Nat → Int32} {a r s t : Nat} (ha : a < 30) (hop : op a = 2) (hx : ax a = nI r) (hr : r < 4) (hy : ay a = nI s) (hs : s < 4) (hzz : az a = nI t) (ht : t < 4)
    (h : post (cn, gb, tl, op, ax, ay, az, c, b, upd (pf_w1 w a) r (pf_w1 w a s - pf_w1 w a t))) : wpX_execute post (cn, gb, tl, op, ax, ay, az, c, b, w) (nI a) := by
  have hc := nI_clamp (n := a) (by omega)
  have hi : vp_in (nI a) 30 := vp_in_nI ha (by decide)
  have hrc := nI_clamp (n := r) (by omega)
  have hri : vp_in (nI r) 11 := vp_in_nI (by omega) (by decide)
  have hsc := nI_clamp (n := s) (by omega)
  have hsi : vp_in (nI s) 11 := vp_in_nI (by omega) (by decide)
  have htc := nI_clamp (n := t) (by omega)
  have hti : vp_in (nI t) 11 := vp_in_nI (by omega) (by decide)
  simp (decide := true) only [wpX_execute, wpX_calculate, hc, hi, hop, hx, hy, hzz, hrc, hri, hsc, hsi, htc, hti, forall_eq, nI_1, pf_fold, Int32.reduceLT, Int32.reduceLE, true_implies, false_implies, not_true_eq_false, not_false_eq_true, and_true, true_and, implies_true, forall_const]
  exact h
theorem pf_y2 {post : Int32 → SY → Prop} {cn : Int32} {op ax ay az c rg lf : Nat → Int32} {a r s t : Nat} (ha : a < 30) (hop : op a = 2) (hx : ax a = nI r) (hr : r < 4) (hy : ay a = nI s) (hs : s < 4) (hzz : az a = nI t) (ht : t < 4)
    (h : post (nI (a + 1)) (cn, op, ax, ay, az, c, upd rg r (rg s - rg t), lf)) : wpY_step post (cn, op, ax, ay, az, c, rg, lf) (nI a) := by
  have hc := nI_clamp (n := a) (by omega)
  have hi : vp_in (nI a) 30 := vp_in_nI ha (by decide)
  have hrc := nI_clamp (n := r) (by omega)
  have hri : vp_in (nI r) 4 := vp_in_nI (by omega) (by decide)
  have hsc := nI_clamp (n := s) (by omega)
  have hsi : vp_in (nI s) 4 := vp_in_nI (by omega) (by decide)
  have htc := nI_clamp (n := t) (by omega)
  have hti : vp_in (nI t) 4 := vp_in_nI (by omega) (by decide)
  simp (decide := true) only [wpY_step, wY_step_30, wY_step_64, wY_step_98, wY_step_132, wY_step_154, wY_step_176, wY_step_207, wY_step_238, wY_step_264, wY_step_282, hc, hi, hop, hx, hy, hzz, hrc, hri, hsc, hsi, htc, hti, forall_eq, nI_1, pf_fold, Int32.reduceLT, Int32.reduceLE, true_implies, false_implies, not_true_eq_false, not_false_eq_true, and_true, true_and, implies_true, forall_const]
  exact h
theorem pf_x3 {post : SX → Prop} {cn gb tl : Int32} {op ax ay az c b w : Nat → Int32} {a r s t : Nat} (ha : a < 30) (hop : op a = 3) (hx : ax a = nI r) (hr : r < 4) (hy : ay a = nI s) (hs : s < 4) (hzz : az a = nI t) (ht : t < 4)
    (h : post (cn, gb, tl, op, ax, ay, az, c, b, upd (pf_w1 w a) r (pf_w1 w a s * pf_w1 w a t))) : wpX_execute post (cn, gb, tl, op, ax, ay, az, c, b, w) (nI a) := by
  have hc := nI_clamp (n := a) (by omega)
  have hi : vp_in (nI a) 30 := vp_in_nI ha (by decide)
  have hrc := nI_clamp (n := r) (by omega)
  have hri : vp_in (nI r) 11 := vp_in_nI (by omega) (by decide)
  have hsc := nI_clamp (n := s) (by omega)
  have hsi : vp_in (nI s) 11 := vp_in_nI (by omega) (by decide)
  have htc := nI_clamp (n := t) (by omega)
  have hti : vp_in (nI t) 11 := vp_in_nI (by omega) (by decide)
  simp (decide := true) only [wpX_execute, wpX_calculate, hc, hi, hop, hx, hy, hzz, hrc, hri, hsc, hsi, htc, hti, forall_eq, nI_1, pf_fold, Int32.reduceLT, Int32.reduceLE, true_implies, false_implies, not_true_eq_false, not_false_eq_true, and_true, true_and, implies_true, forall_const]
  exact h
theorem pf_y3 {post : Int32 → SY → Prop} {cn : Int32} {op ax ay az c rg lf : Nat → Int32} {a r s t : Nat} (ha : a < 30) (hop : op a = 3) (hx : ax a = nI r) (hr : r < 4) (hy : ay a = nI s) (hs : s < 4) (hzz : az a = nI t) (ht : t < 4)
    (h : post (nI (a + 1)) (cn, op, ax, ay, az, c, upd rg r (rg s * rg t), lf)) : wpY_step post (cn, op, ax, ay, az, c, rg, lf) (nI a) := by
  have hc := nI_clamp (n := a) (by omega)
  have hi : vp_in (nI a) 30 := vp_in_nI ha (by decide)
  have hrc := nI_clamp (n := r) (by omega)
  have hri : vp_in (nI r) 4 := vp_in_nI (by omega) (by decide)
  have hsc := nI_clamp (n := s) (by omega)
  have hsi : vp_in (nI s) 4 := vp_in_nI (by omega) (by decide)
  have htc := nI_clamp (n := t) (by omega)
  have hti : vp_in (nI t) 4 := vp_in_nI (by omega) (by decide)
  simp (decide := true) only [wpY_step, wY_step_30, wY_step_64, wY_step_98, wY_step_132, wY_step_154, wY_step_176, wY_step_207, wY_step_238, wY_step_264, wY_step_282, hc, hi, hop, hx, hy, hzz, hrc, hri, hsc, hsi, htc, hti, forall_eq, nI_1, pf_fold, Int32.reduceLT, Int32.reduceLE, true_implies, false_implies, not_true_eq_false, not_false_eq_true, and_true, true_and, implies_true, forall_const]
  exact h
theorem pf_x4 {post : SX → Prop} {cn gb : Int32} {op ax ay az c b w : Nat → Int32} {a r j T : Nat} (ha : a < 30) (hT : T + 1 < 2 ^ 31) (hop : op a = 4) (hx : ax a = nI r) (hr : r < 4) (hy : ay a = nI j) (hjl : j < 12)
    (h : post (cn, gb, nI T, op, ax, ay, az, c, b, upd (pf_w1 w a) r (c j))) : wpX_execute post (cn, gb, nI (T + 1), op, ax, ay, az, c, b, w) (nI a) := by
  have hc := nI_clamp (n := a) (by omega)
  have hi : vp_in (nI a) 30 := vp_in_nI ha (by decide)
  have hrc := nI_clamp (n := r) (by omega)
  have hri : vp_in (nI r) 11 := vp_in_nI (by omega) (by decide)
  have hjc := nI_clamp (n := j) (by omega)
  have hji : vp_in (nI j) 12 := vp_in_nI (by omega) (by decide)
  have hTl : (0 : Int32) < nI (T + 1) := nI_lt (a := 0) (by omega) hT
  have hTp := nI_pred T
  simp (decide := true) only [wpX_execute, wpX_moveWord, wX_moveWord_12, wX_moveWord_17, wX_moveWord_37, wX_moveWord_58, wpX_tick, hc, hi, hop, hx, hy, hrc, hri, hjc, hji, hTl, hTp, forall_eq, nI_1, pf_fold, Int32.reduceLT, Int32.reduceLE, true_implies, false_implies, not_true_eq_false, not_false_eq_true, and_true, true_and, implies_true, forall_const]
  exact h
theorem pf_x4z {post : SX → Prop} {cn gb : Int32} {op ax ay az c b w : Nat → Int32} {a r j : Nat} (ha : a < 30) (hop : op a = 4) (hx : ax a = nI r) (hr : r < 4) (hy : ay a = nI j) (hjl : j < 12)
    (h : post (cn, gb, nI 0, op, ax, ay, az, c, b, pf_w1 w a)) : wpX_execute post (cn, gb, nI 0, op, ax, ay, az, c, b, w) (nI a) := by
  have hc := nI_clamp (n := a) (by omega)
  have hi : vp_in (nI a) 30 := vp_in_nI ha (by decide)
  have hrc := nI_clamp (n := r) (by omega)
  have hri : vp_in (nI r) 11 := vp_in_nI (by omega) (by decide)
  have hjc := nI_clamp (n := j) (by omega)
  have hji : vp_in (nI j) 12 := vp_in_nI (by omega) (by decide)
  have hTl := pf_00
  simp (decide := true) only [wpX_execute, wpX_moveWord, wX_moveWord_12, wX_moveWord_17, wX_moveWord_37, wX_moveWord_58, wpX_tick, hc, hi, hop, hx, hy, hrc, hri, hjc, hji, hTl, forall_eq, nI_1, pf_fold, Int32.reduceLT, Int32.reduceLE, true_implies, false_implies, not_true_eq_false, not_false_eq_true, and_true, true_and, implies_true, forall_const]
  exact h
theorem pf_y4 {post : Int32 → SY → Prop} {cn : Int32} {op ax ay az c rg lf : Nat → Int32} {a r j : Nat} (ha : a < 30) (hop : op a = 4) (hx : ax a = nI r) (hr : r < 4) (hy : ay a = nI j) (hjl : j < 12)
    (h : post (nI (a + 1)) (cn, op, ax, ay, az, c, upd rg r (c j), lf)) : wpY_step post (cn, op, ax, ay, az, c, rg, lf) (nI a) := by
  have hc := nI_clamp (n := a) (by omega)
  have hi : vp_in (nI a) 30 := vp_in_nI ha (by decide)
  have hrc := nI_clamp (n := r) (by omega)
  have hri : vp_in (nI r) 4 := vp_in_nI (by omega) (by decide)
  have hjc := nI_clamp (n := j) (by omega)
  have hji : vp_in (nI j) 12 := vp_in_nI (by omega) (by decide)
  simp (decide := true) only [wpY_step, wY_step_30, wY_step_64, wY_step_98, wY_step_132, wY_step_154, wY_step_176, wY_step_207, wY_step_238, wY_step_264, wY_step_282, hc, hi, hop, hx, hy, hrc, hri, hjc, hji, forall_eq, nI_1, pf_fold, Int32.reduceLT, Int32.reduceLE, true_implies, false_implies, not_true_eq_false, not_false_eq_true, and_true, true_and, implies_true, forall_const]
  exact h
theorem pf_x5 {post : SX → Prop} {cn gb : Int32} {op ax ay az c b w : Nat → Int32} {a r j T : Nat} (ha : a < 30) (hT : T + 1 < 2 ^ 31) (hop : op a = 5) (hx : ax a = nI r) (hr : r < 4) (hy : ay a = nI j) (hjl : j < 12)
    (h : post (cn, gb, nI T, op, ax, ay, az, upd c j (pf_w1 w a r), b, pf_w1 w a)) : wpX_execute post (cn, gb, nI (T + 1), op, ax, ay, az, c, b, w) (nI a) := by
  have hc := nI_clamp (n := a) (by omega)
  have hi : vp_in (nI a) 30 := vp_in_nI ha (by decide)
  have hrc := nI_clamp (n := r) (by omega)
  have hri : vp_in (nI r) 11 := vp_in_nI (by omega) (by decide)
  have hjc := nI_clamp (n := j) (by omega)
  have hji : vp_in (nI j) 12 := vp_in_nI (by omega) (by decide)
  have hTl : (0 : Int32) < nI (T + 1) := nI_lt (a := 0) (by omega) hT
  have hTp := nI_pred T
  simp (decide := true) only [wpX_execute, wpX_moveWord, wX_moveWord_12, wX_moveWord_17, wX_moveWord_37, wX_moveWord_58, wpX_tick, hc, hi, hop, hx, hy, hrc, hri, hjc, hji, hTl, hTp, forall_eq, nI_1, pf_fold, Int32.reduceLT, Int32.reduceLE, true_implies, false_implies, not_true_eq_false, not_false_eq_true, and_true, true_and, implies_true, forall_const]
  exact h
theorem pf_x5z {post : SX → Prop} {cn gb : Int32} {op ax ay az c b w : Nat → Int32} {a r j : Nat} (ha : a < 30) (hop : op a = 5) (hx : ax a = nI r) (hr : r < 4) (hy : ay a = nI j) (hjl : j < 12)
    (h : post (cn, gb, nI 0, op, ax, ay, az, c, b, pf_w1 w a)) : wpX_execute post (cn, gb, nI 0, op, ax, ay, az, c, b, w) (nI a) := by
  have hc := nI_clamp (n := a) (by omega)
  have hi : vp_in (nI a) 30 := vp_in_nI ha (by decide)
  have hrc := nI_clamp (n := r) (by omega)
  have hri : vp_in (nI r) 11 := vp_in_nI (by omega) (by decide)
  have hjc := nI_clamp (n := j) (by omega)
  have hji : vp_in (nI j) 12 := vp_in_nI (by omega) (by decide)
  have hTl := pf_00
  simp (decide := true) only [wpX_execute, wpX_moveWord, wX_moveWord_12, wX_moveWord_17, wX_moveWord_37, wX_moveWord_58, wpX_tick, hc, hi, hop, hx, hy, hrc, hri, hjc, hji, hTl, forall_eq, nI_1, pf_fold, Int32.reduceLT, Int32.reduceLE, true_implies, false_implies, not_true_eq_false, not_false_eq_true, and_true, true_and, implies_true, forall_const]
  exact h
theorem pf_y5 {post : Int32 → SY → Prop} {cn : Int32} {op ax ay az c rg lf : Nat → Int32} {a r j : Nat} (ha : a < 30) (hop : op a = 5) (hx : ax a = nI r) (hr : r < 4) (hy : ay a = nI j) (hjl : j < 12)
    (h : post (nI (a + 1)) (cn, op, ax, ay, az, upd c j (rg r), rg, lf)) : wpY_step post (cn, op, ax, ay, az, c, rg, lf) (nI a) := by
  have hc := nI_clamp (n := a) (by omega)
  have hi : vp_in (nI a) 30 := vp_in_nI ha (by decide)
  have hrc := nI_clamp (n := r) (by omega)
  have hri : vp_in (nI r) 4 := vp_in_nI (by omega) (by decide)
  have hjc := nI_clamp (n := j) (by omega)
  have hji : vp_in (nI j) 12 := vp_in_nI (by omega) (by decide)
  simp (decide := true) only [wpY_step, wY_step_30, wY_step_64, wY_step_98, wY_step_132, wY_step_154, wY_step_176, wY_step_207, wY_step_238, wY_step_264, wY_step_282, hc, hi, hop, hx, hy, hrc, hri, hjc, hji, forall_eq, nI_1, pf_fold, Int32.reduceLT, Int32.reduceLE, true_implies, false_implies, not_true_eq_false, not_false_eq_true, and_true, true_and, implies_true, forall_const]
  exact h
theorem pf_x6 {post : SX → Prop} {cn gb : Int32} {op ax ay az c b w : Nat → Int32} {a r y j T : Nat} (ha : a < 30) (hT : T + 1 < 2 ^ 31) (hop : op a = 6) (hx : ax a = nI r) (hr : r < 4) (hy : ay a = nI y) (hyl : y < 4) (hj : pf_w1 w a y &&& 7 = nI j) (hjl : j < 8)
    (h : post (cn, gb, nI T, op, ax, ay, az, c, b, upd (pf_w1 w a) r (c j))) : wpX_execute post (cn, gb, nI (T + 1), op, ax, ay, az, c, b, w) (nI a) := by
  have hc := nI_clamp (n := a) (by omega)
  have hi : vp_in (nI a) 30 := vp_in_nI ha (by decide)
  have hrc := nI_clamp (n := r) (by omega)
  have hri : vp_in (nI r) 11 := vp_in_nI (by omega) (by decide)
  have hyc := nI_clamp (n := y) (by omega)
  have hyi : vp_in (nI y) 11 := vp_in_nI (by omega) (by decide)
  have hjc := nI_clamp (n := j) (by omega)
  have hji : vp_in (nI j) 12 := vp_in_nI (by omega) (by decide)
  have hTl : (0 : Int32) < nI (T + 1) := nI_lt (a := 0) (by omega) hT
  have hTp := nI_pred T
  simp (decide := true) only [wpX_execute, wpX_moveWord, wX_moveWord_12, wX_moveWord_17, wX_moveWord_37, wX_moveWord_58, wpX_tick, hc, hi, hop, hx, hy, hrc, hri, hjc, hji, hyc, hyi, hj, hTl, hTp, forall_eq, nI_1, pf_fold, Int32.reduceLT, Int32.reduceLE, true_implies, false_implies, not_true_eq_false, not_false_eq_true, and_true, true_and, implies_true, forall_const]
  exact h
theorem pf_x6z {post : SX → Prop} {cn gb : Int32} {op ax ay az c b w : Nat → Int32} {a r y j : Nat} (ha : a < 30) (hop : op a = 6) (hx : ax a = nI r) (hr : r < 4) (hy : ay a = nI y) (hyl : y < 4) (hj : pf_w1 w a y &&& 7 = nI j) (hjl : j < 8)
    (h : post (cn, gb, nI 0, op, ax, ay, az, c, b, pf_w1 w a)) : wpX_execute post (cn, gb, nI 0, op, ax, ay, az, c, b, w) (nI a) := by
  have hc := nI_clamp (n := a) (by omega)
  have hi : vp_in (nI a) 30 := vp_in_nI ha (by decide)
  have hrc := nI_clamp (n := r) (by omega)
  have hri : vp_in (nI r) 11 := vp_in_nI (by omega) (by decide)
  have hyc := nI_clamp (n := y) (by omega)
  have hyi : vp_in (nI y) 11 := vp_in_nI (by omega) (by decide)
  have hjc := nI_clamp (n := j) (by omega)
  have hji : vp_in (nI j) 12 := vp_in_nI (by omega) (by decide)
  have hTl := pf_00
  simp (decide := true) only [wpX_execute, wpX_moveWord, wX_moveWord_12, wX_moveWord_17, wX_moveWord_37, wX_moveWord_58, wpX_tick, hc, hi, hop, hx, hy, hrc, hri, hjc, hji, hyc, hyi, hj, hTl, forall_eq, nI_1, pf_fold, Int32.reduceLT, Int32.reduceLE, true_implies, false_implies, not_true_eq_false, not_false_eq_true, and_true, true_and, implies_true, forall_const]
  exact h
theorem pf_y6 {post : Int32 → SY → Prop} {cn : Int32} {op ax ay az c rg lf : Nat → Int32} {a r y j : Nat} (ha : a < 30) (hop : op a = 6) (hx : ax a = nI r) (hr : r < 4) (hy : ay a = nI y) (hyl : y < 4) (hj : rg y &&& 7 = nI j) (hjl : j < 8)
    (h : post (nI (a + 1)) (cn, op, ax, ay, az, c, upd rg r (c j), lf)) : wpY_step post (cn, op, ax, ay, az, c, rg, lf) (nI a) := by
  have hc := nI_clamp (n := a) (by omega)
  have hi : vp_in (nI a) 30 := vp_in_nI ha (by decide)
  have hrc := nI_clamp (n := r) (by omega)
  have hri : vp_in (nI r) 4 := vp_in_nI (by omega) (by decide)
  have hyc := nI_clamp (n := y) (by omega)
  have hyi : vp_in (nI y) 4 := vp_in_nI (by omega) (by decide)
  have hjc := nI_clamp (n := j) (by omega)
  have hji : vp_in (nI j) 12 := vp_in_nI (by omega) (by decide)
  simp (decide := true) only [wpY_step, wY_step_30, wY_step_64, wY_step_98, wY_step_132, wY_step_154, wY_step_176, wY_step_207, wY_step_238, wY_step_264, wY_step_282, hc, hi, hop, hx, hy, hrc, hri, hjc, hji, hyc, hyi, hj, forall_eq, nI_1, pf_fold, Int32.reduceLT, Int32.reduceLE, true_implies, false_implies, not_true_eq_false, not_false_eq_true, and_true, true_and, implies_true, forall_const]
  exact h
theorem pf_x7 {post : SX → Prop} {cn gb : Int32} {op ax ay az c b w : Nat → Int32} {a r y j T : Nat} (ha : a < 30) (hT : T + 1 < 2 ^ 31) (hop : op a = 7) (hx : ax a = nI r) (hr : r < 4) (hy : ay a = nI y) (hyl : y < 4) (hj : pf_w1 w a y &&& 7 = nI j) (hjl : j < 8)
    (h : post (cn, gb, nI T, op, ax, ay, az, upd c j (pf_w1 w a r), b, pf_w1 w a)) : wpX_execute post (cn, gb, nI (T + 1), op, ax, ay, az, c, b, w) (nI a) := by
  have hc := nI_clamp (n := a) (by omega)
  have hi : vp_in (nI a) 30 := vp_in_nI ha (by decide)
  have hrc := nI_clamp (n := r) (by omega)
  have hri : vp_in (nI r) 11 := vp_in_nI (by omega) (by decide)
  have hyc := nI_clamp (n := y) (by omega)
  have hyi : vp_in (nI y) 11 := vp_in_nI (by omega) (by decide)
  have hjc := nI_clamp (n := j) (by omega)
  have hji : vp_in (nI j) 12 := vp_in_nI (by omega) (by decide)
  have hTl : (0 : Int32) < nI (T + 1) := nI_lt (a := 0) (by omega) hT
  have hTp := nI_pred T
  simp (decide := true) only [wpX_execute, wpX_moveWord, wX_moveWord_12, wX_moveWord_17, wX_moveWord_37, wX_moveWord_58, wpX_tick, hc, hi, hop, hx, hy, hrc, hri, hjc, hji, hyc, hyi, hj, hTl, hTp, forall_eq, nI_1, pf_fold, Int32.reduceLT, Int32.reduceLE, true_implies, false_implies, not_true_eq_false, not_false_eq_true, and_true, true_and, implies_true, forall_const]
  exact h
theorem pf_x7z {post : SX → Prop} {cn gb : Int32} {op ax ay az c b w : Nat → Int32} {a r y j : Nat} (ha : a < 30) (hop : op a = 7) (hx : ax a = nI r) (hr : r < 4) (hy : ay a = nI y) (hyl : y < 4) (hj : pf_w1 w a y &&& 7 = nI j) (hjl : j < 8)
    (h : post (cn, gb, nI 0, op, ax, ay, az, c, b, pf_w1 w a)) : wpX_execute post (cn, gb, nI 0, op, ax, ay, az, c, b, w) (nI a) := by
  have hc := nI_clamp (n := a) (by omega)
  have hi : vp_in (nI a) 30 := vp_in_nI ha (by decide)
  have hrc := nI_clamp (n := r) (by omega)
  have hri : vp_in (nI r) 11 := vp_in_nI (by omega) (by decide)
  have hyc := nI_clamp (n := y) (by omega)
  have hyi : vp_in (nI y) 11 := vp_in_nI (by omega) (by decide)
  have hjc := nI_clamp (n := j) (by omega)
  have hji : vp_in (nI j) 12 := vp_in_nI (by omega) (by decide)
  have hTl := pf_00
  simp (decide := true) only [wpX_execute, wpX_moveWord, wX_moveWord_12, wX_moveWord_17, wX_moveWord_37, wX_moveWord_58, wpX_tick, hc, hi, hop, hx, hy, hrc, hri, hjc, hji, hyc, hyi, hj, hTl, forall_eq, nI_1, pf_fold, Int32.reduceLT, Int32.reduceLE, true_implies, false_implies, not_true_eq_false, not_false_eq_true, and_true, true_and, implies_true, forall_const]
  exact h
theorem pf_y7 {post : Int32 → SY → Prop} {cn : Int32} {op ax ay az c rg lf : Nat → Int32} {a r y j : Nat} (ha : a < 30) (hop : op a = 7) (hx : ax a = nI r) (hr : r < 4) (hy : ay a = nI y) (hyl : y < 4) (hj : rg y &&& 7 = nI j) (hjl : j < 8)
    (h : post (nI (a + 1)) (cn, op, ax, ay, az, upd c j (rg r), rg, lf)) : wpY_step post (cn, op, ax, ay, az, c, rg, lf) (nI a) := by
  have hc := nI_clamp (n := a) (by omega)
  have hi : vp_in (nI a) 30 := vp_in_nI ha (by decide)
  have hrc := nI_clamp (n := r) (by omega)
  have hri : vp_in (nI r) 4 := vp_in_nI (by omega) (by decide)
  have hyc := nI_clamp (n := y) (by omega)
  have hyi : vp_in (nI y) 4 := vp_in_nI (by omega) (by decide)
  have hjc := nI_clamp (n := j) (by omega)
  have hji : vp_in (nI j) 12 := vp_in_nI (by omega) (by decide)
  simp (decide := true) only [wpY_step, wY_step_30, wY_step_64, wY_step_98, wY_step_132, wY_step_154, wY_step_176, wY_step_207, wY_step_238, wY_step_264, wY_step_282, hc, hi, hop, hx, hy, hrc, hri, hjc, hji, hyc, hyi, hj, forall_eq, nI_1, pf_fold, Int32.reduceLT, Int32.reduceLE, true_implies, false_implies, not_true_eq_false, not_false_eq_true, and_true, true_and, implies_true, forall_const]
  exact h
theorem pf_x8 {post : SX → Prop} {cn gb tl : Int32} {op ax ay az c b w : Nat → Int32} {a r m : Nat} (ha : a < 30) (hop : op a = 8) (hx : ax a = nI r) (hr : r < 4) (hy : ay a = nI m)
    (h1 : 0 < pf_w1 w a r → post (cn, gb, tl, op, ax, ay, az, c, b, pf_w1 w a)) (h2 : ¬ 0 < pf_w1 w a r → post (cn, gb, tl, op, ax, ay, az, c, b, upd (pf_w1 w a) 4 (nI (a + 1 + m)))) : wpX_execute post (cn, gb, tl, op, ax, ay, az, c, b, w) (nI a) := by
  have hc := nI_clamp (n := a) (by omega)
  have hi : vp_in (nI a) 30 := vp_in_nI ha (by decide)
  have hrc := nI_clamp (n := r) (by omega)
  have hri : vp_in (nI r) 11 := vp_in_nI (by omega) (by decide)
  have h4 := pf_w14 w a
  have ha4 := nI_add (a + 1) m
  simp (decide := true) only [wpX_execute, wpX_leaveOutUnlessPositive, hc, hi, hop, hx, hy, hrc, hri, h4, ha4, forall_eq, nI_1, pf_fold, Int32.reduceLT, Int32.reduceLE, true_implies, false_implies, not_true_eq_false, not_false_eq_true, and_true, true_and, implies_true, forall_const]
  exact ⟨h1, h2⟩
theorem pf_y8 {post : Int32 → SY → Prop} {cn : Int32} {op ax ay az c rg lf : Nat → Int32} {a r m : Nat} (ha : a < 30) (hop : op a = 8) (hx : ax a = nI r) (hr : r < 4) (hy : ay a = nI m)
    (h1 : 0 < rg r → post (nI (a + 1)) (cn, op, ax, ay, az, c, rg, lf)) (h2 : ¬ 0 < rg r → post (nI (a + m + 1)) (cn, op, ax, ay, az, c, rg, lf)) : wpY_step post (cn, op, ax, ay, az, c, rg, lf) (nI a) := by
  have hc := nI_clamp (n := a) (by omega)
  have hi : vp_in (nI a) 30 := vp_in_nI ha (by decide)
  have hrc := nI_clamp (n := r) (by omega)
  have hri : vp_in (nI r) 4 := vp_in_nI (by omega) (by decide)
  have ha4 := nI_add a m
  simp (decide := true) only [wpY_step, wY_step_30, wY_step_64, wY_step_98, wY_step_132, wY_step_154, wY_step_176, wY_step_207, wY_step_238, wY_step_264, wY_step_282, hc, hi, hop, hx, hy, hrc, hri, ha4, forall_eq, nI_1, pf_fold, Int32.reduceLT, Int32.reduceLE, true_implies, false_implies, not_true_eq_false, not_false_eq_true, and_true, true_and, implies_true, forall_const]
  exact ⟨h1, h2⟩
theorem pf_x9 {post : SX → Prop} {cn gb tl : Int32} {op ax ay az c b w : Nat → Int32} {a d : Nat} (ha : a < 30) (hop : op a = 9) (hd : d ≤ 1) (h6 : w 6 = nI d)
    (h : post (cn, gb, tl, op, ax, ay, az, c, b, upd (upd (upd (pf_w1 w a) (7 + d) (ax a)) (9 + d) (nI (a + 1))) 6 (nI (d + 1)))) : wpX_execute post (cn, gb, tl, op, ax, ay, az, c, b, w) (nI a) := by
  have hc := nI_clamp (n := a) (by omega)
  have hi : vp_in (nI a) 30 := vp_in_nI ha (by decide)
  have h6' : pf_w1 w a 6 = nI d := (pf_w1n (by decide) (by decide)).trans h6
  have hd0 : ¬ nI d < 0 := nI_pos (by omega)
  have hd2 : ¬ (2 : Int32) ≤ nI d := nI_ge (b := 2) (by omega) (by decide)
  have e7 := pf_7 d
  have e9 := pf_9 d
  have c7 := nI_clamp (n := 7 + d) (by omega)
  have c9 := nI_clamp (n := 9 + d) (by omega)
  have i7 : vp_in (nI (7 + d)) 11 := vp_in_nI (by omega) (by decide)
  have i9 : vp_in (nI (9 + d)) 11 := vp_in_nI (by omega) (by decide)
  have h4 : upd (pf_w1 w a) (7 + d) (ax a) 4 = nI (a + 1) := by rw [pk_un (by omega), pf_w14]
  simp (decide := true) only [wpX_execute, wpX_openLoop, hc, hi, hop, h6', hd0, hd2, e7, e9, c7, c9, i7, i9, h4, forall_eq, nI_1, pf_fold, Int32.reduceLT, Int32.reduceLE, true_implies, false_implies, not_true_eq_false, not_false_eq_true, and_true, true_and, implies_true, forall_const]
  exact h
theorem pf_y9 {post : Int32 → SY → Prop} {cn : Int32} {op ax ay az c rg lf : Nat → Int32} {a : Nat} (ha : a < 30) (hop : op a = 9)
    (h : post (nI (a + 1)) (cn, op, ax, ay, az, c, rg, upd lf a (ax a))) : wpY_step post (cn, op, ax, ay, az, c, rg, lf) (nI a) := by
  have hc := nI_clamp (n := a) (by omega)
  have hi : vp_in (nI a) 30 := vp_in_nI ha (by decide)
  simp (decide := true) only [wpY_step, wY_step_30, wY_step_64, wY_step_98, wY_step_132, wY_step_154, wY_step_176, wY_step_207, wY_step_238, wY_step_264, wY_step_282, hc, hi, hop, forall_eq, nI_1, pf_fold, Int32.reduceLT, Int32.reduceLE, true_implies, false_implies, not_true_eq_false, not_false_eq_true, and_true, true_and, implies_true, forall_const]
  exact h
theorem pf_xA {post : SX → Prop} {cn gb tl : Int32} {op ax ay az c b w : Nat → Int32} {a t l o : Nat} (ha : a < 30) (hop : op a = 10) (ht : t ≤ 1) (h6 : w 6 = nI (t + 1)) (h7 : w (7 + t) = nI (l + 1)) (hl : 1 ≤ l) (hl6 : l ≤ 6) (h9 : w (9 + t) = nI (o + 1))
    (h : post (cn, gb, tl, op, ax, ay, az, c, b, upd (upd (pf_w1 w a) (7 + t) (nI l)) 4 (nI (o + 1)))) : wpX_execute post (cn, gb, tl, op, ax, ay, az, c, b, w) (nI a) := by
  have hc := nI_clamp (n := a) (by omega)
  have hi : vp_in (nI a) 30 := vp_in_nI ha (by decide)
  have h6' : pf_w1 w a 6 - 1 = nI t := by rw [pf_w1n (by decide) (by decide), h6]; exact nI_pred t
  have hd0 : ¬ nI t < 0 := nI_pos (by omega)
  have hd2 : ¬ (2 : Int32) ≤ nI t := nI_ge (b := 2) (by omega) (by decide)
  have e7 := pf_7 t
  have e9 := pf_9 t
  have c7 := nI_clamp (n := 7 + t) (by omega)
  have c9 := nI_clamp (n := 9 + t) (by omega)
  have i7 : vp_in (nI (7 + t)) 11 := vp_in_nI (by omega) (by decide)
  have i9 : vp_in (nI (9 + t)) 11 := vp_in_nI (by omega) (by decide)
  have h7' : pf_w1 w a (7 + t) - 1 = nI l := by rw [pf_w1n (by omega) (by omega), h7]; exact nI_pred l
  have hu : upd (pf_w1 w a) (7 + t) (nI l) (7 + t) = nI l := pk_us
  have hl0 : ¬ nI l ≤ 0 := nI_nle (by omega) (by omega)
  have h9' : upd (pf_w1 w a) (7 + t) (nI l) (9 + t) = nI (o + 1) := by rw [pk_un (by omega), pf_w1n (by omega) (by omega), h9]
  simp (decide := true) only [wpX_execute, wpX_endPass, hc, hi, hop, h6', hd0, hd2, e7, e9, c7, c9, i7, i9, h7', hu, hl0, h9', forall_eq, nI_1, pf_fold, Int32.reduceLT, Int32.reduceLE, true_implies, false_implies, not_true_eq_false, not_false_eq_true, and_true, true_and, implies_true, forall_const]
  exact h
theorem pf_xB {post : SX → Prop} {cn gb tl : Int32} {op ax ay az c b w : Nat → Int32} {a t : Nat} (ha : a < 30) (hop : op a = 10) (ht : t ≤ 1) (h6 : w 6 = nI (t + 1)) (h7 : w (7 + t) = nI 1)
    (h : post (cn, gb, tl, op, ax, ay, az, c, b, upd (upd (pf_w1 w a) (7 + t) (nI 0)) 6 (nI t))) : wpX_execute post (cn, gb, tl, op, ax, ay, az, c, b, w) (nI a) := by
  have hc := nI_clamp (n := a) (by omega)
  have hi : vp_in (nI a) 30 := vp_in_nI ha (by decide)
  have h6' : pf_w1 w a 6 - 1 = nI t := by rw [pf_w1n (by decide) (by decide), h6]; exact nI_pred t
  have hd0 : ¬ nI t < 0 := nI_pos (by omega)
  have hd2 : ¬ (2 : Int32) ≤ nI t := nI_ge (b := 2) (by omega) (by decide)
  have e7 := pf_7 t
  have e9 := pf_9 t
  have c7 := nI_clamp (n := 7 + t) (by omega)
  have c9 := nI_clamp (n := 9 + t) (by omega)
  have i7 : vp_in (nI (7 + t)) 11 := vp_in_nI (by omega) (by decide)
  have i9 : vp_in (nI (9 + t)) 11 := vp_in_nI (by omega) (by decide)
  have h7' : pf_w1 w a (7 + t) - 1 = nI 0 := by rw [pf_w1n (by omega) (by omega), h7]; exact nI_pred 0
  have hu : upd (pf_w1 w a) (7 + t) (nI 0) (7 + t) = nI 0 := pk_us
  have hl0 : nI 0 ≤ 0 := by decide
  simp (decide := true) only [wpX_execute, wpX_endPass, hc, hi, hop, h6', hd0, hd2, e7, e9, c7, c9, i7, i9, h7', hu, hl0, forall_eq, nI_1, pf_fold, Int32.reduceLT, Int32.reduceLE, true_implies, false_implies, not_true_eq_false, not_false_eq_true, and_true, true_and, implies_true, forall_const]
  exact h
end
