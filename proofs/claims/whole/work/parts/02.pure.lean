/-! the program as it is read: depths, soundness, operands; nothing printed is named here -/
/-- how many loops are open ahead of place i -/
def pf_dp (op : Nat → Int32) : Nat → Int
  | 0 => 0
  | i + 1 => if op i = 9 then pf_dp op i + 1 else if op i = 10 then pf_dp op i - 1 else pf_dp op i
theorem pf_910 : ¬ (10 : Int32) = 9 := by decide
theorem pf_109 : ¬ (9 : Int32) = 10 := by decide
theorem pf_dp9 {op : Nat → Int32} {i : Nat} (h : op i = 9) : pf_dp op (i + 1) = pf_dp op i + 1 := by
  rw [pf_dp, if_pos h]
theorem pf_dp10 {op : Nat → Int32} {i : Nat} (h : op i = 10) : pf_dp op (i + 1) = pf_dp op i - 1 := by
  have h9 : ¬ op i = 9 := by rw [h]; exact pf_910
  rw [pf_dp, if_neg h9, if_pos h]
theorem pf_dpo {op : Nat → Int32} {i : Nat} (h9 : ¬ op i = 9) (h10 : ¬ op i = 10) : pf_dp op (i + 1) = pf_dp op i := by
  rw [pf_dp, if_neg h9, if_neg h10]
theorem pf_dpm (op : Nat → Int32) (i : Nat) : pf_dp op i - 1 ≤ pf_dp op (i + 1) := by
  by_cases h9 : op i = 9
  · rw [pf_dp9 h9]; omega
  · by_cases h10 : op i = 10
    · rw [pf_dp10 h10]; omega
    · rw [pf_dpo h9 h10]; omega
theorem pf_dpr {op : Nat → Int32} {a : Nat} : ∀ k, (∀ j, a ≤ j → j < a + k → ¬ op j = 9 ∧ ¬ op j = 10) → pf_dp op (a + k) = pf_dp op a := by
  intro k
  induction k with
  | zero => intro _; rfl
  | succ k ih =>
    intro h
    have h1 := h (a + k) (by omega) (by omega)
    have h2 : pf_dp op (a + k + 1) = pf_dp op (a + k) := pf_dpo h1.1 h1.2
    rw [← Nat.add_assoc, h2]
    exact ih (fun j ha hj => h j ha (by omega))
/-- a sound program -/
def pf_so (op ay : Nat → Int32) (n : Nat) : Prop :=
  (∀ i, i ≤ n → 0 ≤ pf_dp op i ∧ pf_dp op i ≤ 2) ∧ pf_dp op n = 0 ∧
  ∀ i m, i < n → op i = 8 → m ≤ 6 → ay i = nI m → i + m < n ∧ ∀ j, i < j → j ≤ i + m → ¬ op j = 9 ∧ ¬ op j = 10
/-- an instruction whose operands fit, by its code q -/
def pf_fit (q : Nat) (x y z : Int32) : Prop :=
  q = 10 ∨ (q = 9 ∧ ∃ m, 1 ≤ m ∧ m ≤ 6 ∧ x = nI m) ∨
  (q ≤ 8 ∧ (∃ r, r < 4 ∧ x = nI r) ∧ (1 ≤ q → q ≤ 3 → (∃ s, s < 4 ∧ y = nI s) ∧ ∃ t, t < 4 ∧ z = nI t) ∧
    (4 ≤ q → q ≤ 5 → ∃ c, c < 12 ∧ y = nI c) ∧ (6 ≤ q → q ≤ 7 → ∃ s, s < 4 ∧ y = nI s) ∧
    (q = 8 → ∃ m, 1 ≤ m ∧ m ≤ 6 ∧ y = nI m))
def pf_ok (o x y z : Int32) : Prop := ∃ q : Nat, q ≤ 10 ∧ o = nI q ∧ pf_fit q x y z
/-- the END of the LOOP at a -/
theorem pf_end {op ay : Nat → Int32} {n a d : Nat} (hs : pf_so op ay n) (ha : a < n) (h9 : op a = 9) (hd : pf_dp op a = d) :
    ∃ e, a < e ∧ e < n ∧ op e = 10 ∧ pf_dp op (e + 1) = d ∧ ∀ j, a < j → j ≤ e → (d : Int) + 1 ≤ pf_dp op j := by
  obtain ⟨k, ⟨hk1, hk2⟩, hk3⟩ := pk_least (fun j => a < j ∧ pf_dp op j ≤ d) ⟨n, ha, by rw [hs.2.1]; omega⟩
  have hkn : k ≤ n := by
    by_cases z : k ≤ n
    · exact z
    · exact absurd ⟨ha, by rw [hs.2.1]; omega⟩ (hk3 n (by omega))
  have h1 : pf_dp op (a + 1) = d + 1 := by rw [pf_dp9 h9, hd]
  have hk4 : k ≠ a + 1 := by
    intro z; rw [z, h1] at hk2; omega
  obtain ⟨e, rfl⟩ : ∃ e, k = e + 1 := ⟨k - 1, by omega⟩
  have hj : ∀ j, a < j → j ≤ e → (d : Int) + 1 ≤ pf_dp op j := by
    intro j hj1 hj2
    by_cases z : pf_dp op j ≤ d
    · exact absurd ⟨hj1, z⟩ (hk3 j (by omega))
    · omega
  have he := hj e (by omega) (by omega)
  have hm := pf_dpm op e
  have h9e : ¬ op e = 9 := by
    intro z; rw [pf_dp9 z] at hk2; omega
  have h10e : op e = 10 := by
    by_cases z : op e = 10
    · exact z
    · rw [pf_dpo h9e z] at hk2; omega
  exact ⟨e, by omega, by omega, h10e, by omega, hj⟩
/-- an open loop of depth t, seen from place a: LOOP at o, END at e, l passes to go -/
def pf_lp (op : Nat → Int32) (n a t o e l : Nat) : Prop :=
  op o = 9 ∧ pf_dp op o = t ∧ o < a ∧ a ≤ e ∧ e < n ∧ op e = 10 ∧ pf_dp op (e + 1) = t ∧
  (∀ j, o < j → j ≤ e → (t : Int) + 1 ≤ pf_dp op j) ∧ 1 ≤ l ∧ l ≤ 6
/-- the machine's words w at place a with d loops open -/
def pf_st (op : Nat → Int32) (n : Nat) (w : Nat → Int32) (a d : Nat) (o e l : Nat → Nat) : Prop :=
  w 4 = nI a ∧ w 6 = nI d ∧ a ≤ n ∧ d ≤ 2 ∧ pf_dp op a = d ∧
  ∀ t, t < d → pf_lp op n a t (o t) (e t) (l t) ∧ w (7 + t) = nI (l t) ∧ w (9 + t) = nI (o t + 1)
/-- a bound on the steps that are left -/
def pf_bu (n a d : Nat) (o e l : Nat → Nat) : Nat :=
  if d = 0 then 36 * (n - a)
  else if d = 1 then 6 * (e 0 + 1 - a) + (l 0 - 1) * (6 * (e 0 - o 0)) + 36 * (n - (e 0 + 1))
  else (e 1 + 1 - a) + (l 1 - 1) * (e 1 - o 1) + 6 * (e 0 - e 1) + (l 0 - 1) * (6 * (e 0 - o 0)) + 36 * (n - (e 0 + 1))
theorem pf_bu0 (n a : Nat) (o e l : Nat → Nat) : pf_bu n a 0 o e l = 36 * (n - a) := rfl
theorem pf_bu1 (n a : Nat) (o e l : Nat → Nat) : pf_bu n a 1 o e l = 6 * (e 0 + 1 - a) + (l 0 - 1) * (6 * (e 0 - o 0)) + 36 * (n - (e 0 + 1)) := rfl
theorem pf_bu2 (n a : Nat) (o e l : Nat → Nat) : pf_bu n a 2 o e l = (e 1 + 1 - a) + (l 1 - 1) * (e 1 - o 1) + 6 * (e 0 - e 1) + (l 0 - 1) * (6 * (e 0 - o 0)) + 36 * (n - (e 0 + 1)) := rfl
def pf_iv (op : Nat → Int32) (n : Nat) (w : Nat → Int32) (m : Nat) : Prop :=
  ∃ (a d : Nat) (o e l : Nat → Nat), pf_st op n w a d o e l ∧ pf_bu n a d o e l ≤ m
/-- a step to a later place a' behind no LOOP and no END -/
theorem pf_plain {op : Nat → Int32} {n a d : Nat} {w w' : Nat → Int32} {o e l : Nat → Nat} (S : pf_st op n w a d o e l) (a' : Nat)
    (h1 : a < a') (h2 : a' ≤ n) (hp : ∀ j, a ≤ j → j < a' → ¬ op j = 9 ∧ ¬ op j = 10)
    (e4 : w' 4 = nI a') (hw : ∀ i, 6 ≤ i → i ≤ 10 → w' i = w i) :
    pf_st op n w' a' d o e l ∧ pf_bu n a' d o e l < pf_bu n a d o e l := by
  obtain ⟨s4, s6, sn, sd, sp, sl⟩ := S
  have hdp : pf_dp op a' = pf_dp op a := by
    obtain ⟨k, rfl⟩ : ∃ k, a' = a + k := ⟨a' - a, by omega⟩
    exact pf_dpr k hp
  have he : ∀ t, t < d → a' ≤ e t := by
    intro t ht
    obtain ⟨⟨q1, q2, q3, q4, q5, q6, q7, q8, q9, q10⟩, r1, r2⟩ := sl t ht
    by_cases z : a' ≤ e t
    · exact z
    · exact absurd q6 (hp (e t) q4 (by omega)).2
  refine ⟨⟨e4, (hw 6 (by omega) (by omega)).trans s6, h2, sd, hdp.trans sp, fun t ht => ?_⟩, ?_⟩
  · obtain ⟨⟨q1, q2, q3, q4, q5, q6, q7, q8, q9, q10⟩, r1, r2⟩ := sl t ht
    exact ⟨⟨q1, q2, by omega, he t ht, q5, q6, q7, q8, q9, q10⟩, (hw (7 + t) (by omega) (by omega)).trans r1, (hw (9 + t) (by omega) (by omega)).trans r2⟩
  · have hd : d = 0 ∨ d = 1 ∨ d = 2 := by omega
    rcases hd with rfl | rfl | rfl
    · rw [pf_bu0, pf_bu0]; omega
    · have h := he 0 (by omega)
      rw [pf_bu1, pf_bu1]; omega
    · have h := he 1 (by omega)
      rw [pf_bu2, pf_bu2]; omega
def pf_un (f : Nat → Nat) (k x : Nat) : Nat → Nat := fun j => if j = k then x else f j
theorem pf_uns {f : Nat → Nat} {k x : Nat} : pf_un f k x k = x := if_pos rfl
theorem pf_unn {f : Nat → Nat} {k x j : Nat} (h : j ≠ k) : pf_un f k x j = f j := if_neg h
theorem pf_m5 {x q : Nat} (h : x ≤ 6) : (x - 1) * q ≤ 5 * q := Nat.mul_le_mul_right q (by omega)
theorem pf_mm {x q : Nat} (h : 2 ≤ x) : (x - 1) * q = q + (x - 1 - 1) * q := by
  obtain ⟨y, rfl⟩ : ∃ y, x = y + 2 := ⟨x - 2, by omega⟩
  show (y + 1) * q = q + y * q
  rw [Nat.succ_mul, Nat.add_comm]
/-- a LOOP is opened -/
theorem pf_loopS {op ay : Nat → Int32} {n a d x : Nat} {w w' : Nat → Int32} {o e l : Nat → Nat} (hs : pf_so op ay n) (S : pf_st op n w a d o e l)
    (ha : a < n) (h9 : op a = 9) (hx1 : 1 ≤ x) (hx6 : x ≤ 6) (e4 : w' 4 = nI (a + 1)) (e6 : w' 6 = nI (d + 1)) (e7 : w' (7 + d) = nI x)
    (e9 : w' (9 + d) = nI (a + 1)) (hw : ∀ t, t < d → w' (7 + t) = w (7 + t) ∧ w' (9 + t) = w (9 + t)) :
    ∃ e2, pf_st op n w' (a + 1) (d + 1) (pf_un o d a) (pf_un e d e2) (pf_un l d x) ∧
      pf_bu n (a + 1) (d + 1) (pf_un o d a) (pf_un e d e2) (pf_un l d x) < pf_bu n a d o e l := by
  obtain ⟨s4, s6, sn, sd, sp, sl⟩ := S
  obtain ⟨e2, g1, g2, g3, g4, g5⟩ := pf_end hs ha h9 sp
  have hd1 : pf_dp op (a + 1) = d + 1 := by rw [pf_dp9 h9, sp]
  have hd2 := (hs.1 (a + 1) (by omega)).2
  have he : ∀ t, t < d → a + 1 ≤ e t := by
    intro t ht
    obtain ⟨⟨q1, q2, q3, q4, q5, q6, q7, q8, q9, q10⟩, r1, r2⟩ := sl t ht
    have z : e t ≠ a := by
      intro z; rw [z, h9] at q6; exact pf_109 q6
    omega
  refine ⟨e2, ⟨e4, e6, by omega, by omega, by omega, fun t ht => ?_⟩, ?_⟩
  · by_cases z : t = d
    · subst z
      rw [pf_uns, pf_uns, pf_uns]
      exact ⟨⟨h9, sp, by omega, by omega, g2, g3, g4, g5, hx1, hx6⟩, e7, e9⟩
    · rw [pf_unn z, pf_unn z, pf_unn z]
      obtain ⟨⟨q1, q2, q3, q4, q5, q6, q7, q8, q9, q10⟩, r1, r2⟩ := sl t (by omega)
      have hh := hw t (by omega)
      exact ⟨⟨q1, q2, by omega, he t (by omega), q5, q6, q7, q8, q9, q10⟩, hh.1.trans r1, hh.2.trans r2⟩
  · have hd : d = 0 ∨ d = 1 := by omega
    rcases hd with rfl | rfl
    · rw [pf_bu0, pf_bu1, pf_uns, pf_uns, pf_uns]
      have := pf_m5 (q := 6 * (e2 - a)) hx6
      omega
    · obtain ⟨⟨q1, q2, q3, q4, q5, q6, q7, q8, q9, q10⟩, r1, r2⟩ := sl 0 (by omega)
      have z1 : e2 < e 0 := by
        by_cases z : e 0 + 1 ≤ e2
        · have := g5 (e 0 + 1) (by omega) z
          omega
        · by_cases z2 : e2 = e 0
          · rw [z2, q7] at g4; omega
          · omega
      rw [pf_bu1, pf_bu2, pf_uns, pf_uns, pf_uns, pf_unn (by omega), pf_unn (by omega), pf_unn (by omega)]
      have := pf_m5 (q := e2 - a) hx6
      omega
/-- at an END: it is the innermost loop's -/
theorem pf_endS {op ay : Nat → Int32} {n a d : Nat} {w : Nat → Int32} {o e l : Nat → Nat} (hs : pf_so op ay n) (S : pf_st op n w a d o e l)
    (ha : a < n) (h10 : op a = 10) : ∃ t, d = t + 1 ∧ a = e t := by
  obtain ⟨s4, s6, sn, sd, sp, sl⟩ := S
  have hd1 : pf_dp op (a + 1) = d - 1 := by rw [pf_dp10 h10, sp]
  have hd2 := (hs.1 (a + 1) (by omega)).1
  obtain ⟨t, rfl⟩ : ∃ t, d = t + 1 := ⟨d - 1, by omega⟩
  refine ⟨t, rfl, ?_⟩
  obtain ⟨⟨q1, q2, q3, q4, q5, q6, q7, q8, q9, q10⟩, r1, r2⟩ := sl t (by omega)
  by_cases z : a = e t
  · exact z
  · have := q8 (a + 1) (by omega) (by omega)
    omega
/-- .. another pass -/
theorem pf_endA {op : Nat → Int32} {n a t : Nat} {w w' : Nat → Int32} {o e l : Nat → Nat} (S : pf_st op n w a (t + 1) o e l)
    (hae : a = e t) (hl : 2 ≤ l t) (e4 : w' 4 = nI (o t + 1)) (e6 : w' 6 = w 6) (e7 : w' (7 + t) = nI (l t - 1)) (e9 : w' (9 + t) = w (9 + t))
    (hw : ∀ s, s < t → w' (7 + s) = w (7 + s) ∧ w' (9 + s) = w (9 + s)) :
    pf_st op n w' (o t + 1) (t + 1) o e (pf_un l t (l t - 1)) ∧ pf_bu n (o t + 1) (t + 1) o e (pf_un l t (l t - 1)) < pf_bu n a (t + 1) o e l := by
  obtain ⟨s4, s6, sn, sd, sp, sl⟩ := S
  obtain ⟨⟨q1, q2, q3, q4, q5, q6, q7, q8, q9, q10⟩, r1, r2⟩ := sl t (by omega)
  have hord : ∀ s, s < t → o s < o t := by
    intro s hst
    obtain ⟨⟨p1, p2, p3, p4, p5, p6, p7, p8, p9, p10⟩, _, _⟩ := sl s (by omega)
    by_cases z : o s < o t
    · exact z
    · by_cases z2 : o s = o t
      · rw [z2, q2] at p2; omega
      · have := q8 (o s) (by omega) (by omega)
        omega
  refine ⟨⟨e4, e6.trans s6, by omega, sd, by have := pf_dp9 q1; omega, fun s hst => ?_⟩, ?_⟩
  · by_cases z : s = t
    · subst z
      rw [pf_uns]
      exact ⟨⟨q1, q2, by omega, by omega, q5, q6, q7, q8, by omega, by omega⟩, e7, e9.trans r2⟩
    · rw [pf_unn z]
      obtain ⟨⟨p1, p2, p3, p4, p5, p6, p7, p8, p9, p10⟩, v1, v2⟩ := sl s (by omega)
      have hh := hw s (by omega)
      have ho := hord s (by omega)
      exact ⟨⟨p1, p2, by omega, by omega, p5, p6, p7, p8, p9, p10⟩, hh.1.trans v1, hh.2.trans v2⟩
  · have ht : t = 0 ∨ t = 1 := by omega
    rcases ht with rfl | rfl
    · rw [pf_bu1, pf_bu1, pf_uns]
      have := pf_mm (q := 6 * (e 0 - o 0)) hl
      omega
    · rw [pf_bu2, pf_bu2, pf_uns, pf_unn (by omega)]
      have := pf_mm (q := e 1 - o 1) hl
      omega
/-- .. the last pass -/
theorem pf_endB {op : Nat → Int32} {n a t : Nat} {w w' : Nat → Int32} {o e l : Nat → Nat} (S : pf_st op n w a (t + 1) o e l)
    (hae : a = e t) (e4 : w' 4 = nI (a + 1)) (e6 : w' 6 = nI t)
    (hw : ∀ s, s < t → w' (7 + s) = w (7 + s) ∧ w' (9 + s) = w (9 + s)) :
    pf_st op n w' (a + 1) t o e l ∧ pf_bu n (a + 1) t o e l < pf_bu n a (t + 1) o e l := by
  obtain ⟨s4, s6, sn, sd, sp, sl⟩ := S
  obtain ⟨⟨q1, q2, q3, q4, q5, q6, q7, q8, q9, q10⟩, r1, r2⟩ := sl t (by omega)
  have he : ∀ s, s < t → a + 1 ≤ e s := by
    intro s hst
    obtain ⟨⟨p1, p2, p3, p4, p5, p6, p7, p8, p9, p10⟩, _, _⟩ := sl s (by omega)
    have z : e s ≠ a := by
      intro z; rw [z, hae, q7] at p7; omega
    omega
  refine ⟨⟨e4, e6, by omega, by omega, by rw [hae]; exact q7, fun s hst => ?_⟩, ?_⟩
  · obtain ⟨⟨p1, p2, p3, p4, p5, p6, p7, p8, p9, p10⟩, v1, v2⟩ := sl s (by omega)
    have hh := hw s hst
    exact ⟨⟨p1, p2, by omega, he s hst, p5, p6, p7, p8, p9, p10⟩, hh.1.trans v1, hh.2.trans v2⟩
  · have ht : t = 0 ∨ t = 1 := by omega
    rcases ht with rfl | rfl
    · rw [pf_bu1, pf_bu0]
      omega
    · have := he 0 (by omega)
      rw [pf_bu2, pf_bu1]
      omega
