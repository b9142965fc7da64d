/-! sums over the sets below N -/
def tc_S (f : Nat → Nat) : Nat → Nat
  | 0 => 0
  | i + 1 => tc_S f i + f i
theorem tc_S_congr {f g : Nat → Nat} : ∀ N, (∀ i, i < N → f i = g i) → tc_S f N = tc_S g N := by
  intro N
  induction N with
  | zero => intro _; rfl
  | succ N ih =>
    intro h
    show tc_S f N + f N = tc_S g N + g N
    rw [ih (fun i hi => h i (by omega)), h N (by omega)]
theorem tc_S_add (f : Nat → Nat) (a : Nat) : ∀ b, tc_S f (a + b) = tc_S f a + tc_S (fun i => f (a + i)) b := by
  intro b
  induction b with
  | zero => rfl
  | succ b ih =>
    show tc_S f (a + b) + f (a + b) = tc_S f a + (tc_S (fun i => f (a + i)) b + f (a + b))
    rw [ih, Nat.add_assoc]
theorem tc_S_pow (f : Nat → Nat) (k : Nat) : tc_S f (2 ^ (k + 1)) = tc_S f (2 ^ k) + tc_S (fun i => f (2 ^ k + i)) (2 ^ k) := by
  rw [Nat.pow_succ, Nat.mul_two]
  exact tc_S_add f _ _
theorem tc_S_zero {f : Nat → Nat} : ∀ N, (∀ i, i < N → f i = 0) → tc_S f N = 0 := by
  intro N
  induction N with
  | zero => intro _; rfl
  | succ N ih =>
    intro h
    show tc_S f N + f N = 0
    rw [ih (fun i hi => h i (by omega)), h N (by omega)]
theorem tc_S_eq0 {f : Nat → Nat} : ∀ N, tc_S f N = 0 → ∀ i, i < N → f i = 0 := by
  intro N
  induction N with
  | zero => intro _ i hi; exact absurd hi (Nat.not_lt_zero i)
  | succ N ih =>
    intro h i hi
    have h' : tc_S f N + f N = 0 := h
    rcases Nat.lt_or_ge i N with z | z
    · exact ih (by omega) i z
    · have e : i = N := by omega
      rw [e]; omega
theorem tc_S_le {f g : Nat → Nat} : ∀ N, (∀ i, i < N → f i ≤ g i) → tc_S f N ≤ tc_S g N := by
  intro N
  induction N with
  | zero => intro _; exact Nat.le_refl _
  | succ N ih =>
    intro h
    show tc_S f N + f N ≤ tc_S g N + g N
    exact Nat.add_le_add (ih (fun i hi => h i (by omega))) (h N (by omega))
theorem tc_S_plus (f g : Nat → Nat) : ∀ N, tc_S (fun i => f i + g i) N = tc_S f N + tc_S g N := by
  intro N
  induction N with
  | zero => rfl
  | succ N ih =>
    show tc_S (fun i => f i + g i) N + (f N + g N) = tc_S f N + f N + (tc_S g N + g N)
    rw [ih]; omega
theorem tc_S_mul (f : Nat → Nat) (c : Nat) : ∀ N, tc_S (fun i => f i * c) N = tc_S f N * c := by
  intro N
  induction N with
  | zero => exact (Nat.zero_mul c).symm
  | succ N ih =>
    show tc_S (fun i => f i * c) N + f N * c = (tc_S f N + f N) * c
    rw [ih, Nat.add_mul]
theorem tc_S_mono {f : Nat → Nat} {a b : Nat} (h : a ≤ b) : tc_S f a ≤ tc_S f b := by
  obtain ⟨c, rfl⟩ : ∃ c, b = a + c := ⟨b - a, by omega⟩
  rw [tc_S_add]
  exact Nat.le_add_right _ _
/-! bits and sizes of 2^K + s -/
theorem tc_b_hi {s k : Nat} (h : s < 2 ^ k) : tc_b s k = 0 := tc_b_f (Nat.testBit_lt_two_pow h)
theorem tc_tb_add {s K k : Nat} (h : k < K) : (2 ^ K + s).testBit k = s.testBit k := Nat.testBit_two_pow_add_gt h s
theorem tc_tb_top {s K : Nat} (h : s < 2 ^ K) : (2 ^ K + s).testBit K = true := by
  rw [Nat.testBit_two_pow_add_eq, Nat.testBit_lt_two_pow h] <;> rfl
theorem tc_sz_add {s K : Nat} : ∀ k, k ≤ K → tc_sz (2 ^ K + s) k = tc_sz s k := by
  intro k
  induction k with
  | zero => intro _; rfl
  | succ k ih =>
    intro h
    show tc_sz (2 ^ K + s) k + tc_b (2 ^ K + s) k = tc_sz s k + tc_b s k
    have e : tc_b (2 ^ K + s) k = tc_b s k := by unfold tc_b; rw [tc_tb_add (by omega)]
    rw [ih (by omega), e]
/-! the sum over the sets of j pairs, walked by the top pair -/
def tc_T (f : Nat → Nat) : Nat → Nat → Nat → Nat
  | 0, j, a => bif Nat.beq j 0 then f a else 0
  | k + 1, j, a => bif Nat.beq j 0 then tc_T f k 0 a else tc_T f k j a + tc_T f k (j - 1) (a + 2 ^ k)
theorem tc_T_eq (f : Nat → Nat) : ∀ k j a, tc_T f k j a = tc_S (fun s => if tc_sz s k = j then f (a + s) else 0) (2 ^ k) := by
  intro k
  induction k with
  | zero =>
    intro j a
    show (bif Nat.beq j 0 then f a else 0) = 0 + (if 0 = j then f (a + 0) else 0)
    cases j with
    | zero => exact (Nat.zero_add _).symm
    | succ j => rfl
  | succ k ih =>
    intro j a
    rw [tc_S_pow]
    have e1 : tc_S (fun s => if tc_sz s (k + 1) = j then f (a + s) else 0) (2 ^ k) = tc_T f k j a := by
      rw [ih]
      apply tc_S_congr
      intro s hs
      have e : tc_sz s (k + 1) = tc_sz s k := by show tc_sz s k + tc_b s k = _; rw [tc_b_hi hs] <;> rfl
      show (if tc_sz s (k + 1) = j then f (a + s) else 0) = _
      rw [e]
    have e2 : ∀ s, s < 2 ^ k → tc_sz (2 ^ k + s) (k + 1) = tc_sz s k + 1 := by
      intro s hs
      show tc_sz (2 ^ k + s) k + tc_b (2 ^ k + s) k = _
      rw [tc_sz_add k (Nat.le_refl _), tc_b_t (tc_tb_top hs)]
    rw [e1]
    cases j with
    | zero =>
      have z : tc_S (fun i => if tc_sz (2 ^ k + i) (k + 1) = 0 then f (a + (2 ^ k + i)) else 0) (2 ^ k) = 0 := by
        apply tc_S_zero
        intro s hs
        show (if tc_sz (2 ^ k + s) (k + 1) = 0 then f (a + (2 ^ k + s)) else 0) = 0
        rw [e2 s hs, if_neg (by omega)]
      exact (congrArg (fun x => tc_T f k 0 a + x) z).symm
    | succ j =>
      show tc_T f k (j + 1) a + tc_T f k (j + 1 - 1) (a + 2 ^ k) = _
      rw [ih (j + 1 - 1)]
      congr 1
      apply tc_S_congr
      intro s hs
      show (if tc_sz s k = j + 1 - 1 then f (a + 2 ^ k + s) else 0) = (if tc_sz (2 ^ k + s) (k + 1) = j + 1 then f (a + (2 ^ k + s)) else 0)
      rw [e2 s hs, Nat.add_assoc, Nat.add_sub_cancel]
      by_cases z : tc_sz s k = j
      · rw [if_pos z, if_pos (by omega)]
      · rw [if_neg z, if_neg (by omega)]
/-! the same rounds in a form that Lean's kernel walks fast -/
def tc_ks (s e q r : Nat) : Nat := Nat.lor r (bif Nat.beq (Nat.land s e) 0 then 0 else bif Nat.beq (Nat.land r q) 0 then 0 else q)
theorem tc_and2 (s p : Nat) : s &&& 2 ^ p = 0 ↔ s.testBit p = false := by
  constructor
  · intro h
    have e : (s &&& 2 ^ p).testBit p = false := by rw [h]; exact Nat.zero_testBit p
    rw [Nat.testBit_and, Nat.testBit_two_pow_self, Bool.and_true] at e
    exact e
  · intro h
    apply Nat.eq_of_testBit_eq
    intro i
    rw [Nat.testBit_and, Nat.testBit_two_pow, Nat.zero_testBit]
    by_cases e : p = i
    · rw [← e, h] <;> rfl
    · rw [decide_eq_false e, Bool.and_false]
theorem tc_and_pow (s p : Nat) : s &&& 2 ^ p = 2 ^ p ↔ s.testBit p = true := by
  constructor
  · intro h
    have e : (s &&& 2 ^ p).testBit p = true := by rw [h]; exact Nat.testBit_two_pow_self
    rw [Nat.testBit_and, Nat.testBit_two_pow_self, Bool.and_true] at e
    exact e
  · intro h
    apply Nat.eq_of_testBit_eq
    intro i
    rw [Nat.testBit_and, Nat.testBit_two_pow]
    by_cases y : p = i
    · rw [← y, h] <;> rfl
    · rw [decide_eq_false y, Bool.and_false]
theorem tc_beq0 (x : Nat) : Nat.beq x 0 = decide (x = 0) := by
  cases x with
  | zero => rfl
  | succ x => exact (decide_eq_false (Nat.succ_ne_zero x)).symm
theorem tc_ks_eq (s p r : Nat) : tc_ks s (2 ^ p) (tc_E p) r = tc_st s p r := by
  unfold tc_ks tc_st
  rw [tc_beq0, tc_beq0]
  show r ||| (bif decide (s &&& 2 ^ p = 0) then 0 else bif decide (r &&& tc_E p = 0) then 0 else tc_E p) = _
  by_cases h1 : s.testBit p = true
  · have a : ¬ s &&& 2 ^ p = 0 := by rw [tc_and2, h1]; decide
    rw [decide_eq_false a]
    by_cases h2 : r &&& tc_E p = 0
    · rw [decide_eq_true h2, if_neg (fun z => z.2 h2)]
      exact Nat.or_zero r
    · rw [decide_eq_false h2, if_pos ⟨h1, h2⟩] <;> rfl
  · have a : s &&& 2 ^ p = 0 := by rw [tc_and2]; exact Bool.eq_false_iff.mpr h1
    rw [decide_eq_true a, if_neg (fun z => h1 z.1)]
    exact Nat.or_zero r
theorem tc_kr {s r x : Nat} (k : Nat) {e q : Nat} (he : 2 ^ k = e) (hq : tc_E k = q) (hx : x = tc_rd s r k) : tc_ks s e q x = tc_rd s r (k + 1) := by
  rw [← he, ← hq, hx]
  exact tc_ks_eq s k _
def tc_k2 (s r : Nat) : Nat := tc_ks s 1 3 r
def tc_k3 (s r : Nat) : Nat := tc_ks s 4 6 (tc_ks s 2 5 (tc_k2 s r))
def tc_k4 (s r : Nat) : Nat := tc_ks s 32 12 (tc_ks s 16 10 (tc_ks s 8 9 (tc_k3 s r)))
def tc_k5 (s r : Nat) : Nat := tc_ks s 512 24 (tc_ks s 256 20 (tc_ks s 128 18 (tc_ks s 64 17 (tc_k4 s r))))
def tc_k6 (s r : Nat) : Nat := tc_ks s 16384 48 (tc_ks s 8192 40 (tc_ks s 4096 36 (tc_ks s 2048 34 (tc_ks s 1024 33 (tc_k5 s r)))))
theorem tc_k2_eq (s r : Nat) : tc_k2 s r = tc_rd s r 1 := tc_kr 0 (by decide) (by decide) rfl
theorem tc_k3_eq (s r : Nat) : tc_k3 s r = tc_rd s r 3 := tc_kr 2 (by decide) (by decide) (tc_kr 1 (by decide) (by decide) (tc_k2_eq s r))
theorem tc_k4_eq (s r : Nat) : tc_k4 s r = tc_rd s r 6 := tc_kr 5 (by decide) (by decide) (tc_kr 4 (by decide) (by decide) (tc_kr 3 (by decide) (by decide) (tc_k3_eq s r)))
theorem tc_k5_eq (s r : Nat) : tc_k5 s r = tc_rd s r 10 := tc_kr 9 (by decide) (by decide) (tc_kr 8 (by decide) (by decide) (tc_kr 7 (by decide) (by decide) (tc_kr 6 (by decide) (by decide) (tc_k4_eq s r))))
theorem tc_k6_eq (s r : Nat) : tc_k6 s r = tc_rd s r 15 := tc_kr 14 (by decide) (by decide) (tc_kr 13 (by decide) (by decide) (tc_kr 12 (by decide) (by decide) (tc_kr 11 (by decide) (by decide) (tc_kr 10 (by decide) (by decide) (tc_k5_eq s r)))))
def tc_kc2 (s : Nat) : Nat := bif Nat.beq (tc_k2 s 1) 3 then 1 else 0
def tc_kc3 (s : Nat) : Nat := bif Nat.beq (tc_k3 s (tc_k3 s 1)) 7 then 1 else 0
def tc_kc4 (s : Nat) : Nat := bif Nat.beq (tc_k4 s (tc_k4 s (tc_k4 s 1))) 15 then 1 else 0
def tc_kc5 (s : Nat) : Nat := bif Nat.beq (tc_k5 s (tc_k5 s (tc_k5 s (tc_k5 s 1)))) 31 then 1 else 0
def tc_kc6 (s : Nat) : Nat := bif Nat.beq (tc_k6 s (tc_k6 s (tc_k6 s (tc_k6 s (tc_k6 s 1))))) 63 then 1 else 0
theorem tc_kif {x y a b : Nat} (hx : x = a) (hy : y = b) : (bif Nat.beq x y then 1 else 0) = if a = b then 1 else 0 := by
  subst hx hy
  by_cases h : x = y
  · rw [if_pos h, Nat.beq_eq.mpr h] <;> rfl
  · have e : Nat.beq x y = false := Bool.eq_false_iff.mpr (fun z => h (Nat.beq_eq.mp z))
    rw [if_neg h, e] <;> rfl
theorem tc_kc2_eq (s : Nat) : tc_kc2 s = if tc_C s 2 0 = 2 ^ 2 - 1 then 1 else 0 := tc_kif (by rw [tc_k2_eq] <;> rfl) (by decide)
theorem tc_kc3_eq (s : Nat) : tc_kc3 s = if tc_C s 3 0 = 2 ^ 3 - 1 then 1 else 0 := tc_kif (by rw [tc_k3_eq, tc_k3_eq] <;> rfl) (by decide)
theorem tc_kc4_eq (s : Nat) : tc_kc4 s = if tc_C s 4 0 = 2 ^ 4 - 1 then 1 else 0 := tc_kif (by rw [tc_k4_eq, tc_k4_eq, tc_k4_eq] <;> rfl) (by decide)
theorem tc_kc5_eq (s : Nat) : tc_kc5 s = if tc_C s 5 0 = 2 ^ 5 - 1 then 1 else 0 := tc_kif (by rw [tc_k5_eq, tc_k5_eq, tc_k5_eq, tc_k5_eq] <;> rfl) (by decide)
theorem tc_kc6_eq (s : Nat) : tc_kc6 s = if tc_C s 6 0 = 2 ^ 6 - 1 then 1 else 0 := tc_kif (by rw [tc_k6_eq, tc_k6_eq, tc_k6_eq, tc_k6_eq, tc_k6_eq] <;> rfl) (by decide)
/-! reckoned by the kernel: how many sets of five pairs connect six vertices; n - 2 pairs connect no n vertices -/
theorem tc_r6 : tc_T tc_kc6 15 5 0 ≤ 1296 := by decide +kernel
theorem tc_f6 : tc_T tc_kc6 15 4 0 = 0 := by decide +kernel
theorem tc_f5 : tc_T tc_kc5 10 3 0 = 0 := by decide +kernel
theorem tc_f4 : tc_T tc_kc4 6 2 0 = 0 := by decide +kernel
theorem tc_f3 : tc_T tc_kc3 3 1 0 = 0 := by decide +kernel
theorem tc_f2 : tc_T tc_kc2 1 0 0 = 0 := by decide +kernel
theorem tc_few_of {n K : Nat} {kc : Nat → Nat} (hk : ∀ s, kc s = if tc_C s n 0 = 2 ^ n - 1 then 1 else 0) (h0 : tc_T kc K (n - 2) 0 = 0) {s : Nat} (hs : s < 2 ^ K) (hz : tc_sz s K = n - 2) : tc_C s n 0 ≠ 2 ^ n - 1 := by
  intro e
  rw [tc_T_eq] at h0
  have z := tc_S_eq0 _ h0 s hs
  have z' : (if tc_sz s K = n - 2 then kc (0 + s) else 0) = 0 := z
  rw [if_pos hz, Nat.zero_add, hk, if_pos e] at z'
  exact absurd z' (by decide)
theorem tc_few {n s : Nat} (h2 : 2 ≤ n) (hn : n < 7) (hs : s < 2 ^ tc_P n) (hz : tc_sz s (tc_P n) = n - 2) : tc_C s n 0 ≠ 2 ^ n - 1 := by
  have c : n = 2 ∨ n = 3 ∨ n = 4 ∨ n = 5 ∨ n = 6 := by omega
  rcases c with rfl | rfl | rfl | rfl | rfl
  · exact tc_few_of (K := 1) tc_kc2_eq tc_f2 hs hz
  · exact tc_few_of (K := 3) tc_kc3_eq tc_f3 hs hz
  · exact tc_few_of (K := 6) tc_kc4_eq tc_f4 hs hz
  · exact tc_few_of (K := 10) tc_kc5_eq tc_f5 hs hz
  · exact tc_few_of (K := 15) tc_kc6_eq tc_f6 hs hz
/-! trees, and how many lie below N -/
def tc_tr (n s : Nat) : Bool := decide (tc_sz s (tc_P n) = n - 1) && decide (tc_C s n 0 = 2 ^ n - 1)
theorem tc_tr_iff {n s : Nat} : tc_tr n s = true ↔ tc_sz s (tc_P n) = n - 1 ∧ tc_C s n 0 = 2 ^ n - 1 := by
  unfold tc_tr
  rw [Bool.and_eq_true, decide_eq_true_eq, decide_eq_true_eq]
def tc_cn (n N : Nat) : Nat := tc_S (fun s => if tc_tr n s = true then 1 else 0) N
theorem tc_cn_s (n N : Nat) : tc_cn n (N + 1) = tc_cn n N + if tc_tr n N = true then 1 else 0 := rfl
theorem tc_cn_N (n : Nat) : ∀ N, tc_cn n N ≤ N := by
  intro N
  induction N with
  | zero => exact Nat.le_refl _
  | succ N ih =>
    rw [tc_cn_s]
    split <;> omega
theorem tc_cn_6 : tc_cn 6 (2 ^ 15) = tc_T tc_kc6 15 5 0 := by
  rw [tc_T_eq]
  unfold tc_cn
  apply tc_S_congr
  intro s hs
  show (if tc_tr 6 s = true then 1 else 0) = (if tc_sz s 15 = 5 then tc_kc6 (0 + s) else 0)
  rw [Nat.zero_add, tc_kc6_eq]
  by_cases a : tc_sz s 15 = 5
  · rw [if_pos a]
    by_cases b : tc_C s 6 0 = 2 ^ 6 - 1
    · rw [if_pos b, if_pos (tc_tr_iff.mpr ⟨a, b⟩)]
    · rw [if_neg b, if_neg (fun z => b (tc_tr_iff.mp z).2)]
  · rw [if_neg a, if_neg (fun z => a (tc_tr_iff.mp z).1)]
theorem tc_P5 : ∀ n, n < 6 → tc_P n ≤ 10 := by decide +kernel
theorem tc_cn_le {n : Nat} (hn : n < 7) : tc_cn n (2 ^ tc_P n) ≤ 1296 := by
  rcases Nat.lt_or_ge n 6 with h | h
  · have a := tc_cn_N n (2 ^ tc_P n)
    have b : 2 ^ tc_P n ≤ 2 ^ 10 := Nat.pow_le_pow_right (by decide) (tc_P5 n h)
    have c : 2 ^ 10 ≤ 1296 := by decide
    omega
  · have e : n = 6 := by omega
    subst e
    have e2 : tc_cn 6 (2 ^ tc_P 6) = tc_T tc_kc6 15 5 0 := tc_cn_6
    rw [e2]
    exact tc_r6
theorem tc_cn_room {n i : Nat} (hn : n < 7) (hi : i < 2 ^ tc_P n) (h : tc_tr n i = true) : tc_cn n i < 1296 := by
  have a := tc_cn_le hn
  have b : tc_cn n (i + 1) ≤ tc_cn n (2 ^ tc_P n) := tc_S_mono (by omega)
  rw [tc_cn_s, if_pos h] at b
  omega
/-! the i-th tree exists -/
theorem tc_cn_at {n i : Nat} : ∀ N, i < tc_cn n N → ∃ t, t < N ∧ tc_tr n t = true ∧ tc_cn n t = i := by
  intro N
  induction N with
  | zero => intro h; exact absurd h (Nat.not_lt_zero i)
  | succ N ih =>
    intro h
    rw [tc_cn_s] at h
    by_cases z : i < tc_cn n N
    · obtain ⟨t, a, b, c⟩ := ih z
      exact ⟨t, by omega, b, c⟩
    · by_cases y : tc_tr n N = true
      · rw [if_pos y] at h
        exact ⟨N, by omega, y, by omega⟩
      · rw [if_neg y] at h
        omega
/-! a sum over the list of trees is a sum over the sets -/
theorem tc_list {n : Nat} (sh : Nat → Nat) (F : Nat → Nat) : ∀ N, (∀ t, t < N → tc_tr n t = true → sh (tc_cn n t) = t) → tc_S (fun i => F (sh i)) (tc_cn n N) = tc_S (fun s => if tc_tr n s = true then F s else 0) N := by
  intro N
  induction N with
  | zero => intro _; rfl
  | succ N ih =>
    intro h
    have e := ih (fun t ht => h t (by omega))
    show _ = tc_S (fun s => if tc_tr n s = true then F s else 0) N + (if tc_tr n N = true then F N else 0)
    rw [tc_cn_s, ← e]
    by_cases y : tc_tr n N = true
    · rw [if_pos y, if_pos y]
      show tc_S (fun i => F (sh i)) (tc_cn n N) + F (sh (tc_cn n N)) = _
      rw [h N (by omega) y]
    · rw [if_neg y, if_neg y] <;> rfl
/-! sets without the pair p against sets with it -/
theorem tc_add_or {s k : Nat} (h : s < 2 ^ k) : 2 ^ k + s = 2 ^ k ||| s := by
  have e := Nat.two_pow_add_eq_or_of_lt h 1
  rw [Nat.mul_one] at e
  exact e
theorem tc_x_top {s k : Nat} (h : s < 2 ^ k) : (2 ^ k + s) ^^^ 2 ^ k = s := by
  rw [tc_add_or h]
  apply Nat.eq_of_testBit_eq
  intro i
  rw [Nat.testBit_xor, Nat.testBit_or, Nat.testBit_two_pow]
  by_cases e : k = i
  · subst e
    rw [decide_eq_true (rfl : k = k), Nat.testBit_lt_two_pow h] <;> rfl
  · rw [decide_eq_false e, Bool.false_or, Bool.xor_false]
theorem tc_x_lt {t p k : Nat} (h : t < 2 ^ k) (hp : p < k) : t ^^^ 2 ^ p < 2 ^ k := Nat.xor_lt_two_pow h (Nat.pow_lt_pow_right (by decide) hp)
theorem tc_x_low {t p k : Nat} (h : t < 2 ^ k) (hp : p < k) : (2 ^ k + t) ^^^ 2 ^ p = 2 ^ k + (t ^^^ 2 ^ p) := by
  rw [tc_add_or h, tc_add_or (tc_x_lt h hp)]
  apply Nat.eq_of_testBit_eq
  intro i
  rw [Nat.testBit_xor, Nat.testBit_or, Nat.testBit_or, Nat.testBit_xor, Nat.testBit_two_pow, Nat.testBit_two_pow]
  by_cases e : k = i
  · have e2 : ¬ p = i := by omega
    rw [decide_eq_false e2]
    cases decide (k = i) <;> cases t.testBit i <;> rfl
  · rw [decide_eq_false e]
    cases decide (p = i) <;> cases t.testBit i <;> rfl
theorem tc_re (p : Nat) : ∀ k, p < k → ∀ g : Nat → Nat, tc_S (fun s => if s.testBit p = true then 0 else g s) (2 ^ k) = tc_S (fun t => if t.testBit p = true then g (t ^^^ 2 ^ p) else 0) (2 ^ k) := by
  intro k
  induction k with
  | zero => intro h; exact absurd h (Nat.not_lt_zero p)
  | succ k ih =>
    intro h g
    rw [tc_S_pow, tc_S_pow]
    rcases Nat.lt_or_ge p k with z | z
    · rw [ih z g]
      congr 1
      have e1 : tc_S (fun i => if (2 ^ k + i).testBit p = true then 0 else g (2 ^ k + i)) (2 ^ k) = tc_S (fun s => if s.testBit p = true then 0 else (fun x => g (2 ^ k + x)) s) (2 ^ k) := by
        apply tc_S_congr
        intro i _
        show (if (2 ^ k + i).testBit p = true then 0 else g (2 ^ k + i)) = (if i.testBit p = true then 0 else g (2 ^ k + i))
        rw [tc_tb_add z]
      refine e1.trans ((ih z (fun x => g (2 ^ k + x))).trans ?_)
      apply tc_S_congr
      intro i hi
      show (if i.testBit p = true then g (2 ^ k + (i ^^^ 2 ^ p)) else 0) = (if (2 ^ k + i).testBit p = true then g ((2 ^ k + i) ^^^ 2 ^ p) else 0)
      rw [tc_tb_add z, tc_x_low hi z]
    · have e : p = k := by omega
      subst e
      have a1 : tc_S (fun s => if s.testBit p = true then 0 else g s) (2 ^ p) = tc_S g (2 ^ p) := by
        apply tc_S_congr
        intro i hi
        show (if i.testBit p = true then 0 else g i) = g i
        rw [Nat.testBit_lt_two_pow hi, if_neg (by decide)]
      have a2 : tc_S (fun i => if (2 ^ p + i).testBit p = true then 0 else g (2 ^ p + i)) (2 ^ p) = 0 := by
        apply tc_S_zero
        intro i hi
        show (if (2 ^ p + i).testBit p = true then 0 else g (2 ^ p + i)) = 0
        rw [tc_tb_top hi, if_pos rfl]
      have a3 : tc_S (fun t => if t.testBit p = true then g (t ^^^ 2 ^ p) else 0) (2 ^ p) = 0 := by
        apply tc_S_zero
        intro i hi
        show (if i.testBit p = true then g (i ^^^ 2 ^ p) else 0) = 0
        rw [Nat.testBit_lt_two_pow hi, if_neg (by decide)]
      have a4 : tc_S (fun i => if (2 ^ p + i).testBit p = true then g ((2 ^ p + i) ^^^ 2 ^ p) else 0) (2 ^ p) = tc_S g (2 ^ p) := by
        apply tc_S_congr
        intro i hi
        show (if (2 ^ p + i).testBit p = true then g ((2 ^ p + i) ^^^ 2 ^ p) else 0) = g i
        rw [tc_tb_top hi, if_pos rfl, tc_x_top hi]
      rw [a1, a3]
      exact (congrArg (tc_S g (2 ^ p) + ·) a2).trans ((Nat.add_comm _ _).trans (congrArg (0 + ·) a4.symm))
