/-! the two degrees agree -/
theorem tc_deg {n v : Nat} (s : Nat) (h2 : 2 ≤ n) (hn : n < 7) (hv : v < n) : tc_dx s v (tc_P n) = tc_dy s v n := by
  rw [tc_dx_dz]
  have c : n = 2 ∨ n = 3 ∨ n = 4 ∨ n = 5 ∨ n = 6 := by omega
  rcases c with rfl | rfl | rfl | rfl | rfl
  · rcases (by omega : v = 0 ∨ v = 1) with rfl | rfl <;> rfl
  · rcases (by omega : v = 0 ∨ v = 1 ∨ v = 2) with rfl | rfl | rfl <;> rfl
  · rcases (by omega : v = 0 ∨ v = 1 ∨ v = 2 ∨ v = 3) with rfl | rfl | rfl | rfl <;> rfl
  · rcases (by omega : v = 0 ∨ v = 1 ∨ v = 2 ∨ v = 3 ∨ v = 4) with rfl | rfl | rfl | rfl | rfl <;> rfl
  · rcases (by omega : v = 0 ∨ v = 1 ∨ v = 2 ∨ v = 3 ∨ v = 4 ∨ v = 5) with rfl | rfl | rfl | rfl | rfl | rfl <;> rfl
/-! totals over the trees that hold a mask -/
def tc_TT (n : Nat) (W : Nat → Nat) (q : Nat) : Nat := tc_S (fun s => if tc_tr n s = true then (if s &&& q = q then W s else 0) else 0) (2 ^ tc_P n)
theorem tc_and_pow (s p : Nat) : s &&& 2 ^ p = 2 ^ p ↔ s.testBit p = true := by
  constructor
  · intro h
    have e : (s &&& 2 ^ p).testBit p = true := by rw [h]; exact Nat.testBit_two_pow_self
    rw [Nat.testBit_and, Nat.testBit_two_pow_self, Bool.and_true] at e
    exact e
  · intro h
    apply Nat.eq_of_testBit_eq
    intro i
    rw [Nat.testBit_and, Nat.testBit_two_pow]
    by_cases y : p = i
    · rw [← y, h]; rfl
    · rw [decide_eq_false y, Bool.and_false]
theorem tc_TT_le {n : Nat} {W : Nat → Nat} (hn : n < 7) (hW : ∀ s, tc_tr n s = true → W s ≤ 243) (q : Nat) : tc_TT n W q ≤ 314928 := by
  have a : tc_TT n W q ≤ tc_S (fun s => (if tc_tr n s = true then 1 else 0) * 243) (2 ^ tc_P n) := by
    apply tc_S_le
    intro s _
    show (if tc_tr n s = true then (if s &&& q = q then W s else 0) else 0) ≤ (if tc_tr n s = true then 1 else 0) * 243
    by_cases h : tc_tr n s = true
    · rw [if_pos h, if_pos h]
      have := hW s h
      split <;> omega
    · rw [if_neg h, if_neg h]
      exact Nat.zero_le _
  rw [tc_S_mul] at a
  have b : tc_S (fun s => if tc_tr n s = true then 1 else 0) (2 ^ tc_P n) ≤ 1296 := tc_cn_le hn
  omega
theorem tc_TT_in {n : Nat} {W : Nat → Nat} {q s : Nat} (h : tc_TT n W q = 0) (hs : s < 2 ^ tc_P n) (ht : tc_tr n s = true) (hq : s &&& q = q) : W s = 0 := by
  have z : (if tc_tr n s = true then (if s &&& q = q then W s else 0) else 0) = 0 := tc_S_eq0 _ h s hs
  rw [if_pos ht, if_pos hq] at z
  exact z
theorem tc_TT_0 {n : Nat} {W : Nat → Nat} {q : Nat} (h : ∀ s, s < 2 ^ tc_P n → tc_tr n s = true → s &&& q = q → W s = 0) : tc_TT n W q = 0 := by
  apply tc_S_zero
  intro s hs
  show (if tc_tr n s = true then (if s &&& q = q then W s else 0) else 0) = 0
  by_cases a : tc_tr n s = true
  · rw [if_pos a]
    by_cases b : s &&& q = q
    · rw [if_pos b]; exact h s hs a b
    · rw [if_neg b]
  · rw [if_neg a]
theorem tc_TT_sub {n : Nat} {W : Nat → Nat} (p : Nat) : tc_TT n W 0 = tc_TT n W (2 ^ p) + tc_S (fun s => if tc_tr n s = true then (if s.testBit p = true then 0 else W s) else 0) (2 ^ tc_P n) := by
  unfold tc_TT
  rw [← tc_S_plus]
  apply tc_S_congr
  intro s _
  show (if tc_tr n s = true then (if s &&& 0 = 0 then W s else 0) else 0) = (if tc_tr n s = true then (if s &&& 2 ^ p = 2 ^ p then W s else 0) else 0) + (if tc_tr n s = true then (if s.testBit p = true then 0 else W s) else 0)
  by_cases a : tc_tr n s = true
  · rw [if_pos a, if_pos a, if_pos a, if_pos (Nat.and_zero s)]
    by_cases b : s.testBit p = true
    · rw [if_pos b, if_pos ((tc_and_pow s p).mpr b)]; rfl
    · rw [if_neg b, if_neg (fun z => b ((tc_and_pow s p).mp z)), Nat.zero_add]
  · rw [if_neg a, if_neg a, if_neg a]
theorem tc_TT_eq {n : Nat} {W : Nat → Nat} {p : Nat} : tc_TT n W (2 ^ p) = tc_TT n W 0 ↔ ∀ s, s < 2 ^ tc_P n → tc_tr n s = true → s.testBit p = false → W s = 0 := by
  have e := tc_TT_sub (n := n) (W := W) p
  constructor
  · intro h s hs ht hb
    have z := tc_S_eq0 (f := fun s => if tc_tr n s = true then (if s.testBit p = true then 0 else W s) else 0) (2 ^ tc_P n) (by omega) s hs
    have z' : (if tc_tr n s = true then (if s.testBit p = true then 0 else W s) else 0) = 0 := z
    rw [if_pos ht, if_neg (by rw [hb]; decide)] at z'
    exact z'
  · intro h
    rw [e, tc_S_zero]
    · rfl
    · intro s hs
      show (if tc_tr n s = true then (if s.testBit p = true then 0 else W s) else 0) = 0
      by_cases a : tc_tr n s = true
      · rw [if_pos a]
        cases b : s.testBit p
        · rw [if_neg (by decide)]; exact h s hs a b
        · rw [if_pos rfl]
      · rw [if_neg a]
