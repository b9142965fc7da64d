/-! weights of a set: with modes and edges -/
def tc_w (e m : Nat → Nat) (s : Nat) : Nat → Nat
  | 0 => 1
  | k + 1 => if (s.testBit k = true ∧ m k = 2) ∨ (s.testBit k = false ∧ m k = 1) then 0 else tc_w e m s k * (if s.testBit k = true then e k else 1)
def tc_pr (e : Nat → Nat) (s : Nat) : Nat → Nat
  | 0 => 1
  | k + 1 => tc_pr e s k * (if s.testBit k = true then e k else 1)
def tc_al (e m : Nat → Nat) (s k : Nat) : Prop := ∀ p, p < k → (s.testBit p = true → 0 < e p ∧ m p ≠ 2) ∧ (m p = 1 → s.testBit p = true)
theorem tc_al_s {e m : Nat → Nat} {s k : Nat} : tc_al e m s (k + 1) ↔ tc_al e m s k ∧ (s.testBit k = true → 0 < e k ∧ m k ≠ 2) ∧ (m k = 1 → s.testBit k = true) := by
  constructor
  · intro h
    exact ⟨fun p hp => h p (by omega), h k (by omega)⟩
  · intro h p hp
    rcases Nat.lt_or_ge p k with z | z
    · exact h.1 p z
    · have e2 : p = k := by omega
      rw [e2]
      exact h.2
theorem tc_al_w {e m : Nat → Nat} {s : Nat} : ∀ k, tc_al e m s k → tc_w e m s k = tc_pr e s k ∧ 0 < tc_pr e s k := by
  intro k
  induction k with
  | zero => intro _; exact ⟨rfl, Nat.one_pos⟩
  | succ k ih =>
    intro h
    rw [tc_al_s] at h
    obtain ⟨a, b, c⟩ := h
    obtain ⟨i1, i2⟩ := ih a
    have nb : ¬ ((s.testBit k = true ∧ m k = 2) ∨ (s.testBit k = false ∧ m k = 1)) := by
      rintro (⟨x, y⟩ | ⟨x, y⟩)
      · exact (b x).2 y
      · rw [c y] at x; exact absurd x (by decide)
    show (if (s.testBit k = true ∧ m k = 2) ∨ (s.testBit k = false ∧ m k = 1) then 0 else tc_w e m s k * (if s.testBit k = true then e k else 1)) = tc_pr e s k * (if s.testBit k = true then e k else 1) ∧ 0 < tc_pr e s k * (if s.testBit k = true then e k else 1)
    rw [if_neg nb, i1]
    refine ⟨rfl, Nat.mul_pos i2 ?_⟩
    split
    · next x => exact (b x).1
    · exact Nat.one_pos
theorem tc_nal_w {e m : Nat → Nat} {s : Nat} : ∀ k, ¬ tc_al e m s k → tc_w e m s k = 0 := by
  intro k
  induction k with
  | zero => intro h; exact False.elim (h (fun p hp => absurd hp (Nat.not_lt_zero p)))
  | succ k ih =>
    intro h
    show (if (s.testBit k = true ∧ m k = 2) ∨ (s.testBit k = false ∧ m k = 1) then 0 else tc_w e m s k * (if s.testBit k = true then e k else 1)) = 0
    by_cases nb : (s.testBit k = true ∧ m k = 2) ∨ (s.testBit k = false ∧ m k = 1)
    · rw [if_pos nb]
    · rw [if_neg nb]
      by_cases a : tc_al e m s k
      · have z : s.testBit k = true ∧ e k = 0 := by
          cases x : s.testBit k
          · exfalso
            apply h
            rw [tc_al_s]
            refine ⟨a, fun y => ?_, fun y => ?_⟩
            · rw [x] at y; exact absurd y (by decide)
            · exact absurd (Or.inr ⟨x, y⟩) nb
          · refine ⟨rfl, ?_⟩
            rcases Nat.eq_zero_or_pos (e k) with y | y
            · exact y
            · exfalso
              apply h
              rw [tc_al_s]
              exact ⟨a, fun _ => ⟨y, fun q => nb (Or.inl ⟨x, q⟩)⟩, fun _ => x⟩
        rw [if_pos z.1, z.2, Nat.mul_zero]
      · rw [ih a, Nat.zero_mul]
theorem tc_w_pos {e m : Nat → Nat} {s k : Nat} : 0 < tc_w e m s k ↔ tc_al e m s k := by
  constructor
  · intro h
    apply Classical.byContradiction
    intro z
    rw [tc_nal_w k z] at h
    exact absurd h (Nat.lt_irrefl 0)
  · intro h
    rw [(tc_al_w k h).1]
    exact (tc_al_w k h).2
/-! a bad pair makes the weight nothing, at once and for good -/
theorem tc_w_dead {e m : Nat → Nat} {s p : Nat} (h : tc_w e m s p = 0) : ∀ d, tc_w e m s (p + d) = 0 := by
  intro d
  induction d with
  | zero => exact h
  | succ d ih =>
    show (if (s.testBit (p + d) = true ∧ m (p + d) = 2) ∨ (s.testBit (p + d) = false ∧ m (p + d) = 1) then 0 else tc_w e m s (p + d) * (if s.testBit (p + d) = true then e (p + d) else 1)) = 0
    rw [ih]
    split
    · rfl
    · exact Nat.zero_mul _
theorem tc_w_bad {e m : Nat → Nat} {s p k : Nat} (hp : p < k) (h : (s.testBit p = true ∧ m p = 2) ∨ (s.testBit p = false ∧ m p = 1)) : tc_w e m s k = 0 := by
  obtain ⟨d, rfl⟩ : ∃ d, k = p + 1 + d := ⟨k - (p + 1), by omega⟩
  have z : tc_w e m s (p + 1) = 0 := if_pos h
  exact tc_w_dead z d
theorem tc_w_good {e m : Nat → Nat} {s p : Nat} (h : ¬ ((s.testBit p = true ∧ m p = 2) ∨ (s.testBit p = false ∧ m p = 1))) : tc_w e m s (p + 1) = tc_w e m s p * (if s.testBit p = true then e p else 1) := if_neg h
theorem tc_w_le {e m : Nat → Nat} {s : Nat} (he : ∀ p, e p ≤ 3) : ∀ k, tc_w e m s k ≤ 3 ^ tc_sz s k := by
  intro k
  induction k with
  | zero => exact Nat.le_refl _
  | succ k ih =>
    show (if (s.testBit k = true ∧ m k = 2) ∨ (s.testBit k = false ∧ m k = 1) then 0 else tc_w e m s k * (if s.testBit k = true then e k else 1)) ≤ 3 ^ (tc_sz s k + tc_b s k)
    split
    · exact Nat.zero_le _
    · rw [Nat.pow_add]
      apply Nat.mul_le_mul ih
      by_cases x : s.testBit k = true
      · rw [if_pos x, tc_b_t x, Nat.pow_one]; exact he k
      · rw [if_neg x]; exact Nat.pow_pos (by decide)
/-! apart: a split by u and v is a tree without their pair -/
def tc_sp (n s u v : Nat) : Bool := decide (tc_sz s (tc_P n) = n - 2) && decide (tc_C s n u ||| tc_C s n v = 2 ^ n - 1)
theorem tc_sp_iff {n s u v : Nat} : tc_sp n s u v = true ↔ tc_sz s (tc_P n) = n - 2 ∧ tc_C s n u ||| tc_C s n v = 2 ^ n - 1 := by
  unfold tc_sp
  rw [Bool.and_eq_true, decide_eq_true_eq, decide_eq_true_eq]
theorem tc_sz_or {s p : Nat} (h : s.testBit p = false) : ∀ K, tc_sz (s ||| 2 ^ p) K = tc_sz s K + (if p < K then 1 else 0) := by
  intro K
  induction K with
  | zero => rw [if_neg (Nat.not_lt_zero p)] <;> rfl
  | succ K ih =>
    show tc_sz (s ||| 2 ^ p) K + tc_b (s ||| 2 ^ p) K = tc_sz s K + tc_b s K + (if p < K + 1 then 1 else 0)
    rw [ih]
    by_cases e : p = K
    · subst e
      rw [tc_b_f h, tc_b_t ((tc_or_bit s p p).mpr (Or.inr rfl)), if_neg (Nat.lt_irrefl p), if_pos (Nat.lt_succ_self p)]
    · have e2 : tc_b (s ||| 2 ^ p) K = tc_b s K := by
        unfold tc_b
        rw [Nat.testBit_or, Nat.testBit_two_pow_of_ne e, Bool.or_false]
      rw [e2]
      by_cases z : p < K
      · rw [if_pos z, if_pos (by omega)]; omega
      · rw [if_neg z, if_neg (by omega)] <;> omega
theorem tc_sp_tr {n s u v : Nat} (h2 : 2 ≤ n) (hn : n < 7) (hu : u < n) (hv : v < n) (huv : u ≠ v) (hs : s < 2 ^ tc_P n) : tc_sp n s u v = true ↔ s.testBit (tc_pair u v) = false ∧ tc_tr n (s ||| 2 ^ tc_pair u v) = true := by
  have hp := tc_pair_in n hn u hu v hv huv
  rw [tc_sp_iff, tc_tr_iff]
  constructor
  · rintro ⟨a, b⟩
    have c := tc_apart1 hn hu hv huv b
    have d : s.testBit (tc_pair u v) = false := by
      cases x : s.testBit (tc_pair u v)
      · rfl
      · exfalso
        have e : s ||| 2 ^ tc_pair u v = s := by
          apply Nat.eq_of_testBit_eq
          intro i
          rw [Nat.testBit_or, Nat.testBit_two_pow]
          by_cases y : tc_pair u v = i
          · rw [← y, x] <;> rfl
          · rw [decide_eq_false y, Bool.or_false]
        rw [e] at c
        exact tc_few h2 hn hs a c
    refine ⟨d, ?_, c⟩
    rw [tc_sz_or d, if_pos hp, a]
    omega
  · rintro ⟨d, a, c⟩
    rw [tc_sz_or d, if_pos hp] at a
    exact ⟨by omega, tc_apart2 hn hu hv huv c⟩
theorem tc_x_bit {t p : Nat} (h : t.testBit p = true) : t ^^^ (t &&& 2 ^ p) = t ^^^ 2 ^ p ∧ (t ^^^ 2 ^ p) ||| 2 ^ p = t := by
  constructor
  · rw [(tc_and_pow t p).mpr h]
  · apply Nat.eq_of_testBit_eq
    intro i
    rw [Nat.testBit_or, Nat.testBit_xor, Nat.testBit_two_pow]
    by_cases y : p = i
    · rw [← y, h, decide_eq_true (rfl : p = p)] <;> rfl
    · rw [decide_eq_false y, Bool.or_false, Bool.xor_false]
theorem tc_apart_sum {n u v : Nat} (h2 : 2 ≤ n) (hn : n < 7) (hu : u < n) (hv : v < n) (huv : u ≠ v) (W : Nat → Nat) : tc_S (fun s => if tc_sp n s u v = true then W s else 0) (2 ^ tc_P n) = tc_S (fun t => if tc_tr n t = true then (if t.testBit (tc_pair u v) = true then W (t ^^^ (t &&& 2 ^ tc_pair u v)) else 0) else 0) (2 ^ tc_P n) := by
  have hp := tc_pair_in n hn u hu v hv huv
  have e1 : tc_S (fun s => if tc_sp n s u v = true then W s else 0) (2 ^ tc_P n) = tc_S (fun s => if s.testBit (tc_pair u v) = true then 0 else (fun x => if tc_tr n (x ||| 2 ^ tc_pair u v) = true then W x else 0) s) (2 ^ tc_P n) := by
    apply tc_S_congr
    intro s hs
    show (if tc_sp n s u v = true then W s else 0) = (if s.testBit (tc_pair u v) = true then 0 else (if tc_tr n (s ||| 2 ^ tc_pair u v) = true then W s else 0))
    have k := tc_sp_tr h2 hn hu hv huv hs
    cases x : s.testBit (tc_pair u v)
    · rw [if_neg (c := false = true) (by decide)]
      by_cases y : tc_tr n (s ||| 2 ^ tc_pair u v) = true
      · rw [if_pos y, if_pos (k.mpr ⟨x, y⟩)]
      · rw [if_neg y, if_neg (fun z => y (k.mp z).2)]
    · rw [if_pos (c := true = true) rfl, if_neg]
      intro z
      rw [(k.mp z).1] at x
      exact absurd x (by decide)
  rw [e1, tc_re _ _ hp]
  apply tc_S_congr
  intro t ht
  show (if t.testBit (tc_pair u v) = true then (if tc_tr n ((t ^^^ 2 ^ tc_pair u v) ||| 2 ^ tc_pair u v) = true then W (t ^^^ 2 ^ tc_pair u v) else 0) else 0) = (if tc_tr n t = true then (if t.testBit (tc_pair u v) = true then W (t ^^^ (t &&& 2 ^ tc_pair u v)) else 0) else 0)
  by_cases x : t.testBit (tc_pair u v) = true
  · obtain ⟨a, b⟩ := tc_x_bit x
    rw [if_pos x, if_pos x, a, b]
  · rw [if_neg x, if_neg x]
    split <;> rfl
/-! the degree of v in a set, by pairs and by vertices -/
def tc_dx (s v : Nat) : Nat → Nat
  | 0 => 0
  | k + 1 => tc_dx s v k + (if s.testBit k = true ∧ (tc_E k).testBit v = true then 1 else 0)
def tc_dy (s v : Nat) : Nat → Nat
  | 0 => 0
  | u + 1 => tc_dy s v u + (bif Nat.beq u v then 0 else tc_b s (tc_pair u v))
def tc_dz (s v : Nat) : Nat → Nat
  | 0 => 0
  | k + 1 => tc_dz s v k + (bif (tc_E k).testBit v then tc_b s k else 0)
theorem tc_dy_e (s v : Nat) : tc_dy s v (v + 1) = tc_dy s v v := by
  show tc_dy s v v + (bif Nat.beq v v then 0 else tc_b s (tc_pair v v)) = tc_dy s v v
  rw [Nat.beq_eq.mpr rfl] <;> rfl
theorem tc_dy_n {s u v : Nat} (h : u ≠ v) : tc_dy s v (u + 1) = tc_dy s v u + tc_b s (tc_pair u v) := by
  show tc_dy s v u + (bif Nat.beq u v then 0 else tc_b s (tc_pair u v)) = _
  have e : Nat.beq u v = false := Bool.eq_false_iff.mpr (fun z => h (Nat.beq_eq.mp z))
  rw [e] <;> rfl
theorem tc_dx_dz (s v : Nat) : ∀ k, tc_dx s v k = tc_dz s v k := by
  intro k
  induction k with
  | zero => rfl
  | succ k ih =>
    show tc_dx s v k + (if s.testBit k = true ∧ (tc_E k).testBit v = true then 1 else 0) = tc_dz s v k + (bif (tc_E k).testBit v then tc_b s k else 0)
    rw [ih]
    cases y : (tc_E k).testBit v
    · rw [if_neg (fun z => absurd z.2 (by decide))] <;> rfl
    · cases x : s.testBit k
      · rw [if_neg (fun z => absurd z.1 (by decide))]
        show _ = tc_dz s v k + tc_b s k
        rw [tc_b_f x]
      · rw [if_pos ⟨rfl, rfl⟩]
        show _ = tc_dz s v k + tc_b s k
        rw [tc_b_t x]
/-! sizes by the lowest bit, and x and (x - 1) -/
theorem tc_sz_half (x : Nat) : ∀ K, tc_sz x (K + 1) = x % 2 + tc_sz (x / 2) K := by
  intro K
  induction K with
  | zero =>
    show 0 + tc_b x 0 = x % 2 + 0
    rw [tc_b_mod, Nat.pow_zero, Nat.div_one]; omega
  | succ K ih =>
    show tc_sz x (K + 1) + tc_b x (K + 1) = x % 2 + (tc_sz (x / 2) K + tc_b (x / 2) K)
    have e : tc_b x (K + 1) = tc_b (x / 2) K := by unfold tc_b; rw [Nat.testBit_succ]
    rw [ih, e]; omega
theorem tc_kern : ∀ K x, x < 2 ^ K → x ≠ 0 → tc_sz (x &&& (x - 1)) K + 1 = tc_sz x K := by
  intro K
  induction K with
  | zero =>
    intro x h h0
    have h1 : x < 1 := h
    omega
  | succ K ih =>
    intro x h h0
    have hh : x / 2 < 2 ^ K := by
      rw [Nat.pow_succ] at h
      omega
    rw [tc_sz_half, tc_sz_half, Nat.and_div_two]
    have m0 : (x &&& (x - 1)) % 2 = 0 := by
      have a : ¬ (x &&& (x - 1)) % 2 = 1 := by
        rw [Nat.and_mod_two_eq_one]
        omega
      omega
    rw [m0]
    rcases Nat.mod_two_eq_zero_or_one x with z | z
    · have e : (x - 1) / 2 = x / 2 - 1 := by omega
      have i := ih (x / 2) hh (by omega)
      rw [e, z]
      omega
    · have e : (x - 1) / 2 = x / 2 := by omega
      rw [e, z, Nat.and_self]
      omega
theorem tc_kern_lt {x : Nat} (h : x ≠ 0) : x &&& (x - 1) < x := by
  have a : x &&& (x - 1) ≤ x - 1 := Nat.and_le_right
  omega
