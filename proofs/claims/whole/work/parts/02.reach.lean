/-! the pairs and their two vertices; sizes; one round over the pairs; rounds -/
def tc_lo (p : Nat) : Nat := [0, 0, 1, 0, 1, 2, 0, 1, 2, 3, 0, 1, 2, 3, 4].getD p 0
def tc_hi (p : Nat) : Nat := [1, 2, 2, 3, 3, 3, 4, 4, 4, 4, 5, 5, 5, 5, 5].getD p 0
def tc_E (p : Nat) : Nat := 2 ^ tc_lo p ||| 2 ^ tc_hi p
def tc_P (n : Nat) : Nat := n * (n - 1) / 2
def tc_pair (u v : Nat) : Nat := if u < v then v * (v - 1) / 2 + u else u * (u - 1) / 2 + v
def tc_sz (s : Nat) : Nat → Nat
  | 0 => 0
  | k + 1 => tc_sz s k + tc_b s k
def tc_st (s p r : Nat) : Nat := if s.testBit p = true ∧ r &&& tc_E p ≠ 0 then r ||| tc_E p else r
def tc_rd (s r : Nat) : Nat → Nat
  | 0 => r
  | k + 1 => tc_st s k (tc_rd s r k)
def tc_rs (s k r : Nat) : Nat → Nat
  | 0 => r
  | j + 1 => tc_rd s (tc_rs s k r j) k
def tc_su (a b : Nat) : Prop := ∀ i, a.testBit i = true → b.testBit i = true
def tc_cl (s k C : Nat) : Prop := ∀ p, p < k → s.testBit p = true → C.testBit (tc_lo p) = C.testBit (tc_hi p)
theorem tc_P_le : ∀ n, n < 7 → tc_P n ≤ 15 := by decide +kernel
theorem tc_lohi : ∀ n, n < 7 → ∀ p, p < tc_P n → tc_lo p < n ∧ tc_hi p < n ∧ tc_E p < 2 ^ n := by decide +kernel
theorem tc_pair_in : ∀ n, n < 7 → ∀ u, u < n → ∀ v, v < n → u ≠ v → tc_pair u v < tc_P n := by decide +kernel
theorem tc_pair_lh : ∀ u, u < 6 → ∀ v, v < 6 → u ≠ v → (tc_lo (tc_pair u v) = u ∧ tc_hi (tc_pair u v) = v) ∨ (tc_lo (tc_pair u v) = v ∧ tc_hi (tc_pair u v) = u) := by decide +kernel
theorem tc_pair_E : ∀ u, u < 6 → ∀ v, v < 6 → u ≠ v → 2 ^ u ||| 2 ^ v = tc_E (tc_pair u v) := by decide +kernel
theorem tc_meet (r p : Nat) : r &&& tc_E p ≠ 0 ↔ r.testBit (tc_lo p) = true ∨ r.testBit (tc_hi p) = true := by
  constructor
  · intro h
    obtain ⟨i, hi⟩ := Nat.exists_testBit_of_ne_zero h
    rw [Nat.testBit_and, tc_E, Nat.testBit_or, Nat.testBit_two_pow, Nat.testBit_two_pow] at hi
    simp only [Bool.and_eq_true, Bool.or_eq_true, decide_eq_true_eq] at hi
    rcases hi with ⟨a, rfl | rfl⟩
    · exact Or.inl a
    · exact Or.inr a
  · intro h e
    have z : ∀ i, (r &&& tc_E p).testBit i = false := fun i => by rw [e]; exact Nat.zero_testBit i
    rcases h with h | h
    · have y := z (tc_lo p)
      rw [Nat.testBit_and, h, tc_E, Nat.testBit_or, Nat.testBit_two_pow_self, Bool.true_or] at y
      exact absurd y (by decide)
    · have y := z (tc_hi p)
      rw [Nat.testBit_and, h, tc_E, Nat.testBit_or, Nat.testBit_two_pow_self (n := tc_hi p), Bool.or_true] at y
      exact absurd y (by decide)
theorem tc_st_bit (s p r i : Nat) : (tc_st s p r).testBit i = true ↔ r.testBit i = true ∨ (s.testBit p = true ∧ (r.testBit (tc_lo p) = true ∨ r.testBit (tc_hi p) = true) ∧ (i = tc_lo p ∨ i = tc_hi p)) := by
  unfold tc_st
  split
  · next h' =>
    have h : s.testBit p = true ∧ (r.testBit (tc_lo p) = true ∨ r.testBit (tc_hi p) = true) := ⟨h'.1, (tc_meet r p).mp h'.2⟩
    rw [Nat.testBit_or, tc_E, Nat.testBit_or, Nat.testBit_two_pow, Nat.testBit_two_pow]
    simp only [Bool.or_eq_true, decide_eq_true_eq]
    constructor
    · rintro (a | a | a)
      · exact Or.inl a
      · exact Or.inr ⟨h.1, h.2, Or.inl a.symm⟩
      · exact Or.inr ⟨h.1, h.2, Or.inr a.symm⟩
    · rintro (a | ⟨_, _, a | a⟩)
      · exact Or.inl a
      · exact Or.inr (Or.inl a.symm)
      · exact Or.inr (Or.inr a.symm)
  · next h =>
    constructor
    · exact Or.inl
    · rintro (a | ⟨b, c, _⟩)
      · exact a
      · exact absurd ⟨b, (tc_meet r p).mpr c⟩ h
theorem tc_st_mono {s p r i : Nat} (h : r.testBit i = true) : (tc_st s p r).testBit i = true := (tc_st_bit s p r i).mpr (Or.inl h)
theorem tc_rd_mono {s r i : Nat} (h : r.testBit i = true) : ∀ k, (tc_rd s r k).testBit i = true := by
  intro k
  induction k with
  | zero => exact h
  | succ k ih => exact tc_st_mono ih
theorem tc_rs_mono {s k r i : Nat} (h : r.testBit i = true) : ∀ j, (tc_rs s k r j).testBit i = true := by
  intro j
  induction j with
  | zero => exact h
  | succ j ih => exact tc_rd_mono ih k
theorem tc_rd_least {s C r : Nat} (hr : tc_su r C) : ∀ k, tc_cl s k C → tc_su (tc_rd s r k) C := by
  intro k
  induction k with
  | zero => intro _; exact hr
  | succ k ih =>
    intro h i hi
    have ihk := ih (fun p hp => h p (by omega))
    have hi' := (tc_st_bit s k (tc_rd s r k) i).mp hi
    rcases hi' with a | ⟨b, c, d⟩
    · exact ihk i a
    · have e := h k (by omega) b
      have f : C.testBit (tc_lo k) = true := by
        rcases c with c | c
        · exact ihk _ c
        · rw [e]; exact ihk _ c
      rcases d with d | d
      · rw [d]; exact f
      · rw [d, ← e]; exact f
theorem tc_rs_least {s k C r : Nat} (hr : tc_su r C) (hc : tc_cl s k C) : ∀ j, tc_su (tc_rs s k r j) C := by
  intro j
  induction j with
  | zero => exact hr
  | succ j ih => exact tc_rd_least ih k hc
theorem tc_rd_cl {s r : Nat} : ∀ k, tc_su (tc_rd s r k) r → tc_cl s k r := by
  intro k
  induction k with
  | zero => intro _ p hp; exact absurd hp (Nat.not_lt_zero p)
  | succ k ih =>
    intro h p hp hs
    rcases Nat.lt_or_ge p k with e | e
    · exact ih (fun i hi => h i (tc_st_mono hi)) p e hs
    · have e2 : p = k := by omega
      rw [e2] at hs ⊢
      have t : ∀ i j, (i = tc_lo k ∨ i = tc_hi k) → (j = tc_lo k ∨ j = tc_hi k) → r.testBit i = true → r.testBit j = true := by
        intro i j hi hj a
        apply h
        apply (tc_st_bit s k (tc_rd s r k) j).mpr
        refine Or.inr ⟨hs, ?_, hj⟩
        have m := tc_rd_mono (s := s) a k
        rcases hi with hi | hi
        · rw [hi] at m; exact Or.inl m
        · rw [hi] at m; exact Or.inr m
      exact Bool.eq_iff_iff.mpr ⟨t _ _ (Or.inl rfl) (Or.inr rfl), t _ _ (Or.inr rfl) (Or.inl rfl)⟩
theorem tc_pc_lt : ∀ a, a < 64 → ∀ b, b < 64 → a &&& b = a → a ≠ b → tc_sz a 6 < tc_sz b 6 := by decide +kernel
theorem tc_pc_full : ∀ n, n < 7 → ∀ r, r < 64 → r < 2 ^ n → n ≤ tc_sz r 6 → r = 2 ^ n - 1 := by decide +kernel
theorem tc_pc_one : ∀ u, u < 6 → 1 ≤ tc_sz (2 ^ u) 6 := by decide +kernel
theorem tc_su_and {a b : Nat} (h : tc_su a b) : a &&& b = a := by
  apply Nat.eq_of_testBit_eq
  intro i
  rw [Nat.testBit_and]
  cases ha : a.testBit i
  · rfl
  · rw [h i ha] <;> rfl
theorem tc_64 {n x : Nat} (hn : n < 7) (h : x < 2 ^ n) : x < 64 := tc_le2 (c := 6) h (by omega)
theorem tc_rd_lt {s r n : Nat} (hn : n < 7) (hr : r < 2 ^ n) : ∀ k, k ≤ tc_P n → tc_rd s r k < 2 ^ n := by
  intro k
  induction k with
  | zero => intro _; exact hr
  | succ k ih =>
    intro hk
    have h1 := ih (by omega)
    have h2 := (tc_lohi n hn k (by omega)).2.2
    show tc_st s k (tc_rd s r k) < 2 ^ n
    unfold tc_st
    split
    · exact Nat.or_lt_two_pow h1 h2
    · exact h1
theorem tc_rs_lt {s r n : Nat} (hn : n < 7) (hr : r < 2 ^ n) : ∀ j, tc_rs s (tc_P n) r j < 2 ^ n := by
  intro j
  induction j with
  | zero => exact hr
  | succ j ih => exact tc_rd_lt hn ih _ (Nat.le_refl _)
theorem tc_grow {s r n : Nat} (hn : n < 7) (hr : r < 2 ^ n) (h1 : 1 ≤ tc_sz r 6) : ∀ j, tc_rd s (tc_rs s (tc_P n) r j) (tc_P n) = tc_rs s (tc_P n) r j ∨ j + 1 ≤ tc_sz (tc_rs s (tc_P n) r j) 6 := by
  intro j
  induction j with
  | zero => exact Or.inr h1
  | succ j ih =>
    have hd : tc_rs s (tc_P n) r (j + 1) = tc_rd s (tc_rs s (tc_P n) r j) (tc_P n) := rfl
    have b1 := tc_rs_lt (s := s) hn hr j
    have b2 := tc_rs_lt (s := s) hn hr (j + 1)
    have hsu : tc_su (tc_rs s (tc_P n) r j) (tc_rs s (tc_P n) r (j + 1)) := fun i hi => tc_rd_mono hi _
    generalize tc_rs s (tc_P n) r (j + 1) = y at *
    generalize tc_rs s (tc_P n) r j = x at *
    by_cases e : tc_rd s x (tc_P n) = x
    · left
      rw [hd, e]
      exact e
    · right
      have ih' := ih.resolve_left e
      have l := tc_pc_lt x (tc_64 hn b1) y (tc_64 hn b2) (tc_su_and hsu) (fun z => e (hd.symm.trans z.symm))
      omega
theorem tc_fix {s r n : Nat} (hn : n < 7) (h2 : 1 ≤ n) (hr : r < 2 ^ n) (h1 : 1 ≤ tc_sz r 6) : tc_rd s (tc_rs s (tc_P n) r (n - 1)) (tc_P n) = tc_rs s (tc_P n) r (n - 1) := by
  rcases tc_grow (s := s) hn hr h1 (n - 1) with e | e
  · exact e
  · have b := tc_rs_lt (s := s) hn hr (n - 1)
    have f := tc_pc_full n hn _ (tc_64 hn b) b (by omega)
    have l := tc_rd_lt (s := s) hn b (tc_P n) (Nat.le_refl _)
    have g : tc_rs s (tc_P n) r (n - 1) ≤ tc_rd s (tc_rs s (tc_P n) r (n - 1)) (tc_P n) := Nat.le_of_testBit (fun i hi => tc_rd_mono hi _)
    generalize tc_rd s (tc_rs s (tc_P n) r (n - 1)) (tc_P n) = y at *
    generalize tc_rs s (tc_P n) r (n - 1) = x at *
    generalize 2 ^ n = z at *
    omega
/-! what is reached from u: the least closed set that holds u -/
def tc_C (s n u : Nat) : Nat := tc_rs s (tc_P n) (2 ^ u) (n - 1)
theorem tc_2u {n u : Nat} (hu : u < n) : 2 ^ u < 2 ^ n := Nat.pow_lt_pow_right (by decide) hu
theorem tc_C_lt {s n u : Nat} (hn : n < 7) (hu : u < n) : tc_C s n u < 2 ^ n := tc_rs_lt hn (tc_2u hu) _
theorem tc_C_mem (s n u : Nat) : (tc_C s n u).testBit u = true := tc_rs_mono Nat.testBit_two_pow_self _
theorem tc_C_fix {s n u : Nat} (hn : n < 7) (hu : u < n) : tc_rd s (tc_C s n u) (tc_P n) = tc_C s n u := tc_fix hn (by omega) (tc_2u hu) (tc_pc_one u (by omega))
theorem tc_C_cl {s n u : Nat} (hn : n < 7) (hu : u < n) : tc_cl s (tc_P n) (tc_C s n u) := by
  apply tc_rd_cl
  rw [tc_C_fix hn hu]
  exact fun i hi => hi
theorem tc_C_least {s n u D : Nat} (hc : tc_cl s (tc_P n) D) (hu : D.testBit u = true) : tc_su (tc_C s n u) D := by
  refine tc_rs_least ?_ hc _
  intro i hi
  rw [Nat.testBit_two_pow] at hi
  have e := of_decide_eq_true hi
  rw [← e]
  exact hu
theorem tc_full {C n : Nat} (h : C < 2 ^ n) : C = 2 ^ n - 1 ↔ ∀ i, i < n → C.testBit i = true := by
  constructor
  · intro e i hi
    rw [e, Nat.testBit_two_pow_sub_one]
    exact decide_eq_true hi
  · intro f
    apply Nat.eq_of_testBit_eq
    intro i
    rw [Nat.testBit_two_pow_sub_one]
    rcases Nat.lt_or_ge i n with z | z
    · rw [f i z, decide_eq_true z]
    · rw [Nat.testBit_lt_two_pow (tc_le2 h z), decide_eq_false (by omega)]
def tc_co (n D : Nat) : Nat := (2 ^ n - 1) ^^^ D
theorem tc_co_bit {n D i : Nat} (hi : i < n) : (tc_co n D).testBit i = !(D.testBit i) := by
  unfold tc_co
  rw [Nat.testBit_xor, Nat.testBit_two_pow_sub_one, decide_eq_true hi]
  cases D.testBit i <;> rfl
theorem tc_co_cl {s n D : Nat} (hn : n < 7) (h : tc_cl s (tc_P n) D) : tc_cl s (tc_P n) (tc_co n D) := by
  intro p hp hs
  have l := tc_lohi n hn p hp
  rw [tc_co_bit l.1, tc_co_bit l.2.1, h p hp hs]
theorem tc_or_bit (s p q : Nat) : (s ||| 2 ^ p).testBit q = true ↔ s.testBit q = true ∨ q = p := by
  rw [Nat.testBit_or, Nat.testBit_two_pow, Bool.or_eq_true, decide_eq_true_eq]
  constructor
  · rintro (a | a)
    · exact Or.inl a
    · exact Or.inr a.symm
  · rintro (a | a)
    · exact Or.inl a
    · exact Or.inr a.symm
theorem tc_apart1 {n s u v : Nat} (hn : n < 7) (hu : u < n) (hv : v < n) (huv : u ≠ v) (h : tc_C s n u ||| tc_C s n v = 2 ^ n - 1) : tc_C (s ||| 2 ^ tc_pair u v) n 0 = 2 ^ n - 1 := by
  have n0 : 0 < n := by omega
  have hp := tc_pair_in n hn u hu v hv huv
  have lh := tc_pair_lh u (by omega) v (by omega) huv
  have hA := tc_C_cl (s := s) hn hu
  have hB := tc_C_cl (s := s) hn hv
  have F := (tc_full (Nat.or_lt_two_pow (tc_C_lt (s := s) hn hu) (tc_C_lt (s := s) hn hv))).mp h
  have hD := tc_C_cl (s := s ||| 2 ^ tc_pair u v) hn n0
  have m0 := tc_C_mem (s ||| 2 ^ tc_pair u v) n 0
  have bD := tc_C_lt (s := s ||| 2 ^ tc_pair u v) hn n0
  generalize tc_C (s ||| 2 ^ tc_pair u v) n 0 = D at *
  have hDs : tc_cl s (tc_P n) D := fun p hp hs => hD p hp ((tc_or_bit s _ p).mpr (Or.inl hs))
  have hDp := hD _ hp ((tc_or_bit s _ _).mpr (Or.inr rfl))
  have huv2 : D.testBit u = D.testBit v := by
    rcases lh with ⟨a, b⟩ | ⟨a, b⟩
    · rw [a, b] at hDp; exact hDp
    · rw [a, b] at hDp; exact hDp.symm
  have mu : D.testBit u = true := by
    cases hx : D.testBit u
    · exfalso
      have cu : (tc_co n D).testBit u = true := by rw [tc_co_bit hu, hx] <;> rfl
      have cv : (tc_co n D).testBit v = true := by rw [tc_co_bit hv, ← huv2, hx] <;> rfl
      have f0 := F 0 n0
      rw [Nat.testBit_or, Bool.or_eq_true] at f0
      have z : (tc_co n D).testBit 0 = true := by
        rcases f0 with f0 | f0
        · exact tc_C_least (tc_co_cl hn hDs) cu 0 f0
        · exact tc_C_least (tc_co_cl hn hDs) cv 0 f0
      rw [tc_co_bit n0, m0] at z
      exact absurd z (by decide)
    · rfl
  have mv : D.testBit v = true := by rw [← huv2]; exact mu
  apply (tc_full bD).mpr
  intro i hi
  have fi := F i hi
  rw [Nat.testBit_or, Bool.or_eq_true] at fi
  rcases fi with fi | fi
  · exact tc_C_least hDs mu i fi
  · exact tc_C_least hDs mv i fi
theorem tc_apart2 {n s u v : Nat} (hn : n < 7) (hu : u < n) (hv : v < n) (huv : u ≠ v) (h : tc_C (s ||| 2 ^ tc_pair u v) n 0 = 2 ^ n - 1) : tc_C s n u ||| tc_C s n v = 2 ^ n - 1 := by
  have n0 : 0 < n := by omega
  have lh := tc_pair_lh u (by omega) v (by omega) huv
  have hA := tc_C_cl (s := s) hn hu
  have hB := tc_C_cl (s := s) hn hv
  have bD := Nat.or_lt_two_pow (tc_C_lt (s := s) hn hu) (tc_C_lt (s := s) hn hv)
  have F := (tc_full (tc_C_lt (s := s ||| 2 ^ tc_pair u v) hn n0)).mp h
  have mA := tc_C_mem s n u
  have mB := tc_C_mem s n v
  have du : (tc_C s n u ||| tc_C s n v).testBit u = true := by rw [Nat.testBit_or, mA] <;> rfl
  have dv : (tc_C s n u ||| tc_C s n v).testBit v = true := by rw [Nat.testBit_or, mB, Bool.or_true]
  have hD : tc_cl (s ||| 2 ^ tc_pair u v) (tc_P n) (tc_C s n u ||| tc_C s n v) := by
    intro q hq hs
    rcases (tc_or_bit s _ q).mp hs with a | a
    · rw [Nat.testBit_or, Nat.testBit_or, hA q hq a, hB q hq a]
    · rw [a]
      rcases lh with ⟨x, y⟩ | ⟨x, y⟩
      · rw [x, y, du, dv]
      · rw [x, y, du, dv]
  generalize tc_C s n u ||| tc_C s n v = D at *
  have m0 : D.testBit 0 = true := by
    cases hx : D.testBit 0
    · exfalso
      have c0 : (tc_co n D).testBit 0 = true := by rw [tc_co_bit n0, hx] <;> rfl
      have z := tc_C_least (tc_co_cl hn hD) c0 u (F u hu)
      rw [tc_co_bit hu, du] at z
      exact absurd z (by decide)
    · rfl
  apply (tc_full bD).mpr
  intro i hi
  exact tc_C_least hD m0 i (F i hi)
