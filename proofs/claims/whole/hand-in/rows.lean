section
/-! rows given for pasting (stores, numbers, shifts, branches by naturals, a loop) -/
theorem pk_us {f : Nat → Int32} {k : Nat} {x : Int32} : upd f k x k = x := if_pos rfl
theorem pk_un {f : Nat → Int32} {k j : Nat} {x : Int32} (h : j ≠ k) : upd f k x j = f j := if_neg h
theorem pk_sub {a b : Nat} (h : b ≤ a) : nI a - nI b = nI (a - b) := by
  obtain ⟨c, rfl⟩ : ∃ c, a = c + b := ⟨a - b, by omega⟩
  rw [← nI_add, Int32.add_sub_cancel, Nat.add_sub_cancel]
theorem pk_m1 (n : Nat) : nI (n + 1) + (-1) = nI n := by
  rw [← nI_1, Int32.add_assoc, show (1 : Int32) + (-1) = 0 from rfl, Int32.add_zero]
theorem pk_mul (a b : Nat) : nI a * nI b = nI (a * b) := (Int32.ofNat_mul a b).symm
theorem pk_div {a d : Nat} (ha : a < 2 ^ 31) (h0 : 0 < d) (hd : d < 2 ^ 31) : nI a / nI d = nI (a / d) := by
  apply Int32.toInt_inj.mp
  rw [lg_idiv_nonneg (by rw [nI_toInt ha]; omega) (by rw [nI_toInt hd]; omega), nI_toInt ha, nI_toInt hd, nI_toInt (Nat.lt_of_le_of_lt (Nat.div_le_self a d) ha)]
  first | rfl | exact (Int.natCast_ediv _ _).symm
theorem pk_ix (x : Int32) {n : Nat} (hn : n < 2 ^ 31) : x < 0 ∨ nI n ≤ x ∨ ∃ j : Nat, j < n ∧ x = nI j := by
  by_cases h : x < 0
  · exact Or.inl h
  · obtain ⟨j, hj, rfl⟩ := nI_of h
    by_cases h2 : j < n
    · exact Or.inr (Or.inr ⟨j, h2, rfl⟩)
    · exact Or.inr (Or.inl (nI_le (by omega) hj))
theorem pk_le {x y : Int32} {A B : Prop} (a b : Nat) (f : a ≤ b → A) (g : b < a → B) (hx : x = nI a := by rfl) (hy : y = nI b := by rfl) (ha : a < 2 ^ 31 := by omega) (hb : b < 2 ^ 31 := by omega) : (x ≤ y → A) ∧ (¬ x ≤ y → B) := by
  subst hx hy
  rw [nI_leI ha hb]
  exact ⟨f, fun z => g (by omega)⟩
theorem pk_lt {x y : Int32} {A B : Prop} (a b : Nat) (f : a < b → A) (g : b ≤ a → B) (hx : x = nI a := by rfl) (hy : y = nI b := by rfl) (ha : a < 2 ^ 31 := by omega) (hb : b < 2 ^ 31 := by omega) : (x < y → A) ∧ (¬ x < y → B) := by
  subst hx hy
  rw [nI_ltI ha hb]
  exact ⟨f, fun z => g (by omega)⟩
theorem pk_eq {x y : Int32} {A B : Prop} (a b : Nat) (f : a = b → A) (g : a ≠ b → B) (hx : x = nI a := by rfl) (hy : y = nI b := by rfl) (ha : a < 2 ^ 31 := by omega) (hb : b < 2 ^ 31 := by omega) : (x = y → A) ∧ (¬ x = y → B) := by
  subst hx hy
  rw [nI_eq ha hb]
  exact ⟨f, g⟩
theorem pk_in {x : Int32} (n N : Nat) (h : n < N) (hx : x = nI n := by rfl) (hN : N < 2 ^ 31 := by omega) : vp_in x N := by
  subst hx
  exact vp_in_nI h hN
theorem pk_cl {x : Int32} (n : Nat) (hx : x = nI n := by rfl) (h : n < 2 ^ 31 := by omega) : x.toNatClampNeg = n := by
  subst hx
  exact nI_clamp h
theorem pk_tn {n : Nat} (h : n < 2 ^ 32) : (nI n).toBitVec.toNat = n := Nat.mod_eq_of_lt h
theorem pk_shl (a s : Int32) (k : Nat) (hs : (s.toBitVec.smod 32).toNat = k) : (a <<< s).toBitVec.toNat = a.toBitVec.toNat * 2 ^ k % 2 ^ 32 := by
  show (a.toBitVec <<< (s.toBitVec.smod 32).toNat).toNat = _
  rw [hs, BitVec.toNat_shiftLeft, Nat.shiftLeft_eq]
theorem pk_shlN {n : Nat} (s : Int32) (k : Nat) (hs : (s.toBitVec.smod 32).toNat = k) (h : n * 2 ^ k < 2 ^ 32) : nI n <<< s = nI (n * 2 ^ k) := by
  apply Int32.toBitVec_inj.mp
  apply BitVec.eq_of_toNat_eq
  have hn : n < 2 ^ 32 := Nat.lt_of_le_of_lt (Nat.le_mul_of_pos_right n (Nat.two_pow_pos k)) h
  rw [pk_shl _ _ k hs, pk_tn hn, pk_tn h, Nat.mod_eq_of_lt h]
theorem pk_shr (a s : Int32) (k : Nat) (hs : (s.toBitVec.smod 32).toNat = k) : (a >>> s).toInt = a.toInt >>> k := by
  show (a.toBitVec.sshiftRight (s.toBitVec.smod 32).toNat).toInt = _
  rw [hs, BitVec.toInt_sshiftRight]
  rfl
theorem pk_shrN {n : Nat} (h : n < 2 ^ 31) (s : Int32) (k : Nat) (hs : (s.toBitVec.smod 32).toNat = k) : nI n >>> s = nI (n / 2 ^ k) := by
  apply Int32.toInt_inj.mp
  have h2 : n / 2 ^ k ≤ n := Nat.div_le_self _ _
  rw [pk_shr _ _ k hs, nI_toInt h, nI_toInt (by omega), Int.shiftRight_eq_div_pow]
  rfl
theorem pk_loop {σ : Type} (W : Nat → Nat → σ → Prop) (I : Nat → σ → Prop) (e i0 : Nat) (s : σ) (hi : i0 ≤ e) (h0 : I i0 s) (hx : ∀ n s, I e s → W (n + 1) e s)
    (hs : ∀ n i s, i < e → I i s → (∀ s', I (i + 1) s' → W n (i + 1) s') → W (n + 1) i s) : ∃ n, W n i0 s :=
  ⟨e + 1, loop_i W I e hx hs (e + 1) i0 s hi (by omega) h0⟩
theorem s_l : ∀ n, n < 32 → ((nI n &&& 31).toBitVec.smod 32).toNat = n := by decide +kernel
theorem nx_and (a b : Nat) : nI a &&& nI b = nI (a &&& b) := by
  apply Int32.toBitVec_inj.1
  show BitVec.ofNat 32 a &&& BitVec.ofNat 32 b = BitVec.ofNat 32 (a &&& b)
  apply BitVec.eq_of_getLsbD_eq
  intro i hi
  simp [hi]
theorem nx_xor (a b : Nat) : nI a ^^^ nI b = nI (a ^^^ b) := by
  apply Int32.toBitVec_inj.1
  show BitVec.ofNat 32 a ^^^ BitVec.ofNat 32 b = BitVec.ofNat 32 (a ^^^ b)
  apply BitVec.eq_of_getLsbD_eq
  intro i hi
  simp [hi]
/-! own rows on nI: or, one bit, a power, and-not -/
theorem tc_nor (a b : Nat) : nI a ||| nI b = nI (a ||| b) := by
  apply Int32.toBitVec_inj.1
  show BitVec.ofNat 32 a ||| BitVec.ofNat 32 b = BitVec.ofNat 32 (a ||| b)
  apply BitVec.eq_of_getLsbD_eq
  intro i hi
  simp [hi]
theorem tc_nshr {s p : Nat} (hs : s < 2 ^ 31) (hp : p < 32) : nI s >>> (nI p &&& 31) = nI (s / 2 ^ p) := pk_shrN hs _ p (s_l p hp)
theorem tc_nshl {a p : Nat} (hp : p < 32) (h : a * 2 ^ p < 2 ^ 32) : nI a <<< (nI p &&& 31) = nI (a * 2 ^ p) := pk_shlN _ p (s_l p hp) h
theorem tc_none {p : Nat} (hp : p < 32) : (1 : Int32) <<< (nI p &&& 31) = nI (2 ^ p) := by
  have h : 1 * 2 ^ p < 2 ^ 32 := by
    rw [Nat.one_mul]
    exact Nat.pow_lt_pow_right (by decide) hp
  have e := tc_nshl (a := 1) hp h
  rw [Nat.one_mul] at e
  exact e
def tc_b (s p : Nat) : Nat := if s.testBit p = true then 1 else 0
theorem tc_b_mod (s p : Nat) : tc_b s p = s / 2 ^ p % 2 := by
  unfold tc_b
  rw [Nat.testBit_eq_decide_div_mod_eq]
  generalize s / 2 ^ p = z
  by_cases h : z % 2 = 1
  · simp [h]
  · simp [h]
    omega
theorem tc_nbit {s p : Nat} (hs : s < 2 ^ 31) (hp : p < 32) : (nI s >>> (nI p &&& 31)) &&& 1 = nI (tc_b s p) := by
  rw [tc_nshr hs hp, tc_b_mod]
  show nI (s / 2 ^ p) &&& nI 1 = _
  rw [nx_and, Nat.and_one_is_mod]
theorem tc_b_t {s p : Nat} (h : s.testBit p = true) : tc_b s p = 1 := if_pos h
theorem tc_b_f {s p : Nat} (h : s.testBit p = false) : tc_b s p = 0 := if_neg (by rw [h]; decide)
theorem tc_nandnot (a b : Nat) : nI a &&& (nI b ^^^ (-1)) = nI (a ^^^ (a &&& b)) := by
  apply Int32.toBitVec_inj.1
  show BitVec.ofNat 32 a &&& (BitVec.ofNat 32 b ^^^ BitVec.allOnes 32) = BitVec.ofNat 32 (a ^^^ (a &&& b))
  apply BitVec.eq_of_getLsbD_eq
  intro i hi
  rw [BitVec.getLsbD_and, BitVec.getLsbD_xor, BitVec.getLsbD_allOnes, BitVec.getLsbD_ofNat, BitVec.getLsbD_ofNat, BitVec.getLsbD_ofNat, Nat.testBit_xor, Nat.testBit_and, decide_eq_true hi]
  cases a.testBit i <;> cases b.testBit i <;> rfl
theorem tc_le2 {a b c : Nat} (h : a < 2 ^ b) (hb : b ≤ c) : a < 2 ^ c := Nat.lt_of_lt_of_le h (Nat.pow_le_pow_right (by decide) hb)
theorem tc_sd0 {a b : Nat} : a ^^^ (a &&& b) = 0 ↔ ∀ i, a.testBit i = true → b.testBit i = true := by
  constructor
  · intro h i hi
    have e : (a ^^^ (a &&& b)).testBit i = false := by rw [h]; exact Nat.zero_testBit i
    rw [Nat.testBit_xor, Nat.testBit_and, hi] at e
    cases hb : b.testBit i
    · rw [hb] at e; exact absurd e (by decide)
    · rfl
  · intro h
    apply Nat.eq_of_testBit_eq
    intro i
    rw [Nat.testBit_xor, Nat.testBit_and, Nat.zero_testBit]
    cases ha : a.testBit i
    · rfl
    · rw [h i ha] <;> rfl
theorem tc_sd_lt {a b c : Nat} (h : a < 2 ^ c) : a ^^^ (a &&& b) < 2 ^ c := by
  apply Nat.lt_pow_two_of_testBit
  intro i hi
  rw [Nat.testBit_xor, Nat.testBit_and, Nat.testBit_lt_two_pow (tc_le2 h hi)]
  rfl
end
section
/-! the pairs and their two vertices; sizes; one round over the pairs; rounds -/
def tc_lo (p : Nat) : Nat := [0, 0, 1, 0, 1, 2, 0, 1, 2, 3, 0, 1, 2, 3, 4].getD p 0
def tc_hi (p : Nat) : Nat := [1, 2, 2, 3, 3, 3, 4, 4, 4, 4, 5, 5, 5, 5, 5].getD p 0
def tc_E (p : Nat) : Nat := 2 ^ tc_lo p ||| 2 ^ tc_hi p
def tc_P (n : Nat) : Nat := n * (n - 1) / 2
def tc_pair (u v : Nat) : Nat := if u < v then v * (v - 1) / 2 + u else u * (u - 1) / 2 + v
def tc_sz (s : Nat) : Nat → Nat
  | 0 => 0
  | k + 1 => tc_sz s k + tc_b s k
def tc_st (s p r : Nat) : Nat := if s.testBit p = true ∧ r &&& tc_E p ≠ 0 then r ||| tc_E p else r
def tc_rd (s r : Nat) : Nat → Nat
  | 0 => r
  | k + 1 => tc_st s k (tc_rd s r k)
def tc_rs (s k r : Nat) : Nat → Nat
  | 0 => r
  | j + 1 => tc_rd s (tc_rs s k r j) k
def tc_su (a b : Nat) : Prop := ∀ i, a.testBit i = true → b.testBit i = true
def tc_cl (s k C : Nat) : Prop := ∀ p, p < k → s.testBit p = true → C.testBit (tc_lo p) = C.testBit (tc_hi p)
theorem tc_P_le : ∀ n, n < 7 → tc_P n ≤ 15 := by decide +kernel
theorem tc_lohi : ∀ n, n < 7 → ∀ p, p < tc_P n → tc_lo p < n ∧ tc_hi p < n ∧ tc_E p < 2 ^ n := by decide +kernel
theorem tc_pair_in : ∀ n, n < 7 → ∀ u, u < n → ∀ v, v < n → u ≠ v → tc_pair u v < tc_P n := by decide +kernel
theorem tc_pair_lh : ∀ u, u < 6 → ∀ v, v < 6 → u ≠ v → (tc_lo (tc_pair u v) = u ∧ tc_hi (tc_pair u v) = v) ∨ (tc_lo (tc_pair u v) = v ∧ tc_hi (tc_pair u v) = u) := by decide +kernel
theorem tc_pair_E : ∀ u, u < 6 → ∀ v, v < 6 → u ≠ v → 2 ^ u ||| 2 ^ v = tc_E (tc_pair u v) := by decide +kernel
theorem tc_meet (r p : Nat) : r &&& tc_E p ≠ 0 ↔ r.testBit (tc_lo p) = true ∨ r.testBit (tc_hi p) = true := by
  constructor
  · intro h
    obtain ⟨i, hi⟩ := Nat.exists_testBit_of_ne_zero h
    rw [Nat.testBit_and, tc_E, Nat.testBit_or, Nat.testBit_two_pow, Nat.testBit_two_pow] at hi
    simp only [Bool.and_eq_true, Bool.or_eq_true, decide_eq_true_eq] at hi
    rcases hi with ⟨a, rfl | rfl⟩
    · exact Or.inl a
    · exact Or.inr a
  · intro h e
    have z : ∀ i, (r &&& tc_E p).testBit i = false := fun i => by rw [e]; exact Nat.zero_testBit i
    rcases h with h | h
    · have y := z (tc_lo p)
      rw [Nat.testBit_and, h, tc_E, Nat.testBit_or, Nat.testBit_two_pow_self, Bool.true_or] at y
      exact absurd y (by decide)
    · have y := z (tc_hi p)
      rw [Nat.testBit_and, h, tc_E, Nat.testBit_or, Nat.testBit_two_pow_self (n := tc_hi p), Bool.or_true] at y
      exact absurd y (by decide)
theorem tc_st_bit (s p r i : Nat) : (tc_st s p r).testBit i = true ↔ r.testBit i = true ∨ (s.testBit p = true ∧ (r.testBit (tc_lo p) = true ∨ r.testBit (tc_hi p) = true) ∧ (i = tc_lo p ∨ i = tc_hi p)) := by
  unfold tc_st
  split
  · next h' =>
    have h : s.testBit p = true ∧ (r.testBit (tc_lo p) = true ∨ r.testBit (tc_hi p) = true) := ⟨h'.1, (tc_meet r p).mp h'.2⟩
    rw [Nat.testBit_or, tc_E, Nat.testBit_or, Nat.testBit_two_pow, Nat.testBit_two_pow]
    simp only [Bool.or_eq_true, decide_eq_true_eq]
    constructor
    · rintro (a | a | a)
      · exact Or.inl a
      · exact Or.inr ⟨h.1, h.2, Or.inl a.symm⟩
      · exact Or.inr ⟨h.1, h.2, Or.inr a.symm⟩
    · rintro (a | ⟨_, _, a | a⟩)
      · exact Or.inl a
      · exact Or.inr (Or.inl a.symm)
      · exact Or.inr (Or.inr a.symm)
  · next h =>
    constructor
    · exact Or.inl
    · rintro (a | ⟨b, c, _⟩)
      · exact a
      · exact absurd ⟨b, (tc_meet r p).mpr c⟩ h
theorem tc_st_mono {s p r i : Nat} (h : r.testBit i = true) : (tc_st s p r).testBit i = true := (tc_st_bit s p r i).mpr (Or.inl h)
theorem tc_rd_mono {s r i : Nat} (h : r.testBit i = true) : ∀ k, (tc_rd s r k).testBit i = true := by
  intro k
  induction k with
  | zero => exact h
  | succ k ih => exact tc_st_mono ih
theorem tc_rs_mono {s k r i : Nat} (h : r.testBit i = true) : ∀ j, (tc_rs s k r j).testBit i = true := by
  intro j
  induction j with
  | zero => exact h
  | succ j ih => exact tc_rd_mono ih k
theorem tc_rd_least {s C r : Nat} (hr : tc_su r C) : ∀ k, tc_cl s k C → tc_su (tc_rd s r k) C := by
  intro k
  induction k with
  | zero => intro _; exact hr
  | succ k ih =>
    intro h i hi
    have ihk := ih (fun p hp => h p (by omega))
    have hi' := (tc_st_bit s k (tc_rd s r k) i).mp hi
    rcases hi' with a | ⟨b, c, d⟩
    · exact ihk i a
    · have e := h k (by omega) b
      have f : C.testBit (tc_lo k) = true := by
        rcases c with c | c
        · exact ihk _ c
        · rw [e]; exact ihk _ c
      rcases d with d | d
      · rw [d]; exact f
      · rw [d, ← e]; exact f
theorem tc_rs_least {s k C r : Nat} (hr : tc_su r C) (hc : tc_cl s k C) : ∀ j, tc_su (tc_rs s k r j) C := by
  intro j
  induction j with
  | zero => exact hr
  | succ j ih => exact tc_rd_least ih k hc
theorem tc_rd_cl {s r : Nat} : ∀ k, tc_su (tc_rd s r k) r → tc_cl s k r := by
  intro k
  induction k with
  | zero => intro _ p hp; exact absurd hp (Nat.not_lt_zero p)
  | succ k ih =>
    intro h p hp hs
    rcases Nat.lt_or_ge p k with e | e
    · exact ih (fun i hi => h i (tc_st_mono hi)) p e hs
    · have e2 : p = k := by omega
      rw [e2] at hs ⊢
      have t : ∀ i j, (i = tc_lo k ∨ i = tc_hi k) → (j = tc_lo k ∨ j = tc_hi k) → r.testBit i = true → r.testBit j = true := by
        intro i j hi hj a
        apply h
        apply (tc_st_bit s k (tc_rd s r k) j).mpr
        refine Or.inr ⟨hs, ?_, hj⟩
        have m := tc_rd_mono (s := s) a k
        rcases hi with hi | hi
        · rw [hi] at m; exact Or.inl m
        · rw [hi] at m; exact Or.inr m
      exact Bool.eq_iff_iff.mpr ⟨t _ _ (Or.inl rfl) (Or.inr rfl), t _ _ (Or.inr rfl) (Or.inl rfl)⟩
theorem tc_pc_lt : ∀ a, a < 64 → ∀ b, b < 64 → a &&& b = a → a ≠ b → tc_sz a 6 < tc_sz b 6 := by decide +kernel
theorem tc_pc_full : ∀ n, n < 7 → ∀ r, r < 64 → r < 2 ^ n → n ≤ tc_sz r 6 → r = 2 ^ n - 1 := by decide +kernel
theorem tc_pc_one : ∀ u, u < 6 → 1 ≤ tc_sz (2 ^ u) 6 := by decide +kernel
theorem tc_su_and {a b : Nat} (h : tc_su a b) : a &&& b = a := by
  apply Nat.eq_of_testBit_eq
  intro i
  rw [Nat.testBit_and]
  cases ha : a.testBit i
  · rfl
  · rw [h i ha] <;> rfl
theorem tc_64 {n x : Nat} (hn : n < 7) (h : x < 2 ^ n) : x < 64 := tc_le2 (c := 6) h (by omega)
theorem tc_rd_lt {s r n : Nat} (hn : n < 7) (hr : r < 2 ^ n) : ∀ k, k ≤ tc_P n → tc_rd s r k < 2 ^ n := by
  intro k
  induction k with
  | zero => intro _; exact hr
  | succ k ih =>
    intro hk
    have h1 := ih (by omega)
    have h2 := (tc_lohi n hn k (by omega)).2.2
    show tc_st s k (tc_rd s r k) < 2 ^ n
    unfold tc_st
    split
    · exact Nat.or_lt_two_pow h1 h2
    · exact h1
theorem tc_rs_lt {s r n : Nat} (hn : n < 7) (hr : r < 2 ^ n) : ∀ j, tc_rs s (tc_P n) r j < 2 ^ n := by
  intro j
  induction j with
  | zero => exact hr
  | succ j ih => exact tc_rd_lt hn ih _ (Nat.le_refl _)
theorem tc_grow {s r n : Nat} (hn : n < 7) (hr : r < 2 ^ n) (h1 : 1 ≤ tc_sz r 6) : ∀ j, tc_rd s (tc_rs s (tc_P n) r j) (tc_P n) = tc_rs s (tc_P n) r j ∨ j + 1 ≤ tc_sz (tc_rs s (tc_P n) r j) 6 := by
  intro j
  induction j with
  | zero => exact Or.inr h1
  | succ j ih =>
    have hd : tc_rs s (tc_P n) r (j + 1) = tc_rd s (tc_rs s (tc_P n) r j) (tc_P n) := rfl
    have b1 := tc_rs_lt (s := s) hn hr j
    have b2 := tc_rs_lt (s := s) hn hr (j + 1)
    have hsu : tc_su (tc_rs s (tc_P n) r j) (tc_rs s (tc_P n) r (j + 1)) := fun i hi => tc_rd_mono hi _
    generalize tc_rs s (tc_P n) r (j + 1) = y at *
    generalize tc_rs s (tc_P n) r j = x at *
    by_cases e : tc_rd s x (tc_P n) = x
    · left
      rw [hd, e]
      exact e
    · right
      have ih' := ih.resolve_left e
      have l := tc_pc_lt x (tc_64 hn b1) y (tc_64 hn b2) (tc_su_and hsu) (fun z => e (hd.symm.trans z.symm))
      omega
theorem tc_fix {s r n : Nat} (hn : n < 7) (h2 : 1 ≤ n) (hr : r < 2 ^ n) (h1 : 1 ≤ tc_sz r 6) : tc_rd s (tc_rs s (tc_P n) r (n - 1)) (tc_P n) = tc_rs s (tc_P n) r (n - 1) := by
  rcases tc_grow (s := s) hn hr h1 (n - 1) with e | e
  · exact e
  · have b := tc_rs_lt (s := s) hn hr (n - 1)
    have f := tc_pc_full n hn _ (tc_64 hn b) b (by omega)
    have l := tc_rd_lt (s := s) hn b (tc_P n) (Nat.le_refl _)
    have g : tc_rs s (tc_P n) r (n - 1) ≤ tc_rd s (tc_rs s (tc_P n) r (n - 1)) (tc_P n) := Nat.le_of_testBit (fun i hi => tc_rd_mono hi _)
    generalize tc_rd s (tc_rs s (tc_P n) r (n - 1)) (tc_P n) = y at *
    generalize tc_rs s (tc_P n) r (n - 1) = x at *
    generalize 2 ^ n = z at *
    omega
/-! what is reached from u: the least closed set that holds u -/
def tc_C (s n u : Nat) : Nat := tc_rs s (tc_P n) (2 ^ u) (n - 1)
theorem tc_2u {n u : Nat} (hu : u < n) : 2 ^ u < 2 ^ n := Nat.pow_lt_pow_right (by decide) hu
theorem tc_C_lt {s n u : Nat} (hn : n < 7) (hu : u < n) : tc_C s n u < 2 ^ n := tc_rs_lt hn (tc_2u hu) _
theorem tc_C_mem (s n u : Nat) : (tc_C s n u).testBit u = true := tc_rs_mono Nat.testBit_two_pow_self _
theorem tc_C_fix {s n u : Nat} (hn : n < 7) (hu : u < n) : tc_rd s (tc_C s n u) (tc_P n) = tc_C s n u := tc_fix hn (by omega) (tc_2u hu) (tc_pc_one u (by omega))
theorem tc_C_cl {s n u : Nat} (hn : n < 7) (hu : u < n) : tc_cl s (tc_P n) (tc_C s n u) := by
  apply tc_rd_cl
  rw [tc_C_fix hn hu]
  exact fun i hi => hi
theorem tc_C_least {s n u D : Nat} (hc : tc_cl s (tc_P n) D) (hu : D.testBit u = true) : tc_su (tc_C s n u) D := by
  refine tc_rs_least ?_ hc _
  intro i hi
  rw [Nat.testBit_two_pow] at hi
  have e := of_decide_eq_true hi
  rw [← e]
  exact hu
theorem tc_full {C n : Nat} (h : C < 2 ^ n) : C = 2 ^ n - 1 ↔ ∀ i, i < n → C.testBit i = true := by
  constructor
  · intro e i hi
    rw [e, Nat.testBit_two_pow_sub_one]
    exact decide_eq_true hi
  · intro f
    apply Nat.eq_of_testBit_eq
    intro i
    rw [Nat.testBit_two_pow_sub_one]
    rcases Nat.lt_or_ge i n with z | z
    · rw [f i z, decide_eq_true z]
    · rw [Nat.testBit_lt_two_pow (tc_le2 h z), decide_eq_false (by omega)]
def tc_co (n D : Nat) : Nat := (2 ^ n - 1) ^^^ D
theorem tc_co_bit {n D i : Nat} (hi : i < n) : (tc_co n D).testBit i = !(D.testBit i) := by
  unfold tc_co
  rw [Nat.testBit_xor, Nat.testBit_two_pow_sub_one, decide_eq_true hi]
  cases D.testBit i <;> rfl
theorem tc_co_cl {s n D : Nat} (hn : n < 7) (h : tc_cl s (tc_P n) D) : tc_cl s (tc_P n) (tc_co n D) := by
  intro p hp hs
  have l := tc_lohi n hn p hp
  rw [tc_co_bit l.1, tc_co_bit l.2.1, h p hp hs]
theorem tc_or_bit (s p q : Nat) : (s ||| 2 ^ p).testBit q = true ↔ s.testBit q = true ∨ q = p := by
  rw [Nat.testBit_or, Nat.testBit_two_pow, Bool.or_eq_true, decide_eq_true_eq]
  constructor
  · rintro (a | a)
    · exact Or.inl a
    · exact Or.inr a.symm
  · rintro (a | a)
    · exact Or.inl a
    · exact Or.inr a.symm
theorem tc_apart1 {n s u v : Nat} (hn : n < 7) (hu : u < n) (hv : v < n) (huv : u ≠ v) (h : tc_C s n u ||| tc_C s n v = 2 ^ n - 1) : tc_C (s ||| 2 ^ tc_pair u v) n 0 = 2 ^ n - 1 := by
  have n0 : 0 < n := by omega
  have hp := tc_pair_in n hn u hu v hv huv
  have lh := tc_pair_lh u (by omega) v (by omega) huv
  have hA := tc_C_cl (s := s) hn hu
  have hB := tc_C_cl (s := s) hn hv
  have F := (tc_full (Nat.or_lt_two_pow (tc_C_lt (s := s) hn hu) (tc_C_lt (s := s) hn hv))).mp h
  have hD := tc_C_cl (s := s ||| 2 ^ tc_pair u v) hn n0
  have m0 := tc_C_mem (s ||| 2 ^ tc_pair u v) n 0
  have bD := tc_C_lt (s := s ||| 2 ^ tc_pair u v) hn n0
  generalize tc_C (s ||| 2 ^ tc_pair u v) n 0 = D at *
  have hDs : tc_cl s (tc_P n) D := fun p hp hs => hD p hp ((tc_or_bit s _ p).mpr (Or.inl hs))
  have hDp := hD _ hp ((tc_or_bit s _ _).mpr (Or.inr rfl))
  have huv2 : D.testBit u = D.testBit v := by
    rcases lh with ⟨a, b⟩ | ⟨a, b⟩
    · rw [a, b] at hDp; exact hDp
    · rw [a, b] at hDp; exact hDp.symm
  have mu : D.testBit u = true := by
    cases hx : D.testBit u
    · exfalso
      have cu : (tc_co n D).testBit u = true := by rw [tc_co_bit hu, hx] <;> rfl
      have cv : (tc_co n D).testBit v = true := by rw [tc_co_bit hv, ← huv2, hx] <;> rfl
      have f0 := F 0 n0
      rw [Nat.testBit_or, Bool.or_eq_true] at f0
      have z : (tc_co n D).testBit 0 = true := by
        rcases f0 with f0 | f0
        · exact tc_C_least (tc_co_cl hn hDs) cu 0 f0
        · exact tc_C_least (tc_co_cl hn hDs) cv 0 f0
      rw [tc_co_bit n0, m0] at z
      exact absurd z (by decide)
    · rfl
  have mv : D.testBit v = true := by rw [← huv2]; exact mu
  apply (tc_full bD).mpr
  intro i hi
  have fi := F i hi
  rw [Nat.testBit_or, Bool.or_eq_true] at fi
  rcases fi with fi | fi
  · exact tc_C_least hDs mu i fi
  · exact tc_C_least hDs mv i fi
theorem tc_apart2 {n s u v : Nat} (hn : n < 7) (hu : u < n) (hv : v < n) (huv : u ≠ v) (h : tc_C (s ||| 2 ^ tc_pair u v) n 0 = 2 ^ n - 1) : tc_C s n u ||| tc_C s n v = 2 ^ n - 1 := by
  have n0 : 0 < n := by omega
  have lh := tc_pair_lh u (by omega) v (by omega) huv
  have hA := tc_C_cl (s := s) hn hu
  have hB := tc_C_cl (s := s) hn hv
  have bD := Nat.or_lt_two_pow (tc_C_lt (s := s) hn hu) (tc_C_lt (s := s) hn hv)
  have F := (tc_full (tc_C_lt (s := s ||| 2 ^ tc_pair u v) hn n0)).mp h
  have mA := tc_C_mem s n u
  have mB := tc_C_mem s n v
  have du : (tc_C s n u ||| tc_C s n v).testBit u = true := by rw [Nat.testBit_or, mA] <;> rfl
  have dv : (tc_C s n u ||| tc_C s n v).testBit v = true := by rw [Nat.testBit_or, mB, Bool.or_true]
  have hD : tc_cl (s ||| 2 ^ tc_pair u v) (tc_P n) (tc_C s n u ||| tc_C s n v) := by
    intro q hq hs
    rcases (tc_or_bit s _ q).mp hs with a | a
    · rw [Nat.testBit_or, Nat.testBit_or, hA q hq a, hB q hq a]
    · rw [a]
      rcases lh with ⟨x, y⟩ | ⟨x, y⟩
      · rw [x, y, du, dv]
      · rw [x, y, du, dv]
  generalize tc_C s n u ||| tc_C s n v = D at *
  have m0 : D.testBit 0 = true := by
    cases hx : D.testBit 0
    · exfalso
      have c0 : (tc_co n D).testBit 0 = true := by rw [tc_co_bit n0, hx] <;> rfl
      have z := tc_C_least (tc_co_cl hn hD) c0 u (F u hu)
      rw [tc_co_bit hu, du] at z
      exact absurd z (by decide)
    · rfl
  apply (tc_full bD).mpr
  intro i hi
  exact tc_C_least hD m0 i (F i hi)
end
section
/-! sums over the sets below N -/
def tc_S (f : Nat → Nat) : Nat → Nat
  | 0 => 0
  | i + 1 => tc_S f i + f i
theorem tc_S_congr {f g : Nat → Nat} : ∀ N, (∀ i, i < N → f i = g i) → tc_S f N = tc_S g N := by
  intro N
  induction N with
  | zero => intro _; rfl
  | succ N ih =>
    intro h
    show tc_S f N + f N = tc_S g N + g N
    rw [ih (fun i hi => h i (by omega)), h N (by omega)]
theorem tc_S_add (f : Nat → Nat) (a : Nat) : ∀ b, tc_S f (a + b) = tc_S f a + tc_S (fun i => f (a + i)) b := by
  intro b
  induction b with
  | zero => rfl
  | succ b ih =>
    show tc_S f (a + b) + f (a + b) = tc_S f a + (tc_S (fun i => f (a + i)) b + f (a + b))
    rw [ih, Nat.add_assoc]
theorem tc_S_pow (f : Nat → Nat) (k : Nat) : tc_S f (2 ^ (k + 1)) = tc_S f (2 ^ k) + tc_S (fun i => f (2 ^ k + i)) (2 ^ k) := by
  rw [Nat.pow_succ, Nat.mul_two]
  exact tc_S_add f _ _
theorem tc_S_zero {f : Nat → Nat} : ∀ N, (∀ i, i < N → f i = 0) → tc_S f N = 0 := by
  intro N
  induction N with
  | zero => intro _; rfl
  | succ N ih =>
    intro h
    show tc_S f N + f N = 0
    rw [ih (fun i hi => h i (by omega)), h N (by omega)]
theorem tc_S_eq0 {f : Nat → Nat} : ∀ N, tc_S f N = 0 → ∀ i, i < N → f i = 0 := by
  intro N
  induction N with
  | zero => intro _ i hi; exact absurd hi (Nat.not_lt_zero i)
  | succ N ih =>
    intro h i hi
    have h' : tc_S f N + f N = 0 := h
    rcases Nat.lt_or_ge i N with z | z
    · exact ih (by omega) i z
    · have e : i = N := by omega
      rw [e]; omega
theorem tc_S_le {f g : Nat → Nat} : ∀ N, (∀ i, i < N → f i ≤ g i) → tc_S f N ≤ tc_S g N := by
  intro N
  induction N with
  | zero => intro _; exact Nat.le_refl _
  | succ N ih =>
    intro h
    show tc_S f N + f N ≤ tc_S g N + g N
    exact Nat.add_le_add (ih (fun i hi => h i (by omega))) (h N (by omega))
theorem tc_S_plus (f g : Nat → Nat) : ∀ N, tc_S (fun i => f i + g i) N = tc_S f N + tc_S g N := by
  intro N
  induction N with
  | zero => rfl
  | succ N ih =>
    show tc_S (fun i => f i + g i) N + (f N + g N) = tc_S f N + f N + (tc_S g N + g N)
    rw [ih]; omega
theorem tc_S_mul (f : Nat → Nat) (c : Nat) : ∀ N, tc_S (fun i => f i * c) N = tc_S f N * c := by
  intro N
  induction N with
  | zero => exact (Nat.zero_mul c).symm
  | succ N ih =>
    show tc_S (fun i => f i * c) N + f N * c = (tc_S f N + f N) * c
    rw [ih, Nat.add_mul]
theorem tc_S_mono {f : Nat → Nat} {a b : Nat} (h : a ≤ b) : tc_S f a ≤ tc_S f b := by
  obtain ⟨c, rfl⟩ : ∃ c, b = a + c := ⟨b - a, by omega⟩
  rw [tc_S_add]
  exact Nat.le_add_right _ _
/-! bits and sizes of 2^K + s -/
theorem tc_b_hi {s k : Nat} (h : s < 2 ^ k) : tc_b s k = 0 := tc_b_f (Nat.testBit_lt_two_pow h)
theorem tc_tb_add {s K k : Nat} (h : k < K) : (2 ^ K + s).testBit k = s.testBit k := Nat.testBit_two_pow_add_gt h s
theorem tc_tb_top {s K : Nat} (h : s < 2 ^ K) : (2 ^ K + s).testBit K = true := by
  rw [Nat.testBit_two_pow_add_eq, Nat.testBit_lt_two_pow h] <;> rfl
theorem tc_sz_add {s K : Nat} : ∀ k, k ≤ K → tc_sz (2 ^ K + s) k = tc_sz s k := by
  intro k
  induction k with
  | zero => intro _; rfl
  | succ k ih =>
    intro h
    show tc_sz (2 ^ K + s) k + tc_b (2 ^ K + s) k = tc_sz s k + tc_b s k
    have e : tc_b (2 ^ K + s) k = tc_b s k := by unfold tc_b; rw [tc_tb_add (by omega)]
    rw [ih (by omega), e]
/-! the sum over the sets of j pairs, walked by the top pair -/
def tc_T (f : Nat → Nat) : Nat → Nat → Nat → Nat
  | 0, j, a => bif Nat.beq j 0 then f a else 0
  | k + 1, j, a => bif Nat.beq j 0 then tc_T f k 0 a else tc_T f k j a + tc_T f k (j - 1) (a + 2 ^ k)
theorem tc_T_eq (f : Nat → Nat) : ∀ k j a, tc_T f k j a = tc_S (fun s => if tc_sz s k = j then f (a + s) else 0) (2 ^ k) := by
  intro k
  induction k with
  | zero =>
    intro j a
    show (bif Nat.beq j 0 then f a else 0) = 0 + (if 0 = j then f (a + 0) else 0)
    cases j with
    | zero => exact (Nat.zero_add _).symm
    | succ j => rfl
  | succ k ih =>
    intro j a
    rw [tc_S_pow]
    have e1 : tc_S (fun s => if tc_sz s (k + 1) = j then f (a + s) else 0) (2 ^ k) = tc_T f k j a := by
      rw [ih]
      apply tc_S_congr
      intro s hs
      have e : tc_sz s (k + 1) = tc_sz s k := by show tc_sz s k + tc_b s k = _; rw [tc_b_hi hs] <;> rfl
      show (if tc_sz s (k + 1) = j then f (a + s) else 0) = _
      rw [e]
    have e2 : ∀ s, s < 2 ^ k → tc_sz (2 ^ k + s) (k + 1) = tc_sz s k + 1 := by
      intro s hs
      show tc_sz (2 ^ k + s) k + tc_b (2 ^ k + s) k = _
      rw [tc_sz_add k (Nat.le_refl _), tc_b_t (tc_tb_top hs)]
    rw [e1]
    cases j with
    | zero =>
      have z : tc_S (fun i => if tc_sz (2 ^ k + i) (k + 1) = 0 then f (a + (2 ^ k + i)) else 0) (2 ^ k) = 0 := by
        apply tc_S_zero
        intro s hs
        show (if tc_sz (2 ^ k + s) (k + 1) = 0 then f (a + (2 ^ k + s)) else 0) = 0
        rw [e2 s hs, if_neg (by omega)]
      exact (congrArg (fun x => tc_T f k 0 a + x) z).symm
    | succ j =>
      show tc_T f k (j + 1) a + tc_T f k (j + 1 - 1) (a + 2 ^ k) = _
      rw [ih (j + 1 - 1)]
      congr 1
      apply tc_S_congr
      intro s hs
      show (if tc_sz s k = j + 1 - 1 then f (a + 2 ^ k + s) else 0) = (if tc_sz (2 ^ k + s) (k + 1) = j + 1 then f (a + (2 ^ k + s)) else 0)
      rw [e2 s hs, Nat.add_assoc, Nat.add_sub_cancel]
      by_cases z : tc_sz s k = j
      · rw [if_pos z, if_pos (by omega)]
      · rw [if_neg z, if_neg (by omega)]
/-! the same rounds in a form that Lean's kernel walks fast -/
def tc_ks (s e q r : Nat) : Nat := Nat.lor r (bif Nat.beq (Nat.land s e) 0 then 0 else bif Nat.beq (Nat.land r q) 0 then 0 else q)
theorem tc_and2 (s p : Nat) : s &&& 2 ^ p = 0 ↔ s.testBit p = false := by
  constructor
  · intro h
    have e : (s &&& 2 ^ p).testBit p = false := by rw [h]; exact Nat.zero_testBit p
    rw [Nat.testBit_and, Nat.testBit_two_pow_self, Bool.and_true] at e
    exact e
  · intro h
    apply Nat.eq_of_testBit_eq
    intro i
    rw [Nat.testBit_and, Nat.testBit_two_pow, Nat.zero_testBit]
    by_cases e : p = i
    · rw [← e, h] <;> rfl
    · rw [decide_eq_false e, Bool.and_false]
theorem tc_and_pow (s p : Nat) : s &&& 2 ^ p = 2 ^ p ↔ s.testBit p = true := by
  constructor
  · intro h
    have e : (s &&& 2 ^ p).testBit p = true := by rw [h]; exact Nat.testBit_two_pow_self
    rw [Nat.testBit_and, Nat.testBit_two_pow_self, Bool.and_true] at e
    exact e
  · intro h
    apply Nat.eq_of_testBit_eq
    intro i
    rw [Nat.testBit_and, Nat.testBit_two_pow]
    by_cases y : p = i
    · rw [← y, h] <;> rfl
    · rw [decide_eq_false y, Bool.and_false]
theorem tc_beq0 (x : Nat) : Nat.beq x 0 = decide (x = 0) := by
  cases x with
  | zero => rfl
  | succ x => exact (decide_eq_false (Nat.succ_ne_zero x)).symm
theorem tc_ks_eq (s p r : Nat) : tc_ks s (2 ^ p) (tc_E p) r = tc_st s p r := by
  unfold tc_ks tc_st
  rw [tc_beq0, tc_beq0]
  show r ||| (bif decide (s &&& 2 ^ p = 0) then 0 else bif decide (r &&& tc_E p = 0) then 0 else tc_E p) = _
  by_cases h1 : s.testBit p = true
  · have a : ¬ s &&& 2 ^ p = 0 := by rw [tc_and2, h1]; decide
    rw [decide_eq_false a]
    by_cases h2 : r &&& tc_E p = 0
    · rw [decide_eq_true h2, if_neg (fun z => z.2 h2)]
      exact Nat.or_zero r
    · rw [decide_eq_false h2, if_pos ⟨h1, h2⟩] <;> rfl
  · have a : s &&& 2 ^ p = 0 := by rw [tc_and2]; exact Bool.eq_false_iff.mpr h1
    rw [decide_eq_true a, if_neg (fun z => h1 z.1)]
    exact Nat.or_zero r
theorem tc_kr {s r x : Nat} (k : Nat) {e q : Nat} (he : 2 ^ k = e) (hq : tc_E k = q) (hx : x = tc_rd s r k) : tc_ks s e q x = tc_rd s r (k + 1) := by
  rw [← he, ← hq, hx]
  exact tc_ks_eq s k _
def tc_k2 (s r : Nat) : Nat := tc_ks s 1 3 r
def tc_k3 (s r : Nat) : Nat := tc_ks s 4 6 (tc_ks s 2 5 (tc_k2 s r))
def tc_k4 (s r : Nat) : Nat := tc_ks s 32 12 (tc_ks s 16 10 (tc_ks s 8 9 (tc_k3 s r)))
def tc_k5 (s r : Nat) : Nat := tc_ks s 512 24 (tc_ks s 256 20 (tc_ks s 128 18 (tc_ks s 64 17 (tc_k4 s r))))
def tc_k6 (s r : Nat) : Nat := tc_ks s 16384 48 (tc_ks s 8192 40 (tc_ks s 4096 36 (tc_ks s 2048 34 (tc_ks s 1024 33 (tc_k5 s r)))))
theorem tc_k2_eq (s r : Nat) : tc_k2 s r = tc_rd s r 1 := tc_kr 0 (by decide) (by decide) rfl
theorem tc_k3_eq (s r : Nat) : tc_k3 s r = tc_rd s r 3 := tc_kr 2 (by decide) (by decide) (tc_kr 1 (by decide) (by decide) (tc_k2_eq s r))
theorem tc_k4_eq (s r : Nat) : tc_k4 s r = tc_rd s r 6 := tc_kr 5 (by decide) (by decide) (tc_kr 4 (by decide) (by decide) (tc_kr 3 (by decide) (by decide) (tc_k3_eq s r)))
theorem tc_k5_eq (s r : Nat) : tc_k5 s r = tc_rd s r 10 := tc_kr 9 (by decide) (by decide) (tc_kr 8 (by decide) (by decide) (tc_kr 7 (by decide) (by decide) (tc_kr 6 (by decide) (by decide) (tc_k4_eq s r))))
theorem tc_k6_eq (s r : Nat) : tc_k6 s r = tc_rd s r 15 := tc_kr 14 (by decide) (by decide) (tc_kr 13 (by decide) (by decide) (tc_kr 12 (by decide) (by decide) (tc_kr 11 (by decide) (by decide) (tc_kr 10 (by decide) (by decide) (tc_k5_eq s r)))))
def tc_kc2 (s : Nat) : Nat := bif Nat.beq (tc_k2 s 1) 3 then 1 else 0
def tc_kc3 (s : Nat) : Nat := bif Nat.beq (tc_k3 s (tc_k3 s 1)) 7 then 1 else 0
def tc_kc4 (s : Nat) : Nat := bif Nat.beq (tc_k4 s (tc_k4 s (tc_k4 s 1))) 15 then 1 else 0
def tc_kc5 (s : Nat) : Nat := bif Nat.beq (tc_k5 s (tc_k5 s (tc_k5 s (tc_k5 s 1)))) 31 then 1 else 0
def tc_kc6 (s : Nat) : Nat := bif Nat.beq (tc_k6 s (tc_k6 s (tc_k6 s (tc_k6 s (tc_k6 s 1))))) 63 then 1 else 0
theorem tc_kif {x y a b : Nat} (hx : x = a) (hy : y = b) : (bif Nat.beq x y then 1 else 0) = if a = b then 1 else 0 := by
  subst hx hy
  by_cases h : x = y
  · rw [if_pos h, Nat.beq_eq.mpr h] <;> rfl
  · have e : Nat.beq x y = false := Bool.eq_false_iff.mpr (fun z => h (Nat.beq_eq.mp z))
    rw [if_neg h, e] <;> rfl
theorem tc_kc2_eq (s : Nat) : tc_kc2 s = if tc_C s 2 0 = 2 ^ 2 - 1 then 1 else 0 := tc_kif (by rw [tc_k2_eq] <;> rfl) (by decide)
theorem tc_kc3_eq (s : Nat) : tc_kc3 s = if tc_C s 3 0 = 2 ^ 3 - 1 then 1 else 0 := tc_kif (by rw [tc_k3_eq, tc_k3_eq] <;> rfl) (by decide)
theorem tc_kc4_eq (s : Nat) : tc_kc4 s = if tc_C s 4 0 = 2 ^ 4 - 1 then 1 else 0 := tc_kif (by rw [tc_k4_eq, tc_k4_eq, tc_k4_eq] <;> rfl) (by decide)
theorem tc_kc5_eq (s : Nat) : tc_kc5 s = if tc_C s 5 0 = 2 ^ 5 - 1 then 1 else 0 := tc_kif (by rw [tc_k5_eq, tc_k5_eq, tc_k5_eq, tc_k5_eq] <;> rfl) (by decide)
theorem tc_kc6_eq (s : Nat) : tc_kc6 s = if tc_C s 6 0 = 2 ^ 6 - 1 then 1 else 0 := tc_kif (by rw [tc_k6_eq, tc_k6_eq, tc_k6_eq, tc_k6_eq, tc_k6_eq] <;> rfl) (by decide)
/-! reckoned by the kernel: how many sets of five pairs connect six vertices; n - 2 pairs connect no n vertices -/
theorem tc_r6 : tc_T tc_kc6 15 5 0 ≤ 1296 := by decide +kernel
theorem tc_f6 : tc_T tc_kc6 15 4 0 = 0 := by decide +kernel
theorem tc_f5 : tc_T tc_kc5 10 3 0 = 0 := by decide +kernel
theorem tc_f4 : tc_T tc_kc4 6 2 0 = 0 := by decide +kernel
theorem tc_f3 : tc_T tc_kc3 3 1 0 = 0 := by decide +kernel
theorem tc_f2 : tc_T tc_kc2 1 0 0 = 0 := by decide +kernel
theorem tc_few_of {n K : Nat} {kc : Nat → Nat} (hk : ∀ s, kc s = if tc_C s n 0 = 2 ^ n - 1 then 1 else 0) (h0 : tc_T kc K (n - 2) 0 = 0) {s : Nat} (hs : s < 2 ^ K) (hz : tc_sz s K = n - 2) : tc_C s n 0 ≠ 2 ^ n - 1 := by
  intro e
  rw [tc_T_eq] at h0
  have z := tc_S_eq0 _ h0 s hs
  have z' : (if tc_sz s K = n - 2 then kc (0 + s) else 0) = 0 := z
  rw [if_pos hz, Nat.zero_add, hk, if_pos e] at z'
  exact absurd z' (by decide)
theorem tc_few {n s : Nat} (h2 : 2 ≤ n) (hn : n < 7) (hs : s < 2 ^ tc_P n) (hz : tc_sz s (tc_P n) = n - 2) : tc_C s n 0 ≠ 2 ^ n - 1 := by
  have c : n = 2 ∨ n = 3 ∨ n = 4 ∨ n = 5 ∨ n = 6 := by omega
  rcases c with rfl | rfl | rfl | rfl | rfl
  · exact tc_few_of (K := 1) tc_kc2_eq tc_f2 hs hz
  · exact tc_few_of (K := 3) tc_kc3_eq tc_f3 hs hz
  · exact tc_few_of (K := 6) tc_kc4_eq tc_f4 hs hz
  · exact tc_few_of (K := 10) tc_kc5_eq tc_f5 hs hz
  · exact tc_few_of (K := 15) tc_kc6_eq tc_f6 hs hz
/-! trees, and how many lie below N -/
def tc_tr (n s : Nat) : Bool := decide (tc_sz s (tc_P n) = n - 1) && decide (tc_C s n 0 = 2 ^ n - 1)
theorem tc_tr_iff {n s : Nat} : tc_tr n s = true ↔ tc_sz s (tc_P n) = n - 1 ∧ tc_C s n 0 = 2 ^ n - 1 := by
  unfold tc_tr
  rw [Bool.and_eq_true, decide_eq_true_eq, decide_eq_true_eq]
def tc_cn (n N : Nat) : Nat := tc_S (fun s => if tc_tr n s = true then 1 else 0) N
theorem tc_cn_s (n N : Nat) : tc_cn n (N + 1) = tc_cn n N + if tc_tr n N = true then 1 else 0 := rfl
theorem tc_cn_N (n : Nat) : ∀ N, tc_cn n N ≤ N := by
  intro N
  induction N with
  | zero => exact Nat.le_refl _
  | succ N ih =>
    rw [tc_cn_s]
    split <;> omega
theorem tc_cn_6 : tc_cn 6 (2 ^ 15) = tc_T tc_kc6 15 5 0 := by
  rw [tc_T_eq]
  unfold tc_cn
  apply tc_S_congr
  intro s hs
  show (if tc_tr 6 s = true then 1 else 0) = (if tc_sz s 15 = 5 then tc_kc6 (0 + s) else 0)
  rw [Nat.zero_add, tc_kc6_eq]
  by_cases a : tc_sz s 15 = 5
  · rw [if_pos a]
    by_cases b : tc_C s 6 0 = 2 ^ 6 - 1
    · rw [if_pos b, if_pos (tc_tr_iff.mpr ⟨a, b⟩)]
    · rw [if_neg b, if_neg (fun z => b (tc_tr_iff.mp z).2)]
  · rw [if_neg a, if_neg (fun z => a (tc_tr_iff.mp z).1)]
theorem tc_P5 : ∀ n, n < 6 → tc_P n ≤ 10 := by decide +kernel
theorem tc_cn_le {n : Nat} (hn : n < 7) : tc_cn n (2 ^ tc_P n) ≤ 1296 := by
  rcases Nat.lt_or_ge n 6 with h | h
  · have a := tc_cn_N n (2 ^ tc_P n)
    have b : 2 ^ tc_P n ≤ 2 ^ 10 := Nat.pow_le_pow_right (by decide) (tc_P5 n h)
    have c : 2 ^ 10 ≤ 1296 := by decide
    omega
  · have e : n = 6 := by omega
    subst e
    have e2 : tc_cn 6 (2 ^ tc_P 6) = tc_T tc_kc6 15 5 0 := tc_cn_6
    rw [e2]
    exact tc_r6
theorem tc_cn_room {n i : Nat} (hn : n < 7) (hi : i < 2 ^ tc_P n) (h : tc_tr n i = true) : tc_cn n i < 1296 := by
  have a := tc_cn_le hn
  have b : tc_cn n (i + 1) ≤ tc_cn n (2 ^ tc_P n) := tc_S_mono (by omega)
  rw [tc_cn_s, if_pos h] at b
  omega
/-! the i-th tree exists -/
theorem tc_cn_at {n i : Nat} : ∀ N, i < tc_cn n N → ∃ t, t < N ∧ tc_tr n t = true ∧ tc_cn n t = i := by
  intro N
  induction N with
  | zero => intro h; exact absurd h (Nat.not_lt_zero i)
  | succ N ih =>
    intro h
    rw [tc_cn_s] at h
    by_cases z : i < tc_cn n N
    · obtain ⟨t, a, b, c⟩ := ih z
      exact ⟨t, by omega, b, c⟩
    · by_cases y : tc_tr n N = true
      · rw [if_pos y] at h
        exact ⟨N, by omega, y, by omega⟩
      · rw [if_neg y] at h
        omega
/-! a sum over the list of trees is a sum over the sets -/
theorem tc_list {n : Nat} (sh : Nat → Nat) (F : Nat → Nat) : ∀ N, (∀ t, t < N → tc_tr n t = true → sh (tc_cn n t) = t) → tc_S (fun i => F (sh i)) (tc_cn n N) = tc_S (fun s => if tc_tr n s = true then F s else 0) N := by
  intro N
  induction N with
  | zero => intro _; rfl
  | succ N ih =>
    intro h
    have e := ih (fun t ht => h t (by omega))
    show _ = tc_S (fun s => if tc_tr n s = true then F s else 0) N + (if tc_tr n N = true then F N else 0)
    rw [tc_cn_s, ← e]
    by_cases y : tc_tr n N = true
    · rw [if_pos y, if_pos y]
      show tc_S (fun i => F (sh i)) (tc_cn n N) + F (sh (tc_cn n N)) = _
      rw [h N (by omega) y]
    · rw [if_neg y, if_neg y] <;> rfl
/-! sets without the pair p against sets with it -/
theorem tc_add_or {s k : Nat} (h : s < 2 ^ k) : 2 ^ k + s = 2 ^ k ||| s := by
  have e := Nat.two_pow_add_eq_or_of_lt h 1
  rw [Nat.mul_one] at e
  exact e
theorem tc_x_top {s k : Nat} (h : s < 2 ^ k) : (2 ^ k + s) ^^^ 2 ^ k = s := by
  rw [tc_add_or h]
  apply Nat.eq_of_testBit_eq
  intro i
  rw [Nat.testBit_xor, Nat.testBit_or, Nat.testBit_two_pow]
  by_cases e : k = i
  · subst e
    rw [decide_eq_true (rfl : k = k), Nat.testBit_lt_two_pow h] <;> rfl
  · rw [decide_eq_false e, Bool.false_or, Bool.xor_false]
theorem tc_x_lt {t p k : Nat} (h : t < 2 ^ k) (hp : p < k) : t ^^^ 2 ^ p < 2 ^ k := Nat.xor_lt_two_pow h (Nat.pow_lt_pow_right (by decide) hp)
theorem tc_x_low {t p k : Nat} (h : t < 2 ^ k) (hp : p < k) : (2 ^ k + t) ^^^ 2 ^ p = 2 ^ k + (t ^^^ 2 ^ p) := by
  rw [tc_add_or h, tc_add_or (tc_x_lt h hp)]
  apply Nat.eq_of_testBit_eq
  intro i
  rw [Nat.testBit_xor, Nat.testBit_or, Nat.testBit_or, Nat.testBit_xor, Nat.testBit_two_pow, Nat.testBit_two_pow]
  by_cases e : k = i
  · have e2 : ¬ p = i := by omega
    rw [decide_eq_false e2]
    cases decide (k = i) <;> cases t.testBit i <;> rfl
  · rw [decide_eq_false e]
    cases decide (p = i) <;> cases t.testBit i <;> rfl
theorem tc_re (p : Nat) : ∀ k, p < k → ∀ g : Nat → Nat, tc_S (fun s => if s.testBit p = true then 0 else g s) (2 ^ k) = tc_S (fun t => if t.testBit p = true then g (t ^^^ 2 ^ p) else 0) (2 ^ k) := by
  intro k
  induction k with
  | zero => intro h; exact absurd h (Nat.not_lt_zero p)
  | succ k ih =>
    intro h g
    rw [tc_S_pow, tc_S_pow]
    rcases Nat.lt_or_ge p k with z | z
    · rw [ih z g]
      congr 1
      have e1 : tc_S (fun i => if (2 ^ k + i).testBit p = true then 0 else g (2 ^ k + i)) (2 ^ k) = tc_S (fun s => if s.testBit p = true then 0 else (fun x => g (2 ^ k + x)) s) (2 ^ k) := by
        apply tc_S_congr
        intro i _
        show (if (2 ^ k + i).testBit p = true then 0 else g (2 ^ k + i)) = (if i.testBit p = true then 0 else g (2 ^ k + i))
        rw [tc_tb_add z]
      refine e1.trans ((ih z (fun x => g (2 ^ k + x))).trans ?_)
      apply tc_S_congr
      intro i hi
      show (if i.testBit p = true then g (2 ^ k + (i ^^^ 2 ^ p)) else 0) = (if (2 ^ k + i).testBit p = true then g ((2 ^ k + i) ^^^ 2 ^ p) else 0)
      rw [tc_tb_add z, tc_x_low hi z]
    · have e : p = k := by omega
      subst e
      have a1 : tc_S (fun s => if s.testBit p = true then 0 else g s) (2 ^ p) = tc_S g (2 ^ p) := by
        apply tc_S_congr
        intro i hi
        show (if i.testBit p = true then 0 else g i) = g i
        rw [Nat.testBit_lt_two_pow hi, if_neg (by decide)]
      have a2 : tc_S (fun i => if (2 ^ p + i).testBit p = true then 0 else g (2 ^ p + i)) (2 ^ p) = 0 := by
        apply tc_S_zero
        intro i hi
        show (if (2 ^ p + i).testBit p = true then 0 else g (2 ^ p + i)) = 0
        rw [tc_tb_top hi, if_pos rfl]
      have a3 : tc_S (fun t => if t.testBit p = true then g (t ^^^ 2 ^ p) else 0) (2 ^ p) = 0 := by
        apply tc_S_zero
        intro i hi
        show (if i.testBit p = true then g (i ^^^ 2 ^ p) else 0) = 0
        rw [Nat.testBit_lt_two_pow hi, if_neg (by decide)]
      have a4 : tc_S (fun i => if (2 ^ p + i).testBit p = true then g ((2 ^ p + i) ^^^ 2 ^ p) else 0) (2 ^ p) = tc_S g (2 ^ p) := by
        apply tc_S_congr
        intro i hi
        show (if (2 ^ p + i).testBit p = true then g ((2 ^ p + i) ^^^ 2 ^ p) else 0) = g i
        rw [tc_tb_top hi, if_pos rfl, tc_x_top hi]
      rw [a1, a3]
      exact (congrArg (tc_S g (2 ^ p) + ·) a2).trans ((Nat.add_comm _ _).trans (congrArg (0 + ·) a4.symm))
end
section
/-! weights of a set: with modes and edges -/
def tc_w (e m : Nat → Nat) (s : Nat) : Nat → Nat
  | 0 => 1
  | k + 1 => if (s.testBit k = true ∧ m k = 2) ∨ (s.testBit k = false ∧ m k = 1) then 0 else tc_w e m s k * (if s.testBit k = true then e k else 1)
def tc_pr (e : Nat → Nat) (s : Nat) : Nat → Nat
  | 0 => 1
  | k + 1 => tc_pr e s k * (if s.testBit k = true then e k else 1)
def tc_al (e m : Nat → Nat) (s k : Nat) : Prop := ∀ p, p < k → (s.testBit p = true → 0 < e p ∧ m p ≠ 2) ∧ (m p = 1 → s.testBit p = true)
theorem tc_al_s {e m : Nat → Nat} {s k : Nat} : tc_al e m s (k + 1) ↔ tc_al e m s k ∧ (s.testBit k = true → 0 < e k ∧ m k ≠ 2) ∧ (m k = 1 → s.testBit k = true) := by
  constructor
  · intro h
    exact ⟨fun p hp => h p (by omega), h k (by omega)⟩
  · intro h p hp
    rcases Nat.lt_or_ge p k with z | z
    · exact h.1 p z
    · have e2 : p = k := by omega
      rw [e2]
      exact h.2
theorem tc_al_w {e m : Nat → Nat} {s : Nat} : ∀ k, tc_al e m s k → tc_w e m s k = tc_pr e s k ∧ 0 < tc_pr e s k := by
  intro k
  induction k with
  | zero => intro _; exact ⟨rfl, Nat.one_pos⟩
  | succ k ih =>
    intro h
    rw [tc_al_s] at h
    obtain ⟨a, b, c⟩ := h
    obtain ⟨i1, i2⟩ := ih a
    have nb : ¬ ((s.testBit k = true ∧ m k = 2) ∨ (s.testBit k = false ∧ m k = 1)) := by
      rintro (⟨x, y⟩ | ⟨x, y⟩)
      · exact (b x).2 y
      · rw [c y] at x; exact absurd x (by decide)
    show (if (s.testBit k = true ∧ m k = 2) ∨ (s.testBit k = false ∧ m k = 1) then 0 else tc_w e m s k * (if s.testBit k = true then e k else 1)) = tc_pr e s k * (if s.testBit k = true then e k else 1) ∧ 0 < tc_pr e s k * (if s.testBit k = true then e k else 1)
    rw [if_neg nb, i1]
    refine ⟨rfl, Nat.mul_pos i2 ?_⟩
    split
    · next x => exact (b x).1
    · exact Nat.one_pos
theorem tc_nal_w {e m : Nat → Nat} {s : Nat} : ∀ k, ¬ tc_al e m s k → tc_w e m s k = 0 := by
  intro k
  induction k with
  | zero => intro h; exact False.elim (h (fun p hp => absurd hp (Nat.not_lt_zero p)))
  | succ k ih =>
    intro h
    show (if (s.testBit k = true ∧ m k = 2) ∨ (s.testBit k = false ∧ m k = 1) then 0 else tc_w e m s k * (if s.testBit k = true then e k else 1)) = 0
    by_cases nb : (s.testBit k = true ∧ m k = 2) ∨ (s.testBit k = false ∧ m k = 1)
    · rw [if_pos nb]
    · rw [if_neg nb]
      by_cases a : tc_al e m s k
      · have z : s.testBit k = true ∧ e k = 0 := by
          cases x : s.testBit k
          · exfalso
            apply h
            rw [tc_al_s]
            refine ⟨a, fun y => ?_, fun y => ?_⟩
            · rw [x] at y; exact absurd y (by decide)
            · exact absurd (Or.inr ⟨x, y⟩) nb
          · refine ⟨rfl, ?_⟩
            rcases Nat.eq_zero_or_pos (e k) with y | y
            · exact y
            · exfalso
              apply h
              rw [tc_al_s]
              exact ⟨a, fun _ => ⟨y, fun q => nb (Or.inl ⟨x, q⟩)⟩, fun _ => x⟩
        rw [if_pos z.1, z.2, Nat.mul_zero]
      · rw [ih a, Nat.zero_mul]
theorem tc_w_pos {e m : Nat → Nat} {s k : Nat} : 0 < tc_w e m s k ↔ tc_al e m s k := by
  constructor
  · intro h
    apply Classical.byContradiction
    intro z
    rw [tc_nal_w k z] at h
    exact absurd h (Nat.lt_irrefl 0)
  · intro h
    rw [(tc_al_w k h).1]
    exact (tc_al_w k h).2
/-! a bad pair makes the weight nothing, at once and for good -/
theorem tc_w_dead {e m : Nat → Nat} {s p : Nat} (h : tc_w e m s p = 0) : ∀ d, tc_w e m s (p + d) = 0 := by
  intro d
  induction d with
  | zero => exact h
  | succ d ih =>
    show (if (s.testBit (p + d) = true ∧ m (p + d) = 2) ∨ (s.testBit (p + d) = false ∧ m (p + d) = 1) then 0 else tc_w e m s (p + d) * (if s.testBit (p + d) = true then e (p + d) else 1)) = 0
    rw [ih]
    split
    · rfl
    · exact Nat.zero_mul _
theorem tc_w_bad {e m : Nat → Nat} {s p k : Nat} (hp : p < k) (h : (s.testBit p = true ∧ m p = 2) ∨ (s.testBit p = false ∧ m p = 1)) : tc_w e m s k = 0 := by
  obtain ⟨d, rfl⟩ : ∃ d, k = p + 1 + d := ⟨k - (p + 1), by omega⟩
  have z : tc_w e m s (p + 1) = 0 := if_pos h
  exact tc_w_dead z d
theorem tc_w_good {e m : Nat → Nat} {s p : Nat} (h : ¬ ((s.testBit p = true ∧ m p = 2) ∨ (s.testBit p = false ∧ m p = 1))) : tc_w e m s (p + 1) = tc_w e m s p * (if s.testBit p = true then e p else 1) := if_neg h
theorem tc_w_le {e m : Nat → Nat} {s : Nat} (he : ∀ p, e p ≤ 3) : ∀ k, tc_w e m s k ≤ 3 ^ tc_sz s k := by
  intro k
  induction k with
  | zero => exact Nat.le_refl _
  | succ k ih =>
    show (if (s.testBit k = true ∧ m k = 2) ∨ (s.testBit k = false ∧ m k = 1) then 0 else tc_w e m s k * (if s.testBit k = true then e k else 1)) ≤ 3 ^ (tc_sz s k + tc_b s k)
    split
    · exact Nat.zero_le _
    · rw [Nat.pow_add]
      apply Nat.mul_le_mul ih
      by_cases x : s.testBit k = true
      · rw [if_pos x, tc_b_t x, Nat.pow_one]; exact he k
      · rw [if_neg x]; exact Nat.pow_pos (by decide)
/-! apart: a split by u and v is a tree without their pair -/
def tc_sp (n s u v : Nat) : Bool := decide (tc_sz s (tc_P n) = n - 2) && decide (tc_C s n u ||| tc_C s n v = 2 ^ n - 1)
theorem tc_sp_iff {n s u v : Nat} : tc_sp n s u v = true ↔ tc_sz s (tc_P n) = n - 2 ∧ tc_C s n u ||| tc_C s n v = 2 ^ n - 1 := by
  unfold tc_sp
  rw [Bool.and_eq_true, decide_eq_true_eq, decide_eq_true_eq]
theorem tc_sz_or {s p : Nat} (h : s.testBit p = false) : ∀ K, tc_sz (s ||| 2 ^ p) K = tc_sz s K + (if p < K then 1 else 0) := by
  intro K
  induction K with
  | zero => rw [if_neg (Nat.not_lt_zero p)] <;> rfl
  | succ K ih =>
    show tc_sz (s ||| 2 ^ p) K + tc_b (s ||| 2 ^ p) K = tc_sz s K + tc_b s K + (if p < K + 1 then 1 else 0)
    rw [ih]
    by_cases e : p = K
    · subst e
      rw [tc_b_f h, tc_b_t ((tc_or_bit s p p).mpr (Or.inr rfl)), if_neg (Nat.lt_irrefl p), if_pos (Nat.lt_succ_self p)]
    · have e2 : tc_b (s ||| 2 ^ p) K = tc_b s K := by
        unfold tc_b
        rw [Nat.testBit_or, Nat.testBit_two_pow_of_ne e, Bool.or_false]
      rw [e2]
      by_cases z : p < K
      · rw [if_pos z, if_pos (by omega)]; omega
      · rw [if_neg z, if_neg (by omega)] <;> omega
theorem tc_sp_tr {n s u v : Nat} (h2 : 2 ≤ n) (hn : n < 7) (hu : u < n) (hv : v < n) (huv : u ≠ v) (hs : s < 2 ^ tc_P n) : tc_sp n s u v = true ↔ s.testBit (tc_pair u v) = false ∧ tc_tr n (s ||| 2 ^ tc_pair u v) = true := by
  have hp := tc_pair_in n hn u hu v hv huv
  rw [tc_sp_iff, tc_tr_iff]
  constructor
  · rintro ⟨a, b⟩
    have c := tc_apart1 hn hu hv huv b
    have d : s.testBit (tc_pair u v) = false := by
      cases x : s.testBit (tc_pair u v)
      · rfl
      · exfalso
        have e : s ||| 2 ^ tc_pair u v = s := by
          apply Nat.eq_of_testBit_eq
          intro i
          rw [Nat.testBit_or, Nat.testBit_two_pow]
          by_cases y : tc_pair u v = i
          · rw [← y, x] <;> rfl
          · rw [decide_eq_false y, Bool.or_false]
        rw [e] at c
        exact tc_few h2 hn hs a c
    refine ⟨d, ?_, c⟩
    rw [tc_sz_or d, if_pos hp, a]
    omega
  · rintro ⟨d, a, c⟩
    rw [tc_sz_or d, if_pos hp] at a
    exact ⟨by omega, tc_apart2 hn hu hv huv c⟩
theorem tc_x_bit {t p : Nat} (h : t.testBit p = true) : t ^^^ (t &&& 2 ^ p) = t ^^^ 2 ^ p ∧ (t ^^^ 2 ^ p) ||| 2 ^ p = t := by
  constructor
  · rw [(tc_and_pow t p).mpr h]
  · apply Nat.eq_of_testBit_eq
    intro i
    rw [Nat.testBit_or, Nat.testBit_xor, Nat.testBit_two_pow]
    by_cases y : p = i
    · rw [← y, h, decide_eq_true (rfl : p = p)] <;> rfl
    · rw [decide_eq_false y, Bool.or_false, Bool.xor_false]
theorem tc_apart_sum {n u v : Nat} (h2 : 2 ≤ n) (hn : n < 7) (hu : u < n) (hv : v < n) (huv : u ≠ v) (W : Nat → Nat) : tc_S (fun s => if tc_sp n s u v = true then W s else 0) (2 ^ tc_P n) = tc_S (fun t => if tc_tr n t = true then (if t.testBit (tc_pair u v) = true then W (t ^^^ (t &&& 2 ^ tc_pair u v)) else 0) else 0) (2 ^ tc_P n) := by
  have hp := tc_pair_in n hn u hu v hv huv
  have e1 : tc_S (fun s => if tc_sp n s u v = true then W s else 0) (2 ^ tc_P n) = tc_S (fun s => if s.testBit (tc_pair u v) = true then 0 else (fun x => if tc_tr n (x ||| 2 ^ tc_pair u v) = true then W x else 0) s) (2 ^ tc_P n) := by
    apply tc_S_congr
    intro s hs
    show (if tc_sp n s u v = true then W s else 0) = (if s.testBit (tc_pair u v) = true then 0 else (if tc_tr n (s ||| 2 ^ tc_pair u v) = true then W s else 0))
    have k := tc_sp_tr h2 hn hu hv huv hs
    cases x : s.testBit (tc_pair u v)
    · rw [if_neg (c := false = true) (by decide)]
      by_cases y : tc_tr n (s ||| 2 ^ tc_pair u v) = true
      · rw [if_pos y, if_pos (k.mpr ⟨x, y⟩)]
      · rw [if_neg y, if_neg (fun z => y (k.mp z).2)]
    · rw [if_pos (c := true = true) rfl, if_neg]
      intro z
      rw [(k.mp z).1] at x
      exact absurd x (by decide)
  rw [e1, tc_re _ _ hp]
  apply tc_S_congr
  intro t ht
  show (if t.testBit (tc_pair u v) = true then (if tc_tr n ((t ^^^ 2 ^ tc_pair u v) ||| 2 ^ tc_pair u v) = true then W (t ^^^ 2 ^ tc_pair u v) else 0) else 0) = (if tc_tr n t = true then (if t.testBit (tc_pair u v) = true then W (t ^^^ (t &&& 2 ^ tc_pair u v)) else 0) else 0)
  by_cases x : t.testBit (tc_pair u v) = true
  · obtain ⟨a, b⟩ := tc_x_bit x
    rw [if_pos x, if_pos x, a, b]
  · rw [if_neg x, if_neg x]
    split <;> rfl
/-! the degree of v in a set, by pairs and by vertices -/
def tc_dx (s v : Nat) : Nat → Nat
  | 0 => 0
  | k + 1 => tc_dx s v k + (if s.testBit k = true ∧ (tc_E k).testBit v = true then 1 else 0)
def tc_dy (s v : Nat) : Nat → Nat
  | 0 => 0
  | u + 1 => tc_dy s v u + (bif Nat.beq u v then 0 else tc_b s (tc_pair u v))
def tc_dz (s v : Nat) : Nat → Nat
  | 0 => 0
  | k + 1 => tc_dz s v k + (bif (tc_E k).testBit v then tc_b s k else 0)
theorem tc_dy_e (s v : Nat) : tc_dy s v (v + 1) = tc_dy s v v := by
  show tc_dy s v v + (bif Nat.beq v v then 0 else tc_b s (tc_pair v v)) = tc_dy s v v
  rw [Nat.beq_eq.mpr rfl] <;> rfl
theorem tc_dy_n {s u v : Nat} (h : u ≠ v) : tc_dy s v (u + 1) = tc_dy s v u + tc_b s (tc_pair u v) := by
  show tc_dy s v u + (bif Nat.beq u v then 0 else tc_b s (tc_pair u v)) = _
  have e : Nat.beq u v = false := Bool.eq_false_iff.mpr (fun z => h (Nat.beq_eq.mp z))
  rw [e] <;> rfl
theorem tc_dx_dz (s v : Nat) : ∀ k, tc_dx s v k = tc_dz s v k := by
  intro k
  induction k with
  | zero => rfl
  | succ k ih =>
    show tc_dx s v k + (if s.testBit k = true ∧ (tc_E k).testBit v = true then 1 else 0) = tc_dz s v k + (bif (tc_E k).testBit v then tc_b s k else 0)
    rw [ih]
    cases y : (tc_E k).testBit v
    · rw [if_neg (fun z => absurd z.2 (by decide))] <;> rfl
    · cases x : s.testBit k
      · rw [if_neg (fun z => absurd z.1 (by decide))]
        show _ = tc_dz s v k + tc_b s k
        rw [tc_b_f x]
      · rw [if_pos ⟨rfl, rfl⟩]
        show _ = tc_dz s v k + tc_b s k
        rw [tc_b_t x]
/-! sizes by the lowest bit, and x and (x - 1) -/
theorem tc_sz_half (x : Nat) : ∀ K, tc_sz x (K + 1) = x % 2 + tc_sz (x / 2) K := by
  intro K
  induction K with
  | zero =>
    show 0 + tc_b x 0 = x % 2 + 0
    rw [tc_b_mod, Nat.pow_zero, Nat.div_one]; omega
  | succ K ih =>
    show tc_sz x (K + 1) + tc_b x (K + 1) = x % 2 + (tc_sz (x / 2) K + tc_b (x / 2) K)
    have e : tc_b x (K + 1) = tc_b (x / 2) K := by unfold tc_b; rw [Nat.testBit_succ]
    rw [ih, e]; omega
theorem tc_kern : ∀ K x, x < 2 ^ K → x ≠ 0 → tc_sz (x &&& (x - 1)) K + 1 = tc_sz x K := by
  intro K
  induction K with
  | zero =>
    intro x h h0
    have h1 : x < 1 := h
    omega
  | succ K ih =>
    intro x h h0
    have hh : x / 2 < 2 ^ K := by
      rw [Nat.pow_succ] at h
      omega
    rw [tc_sz_half, tc_sz_half, Nat.and_div_two]
    have m0 : (x &&& (x - 1)) % 2 = 0 := by
      have a : ¬ (x &&& (x - 1)) % 2 = 1 := by
        rw [Nat.and_mod_two_eq_one]
        omega
      omega
    rw [m0]
    rcases Nat.mod_two_eq_zero_or_one x with z | z
    · have e : (x - 1) / 2 = x / 2 - 1 := by omega
      have i := ih (x / 2) hh (by omega)
      rw [e, z]
      omega
    · have e : (x - 1) / 2 = x / 2 := by omega
      rw [e, z, Nat.and_self]
      omega
theorem tc_kern_lt {x : Nat} (h : x ≠ 0) : x &&& (x - 1) < x := by
  have a : x &&& (x - 1) ≤ x - 1 := Nat.and_le_right
  omega
end
section
/-! the two degrees agree -/
theorem tc_e0_0 : (tc_E 0).testBit 0 = true := by decide
theorem tc_e1_0 : (tc_E 1).testBit 0 = true := by decide
theorem tc_e2_0 : (tc_E 2).testBit 0 = false := by decide
theorem tc_e3_0 : (tc_E 3).testBit 0 = true := by decide
theorem tc_e4_0 : (tc_E 4).testBit 0 = false := by decide
theorem tc_e5_0 : (tc_E 5).testBit 0 = false := by decide
theorem tc_e6_0 : (tc_E 6).testBit 0 = true := by decide
theorem tc_e7_0 : (tc_E 7).testBit 0 = false := by decide
theorem tc_e8_0 : (tc_E 8).testBit 0 = false := by decide
theorem tc_e9_0 : (tc_E 9).testBit 0 = false := by decide
theorem tc_e10_0 : (tc_E 10).testBit 0 = true := by decide
theorem tc_e11_0 : (tc_E 11).testBit 0 = false := by decide
theorem tc_e12_0 : (tc_E 12).testBit 0 = false := by decide
theorem tc_e13_0 : (tc_E 13).testBit 0 = false := by decide
theorem tc_e14_0 : (tc_E 14).testBit 0 = false := by decide
theorem tc_e0_1 : (tc_E 0).testBit 1 = true := by decide
theorem tc_e1_1 : (tc_E 1).testBit 1 = false := by decide
theorem tc_e2_1 : (tc_E 2).testBit 1 = true := by decide
theorem tc_e3_1 : (tc_E 3).testBit 1 = false := by decide
theorem tc_e4_1 : (tc_E 4).testBit 1 = true := by decide
theorem tc_e5_1 : (tc_E 5).testBit 1 = false := by decide
theorem tc_e6_1 : (tc_E 6).testBit 1 = false := by decide
theorem tc_e7_1 : (tc_E 7).testBit 1 = true := by decide
theorem tc_e8_1 : (tc_E 8).testBit 1 = false := by decide
theorem tc_e9_1 : (tc_E 9).testBit 1 = false := by decide
theorem tc_e10_1 : (tc_E 10).testBit 1 = false := by decide
theorem tc_e11_1 : (tc_E 11).testBit 1 = true := by decide
theorem tc_e12_1 : (tc_E 12).testBit 1 = false := by decide
theorem tc_e13_1 : (tc_E 13).testBit 1 = false := by decide
theorem tc_e14_1 : (tc_E 14).testBit 1 = false := by decide
theorem tc_e0_2 : (tc_E 0).testBit 2 = false := by decide
theorem tc_e1_2 : (tc_E 1).testBit 2 = true := by decide
theorem tc_e2_2 : (tc_E 2).testBit 2 = true := by decide
theorem tc_e3_2 : (tc_E 3).testBit 2 = false := by decide
theorem tc_e4_2 : (tc_E 4).testBit 2 = false := by decide
theorem tc_e5_2 : (tc_E 5).testBit 2 = true := by decide
theorem tc_e6_2 : (tc_E 6).testBit 2 = false := by decide
theorem tc_e7_2 : (tc_E 7).testBit 2 = false := by decide
theorem tc_e8_2 : (tc_E 8).testBit 2 = true := by decide
theorem tc_e9_2 : (tc_E 9).testBit 2 = false := by decide
theorem tc_e10_2 : (tc_E 10).testBit 2 = false := by decide
theorem tc_e11_2 : (tc_E 11).testBit 2 = false := by decide
theorem tc_e12_2 : (tc_E 12).testBit 2 = true := by decide
theorem tc_e13_2 : (tc_E 13).testBit 2 = false := by decide
theorem tc_e14_2 : (tc_E 14).testBit 2 = false := by decide
theorem tc_e0_3 : (tc_E 0).testBit 3 = false := by decide
theorem tc_e1_3 : (tc_E 1).testBit 3 = false := by decide
theorem tc_e2_3 : (tc_E 2).testBit 3 = false := by decide
theorem tc_e3_3 : (tc_E 3).testBit 3 = true := by decide
theorem tc_e4_3 : (tc_E 4).testBit 3 = true := by decide
theorem tc_e5_3 : (tc_E 5).testBit 3 = true := by decide
theorem tc_e6_3 : (tc_E 6).testBit 3 = false := by decide
theorem tc_e7_3 : (tc_E 7).testBit 3 = false := by decide
theorem tc_e8_3 : (tc_E 8).testBit 3 = false := by decide
theorem tc_e9_3 : (tc_E 9).testBit 3 = true := by decide
theorem tc_e10_3 : (tc_E 10).testBit 3 = false := by decide
theorem tc_e11_3 : (tc_E 11).testBit 3 = false := by decide
theorem tc_e12_3 : (tc_E 12).testBit 3 = false := by decide
theorem tc_e13_3 : (tc_E 13).testBit 3 = true := by decide
theorem tc_e14_3 : (tc_E 14).testBit 3 = false := by decide
theorem tc_e0_4 : (tc_E 0).testBit 4 = false := by decide
theorem tc_e1_4 : (tc_E 1).testBit 4 = false := by decide
theorem tc_e2_4 : (tc_E 2).testBit 4 = false := by decide
theorem tc_e3_4 : (tc_E 3).testBit 4 = false := by decide
theorem tc_e4_4 : (tc_E 4).testBit 4 = false := by decide
theorem tc_e5_4 : (tc_E 5).testBit 4 = false := by decide
theorem tc_e6_4 : (tc_E 6).testBit 4 = true := by decide
theorem tc_e7_4 : (tc_E 7).testBit 4 = true := by decide
theorem tc_e8_4 : (tc_E 8).testBit 4 = true := by decide
theorem tc_e9_4 : (tc_E 9).testBit 4 = true := by decide
theorem tc_e10_4 : (tc_E 10).testBit 4 = false := by decide
theorem tc_e11_4 : (tc_E 11).testBit 4 = false := by decide
theorem tc_e12_4 : (tc_E 12).testBit 4 = false := by decide
theorem tc_e13_4 : (tc_E 13).testBit 4 = false := by decide
theorem tc_e14_4 : (tc_E 14).testBit 4 = true := by decide
theorem tc_e0_5 : (tc_E 0).testBit 5 = false := by decide
theorem tc_e1_5 : (tc_E 1).testBit 5 = false := by decide
theorem tc_e2_5 : (tc_E 2).testBit 5 = false := by decide
theorem tc_e3_5 : (tc_E 3).testBit 5 = false := by decide
theorem tc_e4_5 : (tc_E 4).testBit 5 = false := by decide
theorem tc_e5_5 : (tc_E 5).testBit 5 = false := by decide
theorem tc_e6_5 : (tc_E 6).testBit 5 = false := by decide
theorem tc_e7_5 : (tc_E 7).testBit 5 = false := by decide
theorem tc_e8_5 : (tc_E 8).testBit 5 = false := by decide
theorem tc_e9_5 : (tc_E 9).testBit 5 = false := by decide
theorem tc_e10_5 : (tc_E 10).testBit 5 = true := by decide
theorem tc_e11_5 : (tc_E 11).testBit 5 = true := by decide
theorem tc_e12_5 : (tc_E 12).testBit 5 = true := by decide
theorem tc_e13_5 : (tc_E 13).testBit 5 = true := by decide
theorem tc_e14_5 : (tc_E 14).testBit 5 = true := by decide
theorem tc_q0_0 : Nat.beq 0 0 = true := rfl
theorem tc_p0_1 : tc_pair 0 1 = 0 := by decide
theorem tc_q0_1 : Nat.beq 0 1 = false := rfl
theorem tc_p0_2 : tc_pair 0 2 = 1 := by decide
theorem tc_q0_2 : Nat.beq 0 2 = false := rfl
theorem tc_p0_3 : tc_pair 0 3 = 3 := by decide
theorem tc_q0_3 : Nat.beq 0 3 = false := rfl
theorem tc_p0_4 : tc_pair 0 4 = 6 := by decide
theorem tc_q0_4 : Nat.beq 0 4 = false := rfl
theorem tc_p0_5 : tc_pair 0 5 = 10 := by decide
theorem tc_q0_5 : Nat.beq 0 5 = false := rfl
theorem tc_p1_0 : tc_pair 1 0 = 0 := by decide
theorem tc_q1_0 : Nat.beq 1 0 = false := rfl
theorem tc_q1_1 : Nat.beq 1 1 = true := rfl
theorem tc_p1_2 : tc_pair 1 2 = 2 := by decide
theorem tc_q1_2 : Nat.beq 1 2 = false := rfl
theorem tc_p1_3 : tc_pair 1 3 = 4 := by decide
theorem tc_q1_3 : Nat.beq 1 3 = false := rfl
theorem tc_p1_4 : tc_pair 1 4 = 7 := by decide
theorem tc_q1_4 : Nat.beq 1 4 = false := rfl
theorem tc_p1_5 : tc_pair 1 5 = 11 := by decide
theorem tc_q1_5 : Nat.beq 1 5 = false := rfl
theorem tc_p2_0 : tc_pair 2 0 = 1 := by decide
theorem tc_q2_0 : Nat.beq 2 0 = false := rfl
theorem tc_p2_1 : tc_pair 2 1 = 2 := by decide
theorem tc_q2_1 : Nat.beq 2 1 = false := rfl
theorem tc_q2_2 : Nat.beq 2 2 = true := rfl
theorem tc_p2_3 : tc_pair 2 3 = 5 := by decide
theorem tc_q2_3 : Nat.beq 2 3 = false := rfl
theorem tc_p2_4 : tc_pair 2 4 = 8 := by decide
theorem tc_q2_4 : Nat.beq 2 4 = false := rfl
theorem tc_p2_5 : tc_pair 2 5 = 12 := by decide
theorem tc_q2_5 : Nat.beq 2 5 = false := rfl
theorem tc_p3_0 : tc_pair 3 0 = 3 := by decide
theorem tc_q3_0 : Nat.beq 3 0 = false := rfl
theorem tc_p3_1 : tc_pair 3 1 = 4 := by decide
theorem tc_q3_1 : Nat.beq 3 1 = false := rfl
theorem tc_p3_2 : tc_pair 3 2 = 5 := by decide
theorem tc_q3_2 : Nat.beq 3 2 = false := rfl
theorem tc_q3_3 : Nat.beq 3 3 = true := rfl
theorem tc_p3_4 : tc_pair 3 4 = 9 := by decide
theorem tc_q3_4 : Nat.beq 3 4 = false := rfl
theorem tc_p3_5 : tc_pair 3 5 = 13 := by decide
theorem tc_q3_5 : Nat.beq 3 5 = false := rfl
theorem tc_p4_0 : tc_pair 4 0 = 6 := by decide
theorem tc_q4_0 : Nat.beq 4 0 = false := rfl
theorem tc_p4_1 : tc_pair 4 1 = 7 := by decide
theorem tc_q4_1 : Nat.beq 4 1 = false := rfl
theorem tc_p4_2 : tc_pair 4 2 = 8 := by decide
theorem tc_q4_2 : Nat.beq 4 2 = false := rfl
theorem tc_p4_3 : tc_pair 4 3 = 9 := by decide
theorem tc_q4_3 : Nat.beq 4 3 = false := rfl
theorem tc_q4_4 : Nat.beq 4 4 = true := rfl
theorem tc_p4_5 : tc_pair 4 5 = 14 := by decide
theorem tc_q4_5 : Nat.beq 4 5 = false := rfl
theorem tc_p5_0 : tc_pair 5 0 = 10 := by decide
theorem tc_q5_0 : Nat.beq 5 0 = false := rfl
theorem tc_p5_1 : tc_pair 5 1 = 11 := by decide
theorem tc_q5_1 : Nat.beq 5 1 = false := rfl
theorem tc_p5_2 : tc_pair 5 2 = 12 := by decide
theorem tc_q5_2 : Nat.beq 5 2 = false := rfl
theorem tc_p5_3 : tc_pair 5 3 = 13 := by decide
theorem tc_q5_3 : Nat.beq 5 3 = false := rfl
theorem tc_p5_4 : tc_pair 5 4 = 14 := by decide
theorem tc_q5_4 : Nat.beq 5 4 = false := rfl
theorem tc_q5_5 : Nat.beq 5 5 = true := rfl
theorem tc_deg2_0 (s : Nat) : tc_dz s 0 1 = tc_dy s 0 2 := by
  simp only [tc_dz, tc_dy, tc_e0_0, tc_p1_0, tc_q0_0, tc_q1_0, cond_true, cond_false, Nat.add_zero, Nat.zero_add]
theorem tc_deg2_1 (s : Nat) : tc_dz s 1 1 = tc_dy s 1 2 := by
  simp only [tc_dz, tc_dy, tc_e0_1, tc_p0_1, tc_q0_1, tc_q1_1, cond_true, cond_false, Nat.add_zero, Nat.zero_add]
theorem tc_deg3_0 (s : Nat) : tc_dz s 0 3 = tc_dy s 0 3 := by
  simp only [tc_dz, tc_dy, tc_e0_0, tc_e1_0, tc_e2_0, tc_p1_0, tc_p2_0, tc_q0_0, tc_q1_0, tc_q2_0, cond_true, cond_false, Nat.add_zero, Nat.zero_add]
theorem tc_deg3_1 (s : Nat) : tc_dz s 1 3 = tc_dy s 1 3 := by
  simp only [tc_dz, tc_dy, tc_e0_1, tc_e1_1, tc_e2_1, tc_p0_1, tc_p2_1, tc_q0_1, tc_q1_1, tc_q2_1, cond_true, cond_false, Nat.add_zero, Nat.zero_add]
theorem tc_deg3_2 (s : Nat) : tc_dz s 2 3 = tc_dy s 2 3 := by
  simp only [tc_dz, tc_dy, tc_e0_2, tc_e1_2, tc_e2_2, tc_p0_2, tc_p1_2, tc_q0_2, tc_q1_2, tc_q2_2, cond_true, cond_false, Nat.add_zero, Nat.zero_add]
theorem tc_deg4_0 (s : Nat) : tc_dz s 0 6 = tc_dy s 0 4 := by
  simp only [tc_dz, tc_dy, tc_e0_0, tc_e1_0, tc_e2_0, tc_e3_0, tc_e4_0, tc_e5_0, tc_p1_0, tc_p2_0, tc_p3_0, tc_q0_0, tc_q1_0, tc_q2_0, tc_q3_0, cond_true, cond_false, Nat.add_zero, Nat.zero_add]
theorem tc_deg4_1 (s : Nat) : tc_dz s 1 6 = tc_dy s 1 4 := by
  simp only [tc_dz, tc_dy, tc_e0_1, tc_e1_1, tc_e2_1, tc_e3_1, tc_e4_1, tc_e5_1, tc_p0_1, tc_p2_1, tc_p3_1, tc_q0_1, tc_q1_1, tc_q2_1, tc_q3_1, cond_true, cond_false, Nat.add_zero, Nat.zero_add]
theorem tc_deg4_2 (s : Nat) : tc_dz s 2 6 = tc_dy s 2 4 := by
  simp only [tc_dz, tc_dy, tc_e0_2, tc_e1_2, tc_e2_2, tc_e3_2, tc_e4_2, tc_e5_2, tc_p0_2, tc_p1_2, tc_p3_2, tc_q0_2, tc_q1_2, tc_q2_2, tc_q3_2, cond_true, cond_false, Nat.add_zero, Nat.zero_add]
theorem tc_deg4_3 (s : Nat) : tc_dz s 3 6 = tc_dy s 3 4 := by
  simp only [tc_dz, tc_dy, tc_e0_3, tc_e1_3, tc_e2_3, tc_e3_3, tc_e4_3, tc_e5_3, tc_p0_3, tc_p1_3, tc_p2_3, tc_q0_3, tc_q1_3, tc_q2_3, tc_q3_3, cond_true, cond_false, Nat.add_zero, Nat.zero_add]
theorem tc_deg5_0 (s : Nat) : tc_dz s 0 10 = tc_dy s 0 5 := by
  simp only [tc_dz, tc_dy, tc_e0_0, tc_e1_0, tc_e2_0, tc_e3_0, tc_e4_0, tc_e5_0, tc_e6_0, tc_e7_0, tc_e8_0, tc_e9_0, tc_p1_0, tc_p2_0, tc_p3_0, tc_p4_0, tc_q0_0, tc_q1_0, tc_q2_0, tc_q3_0, tc_q4_0, cond_true, cond_false, Nat.add_zero, Nat.zero_add]
theorem tc_deg5_1 (s : Nat) : tc_dz s 1 10 = tc_dy s 1 5 := by
  simp only [tc_dz, tc_dy, tc_e0_1, tc_e1_1, tc_e2_1, tc_e3_1, tc_e4_1, tc_e5_1, tc_e6_1, tc_e7_1, tc_e8_1, tc_e9_1, tc_p0_1, tc_p2_1, tc_p3_1, tc_p4_1, tc_q0_1, tc_q1_1, tc_q2_1, tc_q3_1, tc_q4_1, cond_true, cond_false, Nat.add_zero, Nat.zero_add]
theorem tc_deg5_2 (s : Nat) : tc_dz s 2 10 = tc_dy s 2 5 := by
  simp only [tc_dz, tc_dy, tc_e0_2, tc_e1_2, tc_e2_2, tc_e3_2, tc_e4_2, tc_e5_2, tc_e6_2, tc_e7_2, tc_e8_2, tc_e9_2, tc_p0_2, tc_p1_2, tc_p3_2, tc_p4_2, tc_q0_2, tc_q1_2, tc_q2_2, tc_q3_2, tc_q4_2, cond_true, cond_false, Nat.add_zero, Nat.zero_add]
theorem tc_deg5_3 (s : Nat) : tc_dz s 3 10 = tc_dy s 3 5 := by
  simp only [tc_dz, tc_dy, tc_e0_3, tc_e1_3, tc_e2_3, tc_e3_3, tc_e4_3, tc_e5_3, tc_e6_3, tc_e7_3, tc_e8_3, tc_e9_3, tc_p0_3, tc_p1_3, tc_p2_3, tc_p4_3, tc_q0_3, tc_q1_3, tc_q2_3, tc_q3_3, tc_q4_3, cond_true, cond_false, Nat.add_zero, Nat.zero_add]
theorem tc_deg5_4 (s : Nat) : tc_dz s 4 10 = tc_dy s 4 5 := by
  simp only [tc_dz, tc_dy, tc_e0_4, tc_e1_4, tc_e2_4, tc_e3_4, tc_e4_4, tc_e5_4, tc_e6_4, tc_e7_4, tc_e8_4, tc_e9_4, tc_p0_4, tc_p1_4, tc_p2_4, tc_p3_4, tc_q0_4, tc_q1_4, tc_q2_4, tc_q3_4, tc_q4_4, cond_true, cond_false, Nat.add_zero, Nat.zero_add]
theorem tc_deg6_0 (s : Nat) : tc_dz s 0 15 = tc_dy s 0 6 := by
  simp only [tc_dz, tc_dy, tc_e0_0, tc_e1_0, tc_e2_0, tc_e3_0, tc_e4_0, tc_e5_0, tc_e6_0, tc_e7_0, tc_e8_0, tc_e9_0, tc_e10_0, tc_e11_0, tc_e12_0, tc_e13_0, tc_e14_0, tc_p1_0, tc_p2_0, tc_p3_0, tc_p4_0, tc_p5_0, tc_q0_0, tc_q1_0, tc_q2_0, tc_q3_0, tc_q4_0, tc_q5_0, cond_true, cond_false, Nat.add_zero, Nat.zero_add]
theorem tc_deg6_1 (s : Nat) : tc_dz s 1 15 = tc_dy s 1 6 := by
  simp only [tc_dz, tc_dy, tc_e0_1, tc_e1_1, tc_e2_1, tc_e3_1, tc_e4_1, tc_e5_1, tc_e6_1, tc_e7_1, tc_e8_1, tc_e9_1, tc_e10_1, tc_e11_1, tc_e12_1, tc_e13_1, tc_e14_1, tc_p0_1, tc_p2_1, tc_p3_1, tc_p4_1, tc_p5_1, tc_q0_1, tc_q1_1, tc_q2_1, tc_q3_1, tc_q4_1, tc_q5_1, cond_true, cond_false, Nat.add_zero, Nat.zero_add]
theorem tc_deg6_2 (s : Nat) : tc_dz s 2 15 = tc_dy s 2 6 := by
  simp only [tc_dz, tc_dy, tc_e0_2, tc_e1_2, tc_e2_2, tc_e3_2, tc_e4_2, tc_e5_2, tc_e6_2, tc_e7_2, tc_e8_2, tc_e9_2, tc_e10_2, tc_e11_2, tc_e12_2, tc_e13_2, tc_e14_2, tc_p0_2, tc_p1_2, tc_p3_2, tc_p4_2, tc_p5_2, tc_q0_2, tc_q1_2, tc_q2_2, tc_q3_2, tc_q4_2, tc_q5_2, cond_true, cond_false, Nat.add_zero, Nat.zero_add]
theorem tc_deg6_3 (s : Nat) : tc_dz s 3 15 = tc_dy s 3 6 := by
  simp only [tc_dz, tc_dy, tc_e0_3, tc_e1_3, tc_e2_3, tc_e3_3, tc_e4_3, tc_e5_3, tc_e6_3, tc_e7_3, tc_e8_3, tc_e9_3, tc_e10_3, tc_e11_3, tc_e12_3, tc_e13_3, tc_e14_3, tc_p0_3, tc_p1_3, tc_p2_3, tc_p4_3, tc_p5_3, tc_q0_3, tc_q1_3, tc_q2_3, tc_q3_3, tc_q4_3, tc_q5_3, cond_true, cond_false, Nat.add_zero, Nat.zero_add]
theorem tc_deg6_4 (s : Nat) : tc_dz s 4 15 = tc_dy s 4 6 := by
  simp only [tc_dz, tc_dy, tc_e0_4, tc_e1_4, tc_e2_4, tc_e3_4, tc_e4_4, tc_e5_4, tc_e6_4, tc_e7_4, tc_e8_4, tc_e9_4, tc_e10_4, tc_e11_4, tc_e12_4, tc_e13_4, tc_e14_4, tc_p0_4, tc_p1_4, tc_p2_4, tc_p3_4, tc_p5_4, tc_q0_4, tc_q1_4, tc_q2_4, tc_q3_4, tc_q4_4, tc_q5_4, cond_true, cond_false, Nat.add_zero, Nat.zero_add]
theorem tc_deg6_5 (s : Nat) : tc_dz s 5 15 = tc_dy s 5 6 := by
  simp only [tc_dz, tc_dy, tc_e0_5, tc_e1_5, tc_e2_5, tc_e3_5, tc_e4_5, tc_e5_5, tc_e6_5, tc_e7_5, tc_e8_5, tc_e9_5, tc_e10_5, tc_e11_5, tc_e12_5, tc_e13_5, tc_e14_5, tc_p0_5, tc_p1_5, tc_p2_5, tc_p3_5, tc_p4_5, tc_q0_5, tc_q1_5, tc_q2_5, tc_q3_5, tc_q4_5, tc_q5_5, cond_true, cond_false, Nat.add_zero, Nat.zero_add]
theorem tc_deg {n v : Nat} (s : Nat) (h2 : 2 ≤ n) (hn : n < 7) (hv : v < n) : tc_dx s v (tc_P n) = tc_dy s v n := by
  rw [tc_dx_dz]
  have c : n = 2 ∨ n = 3 ∨ n = 4 ∨ n = 5 ∨ n = 6 := by omega
  rcases c with rfl | rfl | rfl | rfl | rfl
  · rcases (by omega : v = 0 ∨ v = 1) with rfl | rfl
    · exact tc_deg2_0 s
    · exact tc_deg2_1 s
  · rcases (by omega : v = 0 ∨ v = 1 ∨ v = 2) with rfl | rfl | rfl
    · exact tc_deg3_0 s
    · exact tc_deg3_1 s
    · exact tc_deg3_2 s
  · rcases (by omega : v = 0 ∨ v = 1 ∨ v = 2 ∨ v = 3) with rfl | rfl | rfl | rfl
    · exact tc_deg4_0 s
    · exact tc_deg4_1 s
    · exact tc_deg4_2 s
    · exact tc_deg4_3 s
  · rcases (by omega : v = 0 ∨ v = 1 ∨ v = 2 ∨ v = 3 ∨ v = 4) with rfl | rfl | rfl | rfl | rfl
    · exact tc_deg5_0 s
    · exact tc_deg5_1 s
    · exact tc_deg5_2 s
    · exact tc_deg5_3 s
    · exact tc_deg5_4 s
  · rcases (by omega : v = 0 ∨ v = 1 ∨ v = 2 ∨ v = 3 ∨ v = 4 ∨ v = 5) with rfl | rfl | rfl | rfl | rfl | rfl
    · exact tc_deg6_0 s
    · exact tc_deg6_1 s
    · exact tc_deg6_2 s
    · exact tc_deg6_3 s
    · exact tc_deg6_4 s
    · exact tc_deg6_5 s
/-! totals over the trees that hold a mask -/
def tc_TT (n : Nat) (W : Nat → Nat) (q : Nat) : Nat := tc_S (fun s => if tc_tr n s = true then (if s &&& q = q then W s else 0) else 0) (2 ^ tc_P n)
theorem tc_TT_le {n : Nat} {W : Nat → Nat} (hn : n < 7) (hW : ∀ s, tc_tr n s = true → W s ≤ 243) (q : Nat) : tc_TT n W q ≤ 314928 := by
  have a : tc_TT n W q ≤ tc_S (fun s => (if tc_tr n s = true then 1 else 0) * 243) (2 ^ tc_P n) := by
    apply tc_S_le
    intro s _
    show (if tc_tr n s = true then (if s &&& q = q then W s else 0) else 0) ≤ (if tc_tr n s = true then 1 else 0) * 243
    by_cases h : tc_tr n s = true
    · rw [if_pos h, if_pos h]
      have := hW s h
      split <;> omega
    · rw [if_neg h, if_neg h]
      exact Nat.zero_le _
  rw [tc_S_mul] at a
  have b : tc_S (fun s => if tc_tr n s = true then 1 else 0) (2 ^ tc_P n) ≤ 1296 := tc_cn_le hn
  omega
theorem tc_TT_in {n : Nat} {W : Nat → Nat} {q s : Nat} (h : tc_TT n W q = 0) (hs : s < 2 ^ tc_P n) (ht : tc_tr n s = true) (hq : s &&& q = q) : W s = 0 := by
  have z : (if tc_tr n s = true then (if s &&& q = q then W s else 0) else 0) = 0 := tc_S_eq0 _ h s hs
  rw [if_pos ht, if_pos hq] at z
  exact z
theorem tc_TT_0 {n : Nat} {W : Nat → Nat} {q : Nat} (h : ∀ s, s < 2 ^ tc_P n → tc_tr n s = true → s &&& q = q → W s = 0) : tc_TT n W q = 0 := by
  apply tc_S_zero
  intro s hs
  show (if tc_tr n s = true then (if s &&& q = q then W s else 0) else 0) = 0
  by_cases a : tc_tr n s = true
  · rw [if_pos a]
    by_cases b : s &&& q = q
    · rw [if_pos b]; exact h s hs a b
    · rw [if_neg b]
  · rw [if_neg a]
theorem tc_TT_sub {n : Nat} {W : Nat → Nat} (p : Nat) : tc_TT n W 0 = tc_TT n W (2 ^ p) + tc_S (fun s => if tc_tr n s = true then (if s.testBit p = true then 0 else W s) else 0) (2 ^ tc_P n) := by
  unfold tc_TT
  rw [← tc_S_plus]
  apply tc_S_congr
  intro s _
  show (if tc_tr n s = true then (if s &&& 0 = 0 then W s else 0) else 0) = (if tc_tr n s = true then (if s &&& 2 ^ p = 2 ^ p then W s else 0) else 0) + (if tc_tr n s = true then (if s.testBit p = true then 0 else W s) else 0)
  by_cases a : tc_tr n s = true
  · rw [if_pos a, if_pos a, if_pos a, if_pos (Nat.and_zero s)]
    by_cases b : s.testBit p = true
    · rw [if_pos b, if_pos ((tc_and_pow s p).mpr b)] <;> rfl
    · rw [if_neg b, if_neg (fun z => b ((tc_and_pow s p).mp z)), Nat.zero_add]
  · rw [if_neg a, if_neg a, if_neg a]
theorem tc_TT_eq {n : Nat} {W : Nat → Nat} {p : Nat} : tc_TT n W (2 ^ p) = tc_TT n W 0 ↔ ∀ s, s < 2 ^ tc_P n → tc_tr n s = true → s.testBit p = false → W s = 0 := by
  have e := tc_TT_sub (n := n) (W := W) p
  constructor
  · intro h s hs ht hb
    have z := tc_S_eq0 (f := fun s => if tc_tr n s = true then (if s.testBit p = true then 0 else W s) else 0) (2 ^ tc_P n) (by omega) s hs
    have z' : (if tc_tr n s = true then (if s.testBit p = true then 0 else W s) else 0) = 0 := z
    rw [if_pos ht, if_neg (by rw [hb]; decide)] at z'
    exact z'
  · intro h
    have y : tc_S (fun s => if tc_tr n s = true then (if s.testBit p = true then 0 else W s) else 0) (2 ^ tc_P n) = 0 := by
      apply tc_S_zero
      intro s hs
      show (if tc_tr n s = true then (if s.testBit p = true then 0 else W s) else 0) = 0
      by_cases a : tc_tr n s = true
      · rw [if_pos a]
        cases b : s.testBit p
        · rw [if_neg (by decide)]; exact h s hs a b
        · rw [if_pos rfl]
      · rw [if_neg a]
    omega
end
section
/-! X's private methods, each with a general post -/
theorem tc_sz_le (s : Nat) : ∀ k, tc_sz s k ≤ k := by
  intro k
  induction k with
  | zero => exact Nat.le_refl _
  | succ k ih =>
    show tc_sz s k + tc_b s k ≤ k + 1
    have h : tc_b s k ≤ 1 := by unfold tc_b; split <;> omega
    omega
theorem tc_P_lt {n : Nat} (hn : n < 7) : tc_P n < 16 := by have := tc_P_le n hn; omega
theorem tc_N_lt {n : Nat} (hn : n < 7) : 2 ^ tc_P n ≤ 32768 := (Nat.pow_le_pow_right (by decide) (tc_P_le n hn) : 2 ^ tc_P n ≤ 2 ^ 15)
theorem tc_2n {n : Nat} (hn : n < 7) : 2 ^ n ≤ 64 := (Nat.pow_le_pow_right (by decide) (by omega) : 2 ^ n ≤ 2 ^ 6)
def tc_bad (n : Nat) (x y : Int32) : Prop := x < 0 ∨ nI n ≤ x ∨ y < 0 ∨ nI n ≤ y ∨ x = y
theorem tc_cases {n : Nat} (hn : n < 7) (x y : Int32) : tc_bad n x y ∨ ∃ u v : Nat, u < n ∧ v < n ∧ u ≠ v ∧ x = nI u ∧ y = nI v := by
  rcases pk_ix x (n := n) (by omega) with h | h | ⟨u, hu, ex⟩
  · exact Or.inl (Or.inl h)
  · exact Or.inl (Or.inr (Or.inl h))
  · rcases pk_ix y (n := n) (by omega) with h | h | ⟨v, hv, ey⟩
    · exact Or.inl (Or.inr (Or.inr (Or.inl h)))
    · exact Or.inl (Or.inr (Or.inr (Or.inr (Or.inl h))))
    · by_cases z : u = v
      · exact Or.inl (Or.inr (Or.inr (Or.inr (Or.inr (by rw [ex, ey, z])))))
      · exact Or.inr ⟨u, v, hu, hv, z, ex, ey⟩
theorem tc_tri {v : Nat} (h1 : 1 ≤ v) (hv : v < 100) : (nI v * (nI v - 1)) / 2 = nI (v * (v - 1) / 2) := by
  have b : v * (v - 1) ≤ 100 * 100 := Nat.mul_le_mul (by omega) (by omega)
  show (nI v * (nI v - nI 1)) / nI 2 = _
  rw [pk_sub h1, pk_mul, pk_div (by omega) (by decide) (by decide)]
theorem tc_20 : ¬ (2 : Int32) = 0 := by decide
theorem tc_10 : ¬ (1 : Int32) = 0 := by decide
theorem tc_xpairOf {post : Int32 → Prop} {u v : Nat} (hu : u < 7) (hv : v < 7) (huv : u ≠ v) (h : post (nI (tc_pair u v))) : wpX_pairOf post (nI u) (nI v) := by
  by_cases z : u < v
  · have c : ¬ nI v ≤ nI u := nI_ge z (by omega)
    refine br_f c (br_f c ⟨tc_20, ?_⟩)
    rw [tc_tri (by omega) (by omega), nI_add]
    unfold tc_pair at h
    rw [if_pos z] at h
    exact h
  · have c : nI v ≤ nI u := nI_le (by omega) (by omega)
    refine br_t c (br_t c ⟨tc_20, ?_⟩)
    rw [tc_tri (by omega) (by omega), nI_add]
    unfold tc_pair at h
    rw [if_neg z] at h
    exact h
theorem tc_xvg {n U R : Nat} {e m : Nat → Nat} {G : Nat → Int32} {post : Int32 → Prop} {u : Nat} (hn : n < 7) (hu : u < n) (h : post 1) : wpX_isVertex post (nI n, nI (tc_P n), nI U, nI R, (fun p => nI (e p)), (fun p => nI (m p)), G) (nI u) := by
  have c1 : ¬ nI u < 0 := nI_pos (by omega)
  have c2 : ¬ nI n ≤ nI u := nI_ge hu (by omega)
  exact br_f c1 (br_f c2 h)
theorem tc_xvb {n U R : Nat} {e m : Nat → Nat} {G : Nat → Int32} {post : Int32 → Prop} {x : Int32} (hx : x < 0 ∨ nI n ≤ x) (h : post 0) : wpX_isVertex post (nI n, nI (tc_P n), nI U, nI R, (fun p => nI (e p)), (fun p => nI (m p)), G) x := by
  by_cases c1 : x < 0
  · exact br_t c1 h
  · exact br_f c1 (br_t (hx.resolve_left c1) h)
theorem tc_xpg {n U R : Nat} {e m : Nat → Nat} {G : Nat → Int32} {post : Int32 → Prop} {u v : Nat} (hn : n < 7) (hu : u < n) (hv : v < n) (huv : u ≠ v) (h : post 1) : wpX_isPair post (nI n, nI (tc_P n), nI U, nI R, (fun p => nI (e p)), (fun p => nI (m p)), G) (nI u) (nI v) := by
  have c : ¬ nI u = nI v := by
    rw [nI_eq (by omega) (by omega)]
    exact huv
  unfold wpX_isPair
  dsimp only
  refine tc_xvg hn hu ?_
  refine br_f tc_10 ?_
  refine tc_xvg hn hv ?_
  exact br_f tc_10 (br_f c h)
theorem tc_xpb {n U R : Nat} {e m : Nat → Nat} {G : Nat → Int32} {post : Int32 → Prop} {x y : Int32} (hn : n < 7) (hb : tc_bad n x y) (h : post 0) : wpX_isPair post (nI n, nI (tc_P n), nI U, nI R, (fun p => nI (e p)), (fun p => nI (m p)), G) x y := by
  unfold wpX_isPair
  dsimp only
  rcases pk_ix x (n := n) (by omega) with c | c | ⟨u, hu, rfl⟩
  · refine tc_xvb (Or.inl c) ?_
    exact br_t rfl h
  · refine tc_xvb (Or.inr c) ?_
    exact br_t rfl h
  · refine tc_xvg hn hu ?_
    refine br_f tc_10 ?_
    rcases pk_ix y (n := n) (by omega) with c | c | ⟨v, hv, rfl⟩
    · refine tc_xvb (Or.inl c) ?_
      exact br_t rfl h
    · refine tc_xvb (Or.inr c) ?_
      exact br_t rfl h
    · refine tc_xvg hn hv ?_
      refine br_f tc_10 (br_t ?_ h)
      have d1 : ¬ nI u < 0 := nI_pos (by omega)
      have d2 : ¬ nI n ≤ nI u := nI_ge hu (by omega)
      have d3 : ¬ nI v < 0 := nI_pos (by omega)
      have d4 : ¬ nI n ≤ nI v := nI_ge hv (by omega)
      exact (((hb.resolve_left d1).resolve_left d2).resolve_left d3).resolve_left d4
theorem tc_xhas {post : Int32 → Prop} {s p : Nat} (hs : s < 2 ^ 31) (hp : p < 32) (h1 : s.testBit p = true → post 1) (h0 : s.testBit p = false → post 0) : wpX_has post (nI s) (nI p) := by
  unfold wpX_has
  rw [tc_nbit hs hp]
  by_cases x : s.testBit p = true
  · rw [tc_b_t x]
    exact br_t rfl (h1 x)
  · have x' : s.testBit p = false := Bool.eq_false_iff.mpr x
    rw [tc_b_f x']
    exact br_f (by decide) (h0 x')
theorem tc_xsize4 {n U R : Nat} {e m : Nat → Nat} {G : Nat → Int32} {post : Int32 → Prop} {s : Nat} (hn : n < 7) (hs : s < 2 ^ 31) (h : post (nI (tc_sz s (tc_P n)))) : ∀ d i : Nat, i + d = tc_P n → wX_sizeOf_4 post (nI s) (nI n) (nI (tc_P n)) (nI U) (nI R) (fun p => nI (e p)) (fun p => nI (m p)) G (d + 1) (nI (tc_sz s i)) (nI i) := by
  have hP := tc_P_lt hn
  intro d
  induction d with
  | zero =>
    intro i hi
    have e1 : i = tc_P n := by omega
    rw [e1]
    exact br_t (nI_le (Nat.le_refl _) (by omega)) h
  | succ d ih =>
    intro i hi
    refine br_f (nI_ge (by omega) (by omega)) ?_
    intro y ey z ez
    rw [tc_nbit hs (by omega), nI_add] at ey
    rw [ey, ez, nI_1]
    exact ih (i + 1) (by omega)
theorem tc_xsize {n U R : Nat} {e m : Nat → Nat} {G : Nat → Int32} {post : Int32 → Prop} {s : Nat} (hn : n < 7) (hs : s < 2 ^ 31) (h : post (nI (tc_sz s (tc_P n)))) : wpX_sizeOf post (nI n, nI (tc_P n), nI U, nI R, (fun p => nI (e p)), (fun p => nI (m p)), G) (nI s) := ⟨_, tc_xsize4 hn hs h (tc_P n) 0 (Nat.zero_add _)⟩
theorem tc_st_0 {s p r : Nat} (h : s.testBit p = false) : tc_st s p r = r := if_neg (fun z => by rw [h] at z; exact absurd z.1 (by decide))
theorem tc_st_1 {s p r : Nat} (h : r &&& tc_E p = 0) : tc_st s p r = r := if_neg (fun z => z.2 h)
theorem tc_st_2 {s p r : Nat} (h : s.testBit p = true) (h2 : ¬ r &&& tc_E p = 0) : tc_st s p r = r ||| tc_E p := if_pos ⟨h, h2⟩
theorem tc_xr19 {n U R : Nat} {e m : Nat → Nat} {G : Nat → Int32} {post : Int32 → Prop} {J : Int32 → Int32 → Prop} {s r0 : Nat} {x4 : Int32} (hn : n < 7) (hs : s < 2 ^ 31) (hr : r0 < 2 ^ n) (hG : ∀ p, p < tc_P n → G p = nI (tc_E p)) (h : J (nI (tc_rd s r0 (tc_P n))) (x4 + 1)) : ∀ d i : Nat, i + d = tc_P n → wX_reachedFrom_19 post J (nI s) x4 (nI n) (nI (tc_P n)) (nI U) (nI R) (fun p => nI (e p)) (fun p => nI (m p)) G (d + 1) (nI (tc_rd s r0 i)) (nI i) := by
  have hP := tc_P_lt hn
  intro d
  induction d with
  | zero =>
    intro i hi
    have e1 : i = tc_P n := by omega
    rw [e1]
    exact br_t (nI_le (Nat.le_refl _) (by omega)) (nm_e h)
  | succ d ih =>
    intro i hi
    have k := ih (i + 1) (by omega)
    have ed : tc_rd s r0 (i + 1) = tc_st s i (tc_rd s r0 i) := rfl
    have lt := tc_64 hn (tc_rd_lt (s := s) hn hr i (by omega))
    rw [ed] at k
    generalize tc_rd s r0 i = r at *
    refine br_f (nI_ge (by omega) (by omega)) (tc_xhas hs (by omega) (fun hb => ?_) (fun hb => ?_))
    · have ge : G (nI i).toNatClampNeg = nI (tc_E i) := by rw [nI_clamp (by omega)]; exact hG i (by omega)
      have vi : vp_in (nI i) 15 := vp_in_nI (by have := tc_P_le n hn; omega) (by decide)
      refine br_f tc_10 ⟨vi, ?_⟩
      rw [ge, nx_and]
      by_cases z : r &&& tc_E i = 0
      · refine br_t (by rw [z]; rfl) ?_
        intro y ey
        rw [ey, nI_1]
        rw [tc_st_1 z] at k
        exact k
      · have zl : r &&& tc_E i ≤ r := Nat.and_le_left
        refine br_f (nI_ne0 (by omega) (by omega)) ⟨vi, ?_⟩
        intro y ey w ew
        rw [tc_nor] at ey
        rw [ey, ew, nI_1]
        rw [tc_st_2 hb z] at k
        exact k
    · refine br_t rfl ?_
      intro y ey
      rw [ey, nI_1]
      rw [tc_st_0 hb] at k
      exact k
theorem tc_xr7 {n U R : Nat} {e m : Nat → Nat} {G : Nat → Int32} {post : Int32 → Prop} {s r0 : Nat} (h2 : 1 ≤ n) (hn : n < 7) (hs : s < 2 ^ 31) (hr : r0 < 2 ^ n) (hG : ∀ p, p < tc_P n → G p = nI (tc_E p)) (h : post (nI (tc_rs s (tc_P n) r0 (n - 1)))) : ∀ d j : Nat, j + d = n - 1 → wX_reachedFrom_7 post (nI s) (nI n) (nI (tc_P n)) (nI U) (nI R) (fun p => nI (e p)) (fun p => nI (m p)) G (d + 1) (nI (tc_rs s (tc_P n) r0 j)) (nI (j + 1)) := by
  intro d
  induction d with
  | zero =>
    intro j hj
    have e1 : j = n - 1 := by omega
    rw [e1]
    exact br_t (nI_le (by omega) (by omega)) h
  | succ d ih =>
    intro j hj
    refine br_f (nI_ge (by omega) (by omega)) ⟨tc_P n + 1, ?_⟩
    refine tc_xr19 hn hs (tc_rs_lt hn hr j) hG ?_ (tc_P n) 0 (Nat.zero_add _)
    rw [nI_1]
    exact ih (j + 1) (by omega)
theorem tc_xreach {n U R : Nat} {e m : Nat → Nat} {G : Nat → Int32} {post : Int32 → Prop} {s u : Nat} (hn : n < 7) (hs : s < 2 ^ 31) (hu : u < n) (hG : ∀ p, p < tc_P n → G p = nI (tc_E p)) (h : post (nI (tc_C s n u))) : wpX_reachedFrom post (nI n, nI (tc_P n), nI U, nI R, (fun p => nI (e p)), (fun p => nI (m p)), G) (nI u) (nI s) := by
  intro y ey
  rw [tc_none (by omega)] at ey
  rw [ey]
  exact ⟨_, tc_xr7 (by omega) hn hs (tc_2u hu) hG h (n - 1) 0 (Nat.zero_add _)⟩
theorem tc_full_v {n : Nat} (hn : n < 7) : ((1 : Int32) <<< (nI n &&& 31)) - 1 = nI (2 ^ n - 1) := by
  rw [tc_none (by omega)]
  show nI (2 ^ n) - nI 1 = _
  rw [pk_sub (Nat.two_pow_pos n)]
theorem tc_xevery {n U R : Nat} {e m : Nat → Nat} {G : Nat → Int32} {post : Int32 → Prop} (hn : n < 7) (h : post (nI (2 ^ n - 1))) : wpX_everyVertex post (nI n, nI (tc_P n), nI U, nI R, (fun p => nI (e p)), (fun p => nI (m p)), G) := by
  show post (((1 : Int32) <<< (nI n &&& 31)) - 1)
  rw [tc_full_v hn]
  exact h
theorem tc_xch4 {n U R : Nat} {e m : Nat → Nat} {G : Nat → Int32} {post : Int32 → Prop} {s : Nat} (hn : n < 7) (hs : s < 2 ^ 31) (h : post (nI (tc_pr e s (tc_P n)))) : ∀ d i : Nat, i + d = tc_P n → wX_choicesOf_4 post (nI s) (nI n) (nI (tc_P n)) (nI U) (nI R) (fun p => nI (e p)) (fun p => nI (m p)) G (d + 1) (nI (tc_pr e s i)) (nI i) := by
  have hP := tc_P_lt hn
  have hP2 := tc_P_le n hn
  intro d
  induction d with
  | zero =>
    intro i hi
    have e1 : i = tc_P n := by omega
    rw [e1]
    exact br_t (nI_le (Nat.le_refl _) (by omega)) h
  | succ d ih =>
    intro i hi
    have k := ih (i + 1) (by omega)
    have ed : tc_pr e s (i + 1) = tc_pr e s i * (if s.testBit i = true then e i else 1) := rfl
    rw [ed] at k
    refine br_f (nI_ge (by omega) (by omega)) (tc_xhas hs (by omega) (fun hb => ?_) (fun hb => ?_))
    · refine br_f tc_10 ⟨vp_in_nI (by omega) (by decide), ?_⟩
      intro y ey z ez
      rw [nI_clamp (by omega), pk_mul] at ey
      rw [ey, ez, nI_1]
      rw [if_pos hb] at k
      exact k
    · refine br_t rfl ?_
      intro z ez
      rw [ez, nI_1]
      rw [if_neg (by rw [hb]; decide), Nat.mul_one] at k
      exact k
theorem tc_xch {n U R : Nat} {e m : Nat → Nat} {G : Nat → Int32} {post : Int32 → Prop} {s : Nat} (hn : n < 7) (hs : s < 2 ^ 31) (h : post (nI (tc_pr e s (tc_P n)))) : wpX_choicesOf post (nI n, nI (tc_P n), nI U, nI R, (fun p => nI (e p)), (fun p => nI (m p)), G) (nI s) := ⟨_, tc_xch4 hn hs h (tc_P n) 0 (Nat.zero_add _)⟩
theorem tc_xdeg5 {n U R : Nat} {e m : Nat → Nat} {G : Nat → Int32} {post : Int32 → Prop} {s v : Nat} (hn : n < 7) (hs : s < 2 ^ 31) (hv : v < n) (hG : ∀ p, p < tc_P n → G p = nI (tc_E p)) (h : post (nI (tc_dx s v (tc_P n)))) : ∀ d i : Nat, i + d = tc_P n → wX_degreeIn_5 post (nI s) (nI v) (nI n) (nI (tc_P n)) (nI U) (nI R) (fun p => nI (e p)) (fun p => nI (m p)) G (d + 1) (nI (tc_dx s v i)) (nI i) := by
  have hP := tc_P_lt hn
  have hP2 := tc_P_le n hn
  intro d
  induction d with
  | zero =>
    intro i hi
    have e1 : i = tc_P n := by omega
    rw [e1]
    exact br_t (nI_le (Nat.le_refl _) (by omega)) h
  | succ d ih =>
    intro i hi
    have k := ih (i + 1) (by omega)
    have ed : tc_dx s v (i + 1) = tc_dx s v i + (if s.testBit i = true ∧ (tc_E i).testBit v = true then 1 else 0) := rfl
    rw [ed] at k
    have el := tc_64 hn (tc_lohi n hn i (by omega)).2.2
    refine br_f (nI_ge (by omega) (by omega)) (tc_xhas hs (by omega) (fun hb => ?_) (fun hb => ?_))
    · refine br_f tc_10 ⟨vp_in_nI (by omega) (by decide), ?_⟩
      have ge : G (nI i).toNatClampNeg = nI (tc_E i) := by rw [nI_clamp (by omega)]; exact hG i (by omega)
      rw [ge]
      refine tc_xhas (by omega) (by omega) (fun hc => ?_) (fun hc => ?_)
      · refine br_f tc_10 ?_
        intro y ey z ez
        rw [ey, ez, nI_1, nI_1]
        rw [if_pos ⟨hb, hc⟩] at k
        exact k
      · refine br_t rfl ?_
        intro z ez
        rw [ez, nI_1]
        rw [if_neg (fun q => by rw [hc] at q; exact absurd q.2 (by decide)), Nat.add_zero] at k
        exact k
    · refine br_t rfl ?_
      intro z ez
      rw [ez, nI_1]
      rw [if_neg (fun q => by rw [hb] at q; exact absurd q.1 (by decide)), Nat.add_zero] at k
      exact k
theorem tc_xdeg {n U R : Nat} {e m : Nat → Nat} {G : Nat → Int32} {post : Int32 → Prop} {s v : Nat} (hn : n < 7) (hs : s < 2 ^ 31) (hv : v < n) (hG : ∀ p, p < tc_P n → G p = nI (tc_E p)) (h : post (nI (tc_dx s v (tc_P n)))) : wpX_degreeIn post (nI n, nI (tc_P n), nI U, nI R, (fun p => nI (e p)), (fun p => nI (m p)), G) (nI s) (nI v) := ⟨_, tc_xdeg5 hn hs hv hG h (tc_P n) 0 (Nat.zero_add _)⟩
theorem tc_dy_le (s v : Nat) : ∀ n, tc_dy s v n ≤ n := by
  intro n
  induction n with
  | zero => exact Nat.le_refl _
  | succ n ih =>
    by_cases z : n = v
    · subst z
      rw [tc_dy_e]; omega
    · rw [tc_dy_n z]
      have h : tc_b s (tc_pair n v) ≤ 1 := by unfold tc_b; split <;> omega
      omega
end
section
/-! what X's state keeps; X's queries against the pure sums -/
def tc_ok (n U R : Nat) (e m : Nat → Nat) (G : Nat → Int32) : Prop := 2 ≤ n ∧ n < 7 ∧ U < 2 ^ 15 ∧ R < 2 ^ 15 ∧ (∀ p, e p ≤ 3) ∧ (∀ p, m p ≤ 2) ∧ (∀ p, tc_P n ≤ p → e p = 0 ∧ m p = 0) ∧ (∀ p, U.testBit p = true ↔ 0 < e p ∧ m p ≠ 2) ∧ (∀ p, R.testBit p = true ↔ m p = 1) ∧ (∀ p, p < tc_P n → G p = nI (tc_E p))
theorem tc_al_iff {n U R : Nat} {e m : Nat → Nat} {G : Nat → Int32} {s : Nat} (I : tc_ok n U R e m G) (hs : s < 2 ^ tc_P n) : tc_al e m s (tc_P n) ↔ s ^^^ (s &&& U) = 0 ∧ R ^^^ (R &&& s) = 0 := by
  obtain ⟨h2, hn, hU, hR, he, hm, hz, bU, bR, hG⟩ := I
  rw [tc_sd0, tc_sd0]
  constructor
  · intro h
    constructor
    · intro p hp
      rcases Nat.lt_or_ge p (tc_P n) with z | z
      · exact (bU p).mpr ((h p z).1 hp)
      · rw [Nat.testBit_lt_two_pow (tc_le2 hs z)] at hp
        exact absurd hp (by decide)
    · intro p hp
      have m1 := (bR p).mp hp
      rcases Nat.lt_or_ge p (tc_P n) with z | z
      · exact (h p z).2 m1
      · rw [(hz p z).2] at m1
        exact absurd m1 (by decide)
  · intro h p _
    exact ⟨fun hp => (bU p).mp (h.1 p hp), fun hp => h.2 p ((bR p).mpr hp)⟩
theorem tc_xallow {n U R : Nat} {e m : Nat → Nat} {G : Nat → Int32} {post : Int32 → Prop} {s : Nat} (I : tc_ok n U R e m G) (hs : s < 2 ^ tc_P n) (h1 : tc_al e m s (tc_P n) → post 1) (h0 : ¬ tc_al e m s (tc_P n) → post 0) : wpX_isAllowed post (nI n, nI (tc_P n), nI U, nI R, (fun p => nI (e p)), (fun p => nI (m p)), G) (nI s) := by
  have k := tc_al_iff I hs
  obtain ⟨h2, hn, hU, hR, he, hm, hz, bU, bR, hG⟩ := I
  have b1 : s ^^^ (s &&& U) < 2 ^ 31 := tc_sd_lt (tc_le2 hs (by have := tc_P_le n hn; omega))
  have b2 : R ^^^ (R &&& s) < 2 ^ 31 := tc_sd_lt (tc_le2 hR (by decide))
  show ((nI s &&& (nI U ^^^ (-1))) = 0 → (((nI R &&& (nI s ^^^ (-1))) = 0 → post 1) ∧ (¬ (nI R &&& (nI s ^^^ (-1))) = 0 → post 0))) ∧ (¬ (nI s &&& (nI U ^^^ (-1))) = 0 → post 0)
  rw [tc_nandnot, tc_nandnot]
  by_cases z1 : s ^^^ (s &&& U) = 0
  · rw [z1]
    refine br_t rfl ?_
    by_cases z2 : R ^^^ (R &&& s) = 0
    · rw [z2]
      exact br_t rfl (h1 (k.mpr ⟨z1, z2⟩))
    · exact br_f (nI_ne0 (by omega) b2) (h0 (fun q => z2 (k.mp q).2))
  · exact br_f (nI_ne0 (by omega) b1) (h0 (fun q => z1 (k.mp q).1))
theorem tc_xtree {n U R : Nat} {e m : Nat → Nat} {G : Nat → Int32} {post : Int32 → Prop} {s : Nat} (I : tc_ok n U R e m G) (hs : s < 2 ^ tc_P n) (h1 : tc_al e m s (tc_P n) → tc_tr n s = true → post 1) (h0 : ¬ (tc_al e m s (tc_P n) ∧ tc_tr n s = true) → post 0) : wpX_isAllowedTree post (nI n, nI (tc_P n), nI U, nI R, (fun p => nI (e p)), (fun p => nI (m p)), G) (nI s) := by
  have hn := I.2.1
  have h2 := I.1
  have hG := I.2.2.2.2.2.2.2.2.2
  have sl : s < 2 ^ 31 := tc_le2 hs (by have := tc_P_le n hn; omega)
  have zl := tc_sz_le s (tc_P n)
  have pl := tc_P_le n hn
  unfold wpX_isAllowedTree
  dsimp only
  refine tc_xallow I hs (fun ha => ?_) (fun ha => ?_)
  · refine br_f tc_10 ?_
    refine tc_xsize hn sl ?_
    have e1 : nI n - 1 = nI (n - 1) := pk_sub (b := 1) (by omega)
    rw [e1]
    by_cases z : tc_sz s (tc_P n) = n - 1
    · refine br_t (congrArg nI z) ?_
      refine tc_xreach (u := 0) hn sl (by omega) hG ?_
      refine tc_xevery hn ?_
      have cl := tc_64 hn (tc_C_lt (s := s) (u := 0) hn (by omega))
      have nl := tc_2n hn
      by_cases y : tc_C s n 0 = 2 ^ n - 1
      · exact br_t (congrArg nI y) (h1 ha (tc_tr_iff.mpr ⟨z, y⟩))
      · refine br_f ?_ (h0 (fun q => y (tc_tr_iff.mp q.2).2))
        rw [nI_eq (by omega) (by omega)]
        exact y
    · refine br_f ?_ (h0 (fun q => z (tc_tr_iff.mp q.2).1))
      rw [nI_eq (by omega) (by omega)]
      exact z
  · exact br_t rfl (h0 (fun q => ha q.1))
theorem tc_xsplit {n U R : Nat} {e m : Nat → Nat} {G : Nat → Int32} {post : Int32 → Prop} {s u v : Nat} (I : tc_ok n U R e m G) (hs : s < 2 ^ tc_P n) (hu : u < n) (hv : v < n) (h1 : tc_al e m s (tc_P n) → tc_sp n s u v = true → post 1) (h0 : ¬ (tc_al e m s (tc_P n) ∧ tc_sp n s u v = true) → post 0) : wpX_isAllowedSplit post (nI n, nI (tc_P n), nI U, nI R, (fun p => nI (e p)), (fun p => nI (m p)), G) (nI s) (nI u) (nI v) := by
  have hn := I.2.1
  have h2 := I.1
  have hG := I.2.2.2.2.2.2.2.2.2
  have sl : s < 2 ^ 31 := tc_le2 hs (by have := tc_P_le n hn; omega)
  have zl := tc_sz_le s (tc_P n)
  have pl := tc_P_le n hn
  unfold wpX_isAllowedSplit
  dsimp only
  refine tc_xallow I hs (fun ha => ?_) (fun ha => ?_)
  · refine br_f tc_10 ?_
    refine tc_xsize hn sl ?_
    have e1 : nI n - 2 = nI (n - 2) := pk_sub (b := 2) (by omega)
    rw [e1]
    by_cases z : tc_sz s (tc_P n) = n - 2
    · refine br_t (congrArg nI z) ?_
      refine tc_xreach hn sl hu hG ?_
      refine tc_xreach hn sl hv hG ?_
      refine tc_xevery hn ?_
      have cl := tc_64 hn (Nat.or_lt_two_pow (tc_C_lt (s := s) hn hu) (tc_C_lt (s := s) hn hv))
      have nl := tc_2n hn
      rw [tc_nor]
      by_cases y : tc_C s n u ||| tc_C s n v = 2 ^ n - 1
      · exact br_t (congrArg nI y) (h1 ha (tc_sp_iff.mpr ⟨z, y⟩))
      · refine br_f ?_ (h0 (fun q => y (tc_sp_iff.mp q.2).2))
        rw [nI_eq (by omega) (by omega)]
        exact y
    · refine br_f ?_ (h0 (fun q => z (tc_sp_iff.mp q.2).1))
      rw [nI_eq (by omega) (by omega)]
      exact z
  · exact br_t rfl (h0 (fun q => ha q.1))
/-! the terms of the sums -/
theorem tc_F1 {e m : Nat → Nat} {n s : Nat} {b : Bool} (ha : tc_al e m s (tc_P n)) (ht : b = true) : (if b = true then tc_w e m s (tc_P n) else 0) = tc_pr e s (tc_P n) := by
  rw [if_pos ht]
  exact (tc_al_w _ ha).1
theorem tc_F0 {e m : Nat → Nat} {n s : Nat} {b : Bool} (h : ¬ (tc_al e m s (tc_P n) ∧ b = true)) : (if b = true then tc_w e m s (tc_P n) else 0) = 0 := by
  by_cases ht : b = true
  · rw [if_pos ht]
    exact tc_nal_w _ (fun ha => h ⟨ha, ht⟩)
  · rw [if_neg ht]
theorem tc_S_s (f : Nat → Nat) (i : Nat) : tc_S f (i + 1) = tc_S f i + f i := rfl
theorem tc_xN {n : Nat} (hn : n < 7) : (1 : Int32) <<< (nI (tc_P n) &&& 31) = nI (2 ^ tc_P n) := tc_none (by have := tc_P_le n hn; omega)
theorem tc_xtrees4 {n U R : Nat} {e m : Nat → Nat} {G : Nat → Int32} {post : Int32 → Prop} (I : tc_ok n U R e m G) (h : post (nI (tc_S (fun s => if tc_tr n s = true then tc_w e m s (tc_P n) else 0) (2 ^ tc_P n)))) : ∀ d i : Nat, i + d = 2 ^ tc_P n → wX_trees_4 post (nI n) (nI (tc_P n)) (nI U) (nI R) (fun p => nI (e p)) (fun p => nI (m p)) G (d + 1) (nI (tc_S (fun s => if tc_tr n s = true then tc_w e m s (tc_P n) else 0) i)) (nI i) := by
  have hn := I.2.1
  have hN := tc_N_lt hn
  intro d
  induction d with
  | zero =>
    intro i hi
    have e1 : i = 2 ^ tc_P n := by omega
    rw [e1]
    exact br_t (by rw [tc_xN hn]; exact nI_le (Nat.le_refl _) (by omega)) h
  | succ d ih =>
    intro i hi
    have k := ih (i + 1) (by omega)
    rw [tc_S_s] at k
    have sl : i < 2 ^ 31 := by omega
    refine br_f (by rw [tc_xN hn]; exact nI_ge (by omega) (by omega)) ?_
    refine tc_xtree I (by omega) (fun ha ht => ?_) (fun hb => ?_)
    · refine br_f tc_10 ?_
      refine tc_xch hn sl ?_
      intro y ey z ez
      rw [tc_F1 ha ht] at k
      rw [ey, ez, nI_add, nI_1]
      exact k
    · refine br_t rfl ?_
      intro z ez
      rw [tc_F0 hb, Nat.add_zero] at k
      rw [ez, nI_1]
      exact k
theorem tc_xusing23 {n U R : Nat} {e m : Nat → Nat} {G : Nat → Int32} {post : Int32 → Prop} {p : Nat} (I : tc_ok n U R e m G) (hp : p < tc_P n) (h : post (nI (tc_TT n (fun s => tc_w e m s (tc_P n)) (2 ^ p)))) : ∀ d i : Nat, i + d = 2 ^ tc_P n → wX_using_23 post (nI p) (nI n) (nI (tc_P n)) (nI U) (nI R) (fun p => nI (e p)) (fun p => nI (m p)) G (d + 1) (nI (tc_S (fun s => if tc_tr n s = true then (if s &&& 2 ^ p = 2 ^ p then tc_w e m s (tc_P n) else 0) else 0) i)) (nI i) := by
  have hn := I.2.1
  have hN := tc_N_lt hn
  have hP := tc_P_le n hn
  intro d
  induction d with
  | zero =>
    intro i hi
    have e1 : i = 2 ^ tc_P n := by omega
    rw [e1]
    exact br_t (by rw [tc_xN hn]; exact nI_le (Nat.le_refl _) (by omega)) h
  | succ d ih =>
    intro i hi
    have k := ih (i + 1) (by omega)
    rw [tc_S_s] at k
    have sl : i < 2 ^ 31 := by omega
    refine br_f (by rw [tc_xN hn]; exact nI_ge (by omega) (by omega)) ?_
    refine tc_xhas sl (by omega) (fun hb => ?_) (fun hb => ?_)
    · rw [if_pos ((tc_and_pow i p).mpr hb)] at k
      refine br_f tc_10 ?_
      refine tc_xtree I (by omega) (fun ha ht => ?_) (fun hc => ?_)
      · refine br_f tc_10 ?_
        refine tc_xch hn sl ?_
        intro y ey z ez
        rw [tc_F1 ha ht] at k
        rw [ey, ez, nI_add, nI_1]
        exact k
      · refine br_t rfl ?_
        intro z ez
        rw [tc_F0 hc, Nat.add_zero] at k
        rw [ez, nI_1]
        exact k
    · refine br_t rfl ?_
      intro z ez
      have nb : ¬ i &&& 2 ^ p = 2 ^ p := fun q => by rw [(tc_and_pow i p).mp q] at hb; exact absurd hb (by decide)
      rw [if_neg nb, ite_self, Nat.add_zero] at k
      rw [ez, nI_1]
      exact k
theorem tc_xleaf14 {n U R : Nat} {e m : Nat → Nat} {G : Nat → Int32} {post : Int32 → Prop} {v : Nat} (I : tc_ok n U R e m G) (hv : v < n) (h : post (nI (tc_S (fun s => if tc_tr n s = true then (if tc_dy s v n = 1 then tc_w e m s (tc_P n) else 0) else 0) (2 ^ tc_P n)))) : ∀ d i : Nat, i + d = 2 ^ tc_P n → wX_leaf_14 post (nI v) (nI n) (nI (tc_P n)) (nI U) (nI R) (fun p => nI (e p)) (fun p => nI (m p)) G (d + 1) (nI (tc_S (fun s => if tc_tr n s = true then (if tc_dy s v n = 1 then tc_w e m s (tc_P n) else 0) else 0) i)) (nI i) := by
  have hn := I.2.1
  have hN := tc_N_lt hn
  have hP := tc_P_le n hn
  have hG := I.2.2.2.2.2.2.2.2.2
  intro d
  induction d with
  | zero =>
    intro i hi
    have e1 : i = 2 ^ tc_P n := by omega
    rw [e1]
    exact br_t (by rw [tc_xN hn]; exact nI_le (Nat.le_refl _) (by omega)) h
  | succ d ih =>
    intro i hi
    have k := ih (i + 1) (by omega)
    rw [tc_S_s] at k
    have sl : i < 2 ^ 31 := by omega
    refine br_f (by rw [tc_xN hn]; exact nI_ge (by omega) (by omega)) ?_
    refine tc_xtree I (by omega) (fun ha ht => ?_) (fun hb => ?_)
    · refine br_f tc_10 ?_
      refine tc_xdeg hn sl hv hG ?_
      rw [tc_deg i I.1 hn hv]
      have dl := tc_dy_le i v n
      rw [if_pos ht] at k
      by_cases z : tc_dy i v n = 1
      · refine br_t (congrArg nI z) ?_
        refine tc_xch hn sl ?_
        intro y ey w ew
        rw [if_pos z, (tc_al_w _ ha).1] at k
        rw [ey, ew, nI_add, nI_1]
        exact k
      · refine br_f ?_ ?_
        · show ¬ nI (tc_dy i v n) = nI 1
          rw [nI_eq (by omega) (by omega)]
          exact z
        · intro w ew
          rw [if_neg z, Nat.add_zero] at k
          rw [ew, nI_1]
          exact k
    · refine br_t rfl ?_
      intro z ez
      have q0 : (if tc_tr n i = true then (if tc_dy i v n = 1 then tc_w e m i (tc_P n) else 0) else 0) = 0 := by
        by_cases ht : tc_tr n i = true
        · rw [if_pos ht, tc_nal_w _ (fun ha => hb ⟨ha, ht⟩), ite_self]
        · rw [if_neg ht]
      have k2 := k
      rw [q0, Nat.add_zero] at k2
      rw [ez, nI_1]
      exact k2
theorem tc_xdegs14 {n U R : Nat} {e m : Nat → Nat} {G : Nat → Int32} {post : Int32 → Prop} {v : Nat} (I : tc_ok n U R e m G) (hv : v < n) (h : post (nI (tc_S (fun s => if tc_tr n s = true then tc_w e m s (tc_P n) * tc_dy s v n else 0) (2 ^ tc_P n)))) : ∀ d i : Nat, i + d = 2 ^ tc_P n → wX_degrees_14 post (nI v) (nI n) (nI (tc_P n)) (nI U) (nI R) (fun p => nI (e p)) (fun p => nI (m p)) G (d + 1) (nI (tc_S (fun s => if tc_tr n s = true then tc_w e m s (tc_P n) * tc_dy s v n else 0) i)) (nI i) := by
  have hn := I.2.1
  have hN := tc_N_lt hn
  have hP := tc_P_le n hn
  have hG := I.2.2.2.2.2.2.2.2.2
  intro d
  induction d with
  | zero =>
    intro i hi
    have e1 : i = 2 ^ tc_P n := by omega
    rw [e1]
    exact br_t (by rw [tc_xN hn]; exact nI_le (Nat.le_refl _) (by omega)) h
  | succ d ih =>
    intro i hi
    have k := ih (i + 1) (by omega)
    rw [tc_S_s] at k
    have sl : i < 2 ^ 31 := by omega
    refine br_f (by rw [tc_xN hn]; exact nI_ge (by omega) (by omega)) ?_
    refine tc_xtree I (by omega) (fun ha ht => ?_) (fun hb => ?_)
    · refine br_f tc_10 ?_
      refine tc_xch hn sl ?_
      refine tc_xdeg hn sl hv hG ?_
      rw [tc_deg i I.1 hn hv]
      intro y ey w ew
      rw [if_pos ht, (tc_al_w _ ha).1] at k
      rw [ey, ew, pk_mul, nI_add, nI_1]
      exact k
    · refine br_t rfl ?_
      intro z ez
      have q0 : (if tc_tr n i = true then tc_w e m i (tc_P n) * tc_dy i v n else 0) = 0 := by
        by_cases ht : tc_tr n i = true
        · rw [if_pos ht, tc_nal_w _ (fun ha => hb ⟨ha, ht⟩), Nat.zero_mul]
        · rw [if_neg ht]
      have k2 := k
      rw [q0, Nat.add_zero] at k2
      rw [ez, nI_1]
      exact k2
theorem tc_xapart16 {n U R : Nat} {e m : Nat → Nat} {G : Nat → Int32} {post : Int32 → Prop} {u v : Nat} (I : tc_ok n U R e m G) (hu : u < n) (hv : v < n) (h : post (nI (tc_S (fun s => if tc_sp n s u v = true then tc_w e m s (tc_P n) else 0) (2 ^ tc_P n)))) : ∀ d i : Nat, i + d = 2 ^ tc_P n → wX_apart_16 post (nI u) (nI v) (nI n) (nI (tc_P n)) (nI U) (nI R) (fun p => nI (e p)) (fun p => nI (m p)) G (d + 1) (nI (tc_S (fun s => if tc_sp n s u v = true then tc_w e m s (tc_P n) else 0) i)) (nI i) := by
  have hn := I.2.1
  have hN := tc_N_lt hn
  intro d
  induction d with
  | zero =>
    intro i hi
    have e1 : i = 2 ^ tc_P n := by omega
    rw [e1]
    exact br_t (by rw [tc_xN hn]; exact nI_le (Nat.le_refl _) (by omega)) h
  | succ d ih =>
    intro i hi
    have k := ih (i + 1) (by omega)
    rw [tc_S_s] at k
    have sl : i < 2 ^ 31 := by omega
    refine br_f (by rw [tc_xN hn]; exact nI_ge (by omega) (by omega)) ?_
    refine tc_xsplit I (by omega) hu hv (fun ha ht => ?_) (fun hb => ?_)
    · refine br_f tc_10 ?_
      refine tc_xch hn sl ?_
      intro y ey z ez
      rw [tc_F1 ha ht] at k
      rw [ey, ez, nI_add, nI_1]
      exact k
    · refine br_t rfl ?_
      intro z ez
      rw [tc_F0 hb, Nat.add_zero] at k
      rw [ez, nI_1]
      exact k
end
section
/-! idle and needed on X's side -/
def tc_A (e m : Nat → Nat) (n s : Nat) : Prop := tc_al e m s (tc_P n) ∧ tc_tr n s = true
theorem tc_A_p {e m : Nat → Nat} {n p : Nat} : tc_TT n (fun s => tc_w e m s (tc_P n)) (2 ^ p) = 0 ↔ ∀ s, s < 2 ^ tc_P n → tc_A e m n s → s.testBit p = false := by
  constructor
  · intro h s hs ⟨ha, ht⟩
    cases b : s.testBit p
    · rfl
    · have z : tc_w e m s (tc_P n) = 0 := tc_TT_in (W := fun s => tc_w e m s (tc_P n)) h hs ht ((tc_and_pow s p).mpr b)
      have y := tc_w_pos.mpr ha
      omega
  · intro h
    apply tc_TT_0
    intro s hs ht hq
    have b := (tc_and_pow s p).mp hq
    rcases Nat.eq_zero_or_pos (tc_w e m s (tc_P n)) with z | z
    · exact z
    · have y := h s hs ⟨tc_w_pos.mp z, ht⟩
      rw [b] at y
      exact absurd y (by decide)
theorem tc_A_0 {e m : Nat → Nat} {n : Nat} : tc_TT n (fun s => tc_w e m s (tc_P n)) 0 = 0 ↔ ∀ s, s < 2 ^ tc_P n → ¬ tc_A e m n s := by
  constructor
  · intro h s hs ⟨ha, ht⟩
    have z : tc_w e m s (tc_P n) = 0 := tc_TT_in (W := fun s => tc_w e m s (tc_P n)) h hs ht (Nat.and_zero s)
    have y := tc_w_pos.mpr ha
    omega
  · intro h
    apply tc_TT_0
    intro s hs ht _
    rcases Nat.eq_zero_or_pos (tc_w e m s (tc_P n)) with z | z
    · exact z
    · exact absurd ⟨tc_w_pos.mp z, ht⟩ (h s hs)
theorem tc_A_e {e m : Nat → Nat} {n p : Nat} : tc_TT n (fun s => tc_w e m s (tc_P n)) (2 ^ p) = tc_TT n (fun s => tc_w e m s (tc_P n)) 0 ↔ ∀ s, s < 2 ^ tc_P n → tc_A e m n s → s.testBit p = true := by
  rw [tc_TT_eq]
  constructor
  · intro h s hs ⟨ha, ht⟩
    cases b : s.testBit p
    · have z : tc_w e m s (tc_P n) = 0 := h s hs ht b
      have y := tc_w_pos.mpr ha
      omega
    · rfl
  · intro h s hs ht b
    show tc_w e m s (tc_P n) = 0
    rcases Nat.eq_zero_or_pos (tc_w e m s (tc_P n)) with z | z
    · exact z
    · have y := h s hs ⟨tc_w_pos.mp z, ht⟩
      rw [b] at y
      exact absurd y (by decide)
def tc_ci (e m : Nat → Nat) (n p : Nat) : Nat := if 0 < e p ∧ tc_TT n (fun s => tc_w e m s (tc_P n)) (2 ^ p) = 0 then 1 else 0
def tc_cnd (e m : Nat → Nat) (n p : Nat) : Nat := if 0 < tc_TT n (fun s => tc_w e m s (tc_P n)) 0 ∧ tc_TT n (fun s => tc_w e m s (tc_P n)) (2 ^ p) = tc_TT n (fun s => tc_w e m s (tc_P n)) 0 then 1 else 0
theorem tc_xidle36 {n U R : Nat} {e m : Nat → Nat} {G : Nat → Int32} {post : Int32 → Prop} {g : Nat} (I : tc_ok n U R e m G) (hg : g < 2 ^ tc_P n) (bg : ∀ p, g.testBit p = true ↔ ¬ tc_TT n (fun s => tc_w e m s (tc_P n)) (2 ^ p) = 0) (h : post (nI (tc_S (tc_ci e m n) (tc_P n)))) : ∀ d i : Nat, i + d = tc_P n → wX_idle_36 post (nI g) (nI n) (nI (tc_P n)) (nI U) (nI R) (fun p => nI (e p)) (fun p => nI (m p)) G (d + 1) (nI (tc_S (tc_ci e m n) i)) (nI i) := by
  have hn := I.2.1
  have hN := tc_N_lt hn
  have hP := tc_P_le n hn
  have he := I.2.2.2.2.1
  intro d
  induction d with
  | zero =>
    intro i hi
    have e1 : i = tc_P n := by omega
    rw [e1]
    exact br_t (nI_le (Nat.le_refl _) (by omega)) h
  | succ d ih =>
    intro i hi
    have k := ih (i + 1) (by omega)
    rw [tc_S_s] at k
    have hei := he i
    refine br_f (nI_ge (by omega) (by omega)) ⟨vp_in_nI (by omega) (by decide), ?_⟩
    dsimp only
    rw [nI_clamp (by omega)]
    by_cases z : e i = 0
    · refine br_t ?_ ?_
      · show nI (e i) ≤ nI 0
        exact nI_le (by omega) (by decide)
      · intro y ey
        have c : tc_ci e m n i = 0 := if_neg (fun q => by omega)
        rw [c, Nat.add_zero] at k
        rw [ey, nI_1]
        exact k
    · refine br_f (nI_nle (by omega) (by omega)) ?_
      refine tc_xhas (by omega) (by omega) (fun hb => ?_) (fun hb => ?_)
      · refine br_f tc_10 ?_
        intro y ey
        have c : tc_ci e m n i = 0 := if_neg (fun q => (bg i).mp hb q.2)
        rw [c, Nat.add_zero] at k
        rw [ey, nI_1]
        exact k
      · refine br_t rfl ?_
        intro y ey w ew
        have q0 : tc_TT n (fun s => tc_w e m s (tc_P n)) (2 ^ i) = 0 := by
          apply Classical.byContradiction
          intro q
          rw [(bg i).mpr q] at hb
          exact absurd hb (by decide)
        have c : tc_ci e m n i = 1 := if_pos ⟨by omega, q0⟩
        rw [c] at k
        rw [ey, ew, nI_1, nI_1]
        exact k
theorem tc_xidle4 {n U R : Nat} {e m : Nat → Nat} {G : Nat → Int32} {post : Int32 → Prop} (I : tc_ok n U R e m G) (h : post (nI (tc_S (tc_ci e m n) (tc_P n)))) : ∀ d i g : Nat, i + d = 2 ^ tc_P n → g < 2 ^ tc_P n → (∀ p, g.testBit p = true ↔ ∃ s, s < i ∧ tc_A e m n s ∧ s.testBit p = true) → wX_idle_4 post (nI n) (nI (tc_P n)) (nI U) (nI R) (fun p => nI (e p)) (fun p => nI (m p)) G (d + 1) (nI g) (nI i) := by
  have hn := I.2.1
  have hN := tc_N_lt hn
  intro d
  induction d with
  | zero =>
    intro i g hi hg bg
    have e1 : i = 2 ^ tc_P n := by omega
    rw [e1] at bg ⊢
    refine br_t (by rw [tc_xN hn]; exact nI_le (Nat.le_refl _) (by omega)) ⟨_, tc_xidle36 I hg ?_ h (tc_P n) 0 (Nat.zero_add _)⟩
    intro p
    rw [bg, tc_A_p]
    constructor
    · intro ⟨s, hs, ha, hb⟩ q
      rw [q s hs ha] at hb
      exact absurd hb (by decide)
    · intro q
      apply Classical.byContradiction
      intro r
      apply q
      intro s hs ha
      cases b : s.testBit p
      · rfl
      · exact absurd ⟨s, hs, ha, b⟩ r
  | succ d ih =>
    intro i g hi hg bg
    have hi2 : i < 2 ^ tc_P n := by omega
    refine br_f (by rw [tc_xN hn]; exact nI_ge (by omega) (by omega)) ?_
    refine tc_xtree I hi2 (fun ha ht => ?_) (fun hb => ?_)
    · refine br_f tc_10 ?_
      intro y ey z ez
      rw [ey, ez, tc_nor, nI_1]
      refine ih (i + 1) (g ||| i) (by omega) (Nat.or_lt_two_pow hg hi2) ?_
      intro p
      rw [Nat.testBit_or, Bool.or_eq_true, bg]
      constructor
      · rintro (⟨s, a, b, c⟩ | c)
        · exact ⟨s, by omega, b, c⟩
        · exact ⟨i, by omega, ⟨ha, ht⟩, c⟩
      · rintro ⟨s, a, b, c⟩
        rcases Nat.lt_or_ge s i with q | q
        · exact Or.inl ⟨s, q, b, c⟩
        · have q2 : s = i := by omega
          rw [q2] at c
          exact Or.inr c
    · refine br_t rfl ?_
      intro z ez
      rw [ez, nI_1]
      refine ih (i + 1) g (by omega) hg ?_
      intro p
      rw [bg]
      constructor
      · rintro ⟨s, a, b, c⟩
        exact ⟨s, by omega, b, c⟩
      · rintro ⟨s, a, b, c⟩
        rcases Nat.lt_or_ge s i with q | q
        · exact ⟨s, q, b, c⟩
        · have q2 : s = i := by omega
          rw [q2] at b
          exact absurd b hb
theorem tc_xidle {n U R : Nat} {e m : Nat → Nat} {G : Nat → Int32} {post : Int32 → Prop} (I : tc_ok n U R e m G) (h : post (nI (tc_S (tc_ci e m n) (tc_P n)))) : wpX_idle post (nI n, nI (tc_P n), nI U, nI R, (fun p => nI (e p)), (fun p => nI (m p)), G) := by
  refine ⟨_, tc_xidle4 I h (2 ^ tc_P n) 0 0 (Nat.zero_add _) (Nat.two_pow_pos _) ?_⟩
  intro p
  rw [Nat.zero_testBit]
  constructor
  · intro q; exact absurd q (by decide)
  · rintro ⟨s, a, _⟩; exact absurd a (Nat.not_lt_zero s)
theorem tc_sz_S (g : Nat) : ∀ k, tc_sz g k = tc_S (fun p => tc_b g p) k := by
  intro k
  induction k with
  | zero => rfl
  | succ k ih =>
    show tc_sz g k + tc_b g k = tc_S (fun p => tc_b g p) k + tc_b g k
    rw [ih]
theorem tc_xneeded13 {n U R : Nat} {e m : Nat → Nat} {G : Nat → Int32} {post : Int32 → Prop} (I : tc_ok n U R e m G) (h : post (nI (tc_S (tc_cnd e m n) (tc_P n)))) : ∀ (d i g : Nat) (f : Int32), i + d = 2 ^ tc_P n → g < 2 ^ tc_P n → (∀ p, p < tc_P n → (g.testBit p = true ↔ ∀ s, s < i → tc_A e m n s → s.testBit p = true)) → ((f = 0 ∧ ∀ s, s < i → ¬ tc_A e m n s) ∨ (f = 1 ∧ ∃ s, s < i ∧ tc_A e m n s)) → wX_needed_13 post (nI n) (nI (tc_P n)) (nI U) (nI R) (fun p => nI (e p)) (fun p => nI (m p)) G (d + 1) f (nI g) (nI i) := by
  have hn := I.2.1
  have hN := tc_N_lt hn
  intro d
  induction d with
  | zero =>
    intro i g f hi hg bg hf
    have e1 : i = 2 ^ tc_P n := by omega
    rw [e1] at bg hf ⊢
    refine br_t (by rw [tc_xN hn]; exact nI_le (Nat.le_refl _) (by omega)) ?_
    rcases hf with ⟨f0, q⟩ | ⟨f1, s0, hs0, ha0⟩
    · refine br_t f0 ?_
      have t0 := tc_A_0.mpr q
      have z : tc_S (tc_cnd e m n) (tc_P n) = 0 := by
        apply tc_S_zero
        intro p _
        exact if_neg (fun y => by omega)
      rw [z] at h
      exact h
    · refine br_f (by rw [f1]; exact tc_10) ?_
      refine tc_xsize hn (by omega) ?_
      have t0 : 0 < tc_TT n (fun s => tc_w e m s (tc_P n)) 0 := by
        rcases Nat.eq_zero_or_pos (tc_TT n (fun s => tc_w e m s (tc_P n)) 0) with y | y
        · exact absurd ha0 (tc_A_0.mp y s0 hs0)
        · exact y
      have z : tc_sz g (tc_P n) = tc_S (tc_cnd e m n) (tc_P n) := by
        rw [tc_sz_S]
        apply tc_S_congr
        intro p hp
        show tc_b g p = tc_cnd e m n p
        by_cases y : g.testBit p = true
        · have y2 := tc_A_e.mpr ((bg p hp).mp y)
          rw [tc_b_t y]
          exact (if_pos ⟨t0, y2⟩).symm
        · have y2 : ¬ tc_TT n (fun s => tc_w e m s (tc_P n)) (2 ^ p) = tc_TT n (fun s => tc_w e m s (tc_P n)) 0 := fun w => y ((bg p hp).mpr (tc_A_e.mp w))
          rw [tc_b_f (Bool.eq_false_iff.mpr y)]
          exact (if_neg (fun w => y2 w.2)).symm
      rw [z]
      exact h
  | succ d ih =>
    intro i g f hi hg bg hf
    have hi2 : i < 2 ^ tc_P n := by omega
    refine br_f (by rw [tc_xN hn]; exact nI_ge (by omega) (by omega)) ?_
    refine tc_xtree I hi2 (fun ha ht => ?_) (fun hb => ?_)
    · refine br_f tc_10 ?_
      intro y ey z ez
      rw [ey, ez, nx_and, nI_1]
      refine ih (i + 1) (g &&& i) 1 (by omega) (Nat.and_lt_two_pow g hi2) ?_ (Or.inr ⟨rfl, i, by omega, ha, ht⟩)
      intro p hp
      rw [Nat.testBit_and, Bool.and_eq_true, bg p hp]
      constructor
      · rintro ⟨a, b⟩ s hs hA
        rcases Nat.lt_or_ge s i with q | q
        · exact a s q hA
        · have q2 : s = i := by omega
          rw [q2]; exact b
      · intro a
        exact ⟨fun s hs => a s (by omega), a i (by omega) ⟨ha, ht⟩⟩
    · refine br_t rfl ?_
      intro z ez
      rw [ez, nI_1]
      have na : ∀ s, s < i + 1 → tc_A e m n s → s < i := by
        intro s hs hA
        rcases Nat.lt_or_ge s i with q | q
        · exact q
        · have q2 : s = i := by omega
          rw [q2] at hA
          exact absurd hA hb
      refine ih (i + 1) g f (by omega) hg ?_ ?_
      · intro p hp
        rw [bg p hp]
        exact ⟨fun a s hs hA => a s (na s hs hA) hA, fun a s hs => a s (by omega)⟩
      · rcases hf with ⟨f0, q⟩ | ⟨f1, s0, hs0, ha0⟩
        · exact Or.inl ⟨f0, fun s hs hA => q s (na s hs hA) hA⟩
        · exact Or.inr ⟨f1, s0, by omega, ha0⟩
theorem tc_xneeded {n U R : Nat} {e m : Nat → Nat} {G : Nat → Int32} {post : Int32 → Prop} (I : tc_ok n U R e m G) (h : post (nI (tc_S (tc_cnd e m n) (tc_P n)))) : wpX_needed post (nI n, nI (tc_P n), nI U, nI R, (fun p => nI (e p)), (fun p => nI (m p)), G) := by
  have hp := Nat.two_pow_pos (tc_P n)
  intro y ey
  rw [tc_xN I.2.1] at ey
  have e1 : nI (2 ^ tc_P n) - 1 = nI (2 ^ tc_P n - 1) := pk_sub (b := 1) hp
  rw [ey, e1]
  refine ⟨_, tc_xneeded13 I h (2 ^ tc_P n) 0 (2 ^ tc_P n - 1) 0 (Nat.zero_add _) (by omega) ?_ (Or.inl ⟨rfl, fun s hs => absurd hs (Nat.not_lt_zero s)⟩)⟩
  intro p hp2
  rw [Nat.testBit_two_pow_sub_one]
  exact ⟨fun _ s hs => absurd hs (Nat.not_lt_zero s), fun _ => decide_eq_true hp2⟩
/-! a pair whose edges or mode were set -/
theorem tc_clr (U p q : Nat) : (U ^^^ (U &&& 2 ^ p)).testBit q = true ↔ U.testBit q = true ∧ q ≠ p := by
  rw [Nat.testBit_xor, Nat.testBit_and, Nat.testBit_two_pow]
  by_cases z : p = q
  · rw [decide_eq_true z, Bool.and_true]
    constructor
    · intro h
      cases b : U.testBit q <;> rw [b] at h <;> exact absurd h (by decide)
    · intro h
      exact absurd z.symm h.2
  · rw [decide_eq_false z, Bool.and_false, Bool.xor_false]
    exact ⟨fun h => ⟨h, fun w => z w.symm⟩, fun h => h.1⟩
theorem tc_xcl57 {n U R : Nat} {e m : Nat → Nat} {G : Nat → Int32} {post : SX → Prop} {p : Nat} (hp : p < 15) (hR : R < 2 ^ 15) (hm : m p ≤ 2) (bR : ∀ q, q ≠ p → (R.testBit q = true ↔ m q = 1)) (bp : R.testBit p = false) (h : ∀ R', R' < 2 ^ 15 → (∀ q, R'.testBit q = true ↔ m q = 1) → post (nI n, nI (tc_P n), nI U, nI R', (fun p => nI (e p)), (fun p => nI (m p)), G)) : wX_classify_57 post (nI p) (nI (2 ^ p)) (nI n) (nI (tc_P n)) (nI U) (nI R) (fun p => nI (e p)) (fun p => nI (m p)) G := by
  refine ⟨vp_in_nI hp (by decide), ?_⟩
  dsimp only
  rw [nI_clamp (by omega)]
  by_cases z : m p = 1
  · refine br_t (congrArg nI z) ?_
    intro y ey
    rw [tc_nor] at ey
    rw [ey]
    refine h (R ||| 2 ^ p) (Nat.or_lt_two_pow hR (Nat.pow_lt_pow_right (by decide) hp)) ?_
    intro q
    rw [tc_or_bit]
    by_cases w : q = p
    · rw [w]; exact ⟨fun _ => z, fun _ => Or.inr rfl⟩
    · rw [bR q w]
      exact ⟨fun a => a.resolve_right w, Or.inl⟩
  · refine br_f ?_ ?_
    · show ¬ nI (m p) = nI 1
      rw [nI_eq (by omega) (by decide)]
      exact z
    · refine h R hR ?_
      intro q
      by_cases w : q = p
      · rw [w, bp]
        exact ⟨fun a => absurd a (by decide), fun a => absurd a z⟩
      · exact bR q w
theorem tc_xclassify {n U R : Nat} {e m : Nat → Nat} {G : Nat → Int32} {post : SX → Prop} {p : Nat} (hp : p < 15) (hU : U < 2 ^ 15) (hR : R < 2 ^ 15) (he : e p ≤ 3) (hm : m p ≤ 2) (bU : ∀ q, q ≠ p → (U.testBit q = true ↔ 0 < e q ∧ m q ≠ 2)) (bR : ∀ q, q ≠ p → (R.testBit q = true ↔ m q = 1)) (h : ∀ U' R', U' < 2 ^ 15 → R' < 2 ^ 15 → (∀ q, U'.testBit q = true ↔ 0 < e q ∧ m q ≠ 2) → (∀ q, R'.testBit q = true ↔ m q = 1) → post (nI n, nI (tc_P n), nI U', nI R', (fun p => nI (e p)), (fun p => nI (m p)), G)) : wpX_classify post (nI n, nI (tc_P n), nI U, nI R, (fun p => nI (e p)), (fun p => nI (m p)), G) (nI p) := by
  have R0 : (R ^^^ (R &&& 2 ^ p)).testBit p = false := by
    apply Bool.eq_false_iff.mpr
    intro z
    exact ((tc_clr R p p).mp z).2 rfl
  have R1 : ∀ q, q ≠ p → ((R ^^^ (R &&& 2 ^ p)).testBit q = true ↔ m q = 1) := fun q hq => by
    rw [tc_clr, bR q hq]
    exact ⟨fun a => a.1, fun a => ⟨a, hq⟩⟩
  have U1 : ∀ q, q ≠ p → ((U ^^^ (U &&& 2 ^ p)).testBit q = true ↔ 0 < e q ∧ m q ≠ 2) := fun q hq => by
    rw [tc_clr, bU q hq]
    exact ⟨fun a => a.1, fun a => ⟨a, hq⟩⟩
  have U0 : (U ^^^ (U &&& 2 ^ p)).testBit p = false := by
    apply Bool.eq_false_iff.mpr
    intro z
    exact ((tc_clr U p p).mp z).2 rfl
  have lU : U ^^^ (U &&& 2 ^ p) < 2 ^ 15 := tc_sd_lt hU
  have lR : R ^^^ (R &&& 2 ^ p) < 2 ^ 15 := tc_sd_lt hR
  have UN : ¬ (0 < e p ∧ m p ≠ 2) → ∀ q, (U ^^^ (U &&& 2 ^ p)).testBit q = true ↔ 0 < e q ∧ m q ≠ 2 := by
    intro hno q
    by_cases w : q = p
    · rw [w, U0]
      exact ⟨fun a => absurd a (by decide), fun a => absurd a hno⟩
    · exact U1 q w
  have vi : vp_in (nI p) 15 := vp_in_nI hp (by decide)
  intro x ex
  rw [tc_none (by omega)] at ex
  subst ex
  intro y ey
  rw [tc_nandnot] at ey
  subst ey
  intro z ez
  rw [tc_nandnot] at ez
  subst ez
  refine ⟨vi, ?_⟩
  dsimp only
  rw [nI_clamp (by omega)]
  by_cases z1 : e p = 0
  · refine br_t ?_ ?_
    · show nI (e p) ≤ nI 0
      exact nI_le (by omega) (by decide)
    · exact tc_xcl57 hp lR hm R1 R0 (fun R' a b => h _ R' lU a (UN (by omega)) b)
  · refine br_f (nI_nle (by omega) (by omega)) ⟨vi, ?_⟩
    by_cases z2 : m p = 2
    · refine br_t (congrArg nI z2) ?_
      exact tc_xcl57 hp lR hm R1 R0 (fun R' a b => h _ R' lU a (UN (fun q => q.2 z2)) b)
    · refine br_f ?_ ?_
      · show ¬ nI (m p) = nI 2
        rw [nI_eq (by omega) (by decide)]
        exact z2
      · intro w ew
        rw [tc_nor] at ew
        rw [ew]
        refine tc_xcl57 hp lR hm R1 R0 (fun R' a b => h _ R' (Nat.or_lt_two_pow lU (Nat.pow_lt_pow_right (by decide) hp)) a ?_ b)
        intro q
        rw [tc_or_bit]
        by_cases w : q = p
        · rw [w]; exact ⟨fun _ => ⟨by omega, z2⟩, fun _ => Or.inr rfl⟩
        · rw [U1 q w]
          exact ⟨fun a => a.resolve_right w, Or.inl⟩
end
section
/-! Y's methods -/
theorem tc_ypair {n L : Nat} {e m : Nat → Nat} {H : Nat → Int32} {post : Int32 → Prop} {u v : Nat} (hu : u < 7) (hv : v < 7) (huv : u ≠ v) (h : post (nI (tc_pair u v))) : wpY_pair post (nI n, nI L, (fun p => nI (e p)), (fun p => nI (m p)), H) (nI u) (nI v) := by
  by_cases z : u < v
  · refine br_f (nI_ge z (by omega)) ⟨tc_20, ?_⟩
    rw [tc_tri (by omega) (by omega), nI_add]
    unfold tc_pair at h
    rw [if_pos z] at h
    exact h
  · refine br_t (nI_le (by omega) (by omega)) ⟨tc_20, ?_⟩
    rw [tc_tri (by omega) (by omega), nI_add]
    unfold tc_pair at h
    rw [if_neg z] at h
    exact h
theorem tc_ygood {n L : Nat} {e m : Nat → Nat} {H : Nat → Int32} {post : Int32 → Prop} {u v : Nat} (hn : n < 7) (hu : u < n) (hv : v < n) (huv : u ≠ v) (h : post 0) : wpY_bad post (nI n, nI L, (fun p => nI (e p)), (fun p => nI (m p)), H) (nI u) (nI v) := by
  have c : ¬ nI u = nI v := by
    rw [nI_eq (by omega) (by omega)]
    exact huv
  exact br_f (nI_pos (by omega)) (br_f (nI_ge hu (by omega)) (br_f (nI_pos (by omega)) (br_f (nI_ge hv (by omega)) (br_f c h))))
theorem tc_ybad {n L : Nat} {e m : Nat → Nat} {H : Nat → Int32} {post : Int32 → Prop} {x y : Int32} (hb : tc_bad n x y) (h : post 1) : wpY_bad post (nI n, nI L, (fun p => nI (e p)), (fun p => nI (m p)), H) x y := by
  by_cases c1 : x < 0
  · exact br_t c1 h
  · refine br_f c1 ?_
    by_cases c2 : nI n ≤ x
    · exact br_t c2 h
    · refine br_f c2 ?_
      by_cases c3 : y < 0
      · exact br_t c3 h
      · refine br_f c3 ?_
        by_cases c4 : nI n ≤ y
        · exact br_t c4 h
        · exact br_f c4 (br_t ((((hb.resolve_left c1).resolve_left c2).resolve_left c3).resolve_left c4) h)
theorem tc_yP {n : Nat} (h2 : 2 ≤ n) (hn : n < 7) : (nI n * (nI n - 1)) / 2 = nI (tc_P n) := tc_tri (by omega) (by omega)
theorem tc_yways4 {n L : Nat} {e m : Nat → Nat} {H : Nat → Int32} {post : Int32 → Prop} {s : Nat} (h2 : 2 ≤ n) (hn : n < 7) (hm : ∀ p, m p ≤ 2) (hs : s < 2 ^ 31) (h : post (nI (tc_w e m s (tc_P n)))) : ∀ d i : Nat, i + d = tc_P n → wY_ways_4 post (nI s) (nI n) (nI L) (fun p => nI (e p)) (fun p => nI (m p)) H (d + 1) (nI (tc_w e m s i)) (nI i) := by
  have hP := tc_P_le n hn
  intro d
  induction d with
  | zero =>
    intro i hi
    have e1 : i = tc_P n := by omega
    rw [e1]
    exact ⟨tc_20, br_t (by rw [tc_yP h2 hn]; exact nI_le (Nat.le_refl _) (by omega)) h⟩
  | succ d ih =>
    intro i hi
    have k := ih (i + 1) (by omega)
    have hmi := hm i
    have vi : vp_in (nI i) 15 := vp_in_nI (by omega) (by decide)
    refine ⟨tc_20, br_f (by rw [tc_yP h2 hn]; exact nI_ge (by omega) (by omega)) ?_⟩
    rw [tc_nbit hs (by omega)]
    by_cases hb : s.testBit i = true
    · rw [tc_b_t hb]
      refine br_t rfl (br_f tc_10 ⟨vi, ?_⟩)
      dsimp only
      rw [nI_clamp (by omega)]
      by_cases z : m i = 2
      · refine br_t (congrArg nI z) ?_
        rw [tc_w_bad (by omega) (Or.inl ⟨hb, z⟩)] at h
        exact h
      · refine br_f ?_ (br_f tc_10 (br_f tc_10 ⟨vi, ?_⟩))
        · show ¬ nI (m i) = nI 2
          rw [nI_eq (by omega) (by decide)]
          exact z
        · intro y ey w ew
          dsimp only at ey
          rw [nI_clamp (by omega), pk_mul] at ey
          rw [tc_w_good (fun q => q.elim (fun a => z a.2) (fun a => by rw [hb] at a; exact absurd a.1 (by decide))), if_pos hb] at k
          rw [ey, ew, nI_1]
          exact k
    · have hb' : s.testBit i = false := Bool.eq_false_iff.mpr hb
      rw [tc_b_f hb']
      refine br_f (by decide) (br_t rfl (br_t rfl ⟨vi, ?_⟩))
      dsimp only
      rw [nI_clamp (by omega)]
      by_cases z : m i = 1
      · refine br_t (congrArg nI z) ?_
        rw [tc_w_bad (by omega) (Or.inr ⟨hb', z⟩)] at h
        exact h
      · refine br_f ?_ (br_t rfl ?_)
        · show ¬ nI (m i) = nI 1
          rw [nI_eq (by omega) (by decide)]
          exact z
        · intro w ew
          rw [tc_w_good (fun q => q.elim (fun a => hb a.1) (fun a => z a.2)), if_neg hb, Nat.mul_one] at k
          rw [ew, nI_1]
          exact k
theorem tc_yways {n L : Nat} {e m : Nat → Nat} {H : Nat → Int32} {post : Int32 → Prop} {s : Nat} (h2 : 2 ≤ n) (hn : n < 7) (hm : ∀ p, m p ≤ 2) (hs : s < 2 ^ 31) (h : post (nI (tc_w e m s (tc_P n)))) : wpY_ways post (nI n, nI L, (fun p => nI (e p)), (fun p => nI (m p)), H) (nI s) := ⟨_, tc_yways4 h2 hn hm hs h (tc_P n) 0 (Nat.zero_add _)⟩
theorem tc_ydeg5 {n L : Nat} {e m : Nat → Nat} {H : Nat → Int32} {post : Int32 → Prop} {s v : Nat} (hn : n < 7) (hv : v < n) (hs : s < 2 ^ 31) (h : post (nI (tc_dy s v n))) : ∀ d i : Nat, i + d = n → wY_degree_5 post (nI s) (nI v) (nI n) (nI L) (fun p => nI (e p)) (fun p => nI (m p)) H (d + 1) (nI (tc_dy s v i)) (nI i) := by
  intro d
  induction d with
  | zero =>
    intro i hi
    have e1 : i = n := by omega
    rw [e1]
    exact br_t (nI_le (Nat.le_refl _) (by omega)) h
  | succ d ih =>
    intro i hi
    have k := ih (i + 1) (by omega)
    refine br_f (nI_ge (by omega) (by omega)) ?_
    by_cases z : i = v
    · refine br_t (congrArg nI z) ?_
      intro w ew
      rw [ew, nI_1]
      subst z
      rw [tc_dy_e] at k
      exact k
    · have pl := tc_pair_in n hn i (by omega) v hv z
      have hP := tc_P_le n hn
      refine br_f (by rw [nI_eq (by omega) (by omega)]; exact z) ?_
      refine tc_ypair (by omega) (by omega) z ?_
      intro y ey w ew
      rw [tc_nbit hs (by omega), nI_add] at ey
      rw [tc_dy_n z] at k
      rw [ey, ew, nI_1]
      exact k
theorem tc_ydeg {n L : Nat} {e m : Nat → Nat} {H : Nat → Int32} {post : Int32 → Prop} {s v : Nat} (hn : n < 7) (hv : v < n) (hs : s < 2 ^ 31) (h : post (nI (tc_dy s v n))) : wpY_degree post (nI n, nI L, (fun p => nI (e p)), (fun p => nI (m p)), H) (nI s) (nI v) := ⟨_, tc_ydeg5 hn hv hs h n 0 (Nat.zero_add _)⟩
/-! Y's list of trees -/
def tc_lst (n L : Nat) (H : Nat → Int32) : Prop := L = tc_cn n (2 ^ tc_P n) ∧ ∀ t, t < 2 ^ tc_P n → tc_tr n t = true → H (tc_cn n t) = nI t
def tc_sh (H : Nat → Int32) (i : Nat) : Nat := (H i).toNatClampNeg
theorem tc_sh_at {n L i : Nat} {H : Nat → Int32} (hn : n < 7) (hL : tc_lst n L H) (hi : i < L) : H i = nI (tc_sh H i) ∧ tc_sh H i < 2 ^ tc_P n := by
  obtain ⟨e1, h⟩ := hL
  rw [e1] at hi
  obtain ⟨t, ht, hr, hc⟩ := tc_cn_at _ hi
  have e2 := h t ht hr
  have hN := tc_N_lt hn
  rw [hc] at e2
  unfold tc_sh
  rw [e2, nI_clamp (by omega)]
  exact ⟨rfl, ht⟩
theorem tc_sh_cn {n L : Nat} {H : Nat → Int32} (hn : n < 7) (hL : tc_lst n L H) : ∀ t, t < 2 ^ tc_P n → tc_tr n t = true → tc_sh H (tc_cn n t) = t := by
  intro t ht hr
  have hN := tc_N_lt hn
  unfold tc_sh
  rw [hL.2 t ht hr, nI_clamp (by omega)]
theorem tc_L_le {n L : Nat} {H : Nat → Int32} (hn : n < 7) (hL : tc_lst n L H) : L ≤ 1296 := by
  rw [hL.1]
  exact tc_cn_le hn
theorem tc_sum {n L : Nat} {H : Nat → Int32} (hn : n < 7) (hL : tc_lst n L H) (F : Nat → Nat) : tc_S (fun i => F (tc_sh H i)) L = tc_S (fun s => if tc_tr n s = true then F s else 0) (2 ^ tc_P n) := by
  rw [hL.1]
  exact tc_list (tc_sh H) F _ (tc_sh_cn hn hL)
theorem tc_ywith4 {n L : Nat} {e m : Nat → Nat} {H : Nat → Int32} {post : Int32 → Prop} {q : Nat} (h2 : 2 ≤ n) (hn : n < 7) (hm : ∀ p, m p ≤ 2) (hL : tc_lst n L H) (hq : q < 2 ^ 31) (h : post (nI (tc_S (fun i => if tc_sh H i &&& q = q then tc_w e m (tc_sh H i) (tc_P n) else 0) L))) : ∀ d i : Nat, i + d = L → wY_with_4 post (nI q) (nI n) (nI L) (fun p => nI (e p)) (fun p => nI (m p)) H (d + 1) (nI (tc_S (fun i => if tc_sh H i &&& q = q then tc_w e m (tc_sh H i) (tc_P n) else 0) i)) (nI i) := by
  have hl := tc_L_le hn hL
  have hN := tc_N_lt hn
  intro d
  induction d with
  | zero =>
    intro i hi
    have e1 : i = L := by omega
    rw [e1]
    exact br_t (nI_le (Nat.le_refl _) (by omega)) h
  | succ d ih =>
    intro i hi
    have k := ih (i + 1) (by omega)
    rw [tc_S_s] at k
    have vi : vp_in (nI i) 1296 := vp_in_nI (by omega) (by decide)
    obtain ⟨eH, lt⟩ := tc_sh_at hn hL (i := i) (by omega)
    refine br_f (nI_ge (by omega) (by omega)) ⟨vi, ?_⟩
    rw [nI_clamp (by omega), eH, nx_and]
    have al : tc_sh H i &&& q ≤ tc_sh H i := Nat.and_le_left
    by_cases z : tc_sh H i &&& q = q
    · refine br_t (congrArg nI z) ⟨vi, ?_⟩
      refine tc_yways h2 hn hm (by omega) ?_
      intro y ey w ew
      rw [if_pos z] at k
      rw [ey, ew, nI_add, nI_1]
      exact k
    · refine br_f (by rw [nI_eq (by omega) hq]; exact z) ?_
      intro w ew
      rw [if_neg z, Nat.add_zero] at k
      rw [ew, nI_1]
      exact k
theorem tc_ywith {n L : Nat} {e m : Nat → Nat} {H : Nat → Int32} {post : Int32 → Prop} {q : Nat} (h2 : 2 ≤ n) (hn : n < 7) (hm : ∀ p, m p ≤ 2) (hL : tc_lst n L H) (hq : q < 2 ^ 31) (h : post (nI (tc_TT n (fun s => tc_w e m s (tc_P n)) q))) : wpY_with post (nI n, nI L, (fun p => nI (e p)), (fun p => nI (m p)), H) (nI q) := by
  have e1 := tc_sum hn hL (fun s => if s &&& q = q then tc_w e m s (tc_P n) else 0)
  refine ⟨_, tc_ywith4 h2 hn hm hL hq ?_ L 0 (Nat.zero_add _)⟩
  have e2 : tc_S (fun i => if tc_sh H i &&& q = q then tc_w e m (tc_sh H i) (tc_P n) else 0) L = tc_TT n (fun s => tc_w e m s (tc_P n)) q := e1
  rw [e2]
  exact h
theorem tc_yleaf18 {n L : Nat} {e m : Nat → Nat} {H : Nat → Int32} {post : Int32 → Prop} {v : Nat} (h2 : 2 ≤ n) (hn : n < 7) (hm : ∀ p, m p ≤ 2) (hL : tc_lst n L H) (hv : v < n) (h : post (nI (tc_S (fun i => if tc_dy (tc_sh H i) v n = 1 then tc_w e m (tc_sh H i) (tc_P n) else 0) L))) : ∀ d i : Nat, i + d = L → wY_leaf_18 post (nI v) (nI n) (nI L) (fun p => nI (e p)) (fun p => nI (m p)) H (d + 1) (nI (tc_S (fun i => if tc_dy (tc_sh H i) v n = 1 then tc_w e m (tc_sh H i) (tc_P n) else 0) i)) (nI i) := by
  have hl := tc_L_le hn hL
  have hN := tc_N_lt hn
  intro d
  induction d with
  | zero =>
    intro i hi
    have e1 : i = L := by omega
    rw [e1]
    exact br_t (nI_le (Nat.le_refl _) (by omega)) h
  | succ d ih =>
    intro i hi
    have k := ih (i + 1) (by omega)
    rw [tc_S_s] at k
    have vi : vp_in (nI i) 1296 := vp_in_nI (by omega) (by decide)
    obtain ⟨eH, lt⟩ := tc_sh_at hn hL (i := i) (by omega)
    refine br_f (nI_ge (by omega) (by omega)) ⟨vi, ?_⟩
    rw [nI_clamp (by omega), eH]
    refine tc_ydeg hn hv (by omega) ?_
    have dl := tc_dy_le (tc_sh H i) v n
    by_cases z : tc_dy (tc_sh H i) v n = 1
    · refine br_t (congrArg nI z) ⟨vi, ?_⟩
      refine tc_yways h2 hn hm (by omega) ?_
      intro y ey w ew
      rw [if_pos z] at k
      rw [ey, ew, nI_add, nI_1]
      exact k
    · refine br_f ?_ ?_
      · show ¬ nI (tc_dy (tc_sh H i) v n) = nI 1
        rw [nI_eq (by omega) (by decide)]
        exact z
      · intro w ew
        rw [if_neg z, Nat.add_zero] at k
        rw [ew, nI_1]
        exact k
theorem tc_ydegs18 {n L : Nat} {e m : Nat → Nat} {H : Nat → Int32} {post : Int32 → Prop} {v : Nat} (h2 : 2 ≤ n) (hn : n < 7) (hm : ∀ p, m p ≤ 2) (hL : tc_lst n L H) (hv : v < n) (h : post (nI (tc_S (fun i => tc_w e m (tc_sh H i) (tc_P n) * tc_dy (tc_sh H i) v n) L))) : ∀ d i : Nat, i + d = L → wY_degrees_18 post (nI v) (nI n) (nI L) (fun p => nI (e p)) (fun p => nI (m p)) H (d + 1) (nI (tc_S (fun i => tc_w e m (tc_sh H i) (tc_P n) * tc_dy (tc_sh H i) v n) i)) (nI i) := by
  have hl := tc_L_le hn hL
  have hN := tc_N_lt hn
  intro d
  induction d with
  | zero =>
    intro i hi
    have e1 : i = L := by omega
    rw [e1]
    exact br_t (nI_le (Nat.le_refl _) (by omega)) h
  | succ d ih =>
    intro i hi
    have k := ih (i + 1) (by omega)
    rw [tc_S_s] at k
    have vi : vp_in (nI i) 1296 := vp_in_nI (by omega) (by decide)
    obtain ⟨eH, lt⟩ := tc_sh_at hn hL (i := i) (by omega)
    refine br_f (nI_ge (by omega) (by omega)) ⟨vi, ?_⟩
    rw [nI_clamp (by omega), eH]
    refine tc_yways h2 hn hm (by omega) ?_
    refine ⟨vi, ?_⟩
    refine tc_ydeg hn hv (by omega) ?_
    intro y ey w ew
    rw [ey, ew, pk_mul, nI_add, nI_1]
    exact k
theorem tc_yapart24 {n L : Nat} {e m : Nat → Nat} {H : Nat → Int32} {post : Int32 → Prop} {p : Nat} (h2 : 2 ≤ n) (hn : n < 7) (hm : ∀ p, m p ≤ 2) (hL : tc_lst n L H) (hp : p < tc_P n) (h : post (nI (tc_S (fun i => if (tc_sh H i).testBit p = true then tc_w e m (tc_sh H i ^^^ (tc_sh H i &&& 2 ^ p)) (tc_P n) else 0) L))) : ∀ d i : Nat, i + d = L → wY_apart_24 post (nI p) (nI n) (nI L) (fun p => nI (e p)) (fun p => nI (m p)) H (d + 1) (nI (tc_S (fun i => if (tc_sh H i).testBit p = true then tc_w e m (tc_sh H i ^^^ (tc_sh H i &&& 2 ^ p)) (tc_P n) else 0) i)) (nI i) := by
  have hl := tc_L_le hn hL
  have hN := tc_N_lt hn
  have hP := tc_P_le n hn
  intro d
  induction d with
  | zero =>
    intro i hi
    have e1 : i = L := by omega
    rw [e1]
    exact br_t (nI_le (Nat.le_refl _) (by omega)) h
  | succ d ih =>
    intro i hi
    have k := ih (i + 1) (by omega)
    rw [tc_S_s] at k
    have vi : vp_in (nI i) 1296 := vp_in_nI (by omega) (by decide)
    obtain ⟨eH, lt⟩ := tc_sh_at hn hL (i := i) (by omega)
    refine br_f (nI_ge (by omega) (by omega)) ⟨vi, ?_⟩
    rw [nI_clamp (by omega), eH, tc_nbit (by omega) (by omega)]
    by_cases z : (tc_sh H i).testBit p = true
    · rw [tc_b_t z]
      refine br_t rfl ⟨vi, ?_⟩
      rw [tc_none (by omega), tc_nandnot]
      have l2 := tc_sd_lt (b := 2 ^ p) lt
      refine tc_yways h2 hn hm (by omega) ?_
      intro y ey w ew
      rw [if_pos z] at k
      rw [ey, ew, nI_add, nI_1]
      exact k
    · rw [tc_b_f (Bool.eq_false_iff.mpr z)]
      refine br_f (by decide) ?_
      intro w ew
      rw [if_neg z, Nat.add_zero] at k
      rw [ew, nI_1]
      exact k
/-! idle and needed on Y's side -/
theorem tc_W243 {n : Nat} {e m : Nat → Nat} (h2 : 2 ≤ n) (hn : n < 7) (he : ∀ p, e p ≤ 3) : ∀ s, tc_tr n s = true → tc_w e m s (tc_P n) ≤ 243 := by
  intro s ht
  have a := tc_w_le (m := m) (s := s) he (tc_P n)
  have b : 3 ^ tc_sz s (tc_P n) ≤ 3 ^ 5 := Nat.pow_le_pow_right (by decide) (by rw [(tc_tr_iff.mp ht).1]; omega)
  exact Nat.le_trans a b
theorem tc_yidle4 {n L : Nat} {e m : Nat → Nat} {H : Nat → Int32} {post : Int32 → Prop} (h2 : 2 ≤ n) (hn : n < 7) (he : ∀ p, e p ≤ 3) (hm : ∀ p, m p ≤ 2) (hL : tc_lst n L H) (h : post (nI (tc_S (tc_ci e m n) (tc_P n)))) : ∀ d i : Nat, i + d = tc_P n → wY_idle_4 post (nI n) (nI L) (fun p => nI (e p)) (fun p => nI (m p)) H (d + 1) (nI (tc_S (tc_ci e m n) i)) (nI i) := by
  have hP := tc_P_le n hn
  intro d
  induction d with
  | zero =>
    intro i hi
    have e1 : i = tc_P n := by omega
    rw [e1]
    exact ⟨tc_20, br_t (by rw [tc_yP h2 hn]; exact nI_le (Nat.le_refl _) (by omega)) h⟩
  | succ d ih =>
    intro i hi
    have k := ih (i + 1) (by omega)
    rw [tc_S_s] at k
    have hei := he i
    refine ⟨tc_20, br_f (by rw [tc_yP h2 hn]; exact nI_ge (by omega) (by omega)) ⟨vp_in_nI (by omega) (by decide), ?_⟩⟩
    dsimp only
    rw [nI_clamp (by omega)]
    by_cases z : e i = 0
    · refine br_t ?_ ?_
      · show nI (e i) ≤ nI 0
        exact nI_le (by omega) (by decide)
      · intro y ey
        have c : tc_ci e m n i = 0 := if_neg (fun q => by omega)
        rw [c, Nat.add_zero] at k
        rw [ey, nI_1]
        exact k
    · refine br_f (nI_nle (by omega) (by omega)) ?_
      rw [tc_none (by omega)]
      have pl : 2 ^ i < 2 ^ 31 := Nat.pow_lt_pow_right (by decide) (by omega)
      refine tc_ywith h2 hn hm hL pl ?_
      have tl := tc_TT_le hn (tc_W243 (m := m) h2 hn he) (2 ^ i)
      by_cases y : tc_TT n (fun s => tc_w e m s (tc_P n)) (2 ^ i) = 0
      · refine br_t (congrArg nI y) ?_
        intro a ea b eb
        have c : tc_ci e m n i = 1 := if_pos ⟨by omega, y⟩
        rw [c] at k
        rw [ea, eb, nI_1, nI_1]
        exact k
      · refine br_f (nI_ne0 (by omega) (by omega)) ?_
        intro b eb
        have c : tc_ci e m n i = 0 := if_neg (fun q => y q.2)
        rw [c, Nat.add_zero] at k
        rw [eb, nI_1]
        exact k
theorem tc_yneed9 {n L : Nat} {e m : Nat → Nat} {H : Nat → Int32} {post : Int32 → Prop} (h2 : 2 ≤ n) (hn : n < 7) (he : ∀ p, e p ≤ 3) (hm : ∀ p, m p ≤ 2) (hL : tc_lst n L H) (h : post (nI (tc_S (tc_cnd e m n) (tc_P n)))) : ∀ d i : Nat, i + d = tc_P n → wY_needed_9 post (nI (tc_TT n (fun s => tc_w e m s (tc_P n)) 0)) (nI n) (nI L) (fun p => nI (e p)) (fun p => nI (m p)) H (d + 1) (nI (tc_S (tc_cnd e m n) i)) (nI i) := by
  have hP := tc_P_le n hn
  have t0 := tc_TT_le hn (tc_W243 (m := m) h2 hn he) 0
  intro d
  induction d with
  | zero =>
    intro i hi
    have e1 : i = tc_P n := by omega
    rw [e1]
    exact ⟨tc_20, br_t (by rw [tc_yP h2 hn]; exact nI_le (Nat.le_refl _) (by omega)) h⟩
  | succ d ih =>
    intro i hi
    have k := ih (i + 1) (by omega)
    rw [tc_S_s] at k
    refine ⟨tc_20, br_f (by rw [tc_yP h2 hn]; exact nI_ge (by omega) (by omega)) ?_⟩
    by_cases z : tc_TT n (fun s => tc_w e m s (tc_P n)) 0 = 0
    · refine br_t ?_ ?_
      · show nI (tc_TT n (fun s => tc_w e m s (tc_P n)) 0) ≤ nI 0
        exact nI_le (by omega) (by decide)
      · intro y ey
        have c : tc_cnd e m n i = 0 := if_neg (fun q => by omega)
        rw [c, Nat.add_zero] at k
        rw [ey, nI_1]
        exact k
    · refine br_f (nI_nle (by omega) (by omega)) ?_
      rw [tc_none (by omega)]
      have pl : 2 ^ i < 2 ^ 31 := Nat.pow_lt_pow_right (by decide) (by omega)
      refine tc_ywith h2 hn hm hL pl ?_
      have tl := tc_TT_le hn (tc_W243 (m := m) h2 hn he) (2 ^ i)
      by_cases y : tc_TT n (fun s => tc_w e m s (tc_P n)) (2 ^ i) = tc_TT n (fun s => tc_w e m s (tc_P n)) 0
      · refine br_t (congrArg nI y) ?_
        intro a ea b eb
        have c : tc_cnd e m n i = 1 := if_pos ⟨by omega, y⟩
        rw [c] at k
        rw [ea, eb, nI_1, nI_1]
        exact k
      · refine br_f (by rw [nI_eq (by omega) (by omega)]; exact y) ?_
        intro b eb
        have c : tc_cnd e m n i = 0 := if_neg (fun q => y q.2)
        rw [c, Nat.add_zero] at k
        rw [eb, nI_1]
        exact k
end
section
/-! Y's size and connects, over any state of Y's with n vertices -/
theorem tc_sz_ext {s K : Nat} (h : s < 2 ^ K) : ∀ d, tc_sz s (K + d) = tc_sz s K := by
  intro d
  induction d with
  | zero => rfl
  | succ d ih =>
    show tc_sz s (K + d) + tc_b s (K + d) = tc_sz s K
    rw [ih, tc_b_hi (tc_le2 h (by omega))] <;> rfl
theorem tc_sz0 : tc_sz 0 15 = 0 := by decide
theorem tc_ysize4 {a b : Int32} {c d f : Nat → Int32} {post : Int32 → Prop} : ∀ fu x k : Nat, x < fu → x < 2 ^ 15 → post (nI (k + tc_sz x 15)) → wY_size_4 post a b c d f fu (nI k) (nI x) := by
  intro fu
  induction fu with
  | zero => intro x k h; exact absurd h (Nat.not_lt_zero x)
  | succ fu ih =>
    intro x k h hx hp
    by_cases z : x = 0
    · subst z
      refine br_t rfl ?_
      rw [tc_sz0] at hp
      exact hp
    · refine br_f (nI_ne0 (by omega) (by omega)) ?_
      intro y ey w ew
      have e1 : nI x - 1 = nI (x - 1) := pk_sub (b := 1) (by omega)
      rw [e1, nx_and] at ew
      have l := tc_kern_lt z
      have q := tc_kern 15 x hx z
      rw [ey, ew, nI_1]
      refine ih (x &&& (x - 1)) (k + 1) (by omega) (by omega) ?_
      have e2 : k + 1 + tc_sz (x &&& (x - 1)) 15 = k + tc_sz x 15 := by omega
      rw [e2]
      exact hp
theorem tc_ysize {n x : Nat} {a b : Int32} {c d f : Nat → Int32} {post : Int32 → Prop} (hn : n < 7) (hx : x < 2 ^ tc_P n) (h : post (nI (tc_sz x (tc_P n)))) : wpY_size post (a, b, c, d, f) (nI x) := by
  have hP := tc_P_le n hn
  refine ⟨x + 1, tc_ysize4 (x + 1) x 0 (by omega) (tc_le2 hx hP) ?_⟩
  have e1 := tc_sz_ext hx (15 - tc_P n)
  have e2 : tc_P n + (15 - tc_P n) = 15 := by omega
  rw [e2] at e1
  rw [e1, Nat.zero_add]
  exact h
theorem tc_P_s : ∀ v, v < 7 → tc_P (v + 1) = tc_P v + v := by decide +kernel
theorem tc_lh2 : ∀ v, v < 6 → ∀ u, u < v → tc_lo (tc_P v + u) = u ∧ tc_hi (tc_P v + u) = v := by decide +kernel
theorem tc_two {r u v : Nat} (hr : r < 2 ^ 31) (hu : u < 32) (hv : v < 32) : ((nI r >>> (nI u &&& 31)) ||| (nI r >>> (nI v &&& 31))) &&& 1 = nI (if r.testBit u = true ∨ r.testBit v = true then 1 else 0) := by
  rw [tc_nshr hr hu, tc_nshr hr hv, tc_nor]
  show nI _ &&& nI 1 = _
  rw [nx_and, Nat.and_one_is_mod]
  apply congrArg nI
  have t : (r / 2 ^ u ||| r / 2 ^ v) % 2 = 1 ↔ r.testBit u = true ∨ r.testBit v = true := by
    rw [Nat.mod_two_eq_one_iff_testBit_zero, Nat.testBit_or, Nat.testBit_div_two_pow, Nat.testBit_div_two_pow, Nat.zero_add, Nat.zero_add, Bool.or_eq_true]
  by_cases z : r.testBit u = true ∨ r.testBit v = true
  · rw [if_pos z]
    exact t.mpr z
  · rw [if_neg z]
    have y : ¬ (r / 2 ^ u ||| r / 2 ^ v) % 2 = 1 := fun w => z (t.mp w)
    omega
theorem tc_ymore7 {a b : Int32} {c d f : Nat → Int32} {post : Int32 → Prop} {s v n r0 : Nat} (hs : s < 2 ^ 31) (hn : n < 7) (hv : v < n) (hr : r0 < 2 ^ n) (h : post (nI (tc_rd s r0 (tc_P (v + 1))))) : ∀ fu u : Nat, u + fu = v → wY_more_7 post (nI s) (nI (tc_P v)) (nI v) a b c d f (fu + 1) (nI (tc_rd s r0 (tc_P v + u))) (nI u) := by
  have hP := tc_P_le v (by omega)
  have hPs := tc_P_s v (by omega)
  have hPn : tc_P v + v ≤ tc_P n := by
    rw [← hPs]
    exact (by decide +kernel : ∀ n, n < 7 → ∀ v, v < n → tc_P (v + 1) ≤ tc_P n) n hn v hv
  have hP15 := tc_P_le n hn
  intro fu
  induction fu with
  | zero =>
    intro u hu
    have e1 : u = v := by omega
    rw [e1]
    rw [hPs] at h
    exact br_t (nI_le (Nat.le_refl _) (by omega)) h
  | succ fu ih =>
    intro u hu
    have k := ih (u + 1) (by omega)
    have ed : tc_rd s r0 (tc_P v + (u + 1)) = tc_st s (tc_P v + u) (tc_rd s r0 (tc_P v + u)) := rfl
    rw [ed] at k
    have lt := tc_64 hn (tc_rd_lt (s := s) hn hr (tc_P v + u) (by omega))
    obtain ⟨elo, ehi⟩ := tc_lh2 v (by omega) u (by omega)
    generalize tc_rd s r0 (tc_P v + u) = r at *
    refine br_f (nI_ge (by omega) (by omega)) ?_
    rw [nI_add, tc_nbit hs (by omega)]
    by_cases hb : s.testBit (tc_P v + u) = true
    · rw [tc_b_t hb]
      refine br_t rfl (br_f tc_10 ?_)
      rw [tc_two (by omega) (by omega) (by omega)]
      by_cases z : r.testBit u = true ∨ r.testBit v = true
      · rw [if_pos z]
        refine br_t rfl ?_
        intro y ey w ew
        rw [tc_none (by omega), tc_none (by omega), tc_nor, tc_nor, Nat.or_assoc] at ey
        have hm : ¬ r &&& tc_E (tc_P v + u) = 0 := by
          have q := (tc_meet r (tc_P v + u)).mpr (by rw [elo, ehi]; exact z)
          exact q
        rw [tc_st_2 hb hm] at k
        unfold tc_E at k
        rw [elo, ehi] at k
        rw [ey, ew, nI_1]
        exact k
      · rw [if_neg z]
        refine br_f (by decide) ?_
        intro w ew
        have hm : r &&& tc_E (tc_P v + u) = 0 := by
          apply Classical.byContradiction
          intro q
          have q2 := (tc_meet r (tc_P v + u)).mp q
          rw [elo, ehi] at q2
          exact z q2
        rw [tc_st_1 hm] at k
        rw [ew, nI_1]
        exact k
    · have hb' : s.testBit (tc_P v + u) = false := Bool.eq_false_iff.mpr hb
      rw [tc_b_f hb']
      refine br_f (by decide) (br_t rfl ?_)
      intro w ew
      rw [tc_st_0 hb'] at k
      rw [ew, nI_1]
      exact k
theorem tc_ycon18 {b : Int32} {c d f : Nat → Int32} {post : Int32 → Prop} {J : Int32 → Int32 → Prop} {x3 : Int32} {s n r0 : Nat} (hs : s < 2 ^ 31) (hn : n < 7) (hr : r0 < 2 ^ n) (h : J (nI (tc_rd s r0 (tc_P n))) (x3 + 1)) : ∀ fu v : Nat, v + fu = n → wY_connects_18 post J (nI s) x3 (nI n) b c d f (fu + 1) (nI (tc_rd s r0 (tc_P v))) (nI (tc_P v)) (nI v) := by
  intro fu
  induction fu with
  | zero =>
    intro v hv
    have e1 : v = n := by omega
    rw [e1]
    exact br_t (nI_le (Nat.le_refl _) (by omega)) (nm_e h)
  | succ fu ih =>
    intro v hv
    have k := ih (v + 1) (by omega)
    have hPs := tc_P_s v (by omega)
    refine br_f (nI_ge (by omega) (by omega)) ⟨v + 1, ?_⟩
    refine tc_ymore7 hs hn (by omega) hr ?_ v 0 (Nat.zero_add _)
    intro y ey w ew
    rw [nI_add, ← hPs] at ey
    rw [ey, ew, nI_1]
    exact k
theorem tc_ycon4 {b : Int32} {c d f : Nat → Int32} {post : Int32 → Prop} {s n : Nat} (h2 : 1 ≤ n) (hs : s < 2 ^ 31) (hn : n < 7) (h1 : tc_C s n 0 = 2 ^ n - 1 → post 1) (h0 : ¬ tc_C s n 0 = 2 ^ n - 1 → post 0) : ∀ fu j : Nat, j + fu = n → wY_connects_4 post (nI s) (nI n) b c d f (fu + 1) (nI (tc_rs s (tc_P n) (2 ^ 0) j)) (nI j) := by
  intro fu
  induction fu with
  | zero =>
    intro j hj
    have e1 : j = n := by omega
    rw [e1]
    refine br_t (nI_le (Nat.le_refl _) (by omega)) ?_
    have e2 : tc_rs s (tc_P n) (2 ^ 0) n = tc_C s n 0 := by
      have e3 : n = (n - 1) + 1 := by omega
      have e4 : tc_rs s (tc_P n) (2 ^ 0) ((n - 1) + 1) = tc_rd s (tc_C s n 0) (tc_P n) := rfl
      rw [← e3] at e4
      rw [e4, tc_C_fix hn (by omega)]
    have cl := tc_64 hn (tc_C_lt (s := s) (u := 0) hn (by omega))
    have nl := tc_2n hn
    rw [e2, tc_full_v hn]
    by_cases z : tc_C s n 0 = 2 ^ n - 1
    · exact br_t (congrArg nI z) (h1 z)
    · exact br_f (by rw [nI_eq (by omega) (by omega)]; exact z) (h0 z)
  | succ fu ih =>
    intro j hj
    have k := ih (j + 1) (by omega)
    refine br_f (nI_ge (by omega) (by omega)) ⟨n - 1 + 1, ?_⟩
    refine tc_ycon18 hs hn (tc_rs_lt hn (tc_2u (u := 0) (by omega)) j) ?_ (n - 1) 1 (by omega)
    rw [nI_1]
    exact k
theorem tc_ycon {b : Int32} {c d f : Nat → Int32} {post : Int32 → Prop} {s n : Nat} (h2 : 1 ≤ n) (hs : s < 2 ^ 31) (hn : n < 7) (h1 : tc_C s n 0 = 2 ^ n - 1 → post 1) (h0 : ¬ tc_C s n 0 = 2 ^ n - 1 → post 0) : wpY_connects post (nI n, b, c, d, f) (nI s) := ⟨_, tc_ycon4 h2 hs hn h1 h0 n 0 (Nat.zero_add _)⟩
/-! Y's constructor -/
theorem tc_yi54 {z1 z2 : Nat → Int32} {post : SY → Prop} {n : Nat} (h2 : 2 ≤ n) (hn : n < 7) (h : ∀ H, tc_lst n (tc_cn n (2 ^ tc_P n)) H → post (nI n, nI (tc_cn n (2 ^ tc_P n)), z1, z2, H)) : ∀ (fu i : Nat) (H : Nat → Int32), i + fu = 2 ^ tc_P n → (∀ t, t < i → tc_tr n t = true → H (tc_cn n t) = nI t) → wY_init_54 post (nI n) (fu + 1) (nI i) (nI (tc_cn n i)) z1 z2 H := by
  have hN := tc_N_lt hn
  have hPl := tc_P_le n hn
  intro fu
  induction fu with
  | zero =>
    intro i H hi hH
    have e1 : i = 2 ^ tc_P n := by omega
    rw [e1] at hH ⊢
    exact ⟨tc_20, br_t (by rw [tc_yP h2 hn, tc_xN hn]; exact nI_le (Nat.le_refl _) (by omega)) (h H ⟨rfl, hH⟩)⟩
  | succ fu ih =>
    intro i H hi hH
    have hi2 : i < 2 ^ tc_P n := by omega
    have zl := tc_sz_le i (tc_P n)
    have e1 : nI n - 1 = nI (n - 1) := pk_sub (b := 1) (by omega)
    have skip : ¬ tc_tr n i = true → wY_init_54 post (nI n) (fu + 1) (nI (i + 1)) (nI (tc_cn n i)) z1 z2 H := by
      intro ht
      have k := ih (i + 1) H (by omega) (by
        intro t h1 h3
        rcases Nat.lt_or_ge t i with q | q
        · exact hH t q h3
        · have q2 : t = i := by omega
          rw [q2] at h3
          exact absurd h3 ht)
      rw [tc_cn_s, if_neg ht, Nat.add_zero] at k
      exact k
    refine ⟨tc_20, br_f (by rw [tc_yP h2 hn, tc_xN hn]; exact nI_ge (by omega) (by omega)) ?_⟩
    refine tc_ysize hn hi2 ?_
    rw [e1]
    by_cases z : tc_sz i (tc_P n) = n - 1
    · refine br_t (congrArg nI z) ?_
      refine tc_ycon (by omega) (by omega) hn (fun y => ?_) (fun y => ?_)
      · have ht : tc_tr n i = true := tc_tr_iff.mpr ⟨z, y⟩
        have rm := tc_cn_room hn hi2 ht
        refine br_f tc_10 (br_f ?_ ⟨vp_in_nI rm (by decide), ?_⟩)
        · show ¬ nI 1296 ≤ nI (tc_cn n i)
          exact nI_ge rm (by decide)
        · intro H' eH' w ew x ex
          rw [nI_clamp (by omega)] at eH'
          rw [nI_1] at ew ex
          rw [ew, ex]
          have k := ih (i + 1) H' (by omega) (by
            intro t h1 h3
            rw [eH']
            rcases Nat.lt_or_ge t i with q | q
            · have l : tc_cn n t < tc_cn n i := by
                have a : tc_cn n (t + 1) ≤ tc_cn n i := tc_S_mono (by omega)
                rw [tc_cn_s, if_pos h3] at a
                omega
              rw [pk_un (by omega)]
              exact hH t q h3
            · have q2 : t = i := by omega
              rw [q2, pk_us])
          rw [tc_cn_s, if_pos ht] at k
          exact k
      · refine br_t rfl ?_
        intro w ew
        rw [ew, nI_1]
        exact skip (fun q => y (tc_tr_iff.mp q).2)
    · refine br_f (by rw [nI_eq (by omega) (by omega)]; exact z) ?_
      intro w ew
      rw [ew, nI_1]
      exact skip (fun q => z (tc_tr_iff.mp q).1)
theorem tc_tr0 : ∀ n, 2 ≤ n → ¬ tc_tr n 0 = true := by
  intro n h2 q
  have a := (tc_tr_iff.mp q).1
  have b : tc_sz 0 (tc_P n) = 0 := by
    have c := tc_sz_ext (s := 0) (K := 0) (by decide) (tc_P n)
    rw [Nat.zero_add] at c
    exact c
  omega
theorem tc_yi {z1 z2 : Nat → Int32} {post : SY → Prop} {n : Nat} (h2 : 2 ≤ n) (hn : n < 7) (h : ∀ H, tc_lst n (tc_cn n (2 ^ tc_P n)) H → post (nI n, nI (tc_cn n (2 ^ tc_P n)), z1, z2, H)) : ∃ fu, wY_init_54 post (nI n) fu 1 0 z1 z2 (fun _ => 0) := by
  have hp := Nat.two_pow_pos (tc_P n)
  have c1 : tc_cn n 1 = 0 := by
    have c := tc_cn_s n 0
    rw [if_neg (tc_tr0 n h2)] at c
    exact c
  have k := tc_yi54 (z1 := z1) (z2 := z2) h2 hn h (2 ^ tc_P n - 1) 1 (fun _ => 0) (by omega) (by
    intro t h1 h3
    have q2 : t = 0 := by omega
    rw [q2] at h3
    exact absurd h3 (tc_tr0 n h2))
  rw [c1] at k
  exact ⟨_, k⟩
/-! X's constructor -/
theorem tc_xi82 {z1 z2 : Nat → Int32} {post : SX → Prop} {J : Int32 → (Nat → Int32) → (Nat → Int32) → (Nat → Int32) → Prop} {n g : Nat} {x2 f1 f2 f3 f4 : Int32} (hn : n < 7) (hg : g < n) (h : ∀ G, (∀ q, q < tc_P (g + 1) → G q = nI (tc_E q)) → J (nI (g + 1)) z1 z2 G) : ∀ (fu l : Nat) (G : Nat → Int32), l + fu = g → (∀ q, q < tc_P g + l → G q = nI (tc_E q)) → wX_init_82 post J x2 (nI g) f1 f2 f3 f4 (fu + 1) (nI l) z1 z2 G := by
  intro fu
  induction fu with
  | zero =>
    intro l G hl hG
    have e1 : l = g := by omega
    refine br_t (nI_le (by omega) (by omega)) ?_
    intro y ey
    rw [ey, nI_1]
    apply h
    rw [tc_P_s g (by omega)]
    rw [e1] at hG
    exact hG
  | succ fu ih =>
    intro l G hl hG
    have hp : tc_pair l g = tc_P g + l := if_pos (by omega)
    have hin := tc_pair_in n hn l (by omega) g hg (by omega)
    have hP := tc_P_le n hn
    refine br_f (nI_ge (by omega) (by omega)) ?_
    refine tc_xpairOf (by omega) (by omega) (by omega) ?_
    refine ⟨vp_in_nI (by omega) (by decide), ?_⟩
    intro G' eG w ew
    rw [tc_none (by omega), tc_none (by omega), tc_nor, nI_clamp (by omega), tc_pair_E l (by omega) g (by omega) (by omega)] at eG
    rw [ew, nI_1]
    refine ih (l + 1) G' (by omega) ?_
    intro q hq
    rw [eG]
    by_cases z : q = tc_pair l g
    · rw [z, pk_us]
    · rw [pk_un z]
      exact hG q (by omega)
theorem tc_xi74 {z1 z2 : Nat → Int32} {post : SX → Prop} {n : Nat} {f2 f3 f4 : Int32} (hn : n < 7) (h : ∀ G, (∀ q, q < tc_P n → G q = nI (tc_E q)) → post (nI n, f2, f3, f4, z1, z2, G)) : ∀ (fu g : Nat) (G : Nat → Int32), g + fu = n → (∀ q, q < tc_P g → G q = nI (tc_E q)) → wX_init_74 post (nI n) (nI n) f2 f3 f4 (fu + 1) (nI g) z1 z2 G := by
  intro fu
  induction fu with
  | zero =>
    intro g G hg hG
    have e1 : g = n := by omega
    rw [e1] at hG
    exact br_t (nI_le (by omega) (by omega)) (h G hG)
  | succ fu ih =>
    intro g G hg hG
    refine br_f (nI_ge (by omega) (by omega)) ⟨g + 1, ?_⟩
    exact tc_xi82 hn (by omega) (fun G' hG' => ih (g + 1) G' (by omega) hG') g 0 G (Nat.zero_add _) hG
theorem tc_xi56 {z1 z2 : Nat → Int32} {post : SX → Prop} {n : Nat} {f0 f1 f3 f4 : Int32} (h2 : 2 ≤ n) (hn : n < 7) (h : ∀ G, (∀ q, q < tc_P n → G q = nI (tc_E q)) → post (nI n, nI (tc_P n), f3, f4, z1, z2, G)) : wX_init_56 post (nI n) f0 f1 f3 f4 z1 z2 (fun _ => 0) := by
  refine ⟨tc_20, ?_⟩
  intro y ey
  rw [tc_yP h2 hn] at ey
  rw [ey]
  exact ⟨_, tc_xi74 hn h (n - 1) 1 (fun _ => 0) (by omega) (fun q hq => absurd hq (Nat.not_lt_zero q))⟩
end
section
/-! what is owed -/
def i_Rel (_ : Nat) (u : SX) (v : SY) : Prop := ∃ (n U R L : Nat) (e m : Nat → Nat) (G H : Nat → Int32), u = (nI n, nI (tc_P n), nI U, nI R, (fun p => nI (e p)), (fun p => nI (m p)), G) ∧ v = (nI n, nI L, (fun p => nI (e p)), (fun p => nI (m p)), H) ∧ tc_ok n U R e m G ∧ tc_lst n L H
theorem i_up {k : Nat} {u : SX} {v : SY} (h : i_Rel k u v) : i_Rel (k + 4) u v := h
theorem tc_start (k0 : Int32) : ∃ n : Nat, 2 ≤ n ∧ n < 7 ∧ (∀ post : SX → Prop, wX_init_56 post (nI n) 0 0 0 0 (fun _ => 0) (fun _ => 0) (fun _ => 0) → wpX_init post k0) ∧ (∀ post : SY → Prop, (∃ fu, wY_init_54 post (nI n) fu 1 0 (fun _ => 0) (fun _ => 0) (fun _ => 0)) → wpY_init post k0) := by
  by_cases a : 2 ≤ k0
  · by_cases b : k0 ≤ 6
    · have c : ¬ k0 < 0 := fun z => absurd (Int32.lt_of_le_of_lt a z) (by decide)
      obtain ⟨j, hj, rfl⟩ := nI_of c
      have a2 : 2 ≤ j := (nI_leI (a := 2) (by decide) hj).mp a
      have b2 : j ≤ 6 := (nI_leI (b := 6) hj (by decide)).mp b
      exact ⟨j, a2, by omega, fun post h => br_t a (br_t b h), fun post h => br_t a (br_t b h)⟩
    · exact ⟨6, by decide, by decide, fun post h => br_t a (br_f b h), fun post h => br_t a (br_f b h)⟩
  · have b : (2 : Int32) ≤ 6 := by decide
    exact ⟨2, by decide, by decide, fun post h => br_f a (br_t b h), fun post h => br_f a (br_t b h)⟩
theorem tc_ok0 {n : Nat} {G : Nat → Int32} (h2 : 2 ≤ n) (hn : n < 7) (hG : ∀ p, p < tc_P n → G p = nI (tc_E p)) : tc_ok n 0 0 (fun _ => 0) (fun _ => 0) G := by
  refine ⟨h2, hn, by decide, by decide, fun _ => Nat.zero_le _, fun _ => Nat.zero_le _, fun _ _ => ⟨rfl, rfl⟩, fun p => ?_, fun p => ?_, hG⟩
  · rw [Nat.zero_testBit]
    exact ⟨fun a => absurd a (by decide), fun a => absurd a.1 (Nat.lt_irrefl 0)⟩
  · rw [Nat.zero_testBit]
    exact ⟨fun a => absurd a (by decide), fun a => Nat.noConfusion (a : 0 = 0 + 1)⟩
theorem i_vc0 (k0 : Int32) : wpX_init (fun u => wpY_init (fun v => i_Rel 1 u v) k0) k0 := by
  obtain ⟨n, h2, hn, hX, hY⟩ := tc_start k0
  apply hX
  apply tc_xi56 h2 hn
  intro G hG
  apply hY
  apply tc_yi h2 hn
  intro H hH
  exact ⟨n, 0, 0, _, fun _ => 0, fun _ => 0, G, H, rfl, rfl, tc_ok0 h2 hn hG, hH⟩
theorem tc_updn (e : Nat → Nat) (p x : Nat) : upd (fun q => nI (e q)) p (nI x) = fun q => nI (if q = p then x else e q) := by
  funext q
  show (if q = p then nI x else nI (e q)) = nI (if q = p then x else e q)
  split <;> rfl
theorem i_vc_edges {k : Nat} {u : SX} {v : SY} (I : i_Rel k u v) (hk : k + 4 ≤ 2049) (v1 : Int32) (v2 : Int32) (v3 : Int32) : wpX_edges (fun r u' => wpY_edges (fun r' v' => r' = r ∧ i_Rel (k + 4) u' v') v v1 v2 v3) u v1 v2 v3 := by
  have rel : i_Rel (k + 4) u v := I
  obtain ⟨n, U, R, L, e, m, G, H, rfl, rfl, I, hL⟩ := I
  have I' := I
  obtain ⟨h2, hn, hU, hR, he, hm, hz, bU, bR, hG⟩ := I'
  unfold wpX_edges
  dsimp only
  rcases tc_cases hn v1 v2 with hb | ⟨a, b, ha, hb, hab, rfl, rfl⟩
  · refine tc_xpb hn hb ?_
    refine br_t rfl ?_
    unfold wpY_edges
    dsimp only
    refine tc_ybad hb ?_
    exact br_f tc_10 ⟨rfl, rel⟩
  · refine tc_xpg hn ha hb hab ?_
    refine br_f tc_10 ?_
    rcases pk_ix v3 (n := 4) (by decide) with c | c | ⟨x, hx, rfl⟩
    · refine br_t c ?_
      unfold wpY_edges
      dsimp only
      refine tc_ygood hn ha hb hab ?_
      exact br_t rfl (br_t c ⟨rfl, rel⟩)
    · have d1 : ¬ v3 < 0 := fun z => absurd (Int32.lt_of_le_of_lt c z) (by decide)
      have d2 : ¬ v3 ≤ 3 := fun z => absurd (Int32.le_trans c z) (by decide)
      refine br_f d1 (br_f d2 ?_)
      unfold wpY_edges
      dsimp only
      refine tc_ygood hn ha hb hab ?_
      exact br_t rfl (br_f d1 (br_f d2 ⟨rfl, rel⟩))
    · have d1 : ¬ nI x < 0 := nI_pos (by omega)
      have d2 : nI x ≤ 3 := nI_le (b := 3) (by omega) (by decide)
      have hin := tc_pair_in n hn a ha b hb hab
      have hP := tc_P_le n hn
      have vi : vp_in (nI (tc_pair a b)) 15 := vp_in_nI (by omega) (by decide)
      have cl : (nI (tc_pair a b)).toNatClampNeg = tc_pair a b := nI_clamp (by omega)
      refine br_f d1 (br_t d2 ?_)
      refine tc_xpairOf (by omega) (by omega) hab ?_
      refine ⟨vi, ?_⟩
      intro old eold
      refine ⟨vi, ?_⟩
      intro ea eea
      rw [cl] at eold eea
      rw [tc_updn] at eea
      subst eea
      refine tc_xclassify (e := fun q => if q = tc_pair a b then x else e q) (by omega) hU hR ?_ (hm _) ?_ ?_ ?_
      · show (if tc_pair a b = tc_pair a b then x else e (tc_pair a b)) ≤ 3
        rw [if_pos rfl]; omega
      · intro q hq
        show _ ↔ 0 < (if q = tc_pair a b then x else e q) ∧ m q ≠ 2
        rw [if_neg hq]
        exact bU q
      · intro q _
        exact bR q
      · intro U' R' lU lR bU' bR'
        dsimp only
        unfold wpY_edges
        dsimp only
        refine tc_ygood hn ha hb hab ?_
        refine br_t rfl (br_f d1 (br_t d2 ?_))
        refine tc_ypair (by omega) (by omega) hab ?_
        refine ⟨vi, ?_⟩
        intro old2 eold2
        refine ⟨vi, ?_⟩
        intro ea2 eea2
        rw [cl] at eold2 eea2
        rw [tc_updn] at eea2
        subst eea2
        refine ⟨eold2.trans eold.symm, n, U', R', L, (fun q => if q = tc_pair a b then x else e q), m, G, H, rfl, rfl, ⟨h2, hn, lU, lR, ?_, hm, ?_, bU', bR', hG⟩, hL⟩
        · intro q
          show (if q = tc_pair a b then x else e q) ≤ 3
          split
          · omega
          · exact he q
        · intro q hq
          show (if q = tc_pair a b then x else e q) = 0 ∧ m q = 0
          rw [if_neg (by omega)]
          exact hz q hq
theorem i_vc_mode {k : Nat} {u : SX} {v : SY} (I : i_Rel k u v) (hk : k + 4 ≤ 2049) (v1 : Int32) (v2 : Int32) (v3 : Int32) : wpX_mode (fun r u' => wpY_mode (fun r' v' => r' = r ∧ i_Rel (k + 4) u' v') v v1 v2 v3) u v1 v2 v3 := by
  have rel : i_Rel (k + 4) u v := I
  obtain ⟨n, U, R, L, e, m, G, H, rfl, rfl, I, hL⟩ := I
  have I' := I
  obtain ⟨h2, hn, hU, hR, he, hm, hz, bU, bR, hG⟩ := I'
  unfold wpX_mode
  dsimp only
  rcases tc_cases hn v1 v2 with hb | ⟨a, b, ha, hb, hab, rfl, rfl⟩
  · refine tc_xpb hn hb ?_
    refine br_t rfl ?_
    unfold wpY_mode
    dsimp only
    refine tc_ybad hb ?_
    exact br_f tc_10 ⟨rfl, rel⟩
  · refine tc_xpg hn ha hb hab ?_
    refine br_f tc_10 ?_
    rcases pk_ix v3 (n := 3) (by decide) with c | c | ⟨x, hx, rfl⟩
    · refine br_t c ?_
      unfold wpY_mode
      dsimp only
      refine tc_ygood hn ha hb hab ?_
      exact br_t rfl (br_t c ⟨rfl, rel⟩)
    · have d1 : ¬ v3 < 0 := fun z => absurd (Int32.lt_of_le_of_lt c z) (by decide)
      have d2 : ¬ v3 ≤ 2 := fun z => absurd (Int32.le_trans c z) (by decide)
      refine br_f d1 (br_f d2 ?_)
      unfold wpY_mode
      dsimp only
      refine tc_ygood hn ha hb hab ?_
      exact br_t rfl (br_f d1 (br_f d2 ⟨rfl, rel⟩))
    · have d1 : ¬ nI x < 0 := nI_pos (by omega)
      have d2 : nI x ≤ 2 := nI_le (b := 2) (by omega) (by decide)
      have hin := tc_pair_in n hn a ha b hb hab
      have hP := tc_P_le n hn
      have vi : vp_in (nI (tc_pair a b)) 15 := vp_in_nI (by omega) (by decide)
      have cl : (nI (tc_pair a b)).toNatClampNeg = tc_pair a b := nI_clamp (by omega)
      refine br_f d1 (br_t d2 ?_)
      refine tc_xpairOf (by omega) (by omega) hab ?_
      refine ⟨vi, ?_⟩
      intro old eold
      refine ⟨vi, ?_⟩
      intro ea eea
      rw [cl] at eold eea
      rw [tc_updn] at eea
      subst eea
      refine tc_xclassify (m := fun q => if q = tc_pair a b then x else m q) (by omega) hU hR (he _) ?_ ?_ ?_ ?_
      · show (if tc_pair a b = tc_pair a b then x else m (tc_pair a b)) ≤ 2
        rw [if_pos rfl]; omega
      · intro q hq
        show _ ↔ 0 < e q ∧ (if q = tc_pair a b then x else m q) ≠ 2
        rw [if_neg hq]
        exact bU q
      · intro q hq
        show _ ↔ (if q = tc_pair a b then x else m q) = 1
        rw [if_neg hq]
        exact bR q
      · intro U' R' lU lR bU' bR'
        dsimp only
        unfold wpY_mode
        dsimp only
        refine tc_ygood hn ha hb hab ?_
        refine br_t rfl (br_f d1 (br_t d2 ?_))
        refine tc_ypair (by omega) (by omega) hab ?_
        refine ⟨vi, ?_⟩
        intro old2 eold2
        refine ⟨vi, ?_⟩
        intro ea2 eea2
        rw [cl] at eold2 eea2
        rw [tc_updn] at eea2
        subst eea2
        refine ⟨eold2.trans eold.symm, n, U', R', L, e, (fun q => if q = tc_pair a b then x else m q), G, H, rfl, rfl, ⟨h2, hn, lU, lR, he, ?_, ?_, bU', bR', hG⟩, hL⟩
        · intro q
          show (if q = tc_pair a b then x else m q) ≤ 2
          split
          · omega
          · exact hm q
        · intro q hq
          show e q = 0 ∧ (if q = tc_pair a b then x else m q) = 0
          rw [if_neg (by omega)]
          exact hz q hq
theorem tc_TT_all (n : Nat) (W : Nat → Nat) : tc_TT n W 0 = tc_S (fun s => if tc_tr n s = true then W s else 0) (2 ^ tc_P n) := by
  unfold tc_TT
  apply tc_S_congr
  intro s _
  show (if tc_tr n s = true then (if s &&& 0 = 0 then W s else 0) else 0) = (if tc_tr n s = true then W s else 0)
  rw [if_pos (Nat.and_zero s)]
theorem i_vc_trees {k : Nat} {u : SX} {v : SY} (I : i_Rel k u v) (hk : k + 4 ≤ 2049) : wpX_trees (fun r => wpY_trees (fun r' => r' = r ∧ i_Rel (k + 4) u v) v) u := by
  have rel : i_Rel (k + 4) u v := I
  obtain ⟨n, U, R, L, e, m, G, H, rfl, rfl, I, hL⟩ := I
  have I' := I
  obtain ⟨h2, hn, hU, hR, he, hm, hz, bU, bR, hG⟩ := I'
  refine ⟨_, tc_xtrees4 I ?_ (2 ^ tc_P n) 0 (Nat.zero_add _)⟩
  unfold wpY_trees
  dsimp only
  refine tc_ywith (q := 0) h2 hn hm hL (by decide) ?_
  exact ⟨congrArg nI (tc_TT_all n _), rel⟩
theorem i_vc_using {k : Nat} {u : SX} {v : SY} (I : i_Rel k u v) (hk : k + 4 ≤ 2049) (v1 : Int32) (v2 : Int32) : wpX_using (fun r => wpY_using (fun r' => r' = r ∧ i_Rel (k + 4) u v) v v1 v2) u v1 v2 := by
  have rel : i_Rel (k + 4) u v := I
  obtain ⟨n, U, R, L, e, m, G, H, rfl, rfl, I, hL⟩ := I
  have I' := I
  obtain ⟨h2, hn, hU, hR, he, hm, hz, bU, bR, hG⟩ := I'
  unfold wpX_using
  dsimp only
  rcases tc_cases hn v1 v2 with hb | ⟨a, b, ha, hb, hab, rfl, rfl⟩
  · refine tc_xpb hn hb ?_
    refine br_t rfl ?_
    unfold wpY_using
    dsimp only
    refine tc_ybad hb ?_
    exact br_f tc_10 ⟨rfl, rel⟩
  · have hin := tc_pair_in n hn a ha b hb hab
    have hP := tc_P_le n hn
    refine tc_xpg hn ha hb hab ?_
    refine br_f tc_10 ?_
    refine tc_xpairOf (by omega) (by omega) hab ?_
    refine ⟨_, tc_xusing23 I hin ?_ (2 ^ tc_P n) 0 (Nat.zero_add _)⟩
    unfold wpY_using
    dsimp only
    refine tc_ygood hn ha hb hab ?_
    refine br_t rfl ?_
    refine tc_ypair (by omega) (by omega) hab ?_
    rw [tc_none (by omega)]
    refine tc_ywith h2 hn hm hL (Nat.pow_lt_pow_right (by decide) (by omega)) ?_
    exact ⟨rfl, rel⟩
theorem i_vc_leaf {k : Nat} {u : SX} {v : SY} (I : i_Rel k u v) (hk : k + 4 ≤ 2049) (v1 : Int32) : wpX_leaf (fun r => wpY_leaf (fun r' => r' = r ∧ i_Rel (k + 4) u v) v v1) u v1 := by
  have rel : i_Rel (k + 4) u v := I
  obtain ⟨n, U, R, L, e, m, G, H, rfl, rfl, I, hL⟩ := I
  have I' := I
  obtain ⟨h2, hn, hU, hR, he, hm, hz, bU, bR, hG⟩ := I'
  unfold wpX_leaf
  dsimp only
  rcases pk_ix v1 (n := n) (by omega) with c | c | ⟨a, ha, rfl⟩
  · refine tc_xvb (Or.inl c) ?_
    refine br_t rfl ?_
    exact br_t c ⟨rfl, rel⟩
  · refine tc_xvb (Or.inr c) ?_
    refine br_t rfl ?_
    exact br_f (fun z => absurd (Int32.lt_of_le_of_lt c z) (nI_pos (by omega))) (br_f (Int32.not_lt.mpr c) ⟨rfl, rel⟩)
  · refine tc_xvg hn ha ?_
    refine br_f tc_10 ?_
    refine ⟨_, tc_xleaf14 I ha ?_ (2 ^ tc_P n) 0 (Nat.zero_add _)⟩
    refine br_f (nI_pos (by omega)) (br_t (nI_lt ha (by omega)) ?_)
    refine ⟨_, tc_yleaf18 h2 hn hm hL ha ?_ L 0 (Nat.zero_add _)⟩
    exact ⟨congrArg nI (tc_sum hn hL (fun s => if tc_dy s a n = 1 then tc_w e m s (tc_P n) else 0)), rel⟩
theorem i_vc_degrees {k : Nat} {u : SX} {v : SY} (I : i_Rel k u v) (hk : k + 4 ≤ 2049) (v1 : Int32) : wpX_degrees (fun r => wpY_degrees (fun r' => r' = r ∧ i_Rel (k + 4) u v) v v1) u v1 := by
  have rel : i_Rel (k + 4) u v := I
  obtain ⟨n, U, R, L, e, m, G, H, rfl, rfl, I, hL⟩ := I
  have I' := I
  obtain ⟨h2, hn, hU, hR, he, hm, hz, bU, bR, hG⟩ := I'
  unfold wpX_degrees
  dsimp only
  rcases pk_ix v1 (n := n) (by omega) with c | c | ⟨a, ha, rfl⟩
  · refine tc_xvb (Or.inl c) ?_
    refine br_t rfl ?_
    exact br_t c ⟨rfl, rel⟩
  · refine tc_xvb (Or.inr c) ?_
    refine br_t rfl ?_
    exact br_f (fun z => absurd (Int32.lt_of_le_of_lt c z) (nI_pos (by omega))) (br_f (Int32.not_lt.mpr c) ⟨rfl, rel⟩)
  · refine tc_xvg hn ha ?_
    refine br_f tc_10 ?_
    refine ⟨_, tc_xdegs14 I ha ?_ (2 ^ tc_P n) 0 (Nat.zero_add _)⟩
    refine br_f (nI_pos (by omega)) (br_t (nI_lt ha (by omega)) ?_)
    refine ⟨_, tc_ydegs18 h2 hn hm hL ha ?_ L 0 (Nat.zero_add _)⟩
    exact ⟨congrArg nI (tc_sum hn hL (fun s => tc_w e m s (tc_P n) * tc_dy s a n)), rel⟩
theorem i_vc_apart {k : Nat} {u : SX} {v : SY} (I : i_Rel k u v) (hk : k + 4 ≤ 2049) (v1 : Int32) (v2 : Int32) : wpX_apart (fun r => wpY_apart (fun r' => r' = r ∧ i_Rel (k + 4) u v) v v1 v2) u v1 v2 := by
  have rel : i_Rel (k + 4) u v := I
  obtain ⟨n, U, R, L, e, m, G, H, rfl, rfl, I, hL⟩ := I
  have I' := I
  obtain ⟨h2, hn, hU, hR, he, hm, hz, bU, bR, hG⟩ := I'
  unfold wpX_apart
  dsimp only
  rcases tc_cases hn v1 v2 with hb | ⟨a, b, ha, hb, hab, rfl, rfl⟩
  · refine tc_xpb hn hb ?_
    refine br_t rfl ?_
    unfold wpY_apart
    dsimp only
    refine tc_ybad hb ?_
    exact br_f tc_10 ⟨rfl, rel⟩
  · have hin := tc_pair_in n hn a ha b hb hab
    refine tc_xpg hn ha hb hab ?_
    refine br_f tc_10 ?_
    refine ⟨_, tc_xapart16 I ha hb ?_ (2 ^ tc_P n) 0 (Nat.zero_add _)⟩
    unfold wpY_apart
    dsimp only
    refine tc_ygood hn ha hb hab ?_
    refine br_t rfl ?_
    refine tc_ypair (by omega) (by omega) hab ?_
    refine ⟨_, tc_yapart24 h2 hn hm hL hin ?_ L 0 (Nat.zero_add _)⟩
    have e1 := tc_sum hn hL (fun s => if s.testBit (tc_pair a b) = true then tc_w e m (s ^^^ (s &&& 2 ^ tc_pair a b)) (tc_P n) else 0)
    have e2 := tc_apart_sum h2 hn ha hb hab (fun s => tc_w e m s (tc_P n))
    exact ⟨congrArg nI (e1.trans e2.symm), rel⟩
theorem i_vc_idle {k : Nat} {u : SX} {v : SY} (I : i_Rel k u v) (hk : k + 4 ≤ 2049) : wpX_idle (fun r => wpY_idle (fun r' => r' = r ∧ i_Rel (k + 4) u v) v) u := by
  have rel : i_Rel (k + 4) u v := I
  obtain ⟨n, U, R, L, e, m, G, H, rfl, rfl, I, hL⟩ := I
  have I' := I
  obtain ⟨h2, hn, hU, hR, he, hm, hz, bU, bR, hG⟩ := I'
  refine tc_xidle I ?_
  refine ⟨_, tc_yidle4 h2 hn he hm hL ?_ (tc_P n) 0 (Nat.zero_add _)⟩
  exact ⟨rfl, rel⟩
theorem i_vc_needed {k : Nat} {u : SX} {v : SY} (I : i_Rel k u v) (hk : k + 4 ≤ 2049) : wpX_needed (fun r => wpY_needed (fun r' => r' = r ∧ i_Rel (k + 4) u v) v) u := by
  have rel : i_Rel (k + 4) u v := I
  obtain ⟨n, U, R, L, e, m, G, H, rfl, rfl, I, hL⟩ := I
  have I' := I
  obtain ⟨h2, hn, hU, hR, he, hm, hz, bU, bR, hG⟩ := I'
  refine tc_xneeded I ?_
  unfold wpY_needed
  dsimp only
  unfold wpY_trees
  dsimp only
  refine tc_ywith (q := 0) h2 hn hm hL (by decide) ?_
  refine ⟨_, tc_yneed9 h2 hn he hm hL ?_ (tc_P n) 0 (Nat.zero_add _)⟩
  exact ⟨rfl, rel⟩
end
