/-! idle and needed on X's side -/
def tc_A (e m : Nat → Nat) (n s : Nat) : Prop := tc_al e m s (tc_P n) ∧ tc_tr n s = true
theorem tc_A_p {e m : Nat → Nat} {n p : Nat} : tc_TT n (fun s => tc_w e m s (tc_P n)) (2 ^ p) = 0 ↔ ∀ s, s < 2 ^ tc_P n → tc_A e m n s → s.testBit p = false := by
  constructor
  · intro h s hs ⟨ha, ht⟩
    cases b : s.testBit p
    · rfl
    · have z : tc_w e m s (tc_P n) = 0 := tc_TT_in (W := fun s => tc_w e m s (tc_P n)) h hs ht ((tc_and_pow s p).mpr b)
      have y := tc_w_pos.mpr ha
      omega
  · intro h
    apply tc_TT_0
    intro s hs ht hq
    have b := (tc_and_pow s p).mp hq
    rcases Nat.eq_zero_or_pos (tc_w e m s (tc_P n)) with z | z
    · exact z
    · have y := h s hs ⟨tc_w_pos.mp z, ht⟩
      rw [b] at y
      exact absurd y (by decide)
theorem tc_A_0 {e m : Nat → Nat} {n : Nat} : tc_TT n (fun s => tc_w e m s (tc_P n)) 0 = 0 ↔ ∀ s, s < 2 ^ tc_P n → ¬ tc_A e m n s := by
  constructor
  · intro h s hs ⟨ha, ht⟩
    have z : tc_w e m s (tc_P n) = 0 := tc_TT_in (W := fun s => tc_w e m s (tc_P n)) h hs ht (Nat.and_zero s)
    have y := tc_w_pos.mpr ha
    omega
  · intro h
    apply tc_TT_0
    intro s hs ht _
    rcases Nat.eq_zero_or_pos (tc_w e m s (tc_P n)) with z | z
    · exact z
    · exact absurd ⟨tc_w_pos.mp z, ht⟩ (h s hs)
theorem tc_A_e {e m : Nat → Nat} {n p : Nat} : tc_TT n (fun s => tc_w e m s (tc_P n)) (2 ^ p) = tc_TT n (fun s => tc_w e m s (tc_P n)) 0 ↔ ∀ s, s < 2 ^ tc_P n → tc_A e m n s → s.testBit p = true := by
  rw [tc_TT_eq]
  constructor
  · intro h s hs ⟨ha, ht⟩
    cases b : s.testBit p
    · have z : tc_w e m s (tc_P n) = 0 := h s hs ht b
      have y := tc_w_pos.mpr ha
      omega
    · rfl
  · intro h s hs ht b
    show tc_w e m s (tc_P n) = 0
    rcases Nat.eq_zero_or_pos (tc_w e m s (tc_P n)) with z | z
    · exact z
    · have y := h s hs ⟨tc_w_pos.mp z, ht⟩
      rw [b] at y
      exact absurd y (by decide)
def tc_ci (e m : Nat → Nat) (n p : Nat) : Nat := if 0 < e p ∧ tc_TT n (fun s => tc_w e m s (tc_P n)) (2 ^ p) = 0 then 1 else 0
def tc_cnd (e m : Nat → Nat) (n p : Nat) : Nat := if 0 < tc_TT n (fun s => tc_w e m s (tc_P n)) 0 ∧ tc_TT n (fun s => tc_w e m s (tc_P n)) (2 ^ p) = tc_TT n (fun s => tc_w e m s (tc_P n)) 0 then 1 else 0
theorem tc_xidle36 {n U R : Nat} {e m : Nat → Nat} {G : Nat → Int32} {post : Int32 → Prop} {g : Nat} (I : tc_ok n U R e m G) (hg : g < 2 ^ tc_P n) (bg : ∀ p, g.testBit p = true ↔ ¬ tc_TT n (fun s => tc_w e m s (tc_P n)) (2 ^ p) = 0) (h : post (nI (tc_S (tc_ci e m n) (tc_P n)))) : ∀ d i : Nat, i + d = tc_P n → wX_idle_36 post (nI g) (nI n) (nI (tc_P n)) (nI U) (nI R) (fun p => nI (e p)) (fun p => nI (m p)) G (d + 1) (nI (tc_S (tc_ci e m n) i)) (nI i) := by
  have hn := I.2.1
  have hN := tc_N_lt hn
  have hP := tc_P_le n hn
  have he := I.2.2.2.2.1
  intro d
  induction d with
  | zero =>
    intro i hi
    have e1 : i = tc_P n := by omega
    rw [e1]
    exact br_t (nI_le (Nat.le_refl _) (by omega)) h
  | succ d ih =>
    intro i hi
    have k := ih (i + 1) (by omega)
    rw [tc_S_s] at k
    have hei := he i
    refine br_f (nI_ge (by omega) (by omega)) ⟨vp_in_nI (by omega) (by decide), ?_⟩
    dsimp only
    rw [nI_clamp (by omega)]
    by_cases z : e i = 0
    · refine br_t ?_ ?_
      · show nI (e i) ≤ nI 0
        exact nI_le (by omega) (by decide)
      · intro y ey
        have c : tc_ci e m n i = 0 := if_neg (fun q => by omega)
        rw [c, Nat.add_zero] at k
        rw [ey, nI_1]
        exact k
    · refine br_f (nI_nle (by omega) (by omega)) ?_
      refine tc_xhas (by omega) (by omega) (fun hb => ?_) (fun hb => ?_)
      · refine br_f tc_10 ?_
        intro y ey
        have c : tc_ci e m n i = 0 := if_neg (fun q => (bg i).mp hb q.2)
        rw [c, Nat.add_zero] at k
        rw [ey, nI_1]
        exact k
      · refine br_t rfl ?_
        intro y ey w ew
        have q0 : tc_TT n (fun s => tc_w e m s (tc_P n)) (2 ^ i) = 0 := by
          apply Classical.byContradiction
          intro q
          rw [(bg i).mpr q] at hb
          exact absurd hb (by decide)
        have c : tc_ci e m n i = 1 := if_pos ⟨by omega, q0⟩
        rw [c] at k
        rw [ey, ew, nI_1, nI_1]
        exact k
theorem tc_xidle4 {n U R : Nat} {e m : Nat → Nat} {G : Nat → Int32} {post : Int32 → Prop} (I : tc_ok n U R e m G) (h : post (nI (tc_S (tc_ci e m n) (tc_P n)))) : ∀ d i g : Nat, i + d = 2 ^ tc_P n → g < 2 ^ tc_P n → (∀ p, g.testBit p = true ↔ ∃ s, s < i ∧ tc_A e m n s ∧ s.testBit p = true) → wX_idle_4 post (nI n) (nI (tc_P n)) (nI U) (nI R) (fun p => nI (e p)) (fun p => nI (m p)) G (d + 1) (nI g) (nI i) := by
  have hn := I.2.1
  have hN := tc_N_lt hn
  intro d
  induction d with
  | zero =>
    intro i g hi hg bg
    have e1 : i = 2 ^ tc_P n := by omega
    rw [e1] at bg ⊢
    refine br_t (by rw [tc_xN hn]; exact nI_le (Nat.le_refl _) (by omega)) ⟨_, tc_xidle36 I hg ?_ h (tc_P n) 0 (Nat.zero_add _)⟩
    intro p
    rw [bg, tc_A_p]
    constructor
    · intro ⟨s, hs, ha, hb⟩ q
      rw [q s hs ha] at hb
      exact absurd hb (by decide)
    · intro q
      apply Classical.byContradiction
      intro r
      apply q
      intro s hs ha
      cases b : s.testBit p
      · rfl
      · exact absurd ⟨s, hs, ha, b⟩ r
  | succ d ih =>
    intro i g hi hg bg
    have hi2 : i < 2 ^ tc_P n := by omega
    refine br_f (by rw [tc_xN hn]; exact nI_ge (by omega) (by omega)) ?_
    refine tc_xtree I hi2 (fun ha ht => ?_) (fun hb => ?_)
    · refine br_f tc_10 ?_
      intro y ey z ez
      rw [ey, ez, tc_nor, nI_1]
      refine ih (i + 1) (g ||| i) (by omega) (Nat.or_lt_two_pow hg hi2) ?_
      intro p
      rw [Nat.testBit_or, Bool.or_eq_true, bg]
      constructor
      · rintro (⟨s, a, b, c⟩ | c)
        · exact ⟨s, by omega, b, c⟩
        · exact ⟨i, by omega, ⟨ha, ht⟩, c⟩
      · rintro ⟨s, a, b, c⟩
        rcases Nat.lt_or_ge s i with q | q
        · exact Or.inl ⟨s, q, b, c⟩
        · have q2 : s = i := by omega
          rw [q2] at c
          exact Or.inr c
    · refine br_t rfl ?_
      intro z ez
      rw [ez, nI_1]
      refine ih (i + 1) g (by omega) hg ?_
      intro p
      rw [bg]
      constructor
      · rintro ⟨s, a, b, c⟩
        exact ⟨s, by omega, b, c⟩
      · rintro ⟨s, a, b, c⟩
        rcases Nat.lt_or_ge s i with q | q
        · exact ⟨s, q, b, c⟩
        · have q2 : s = i := by omega
          rw [q2] at b
          exact absurd b hb
theorem tc_xidle {n U R : Nat} {e m : Nat → Nat} {G : Nat → Int32} {post : Int32 → Prop} (I : tc_ok n U R e m G) (h : post (nI (tc_S (tc_ci e m n) (tc_P n)))) : wpX_idle post (nI n, nI (tc_P n), nI U, nI R, (fun p => nI (e p)), (fun p => nI (m p)), G) := by
  refine ⟨_, tc_xidle4 I h (2 ^ tc_P n) 0 0 (Nat.zero_add _) (Nat.two_pow_pos _) ?_⟩
  intro p
  rw [Nat.zero_testBit]
  constructor
  · intro q; exact absurd q (by decide)
  · rintro ⟨s, a, _⟩; exact absurd a (Nat.not_lt_zero s)
theorem tc_sz_S (g : Nat) : ∀ k, tc_sz g k = tc_S (fun p => tc_b g p) k := by
  intro k
  induction k with
  | zero => rfl
  | succ k ih =>
    show tc_sz g k + tc_b g k = tc_S (fun p => tc_b g p) k + tc_b g k
    rw [ih]
theorem tc_xneeded13 {n U R : Nat} {e m : Nat → Nat} {G : Nat → Int32} {post : Int32 → Prop} (I : tc_ok n U R e m G) (h : post (nI (tc_S (tc_cnd e m n) (tc_P n)))) : ∀ (d i g : Nat) (f : Int32), i + d = 2 ^ tc_P n → g < 2 ^ tc_P n → (∀ p, p < tc_P n → (g.testBit p = true ↔ ∀ s, s < i → tc_A e m n s → s.testBit p = true)) → ((f = 0 ∧ ∀ s, s < i → ¬ tc_A e m n s) ∨ (f = 1 ∧ ∃ s, s < i ∧ tc_A e m n s)) → wX_needed_13 post (nI n) (nI (tc_P n)) (nI U) (nI R) (fun p => nI (e p)) (fun p => nI (m p)) G (d + 1) f (nI g) (nI i) := by
  have hn := I.2.1
  have hN := tc_N_lt hn
  intro d
  induction d with
  | zero =>
    intro i g f hi hg bg hf
    have e1 : i = 2 ^ tc_P n := by omega
    rw [e1] at bg hf ⊢
    refine br_t (by rw [tc_xN hn]; exact nI_le (Nat.le_refl _) (by omega)) ?_
    rcases hf with ⟨f0, q⟩ | ⟨f1, s0, hs0, ha0⟩
    · refine br_t f0 ?_
      have t0 := tc_A_0.mpr q
      have z : tc_S (tc_cnd e m n) (tc_P n) = 0 := by
        apply tc_S_zero
        intro p _
        exact if_neg (fun y => by omega)
      rw [z] at h
      exact h
    · refine br_f (by rw [f1]; exact tc_10) ?_
      refine tc_xsize hn (by omega) ?_
      have t0 : 0 < tc_TT n (fun s => tc_w e m s (tc_P n)) 0 := by
        rcases Nat.eq_zero_or_pos (tc_TT n (fun s => tc_w e m s (tc_P n)) 0) with y | y
        · exact absurd ha0 (tc_A_0.mp y s0 hs0)
        · exact y
      have z : tc_sz g (tc_P n) = tc_S (tc_cnd e m n) (tc_P n) := by
        rw [tc_sz_S]
        apply tc_S_congr
        intro p hp
        show tc_b g p = tc_cnd e m n p
        by_cases y : g.testBit p = true
        · have y2 := tc_A_e.mpr ((bg p hp).mp y)
          rw [tc_b_t y]
          exact (if_pos ⟨t0, y2⟩).symm
        · have y2 : ¬ tc_TT n (fun s => tc_w e m s (tc_P n)) (2 ^ p) = tc_TT n (fun s => tc_w e m s (tc_P n)) 0 := fun w => y ((bg p hp).mpr (tc_A_e.mp w))
          rw [tc_b_f (Bool.eq_false_iff.mpr y)]
          exact (if_neg (fun w => y2 w.2)).symm
      rw [z]
      exact h
  | succ d ih =>
    intro i g f hi hg bg hf
    have hi2 : i < 2 ^ tc_P n := by omega
    refine br_f (by rw [tc_xN hn]; exact nI_ge (by omega) (by omega)) ?_
    refine tc_xtree I hi2 (fun ha ht => ?_) (fun hb => ?_)
    · refine br_f tc_10 ?_
      intro y ey z ez
      rw [ey, ez, nx_and, nI_1]
      refine ih (i + 1) (g &&& i) 1 (by omega) (Nat.and_lt_two_pow g hi2) ?_ (Or.inr ⟨rfl, i, by omega, ha, ht⟩)
      intro p hp
      rw [Nat.testBit_and, Bool.and_eq_true, bg p hp]
      constructor
      · rintro ⟨a, b⟩ s hs hA
        rcases Nat.lt_or_ge s i with q | q
        · exact a s q hA
        · have q2 : s = i := by omega
          rw [q2]; exact b
      · intro a
        exact ⟨fun s hs => a s (by omega), a i (by omega) ⟨ha, ht⟩⟩
    · refine br_t rfl ?_
      intro z ez
      rw [ez, nI_1]
      have na : ∀ s, s < i + 1 → tc_A e m n s → s < i := by
        intro s hs hA
        rcases Nat.lt_or_ge s i with q | q
        · exact q
        · have q2 : s = i := by omega
          rw [q2] at hA
          exact absurd hA hb
      refine ih (i + 1) g f (by omega) hg ?_ ?_
      · intro p hp
        rw [bg p hp]
        exact ⟨fun a s hs hA => a s (na s hs hA) hA, fun a s hs => a s (by omega)⟩
      · rcases hf with ⟨f0, q⟩ | ⟨f1, s0, hs0, ha0⟩
        · exact Or.inl ⟨f0, fun s hs hA => q s (na s hs hA) hA⟩
        · exact Or.inr ⟨f1, s0, by omega, ha0⟩
theorem tc_xneeded {n U R : Nat} {e m : Nat → Nat} {G : Nat → Int32} {post : Int32 → Prop} (I : tc_ok n U R e m G) (h : post (nI (tc_S (tc_cnd e m n) (tc_P n)))) : wpX_needed post (nI n, nI (tc_P n), nI U, nI R, (fun p => nI (e p)), (fun p => nI (m p)), G) := by
  have hp := Nat.two_pow_pos (tc_P n)
  intro y ey
  rw [tc_xN I.2.1] at ey
  have e1 : nI (2 ^ tc_P n) - 1 = nI (2 ^ tc_P n - 1) := pk_sub (b := 1) hp
  rw [ey, e1]
  refine ⟨_, tc_xneeded13 I h (2 ^ tc_P n) 0 (2 ^ tc_P n - 1) 0 (Nat.zero_add _) (by omega) ?_ (Or.inl ⟨rfl, fun s hs => absurd hs (Nat.not_lt_zero s)⟩)⟩
  intro p hp2
  rw [Nat.testBit_two_pow_sub_one]
  exact ⟨fun _ s hs => absurd hs (Nat.not_lt_zero s), fun _ => decide_eq_true hp2⟩
/-! a pair whose edges or mode were set -/
theorem tc_clr (U p q : Nat) : (U ^^^ (U &&& 2 ^ p)).testBit q = true ↔ U.testBit q = true ∧ q ≠ p := by
  rw [Nat.testBit_xor, Nat.testBit_and, Nat.testBit_two_pow]
  by_cases z : p = q
  · rw [decide_eq_true z, Bool.and_true]
    constructor
    · intro h
      cases b : U.testBit q <;> rw [b] at h <;> exact absurd h (by decide)
    · intro h
      exact absurd z.symm h.2
  · rw [decide_eq_false z, Bool.and_false, Bool.xor_false]
    exact ⟨fun h => ⟨h, fun w => z w.symm⟩, fun h => h.1⟩
theorem tc_xcl57 {n U R : Nat} {e m : Nat → Nat} {G : Nat → Int32} {post : SX → Prop} {p : Nat} (hp : p < 15) (hR : R < 2 ^ 15) (hm : m p ≤ 2) (bR : ∀ q, q ≠ p → (R.testBit q = true ↔ m q = 1)) (bp : R.testBit p = false) (h : ∀ R', R' < 2 ^ 15 → (∀ q, R'.testBit q = true ↔ m q = 1) → post (nI n, nI (tc_P n), nI U, nI R', (fun p => nI (e p)), (fun p => nI (m p)), G)) : wX_classify_57 post (nI p) (nI (2 ^ p)) (nI n) (nI (tc_P n)) (nI U) (nI R) (fun p => nI (e p)) (fun p => nI (m p)) G := by
  refine ⟨vp_in_nI hp (by decide), ?_⟩
  dsimp only
  rw [nI_clamp (by omega)]
  by_cases z : m p = 1
  · refine br_t (congrArg nI z) ?_
    intro y ey
    rw [tc_nor] at ey
    rw [ey]
    refine h (R ||| 2 ^ p) (Nat.or_lt_two_pow hR (Nat.pow_lt_pow_right (by decide) hp)) ?_
    intro q
    rw [tc_or_bit]
    by_cases w : q = p
    · rw [w]; exact ⟨fun _ => z, fun _ => Or.inr rfl⟩
    · rw [bR q w]
      exact ⟨fun a => a.resolve_right w, Or.inl⟩
  · refine br_f ?_ ?_
    · show ¬ nI (m p) = nI 1
      rw [nI_eq (by omega) (by decide)]
      exact z
    · refine h R hR ?_
      intro q
      by_cases w : q = p
      · rw [w, bp]
        exact ⟨fun a => absurd a (by decide), fun a => absurd a z⟩
      · exact bR q w
theorem tc_xclassify {n U R : Nat} {e m : Nat → Nat} {G : Nat → Int32} {post : SX → Prop} {p : Nat} (hp : p < 15) (hU : U < 2 ^ 15) (hR : R < 2 ^ 15) (he : e p ≤ 3) (hm : m p ≤ 2) (bU : ∀ q, q ≠ p → (U.testBit q = true ↔ 0 < e q ∧ m q ≠ 2)) (bR : ∀ q, q ≠ p → (R.testBit q = true ↔ m q = 1)) (h : ∀ U' R', U' < 2 ^ 15 → R' < 2 ^ 15 → (∀ q, U'.testBit q = true ↔ 0 < e q ∧ m q ≠ 2) → (∀ q, R'.testBit q = true ↔ m q = 1) → post (nI n, nI (tc_P n), nI U', nI R', (fun p => nI (e p)), (fun p => nI (m p)), G)) : wpX_classify post (nI n, nI (tc_P n), nI U, nI R, (fun p => nI (e p)), (fun p => nI (m p)), G) (nI p) := by
  have R0 : (R ^^^ (R &&& 2 ^ p)).testBit p = false := by
    apply Bool.eq_false_iff.mpr
    intro z
    exact ((tc_clr R p p).mp z).2 rfl
  have R1 : ∀ q, q ≠ p → ((R ^^^ (R &&& 2 ^ p)).testBit q = true ↔ m q = 1) := fun q hq => by
    rw [tc_clr, bR q hq]
    exact ⟨fun a => a.1, fun a => ⟨a, hq⟩⟩
  have U1 : ∀ q, q ≠ p → ((U ^^^ (U &&& 2 ^ p)).testBit q = true ↔ 0 < e q ∧ m q ≠ 2) := fun q hq => by
    rw [tc_clr, bU q hq]
    exact ⟨fun a => a.1, fun a => ⟨a, hq⟩⟩
  have U0 : (U ^^^ (U &&& 2 ^ p)).testBit p = false := by
    apply Bool.eq_false_iff.mpr
    intro z
    exact ((tc_clr U p p).mp z).2 rfl
  have lU : U ^^^ (U &&& 2 ^ p) < 2 ^ 15 := tc_sd_lt hU
  have lR : R ^^^ (R &&& 2 ^ p) < 2 ^ 15 := tc_sd_lt hR
  have UN : ¬ (0 < e p ∧ m p ≠ 2) → ∀ q, (U ^^^ (U &&& 2 ^ p)).testBit q = true ↔ 0 < e q ∧ m q ≠ 2 := by
    intro hno q
    by_cases w : q = p
    · rw [w, U0]
      exact ⟨fun a => absurd a (by decide), fun a => absurd a hno⟩
    · exact U1 q w
  have vi : vp_in (nI p) 15 := vp_in_nI hp (by decide)
  intro x ex
  rw [tc_none (by omega)] at ex
  subst ex
  intro y ey
  rw [tc_nandnot] at ey
  subst ey
  intro z ez
  rw [tc_nandnot] at ez
  subst ez
  refine ⟨vi, ?_⟩
  dsimp only
  rw [nI_clamp (by omega)]
  by_cases z1 : e p = 0
  · refine br_t ?_ ?_
    · show nI (e p) ≤ nI 0
      exact nI_le (by omega) (by decide)
    · exact tc_xcl57 hp lR hm R1 R0 (fun R' a b => h _ R' lU a (UN (by omega)) b)
  · refine br_f (nI_nle (by omega) (by omega)) ⟨vi, ?_⟩
    by_cases z2 : m p = 2
    · refine br_t (congrArg nI z2) ?_
      exact tc_xcl57 hp lR hm R1 R0 (fun R' a b => h _ R' lU a (UN (fun q => q.2 z2)) b)
    · refine br_f ?_ ?_
      · show ¬ nI (m p) = nI 2
        rw [nI_eq (by omega) (by decide)]
        exact z2
      · intro w ew
        rw [tc_nor] at ew
        rw [ew]
        refine tc_xcl57 hp lR hm R1 R0 (fun R' a b => h _ R' (Nat.or_lt_two_pow lU (Nat.pow_lt_pow_right (by decide) hp)) a ?_ b)
        intro q
        rw [tc_or_bit]
        by_cases w : q = p
        · rw [w]; exact ⟨fun _ => ⟨by omega, z2⟩, fun _ => Or.inr rfl⟩
        · rw [U1 q w]
          exact ⟨fun a => a.resolve_right w, Or.inl⟩
