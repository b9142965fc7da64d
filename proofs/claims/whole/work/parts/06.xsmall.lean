/-! X's private methods, each with a general post -/
theorem tc_sz_le (s : Nat) : ∀ k, tc_sz s k ≤ k := by
  intro k
  induction k with
  | zero => exact Nat.le_refl _
  | succ k ih =>
    show tc_sz s k + tc_b s k ≤ k + 1
    have h : tc_b s k ≤ 1 := by unfold tc_b; split <;> omega
    omega
theorem tc_P_lt {n : Nat} (hn : n < 7) : tc_P n < 16 := by have := tc_P_le n hn; omega
theorem tc_N_lt {n : Nat} (hn : n < 7) : 2 ^ tc_P n ≤ 32768 := (Nat.pow_le_pow_right (by decide) (tc_P_le n hn) : 2 ^ tc_P n ≤ 2 ^ 15)
theorem tc_2n {n : Nat} (hn : n < 7) : 2 ^ n ≤ 64 := (Nat.pow_le_pow_right (by decide) (by omega) : 2 ^ n ≤ 2 ^ 6)
def tc_bad (n : Nat) (x y : Int32) : Prop := x < 0 ∨ nI n ≤ x ∨ y < 0 ∨ nI n ≤ y ∨ x = y
theorem tc_cases {n : Nat} (hn : n < 7) (x y : Int32) : tc_bad n x y ∨ ∃ u v : Nat, u < n ∧ v < n ∧ u ≠ v ∧ x = nI u ∧ y = nI v := by
  rcases pk_ix x (n := n) (by omega) with h | h | ⟨u, hu, ex⟩
  · exact Or.inl (Or.inl h)
  · exact Or.inl (Or.inr (Or.inl h))
  · rcases pk_ix y (n := n) (by omega) with h | h | ⟨v, hv, ey⟩
    · exact Or.inl (Or.inr (Or.inr (Or.inl h)))
    · exact Or.inl (Or.inr (Or.inr (Or.inr (Or.inl h))))
    · by_cases z : u = v
      · exact Or.inl (Or.inr (Or.inr (Or.inr (Or.inr (by rw [ex, ey, z])))))
      · exact Or.inr ⟨u, v, hu, hv, z, ex, ey⟩
theorem tc_tri {v : Nat} (h1 : 1 ≤ v) (hv : v < 100) : (nI v * (nI v - 1)) / 2 = nI (v * (v - 1) / 2) := by
  have b : v * (v - 1) ≤ 100 * 100 := Nat.mul_le_mul (by omega) (by omega)
  show (nI v * (nI v - nI 1)) / nI 2 = _
  rw [pk_sub h1, pk_mul, pk_div (by omega) (by decide) (by decide)]
theorem tc_20 : ¬ (2 : Int32) = 0 := by decide
theorem tc_10 : ¬ (1 : Int32) = 0 := by decide
theorem tc_xpairOf {post : Int32 → Prop} {u v : Nat} (hu : u < 7) (hv : v < 7) (huv : u ≠ v) (h : post (nI (tc_pair u v))) : wpX_pairOf post (nI u) (nI v) := by
  by_cases z : u < v
  · have c : ¬ nI v ≤ nI u := nI_ge z (by omega)
    refine br_f c (br_f c ⟨tc_20, ?_⟩)
    rw [tc_tri (by omega) (by omega), nI_add]
    unfold tc_pair at h
    rw [if_pos z] at h
    exact h
  · have c : nI v ≤ nI u := nI_le (by omega) (by omega)
    refine br_t c (br_t c ⟨tc_20, ?_⟩)
    rw [tc_tri (by omega) (by omega), nI_add]
    unfold tc_pair at h
    rw [if_neg z] at h
    exact h
theorem tc_xvg {n U R : Nat} {e m : Nat → Nat} {G : Nat → Int32} {post : Int32 → Prop} {u : Nat} (hn : n < 7) (hu : u < n) (h : post 1) : wpX_isVertex post (nI n, nI (tc_P n), nI U, nI R, (fun p => nI (e p)), (fun p => nI (m p)), G) (nI u) := by
  have c1 : ¬ nI u < 0 := nI_pos (by omega)
  have c2 : ¬ nI n ≤ nI u := nI_ge hu (by omega)
  exact br_f c1 (br_f c2 h)
theorem tc_xvb {n U R : Nat} {e m : Nat → Nat} {G : Nat → Int32} {post : Int32 → Prop} {x : Int32} (hx : x < 0 ∨ nI n ≤ x) (h : post 0) : wpX_isVertex post (nI n, nI (tc_P n), nI U, nI R, (fun p => nI (e p)), (fun p => nI (m p)), G) x := by
  by_cases c1 : x < 0
  · exact br_t c1 h
  · exact br_f c1 (br_t (hx.resolve_left c1) h)
theorem tc_xpg {n U R : Nat} {e m : Nat → Nat} {G : Nat → Int32} {post : Int32 → Prop} {u v : Nat} (hn : n < 7) (hu : u < n) (hv : v < n) (huv : u ≠ v) (h : post 1) : wpX_isPair post (nI n, nI (tc_P n), nI U, nI R, (fun p => nI (e p)), (fun p => nI (m p)), G) (nI u) (nI v) := by
  have c : ¬ nI u = nI v := by
    rw [nI_eq (by omega) (by omega)]
    exact huv
  unfold wpX_isPair
  dsimp only
  refine tc_xvg hn hu ?_
  refine br_f tc_10 ?_
  refine tc_xvg hn hv ?_
  exact br_f tc_10 (br_f c h)
theorem tc_xpb {n U R : Nat} {e m : Nat → Nat} {G : Nat → Int32} {post : Int32 → Prop} {x y : Int32} (hn : n < 7) (hb : tc_bad n x y) (h : post 0) : wpX_isPair post (nI n, nI (tc_P n), nI U, nI R, (fun p => nI (e p)), (fun p => nI (m p)), G) x y := by
  unfold wpX_isPair
  dsimp only
  rcases pk_ix x (n := n) (by omega) with c | c | ⟨u, hu, rfl⟩
  · refine tc_xvb (Or.inl c) ?_
    exact br_t rfl h
  · refine tc_xvb (Or.inr c) ?_
    exact br_t rfl h
  · refine tc_xvg hn hu ?_
    refine br_f tc_10 ?_
    rcases pk_ix y (n := n) (by omega) with c | c | ⟨v, hv, rfl⟩
    · refine tc_xvb (Or.inl c) ?_
      exact br_t rfl h
    · refine tc_xvb (Or.inr c) ?_
      exact br_t rfl h
    · refine tc_xvg hn hv ?_
      refine br_f tc_10 (br_t ?_ h)
      have d1 : ¬ nI u < 0 := nI_pos (by omega)
      have d2 : ¬ nI n ≤ nI u := nI_ge hu (by omega)
      have d3 : ¬ nI v < 0 := nI_pos (by omega)
      have d4 : ¬ nI n ≤ nI v := nI_ge hv (by omega)
      exact (((hb.resolve_left d1).resolve_left d2).resolve_left d3).resolve_left d4
theorem tc_xhas {post : Int32 → Prop} {s p : Nat} (hs : s < 2 ^ 31) (hp : p < 32) (h1 : s.testBit p = true → post 1) (h0 : s.testBit p = false → post 0) : wpX_has post (nI s) (nI p) := by
  unfold wpX_has
  rw [tc_nbit hs hp]
  by_cases x : s.testBit p = true
  · rw [tc_b_t x]
    exact br_t rfl (h1 x)
  · have x' : s.testBit p = false := Bool.eq_false_iff.mpr x
    rw [tc_b_f x']
    exact br_f (by decide) (h0 x')
theorem tc_xsize4 {n U R : Nat} {e m : Nat → Nat} {G : Nat → Int32} {post : Int32 → Prop} {s : Nat} (hn : n < 7) (hs : s < 2 ^ 31) (h : post (nI (tc_sz s (tc_P n)))) : ∀ d i : Nat, i + d = tc_P n → wX_sizeOf_4 post (nI s) (nI n) (nI (tc_P n)) (nI U) (nI R) (fun p => nI (e p)) (fun p => nI (m p)) G (d + 1) (nI (tc_sz s i)) (nI i) := by
  have hP := tc_P_lt hn
  intro d
  induction d with
  | zero =>
    intro i hi
    have e1 : i = tc_P n := by omega
    rw [e1]
    exact br_t (nI_le (Nat.le_refl _) (by omega)) h
  | succ d ih =>
    intro i hi
    refine br_f (nI_ge (by omega) (by omega)) ?_
    intro y ey z ez
    rw [tc_nbit hs (by omega), nI_add] at ey
    rw [ey, ez, nI_1]
    exact ih (i + 1) (by omega)
theorem tc_xsize {n U R : Nat} {e m : Nat → Nat} {G : Nat → Int32} {post : Int32 → Prop} {s : Nat} (hn : n < 7) (hs : s < 2 ^ 31) (h : post (nI (tc_sz s (tc_P n)))) : wpX_sizeOf post (nI n, nI (tc_P n), nI U, nI R, (fun p => nI (e p)), (fun p => nI (m p)), G) (nI s) := ⟨_, tc_xsize4 hn hs h (tc_P n) 0 (Nat.zero_add _)⟩
theorem tc_st_0 {s p r : Nat} (h : s.testBit p = false) : tc_st s p r = r := if_neg (fun z => by rw [h] at z; exact absurd z.1 (by decide))
theorem tc_st_1 {s p r : Nat} (h : r &&& tc_E p = 0) : tc_st s p r = r := if_neg (fun z => z.2 h)
theorem tc_st_2 {s p r : Nat} (h : s.testBit p = true) (h2 : ¬ r &&& tc_E p = 0) : tc_st s p r = r ||| tc_E p := if_pos ⟨h, h2⟩
theorem tc_xr19 {n U R : Nat} {e m : Nat → Nat} {G : Nat → Int32} {post : Int32 → Prop} {J : Int32 → Int32 → Prop} {s r0 : Nat} {x4 : Int32} (hn : n < 7) (hs : s < 2 ^ 31) (hr : r0 < 2 ^ n) (hG : ∀ p, p < tc_P n → G p = nI (tc_E p)) (h : J (nI (tc_rd s r0 (tc_P n))) (x4 + 1)) : ∀ d i : Nat, i + d = tc_P n → wX_reachedFrom_19 post J (nI s) x4 (nI n) (nI (tc_P n)) (nI U) (nI R) (fun p => nI (e p)) (fun p => nI (m p)) G (d + 1) (nI (tc_rd s r0 i)) (nI i) := by
  have hP := tc_P_lt hn
  intro d
  induction d with
  | zero =>
    intro i hi
    have e1 : i = tc_P n := by omega
    rw [e1]
    exact br_t (nI_le (Nat.le_refl _) (by omega)) (nm_e h)
  | succ d ih =>
    intro i hi
    have k := ih (i + 1) (by omega)
    have ed : tc_rd s r0 (i + 1) = tc_st s i (tc_rd s r0 i) := rfl
    have lt := tc_64 hn (tc_rd_lt (s := s) hn hr i (by omega))
    rw [ed] at k
    generalize tc_rd s r0 i = r at *
    refine br_f (nI_ge (by omega) (by omega)) (tc_xhas hs (by omega) (fun hb => ?_) (fun hb => ?_))
    · have ge : G (nI i).toNatClampNeg = nI (tc_E i) := by rw [nI_clamp (by omega)]; exact hG i (by omega)
      have vi : vp_in (nI i) 15 := vp_in_nI (by have := tc_P_le n hn; omega) (by decide)
      refine br_f tc_10 ⟨vi, ?_⟩
      rw [ge, nx_and]
      by_cases z : r &&& tc_E i = 0
      · refine br_t (by rw [z]; rfl) ?_
        intro y ey
        rw [ey, nI_1]
        rw [tc_st_1 z] at k
        exact k
      · have zl : r &&& tc_E i ≤ r := Nat.and_le_left
        refine br_f (nI_ne0 (by omega) (by omega)) ⟨vi, ?_⟩
        intro y ey w ew
        rw [tc_nor] at ey
        rw [ey, ew, nI_1]
        rw [tc_st_2 hb z] at k
        exact k
    · refine br_t rfl ?_
      intro y ey
      rw [ey, nI_1]
      rw [tc_st_0 hb] at k
      exact k
theorem tc_xr7 {n U R : Nat} {e m : Nat → Nat} {G : Nat → Int32} {post : Int32 → Prop} {s r0 : Nat} (h2 : 1 ≤ n) (hn : n < 7) (hs : s < 2 ^ 31) (hr : r0 < 2 ^ n) (hG : ∀ p, p < tc_P n → G p = nI (tc_E p)) (h : post (nI (tc_rs s (tc_P n) r0 (n - 1)))) : ∀ d j : Nat, j + d = n - 1 → wX_reachedFrom_7 post (nI s) (nI n) (nI (tc_P n)) (nI U) (nI R) (fun p => nI (e p)) (fun p => nI (m p)) G (d + 1) (nI (tc_rs s (tc_P n) r0 j)) (nI (j + 1)) := by
  intro d
  induction d with
  | zero =>
    intro j hj
    have e1 : j = n - 1 := by omega
    rw [e1]
    exact br_t (nI_le (by omega) (by omega)) h
  | succ d ih =>
    intro j hj
    refine br_f (nI_ge (by omega) (by omega)) ⟨tc_P n + 1, ?_⟩
    refine tc_xr19 hn hs (tc_rs_lt hn hr j) hG ?_ (tc_P n) 0 (Nat.zero_add _)
    rw [nI_1]
    exact ih (j + 1) (by omega)
theorem tc_xreach {n U R : Nat} {e m : Nat → Nat} {G : Nat → Int32} {post : Int32 → Prop} {s u : Nat} (hn : n < 7) (hs : s < 2 ^ 31) (hu : u < n) (hG : ∀ p, p < tc_P n → G p = nI (tc_E p)) (h : post (nI (tc_C s n u))) : wpX_reachedFrom post (nI n, nI (tc_P n), nI U, nI R, (fun p => nI (e p)), (fun p => nI (m p)), G) (nI u) (nI s) := by
  intro y ey
  rw [tc_none (by omega)] at ey
  rw [ey]
  exact ⟨_, tc_xr7 (by omega) hn hs (tc_2u hu) hG h (n - 1) 0 (Nat.zero_add _)⟩
theorem tc_full_v {n : Nat} (hn : n < 7) : ((1 : Int32) <<< (nI n &&& 31)) - 1 = nI (2 ^ n - 1) := by
  rw [tc_none (by omega)]
  show nI (2 ^ n) - nI 1 = _
  rw [pk_sub (Nat.two_pow_pos n)]
theorem tc_xevery {n U R : Nat} {e m : Nat → Nat} {G : Nat → Int32} {post : Int32 → Prop} (hn : n < 7) (h : post (nI (2 ^ n - 1))) : wpX_everyVertex post (nI n, nI (tc_P n), nI U, nI R, (fun p => nI (e p)), (fun p => nI (m p)), G) := by
  show post (((1 : Int32) <<< (nI n &&& 31)) - 1)
  rw [tc_full_v hn]
  exact h
theorem tc_xch4 {n U R : Nat} {e m : Nat → Nat} {G : Nat → Int32} {post : Int32 → Prop} {s : Nat} (hn : n < 7) (hs : s < 2 ^ 31) (h : post (nI (tc_pr e s (tc_P n)))) : ∀ d i : Nat, i + d = tc_P n → wX_choicesOf_4 post (nI s) (nI n) (nI (tc_P n)) (nI U) (nI R) (fun p => nI (e p)) (fun p => nI (m p)) G (d + 1) (nI (tc_pr e s i)) (nI i) := by
  have hP := tc_P_lt hn
  have hP2 := tc_P_le n hn
  intro d
  induction d with
  | zero =>
    intro i hi
    have e1 : i = tc_P n := by omega
    rw [e1]
    exact br_t (nI_le (Nat.le_refl _) (by omega)) h
  | succ d ih =>
    intro i hi
    have k := ih (i + 1) (by omega)
    have ed : tc_pr e s (i + 1) = tc_pr e s i * (if s.testBit i = true then e i else 1) := rfl
    rw [ed] at k
    refine br_f (nI_ge (by omega) (by omega)) (tc_xhas hs (by omega) (fun hb => ?_) (fun hb => ?_))
    · refine br_f tc_10 ⟨vp_in_nI (by omega) (by decide), ?_⟩
      intro y ey z ez
      rw [nI_clamp (by omega), pk_mul] at ey
      rw [ey, ez, nI_1]
      rw [if_pos hb] at k
      exact k
    · refine br_t rfl ?_
      intro z ez
      rw [ez, nI_1]
      rw [if_neg (by rw [hb]; decide), Nat.mul_one] at k
      exact k
theorem tc_xch {n U R : Nat} {e m : Nat → Nat} {G : Nat → Int32} {post : Int32 → Prop} {s : Nat} (hn : n < 7) (hs : s < 2 ^ 31) (h : post (nI (tc_pr e s (tc_P n)))) : wpX_choicesOf post (nI n, nI (tc_P n), nI U, nI R, (fun p => nI (e p)), (fun p => nI (m p)), G) (nI s) := ⟨_, tc_xch4 hn hs h (tc_P n) 0 (Nat.zero_add _)⟩
theorem tc_xdeg5 {n U R : Nat} {e m : Nat → Nat} {G : Nat → Int32} {post : Int32 → Prop} {s v : Nat} (hn : n < 7) (hs : s < 2 ^ 31) (hv : v < n) (hG : ∀ p, p < tc_P n → G p = nI (tc_E p)) (h : post (nI (tc_dx s v (tc_P n)))) : ∀ d i : Nat, i + d = tc_P n → wX_degreeIn_5 post (nI s) (nI v) (nI n) (nI (tc_P n)) (nI U) (nI R) (fun p => nI (e p)) (fun p => nI (m p)) G (d + 1) (nI (tc_dx s v i)) (nI i) := by
  have hP := tc_P_lt hn
  have hP2 := tc_P_le n hn
  intro d
  induction d with
  | zero =>
    intro i hi
    have e1 : i = tc_P n := by omega
    rw [e1]
    exact br_t (nI_le (Nat.le_refl _) (by omega)) h
  | succ d ih =>
    intro i hi
    have k := ih (i + 1) (by omega)
    have ed : tc_dx s v (i + 1) = tc_dx s v i + (if s.testBit i = true ∧ (tc_E i).testBit v = true then 1 else 0) := rfl
    rw [ed] at k
    have el := tc_64 hn (tc_lohi n hn i (by omega)).2.2
    refine br_f (nI_ge (by omega) (by omega)) (tc_xhas hs (by omega) (fun hb => ?_) (fun hb => ?_))
    · refine br_f tc_10 ⟨vp_in_nI (by omega) (by decide), ?_⟩
      have ge : G (nI i).toNatClampNeg = nI (tc_E i) := by rw [nI_clamp (by omega)]; exact hG i (by omega)
      rw [ge]
      refine tc_xhas (by omega) (by omega) (fun hc => ?_) (fun hc => ?_)
      · refine br_f tc_10 ?_
        intro y ey z ez
        rw [ey, ez, nI_1, nI_1]
        rw [if_pos ⟨hb, hc⟩] at k
        exact k
      · refine br_t rfl ?_
        intro z ez
        rw [ez, nI_1]
        rw [if_neg (fun q => by rw [hc] at q; exact absurd q.2 (by decide)), Nat.add_zero] at k
        exact k
    · refine br_t rfl ?_
      intro z ez
      rw [ez, nI_1]
      rw [if_neg (fun q => by rw [hb] at q; exact absurd q.1 (by decide)), Nat.add_zero] at k
      exact k
theorem tc_xdeg {n U R : Nat} {e m : Nat → Nat} {G : Nat → Int32} {post : Int32 → Prop} {s v : Nat} (hn : n < 7) (hs : s < 2 ^ 31) (hv : v < n) (hG : ∀ p, p < tc_P n → G p = nI (tc_E p)) (h : post (nI (tc_dx s v (tc_P n)))) : wpX_degreeIn post (nI n, nI (tc_P n), nI U, nI R, (fun p => nI (e p)), (fun p => nI (m p)), G) (nI s) (nI v) := ⟨_, tc_xdeg5 hn hs hv hG h (tc_P n) 0 (Nat.zero_add _)⟩
theorem tc_dy_le (s v : Nat) : ∀ n, tc_dy s v n ≤ n := by
  intro n
  induction n with
  | zero => exact Nat.le_refl _
  | succ n ih =>
    by_cases z : n = v
    · subst z
      rw [tc_dy_e]; omega
    · rw [tc_dy_n z]
      have h : tc_b s (tc_pair n v) ≤ 1 := by unfold tc_b; split <;> omega
      omega
