/-! Y's methods -/
theorem tc_ypair {n L : Nat} {e m : Nat → Nat} {H : Nat → Int32} {post : Int32 → Prop} {u v : Nat} (hu : u < 7) (hv : v < 7) (huv : u ≠ v) (h : post (nI (tc_pair u v))) : wpY_pair post (nI n, nI L, (fun p => nI (e p)), (fun p => nI (m p)), H) (nI u) (nI v) := by
  by_cases z : u < v
  · refine br_f (nI_ge z (by omega)) ⟨tc_20, ?_⟩
    rw [tc_tri (by omega) (by omega), nI_add]
    unfold tc_pair at h
    rw [if_pos z] at h
    exact h
  · refine br_t (nI_le (by omega) (by omega)) ⟨tc_20, ?_⟩
    rw [tc_tri (by omega) (by omega), nI_add]
    unfold tc_pair at h
    rw [if_neg z] at h
    exact h
theorem tc_ygood {n L : Nat} {e m : Nat → Nat} {H : Nat → Int32} {post : Int32 → Prop} {u v : Nat} (hn : n < 7) (hu : u < n) (hv : v < n) (huv : u ≠ v) (h : post 0) : wpY_bad post (nI n, nI L, (fun p => nI (e p)), (fun p => nI (m p)), H) (nI u) (nI v) := by
  have c : ¬ nI u = nI v := by
    rw [nI_eq (by omega) (by omega)]
    exact huv
  exact br_f (nI_pos (by omega)) (br_f (nI_ge hu (by omega)) (br_f (nI_pos (by omega)) (br_f (nI_ge hv (by omega)) (br_f c h))))
theorem tc_ybad {n L : Nat} {e m : Nat → Nat} {H : Nat → Int32} {post : Int32 → Prop} {x y : Int32} (hb : tc_bad n x y) (h : post 1) : wpY_bad post (nI n, nI L, (fun p => nI (e p)), (fun p => nI (m p)), H) x y := by
  by_cases c1 : x < 0
  · exact br_t c1 h
  · refine br_f c1 ?_
    by_cases c2 : nI n ≤ x
    · exact br_t c2 h
    · refine br_f c2 ?_
      by_cases c3 : y < 0
      · exact br_t c3 h
      · refine br_f c3 ?_
        by_cases c4 : nI n ≤ y
        · exact br_t c4 h
        · exact br_f c4 (br_t ((((hb.resolve_left c1).resolve_left c2).resolve_left c3).resolve_left c4) h)
theorem tc_yP {n : Nat} (h2 : 2 ≤ n) (hn : n < 7) : (nI n * (nI n - 1)) / 2 = nI (tc_P n) := tc_tri (by omega) (by omega)
theorem tc_yways4 {n L : Nat} {e m : Nat → Nat} {H : Nat → Int32} {post : Int32 → Prop} {s : Nat} (h2 : 2 ≤ n) (hn : n < 7) (hm : ∀ p, m p ≤ 2) (hs : s < 2 ^ 31) (h : post (nI (tc_w e m s (tc_P n)))) : ∀ d i : Nat, i + d = tc_P n → wY_ways_4 post (nI s) (nI n) (nI L) (fun p => nI (e p)) (fun p => nI (m p)) H (d + 1) (nI (tc_w e m s i)) (nI i) := by
  have hP := tc_P_le n hn
  intro d
  induction d with
  | zero =>
    intro i hi
    have e1 : i = tc_P n := by omega
    rw [e1]
    exact ⟨tc_20, br_t (by rw [tc_yP h2 hn]; exact nI_le (Nat.le_refl _) (by omega)) h⟩
  | succ d ih =>
    intro i hi
    have k := ih (i + 1) (by omega)
    have hmi := hm i
    have vi : vp_in (nI i) 15 := vp_in_nI (by omega) (by decide)
    refine ⟨tc_20, br_f (by rw [tc_yP h2 hn]; exact nI_ge (by omega) (by omega)) ?_⟩
    rw [tc_nbit hs (by omega)]
    by_cases hb : s.testBit i = true
    · rw [tc_b_t hb]
      refine br_t rfl (br_f tc_10 ⟨vi, ?_⟩)
      dsimp only
      rw [nI_clamp (by omega)]
      by_cases z : m i = 2
      · refine br_t (congrArg nI z) ?_
        rw [tc_w_bad (by omega) (Or.inl ⟨hb, z⟩)] at h
        exact h
      · refine br_f ?_ (br_f tc_10 (br_f tc_10 ⟨vi, ?_⟩))
        · show ¬ nI (m i) = nI 2
          rw [nI_eq (by omega) (by decide)]
          exact z
        · intro y ey w ew
          dsimp only at ey
          rw [nI_clamp (by omega), pk_mul] at ey
          rw [tc_w_good (fun q => q.elim (fun a => z a.2) (fun a => by rw [hb] at a; exact absurd a.1 (by decide))), if_pos hb] at k
          rw [ey, ew, nI_1]
          exact k
    · have hb' : s.testBit i = false := Bool.eq_false_iff.mpr hb
      rw [tc_b_f hb']
      refine br_f (by decide) (br_t rfl (br_t rfl ⟨vi, ?_⟩))
      dsimp only
      rw [nI_clamp (by omega)]
      by_cases z : m i = 1
      · refine br_t (congrArg nI z) ?_
        rw [tc_w_bad (by omega) (Or.inr ⟨hb', z⟩)] at h
        exact h
      · refine br_f ?_ (br_t rfl ?_)
        · show ¬ nI (m i) = nI 1
          rw [nI_eq (by omega) (by decide)]
          exact z
        · intro w ew
          rw [tc_w_good (fun q => q.elim (fun a => hb a.1) (fun a => z a.2)), if_neg hb, Nat.mul_one] at k
          rw [ew, nI_1]
          exact k
theorem tc_yways {n L : Nat} {e m : Nat → Nat} {H : Nat → Int32} {post : Int32 → Prop} {s : Nat} (h2 : 2 ≤ n) (hn : n < 7) (hm : ∀ p, m p ≤ 2) (hs : s < 2 ^ 31) (h : post (nI (tc_w e m s (tc_P n)))) : wpY_ways post (nI n, nI L, (fun p => nI (e p)), (fun p => nI (m p)), H) (nI s) := ⟨_, tc_yways4 h2 hn hm hs h (tc_P n) 0 (Nat.zero_add _)⟩
theorem tc_ydeg5 {n L : Nat} {e m : Nat → Nat} {H : Nat → Int32} {post : Int32 → Prop} {s v : Nat} (hn : n < 7) (hv : v < n) (hs : s < 2 ^ 31) (h : post (nI (tc_dy s v n))) : ∀ d i : Nat, i + d = n → wY_degree_5 post (nI s) (nI v) (nI n) (nI L) (fun p => nI (e p)) (fun p => nI (m p)) H (d + 1) (nI (tc_dy s v i)) (nI i) := by
  intro d
  induction d with
  | zero =>
    intro i hi
    have e1 : i = n := by omega
    rw [e1]
    exact br_t (nI_le (Nat.le_refl _) (by omega)) h
  | succ d ih =>
    intro i hi
    have k := ih (i + 1) (by omega)
    refine br_f (nI_ge (by omega) (by omega)) ?_
    by_cases z : i = v
    · refine br_t (congrArg nI z) ?_
      intro w ew
      rw [ew, nI_1]
      subst z
      rw [tc_dy_e] at k
      exact k
    · have pl := tc_pair_in n hn i (by omega) v hv z
      have hP := tc_P_le n hn
      refine br_f (by rw [nI_eq (by omega) (by omega)]; exact z) ?_
      refine tc_ypair (by omega) (by omega) z ?_
      intro y ey w ew
      rw [tc_nbit hs (by omega), nI_add] at ey
      rw [tc_dy_n z] at k
      rw [ey, ew, nI_1]
      exact k
theorem tc_ydeg {n L : Nat} {e m : Nat → Nat} {H : Nat → Int32} {post : Int32 → Prop} {s v : Nat} (hn : n < 7) (hv : v < n) (hs : s < 2 ^ 31) (h : post (nI (tc_dy s v n))) : wpY_degree post (nI n, nI L, (fun p => nI (e p)), (fun p => nI (m p)), H) (nI s) (nI v) := ⟨_, tc_ydeg5 hn hv hs h n 0 (Nat.zero_add _)⟩
/-! Y's list of trees -/
def tc_lst (n L : Nat) (H : Nat → Int32) : Prop := L = tc_cn n (2 ^ tc_P n) ∧ ∀ t, t < 2 ^ tc_P n → tc_tr n t = true → H (tc_cn n t) = nI t
def tc_sh (H : Nat → Int32) (i : Nat) : Nat := (H i).toNatClampNeg
theorem tc_sh_at {n L i : Nat} {H : Nat → Int32} (hn : n < 7) (hL : tc_lst n L H) (hi : i < L) : H i = nI (tc_sh H i) ∧ tc_sh H i < 2 ^ tc_P n := by
  obtain ⟨e1, h⟩ := hL
  rw [e1] at hi
  obtain ⟨t, ht, hr, hc⟩ := tc_cn_at _ hi
  have e2 := h t ht hr
  have hN := tc_N_lt hn
  rw [hc] at e2
  unfold tc_sh
  rw [e2, nI_clamp (by omega)]
  exact ⟨rfl, ht⟩
theorem tc_sh_cn {n L : Nat} {H : Nat → Int32} (hn : n < 7) (hL : tc_lst n L H) : ∀ t, t < 2 ^ tc_P n → tc_tr n t = true → tc_sh H (tc_cn n t) = t := by
  intro t ht hr
  have hN := tc_N_lt hn
  unfold tc_sh
  rw [hL.2 t ht hr, nI_clamp (by omega)]
theorem tc_L_le {n L : Nat} {H : Nat → Int32} (hn : n < 7) (hL : tc_lst n L H) : L ≤ 1296 := by
  rw [hL.1]
  exact tc_cn_le hn
theorem tc_sum {n L : Nat} {H : Nat → Int32} (hn : n < 7) (hL : tc_lst n L H) (F : Nat → Nat) : tc_S (fun i => F (tc_sh H i)) L = tc_S (fun s => if tc_tr n s = true then F s else 0) (2 ^ tc_P n) := by
  rw [hL.1]
  exact tc_list (tc_sh H) F _ (tc_sh_cn hn hL)
theorem tc_ywith4 {n L : Nat} {e m : Nat → Nat} {H : Nat → Int32} {post : Int32 → Prop} {q : Nat} (h2 : 2 ≤ n) (hn : n < 7) (hm : ∀ p, m p ≤ 2) (hL : tc_lst n L H) (hq : q < 2 ^ 31) (h : post (nI (tc_S (fun i => if tc_sh H i &&& q = q then tc_w e m (tc_sh H i) (tc_P n) else 0) L))) : ∀ d i : Nat, i + d = L → wY_with_4 post (nI q) (nI n) (nI L) (fun p => nI (e p)) (fun p => nI (m p)) H (d + 1) (nI (tc_S (fun i => if tc_sh H i &&& q = q then tc_w e m (tc_sh H i) (tc_P n) else 0) i)) (nI i) := by
  have hl := tc_L_le hn hL
  have hN := tc_N_lt hn
  intro d
  induction d with
  | zero =>
    intro i hi
    have e1 : i = L := by omega
    rw [e1]
    exact br_t (nI_le (Nat.le_refl _) (by omega)) h
  | succ d ih =>
    intro i hi
    have k := ih (i + 1) (by omega)
    rw [tc_S_s] at k
    have vi : vp_in (nI i) 1296 := vp_in_nI (by omega) (by decide)
    obtain ⟨eH, lt⟩ := tc_sh_at hn hL (i := i) (by omega)
    refine br_f (nI_ge (by omega) (by omega)) ⟨vi, ?_⟩
    rw [nI_clamp (by omega), eH, nx_and]
    have al : tc_sh H i &&& q ≤ tc_sh H i := Nat.and_le_left
    by_cases z : tc_sh H i &&& q = q
    · refine br_t (congrArg nI z) ⟨vi, ?_⟩
      refine tc_yways h2 hn hm (by omega) ?_
      intro y ey w ew
      rw [if_pos z] at k
      rw [ey, ew, nI_add, nI_1]
      exact k
    · refine br_f (by rw [nI_eq (by omega) hq]; exact z) ?_
      intro w ew
      rw [if_neg z, Nat.add_zero] at k
      rw [ew, nI_1]
      exact k
theorem tc_ywith {n L : Nat} {e m : Nat → Nat} {H : Nat → Int32} {post : Int32 → Prop} {q : Nat} (h2 : 2 ≤ n) (hn : n < 7) (hm : ∀ p, m p ≤ 2) (hL : tc_lst n L H) (hq : q < 2 ^ 31) (h : post (nI (tc_TT n (fun s => tc_w e m s (tc_P n)) q))) : wpY_with post (nI n, nI L, (fun p => nI (e p)), (fun p => nI (m p)), H) (nI q) := by
  have e1 := tc_sum hn hL (fun s => if s &&& q = q then tc_w e m s (tc_P n) else 0)
  refine ⟨_, tc_ywith4 h2 hn hm hL hq ?_ L 0 (Nat.zero_add _)⟩
  have e2 : tc_S (fun i => if tc_sh H i &&& q = q then tc_w e m (tc_sh H i) (tc_P n) else 0) L = tc_TT n (fun s => tc_w e m s (tc_P n)) q := e1
  rw [e2]
  exact h
theorem tc_yleaf18 {n L : Nat} {e m : Nat → Nat} {H : Nat → Int32} {post : Int32 → Prop} {v : Nat} (h2 : 2 ≤ n) (hn : n < 7) (hm : ∀ p, m p ≤ 2) (hL : tc_lst n L H) (hv : v < n) (h : post (nI (tc_S (fun i => if tc_dy (tc_sh H i) v n = 1 then tc_w e m (tc_sh H i) (tc_P n) else 0) L))) : ∀ d i : Nat, i + d = L → wY_leaf_18 post (nI v) (nI n) (nI L) (fun p => nI (e p)) (fun p => nI (m p)) H (d + 1) (nI (tc_S (fun i => if tc_dy (tc_sh H i) v n = 1 then tc_w e m (tc_sh H i) (tc_P n) else 0) i)) (nI i) := by
  have hl := tc_L_le hn hL
  have hN := tc_N_lt hn
  intro d
  induction d with
  | zero =>
    intro i hi
    have e1 : i = L := by omega
    rw [e1]
    exact br_t (nI_le (Nat.le_refl _) (by omega)) h
  | succ d ih =>
    intro i hi
    have k := ih (i + 1) (by omega)
    rw [tc_S_s] at k
    have vi : vp_in (nI i) 1296 := vp_in_nI (by omega) (by decide)
    obtain ⟨eH, lt⟩ := tc_sh_at hn hL (i := i) (by omega)
    refine br_f (nI_ge (by omega) (by omega)) ⟨vi, ?_⟩
    rw [nI_clamp (by omega), eH]
    refine tc_ydeg hn hv (by omega) ?_
    have dl := tc_dy_le (tc_sh H i) v n
    by_cases z : tc_dy (tc_sh H i) v n = 1
    · refine br_t (congrArg nI z) ⟨vi, ?_⟩
      refine tc_yways h2 hn hm (by omega) ?_
      intro y ey w ew
      rw [if_pos z] at k
      rw [ey, ew, nI_add, nI_1]
      exact k
    · refine br_f ?_ ?_
      · show ¬ nI (tc_dy (tc_sh H i) v n) = nI 1
        rw [nI_eq (by omega) (by decide)]
        exact z
      · intro w ew
        rw [if_neg z, Nat.add_zero] at k
        rw [ew, nI_1]
        exact k
theorem tc_ydegs18 {n L : Nat} {e m : Nat → Nat} {H : Nat → Int32} {post : Int32 → Prop} {v : Nat} (h2 : 2 ≤ n) (hn : n < 7) (hm : ∀ p, m p ≤ 2) (hL : tc_lst n L H) (hv : v < n) (h : post (nI (tc_S (fun i => tc_w e m (tc_sh H i) (tc_P n) * tc_dy (tc_sh H i) v n) L))) : ∀ d i : Nat, i + d = L → wY_degrees_18 post (nI v) (nI n) (nI L) (fun p => nI (e p)) (fun p => nI (m p)) H (d + 1) (nI (tc_S (fun i => tc_w e m (tc_sh H i) (tc_P n) * tc_dy (tc_sh H i) v n) i)) (nI i) := by
  have hl := tc_L_le hn hL
  have hN := tc_N_lt hn
  intro d
  induction d with
  | zero =>
    intro i hi
    have e1 : i = L := by omega
    rw [e1]
    exact br_t (nI_le (Nat.le_refl _) (by omega)) h
  | succ d ih =>
    intro i hi
    have k := ih (i + 1) (by omega)
    rw [tc_S_s] at k
    have vi : vp_in (nI i) 1296 := vp_in_nI (by omega) (by decide)
    obtain ⟨eH, lt⟩ := tc_sh_at hn hL (i := i) (by omega)
    refine br_f (nI_ge (by omega) (by omega)) ⟨vi, ?_⟩
    rw [nI_clamp (by omega), eH]
    refine tc_yways h2 hn hm (by omega) ?_
    refine ⟨vi, ?_⟩
    refine tc_ydeg hn hv (by omega) ?_
    intro y ey w ew
    rw [ey, ew, pk_mul, nI_add, nI_1]
    exact k
theorem tc_yapart24 {n L : Nat} {e m : Nat → Nat} {H : Nat → Int32} {post : Int32 → Prop} {p : Nat} (h2 : 2 ≤ n) (hn : n < 7) (hm : ∀ p, m p ≤ 2) (hL : tc_lst n L H) (hp : p < tc_P n) (h : post (nI (tc_S (fun i => if (tc_sh H i).testBit p = true then tc_w e m (tc_sh H i ^^^ (tc_sh H i &&& 2 ^ p)) (tc_P n) else 0) L))) : ∀ d i : Nat, i + d = L → wY_apart_24 post (nI p) (nI n) (nI L) (fun p => nI (e p)) (fun p => nI (m p)) H (d + 1) (nI (tc_S (fun i => if (tc_sh H i).testBit p = true then tc_w e m (tc_sh H i ^^^ (tc_sh H i &&& 2 ^ p)) (tc_P n) else 0) i)) (nI i) := by
  have hl := tc_L_le hn hL
  have hN := tc_N_lt hn
  have hP := tc_P_le n hn
  intro d
  induction d with
  | zero =>
    intro i hi
    have e1 : i = L := by omega
    rw [e1]
    exact br_t (nI_le (Nat.le_refl _) (by omega)) h
  | succ d ih =>
    intro i hi
    have k := ih (i + 1) (by omega)
    rw [tc_S_s] at k
    have vi : vp_in (nI i) 1296 := vp_in_nI (by omega) (by decide)
    obtain ⟨eH, lt⟩ := tc_sh_at hn hL (i := i) (by omega)
    refine br_f (nI_ge (by omega) (by omega)) ⟨vi, ?_⟩
    rw [nI_clamp (by omega), eH, tc_nbit (by omega) (by omega)]
    by_cases z : (tc_sh H i).testBit p = true
    · rw [tc_b_t z]
      refine br_t rfl ⟨vi, ?_⟩
      rw [tc_none (by omega), tc_nandnot]
      have l2 := tc_sd_lt (b := 2 ^ p) lt
      refine tc_yways h2 hn hm (by omega) ?_
      intro y ey w ew
      rw [if_pos z] at k
      rw [ey, ew, nI_add, nI_1]
      exact k
    · rw [tc_b_f (Bool.eq_false_iff.mpr z)]
      refine br_f (by decide) ?_
      intro w ew
      rw [if_neg z, Nat.add_zero] at k
      rw [ew, nI_1]
      exact k
/-! idle and needed on Y's side -/
theorem tc_W243 {n : Nat} {e m : Nat → Nat} (h2 : 2 ≤ n) (hn : n < 7) (he : ∀ p, e p ≤ 3) : ∀ s, tc_tr n s = true → tc_w e m s (tc_P n) ≤ 243 := by
  intro s ht
  have a := tc_w_le (m := m) (s := s) he (tc_P n)
  have b : 3 ^ tc_sz s (tc_P n) ≤ 3 ^ 5 := Nat.pow_le_pow_right (by decide) (by rw [(tc_tr_iff.mp ht).1]; omega)
  exact Nat.le_trans a b
theorem tc_yidle4 {n L : Nat} {e m : Nat → Nat} {H : Nat → Int32} {post : Int32 → Prop} (h2 : 2 ≤ n) (hn : n < 7) (he : ∀ p, e p ≤ 3) (hm : ∀ p, m p ≤ 2) (hL : tc_lst n L H) (h : post (nI (tc_S (tc_ci e m n) (tc_P n)))) : ∀ d i : Nat, i + d = tc_P n → wY_idle_4 post (nI n) (nI L) (fun p => nI (e p)) (fun p => nI (m p)) H (d + 1) (nI (tc_S (tc_ci e m n) i)) (nI i) := by
  have hP := tc_P_le n hn
  intro d
  induction d with
  | zero =>
    intro i hi
    have e1 : i = tc_P n := by omega
    rw [e1]
    exact ⟨tc_20, br_t (by rw [tc_yP h2 hn]; exact nI_le (Nat.le_refl _) (by omega)) h⟩
  | succ d ih =>
    intro i hi
    have k := ih (i + 1) (by omega)
    rw [tc_S_s] at k
    have hei := he i
    refine ⟨tc_20, br_f (by rw [tc_yP h2 hn]; exact nI_ge (by omega) (by omega)) ⟨vp_in_nI (by omega) (by decide), ?_⟩⟩
    dsimp only
    rw [nI_clamp (by omega)]
    by_cases z : e i = 0
    · refine br_t ?_ ?_
      · show nI (e i) ≤ nI 0
        exact nI_le (by omega) (by decide)
      · intro y ey
        have c : tc_ci e m n i = 0 := if_neg (fun q => by omega)
        rw [c, Nat.add_zero] at k
        rw [ey, nI_1]
        exact k
    · refine br_f (nI_nle (by omega) (by omega)) ?_
      rw [tc_none (by omega)]
      have pl : 2 ^ i < 2 ^ 31 := Nat.pow_lt_pow_right (by decide) (by omega)
      refine tc_ywith h2 hn hm hL pl ?_
      have tl := tc_TT_le hn (tc_W243 (m := m) h2 hn he) (2 ^ i)
      by_cases y : tc_TT n (fun s => tc_w e m s (tc_P n)) (2 ^ i) = 0
      · refine br_t (congrArg nI y) ?_
        intro a ea b eb
        have c : tc_ci e m n i = 1 := if_pos ⟨by omega, y⟩
        rw [c] at k
        rw [ea, eb, nI_1, nI_1]
        exact k
      · refine br_f (nI_ne0 (by omega) (by omega)) ?_
        intro b eb
        have c : tc_ci e m n i = 0 := if_neg (fun q => y q.2)
        rw [c, Nat.add_zero] at k
        rw [eb, nI_1]
        exact k
theorem tc_yneed9 {n L : Nat} {e m : Nat → Nat} {H : Nat → Int32} {post : Int32 → Prop} (h2 : 2 ≤ n) (hn : n < 7) (he : ∀ p, e p ≤ 3) (hm : ∀ p, m p ≤ 2) (hL : tc_lst n L H) (h : post (nI (tc_S (tc_cnd e m n) (tc_P n)))) : ∀ d i : Nat, i + d = tc_P n → wY_needed_9 post (nI (tc_TT n (fun s => tc_w e m s (tc_P n)) 0)) (nI n) (nI L) (fun p => nI (e p)) (fun p => nI (m p)) H (d + 1) (nI (tc_S (tc_cnd e m n) i)) (nI i) := by
  have hP := tc_P_le n hn
  have t0 := tc_TT_le hn (tc_W243 (m := m) h2 hn he) 0
  intro d
  induction d with
  | zero =>
    intro i hi
    have e1 : i = tc_P n := by omega
    rw [e1]
    exact ⟨tc_20, br_t (by rw [tc_yP h2 hn]; exact nI_le (Nat.le_refl _) (by omega)) h⟩
  | succ d ih =>
    intro i hi
    have k := ih (i + 1) (by omega)
    rw [tc_S_s] at k
    refine ⟨tc_20, br_f (by rw [tc_yP h2 hn]; exact nI_ge (by omega) (by omega)) ?_⟩
    by_cases z : tc_TT n (fun s => tc_w e m s (tc_P n)) 0 = 0
    · refine br_t ?_ ?_
      · show nI (tc_TT n (fun s => tc_w e m s (tc_P n)) 0) ≤ nI 0
        exact nI_le (by omega) (by decide)
      · intro y ey
        have c : tc_cnd e m n i = 0 := if_neg (fun q => by omega)
        rw [c, Nat.add_zero] at k
        rw [ey, nI_1]
        exact k
    · refine br_f (nI_nle (by omega) (by omega)) ?_
      rw [tc_none (by omega)]
      have pl : 2 ^ i < 2 ^ 31 := Nat.pow_lt_pow_right (by decide) (by omega)
      refine tc_ywith h2 hn hm hL pl ?_
      have tl := tc_TT_le hn (tc_W243 (m := m) h2 hn he) (2 ^ i)
      by_cases y : tc_TT n (fun s => tc_w e m s (tc_P n)) (2 ^ i) = tc_TT n (fun s => tc_w e m s (tc_P n)) 0
      · refine br_t (congrArg nI y) ?_
        intro a ea b eb
        have c : tc_cnd e m n i = 1 := if_pos ⟨by omega, y⟩
        rw [c] at k
        rw [ea, eb, nI_1, nI_1]
        exact k
      · refine br_f (by rw [nI_eq (by omega) (by omega)]; exact y) ?_
        intro b eb
        have c : tc_cnd e m n i = 0 := if_neg (fun q => y q.2)
        rw [c, Nat.add_zero] at k
        rw [eb, nI_1]
        exact k
