/-! what is owed -/
def i_Rel (_ : Nat) (u : SX) (v : SY) : Prop := ∃ (n U R L : Nat) (e m : Nat → Nat) (G H : Nat → Int32), u = (nI n, nI (tc_P n), nI U, nI R, (fun p => nI (e p)), (fun p => nI (m p)), G) ∧ v = (nI n, nI L, (fun p => nI (e p)), (fun p => nI (m p)), H) ∧ tc_ok n U R e m G ∧ tc_lst n L H
theorem i_up {k : Nat} {u : SX} {v : SY} (h : i_Rel k u v) : i_Rel (k + 4) u v := h
theorem tc_start (k0 : Int32) : ∃ n : Nat, 2 ≤ n ∧ n < 7 ∧ (∀ post : SX → Prop, wX_init_56 post (nI n) 0 0 0 0 (fun _ => 0) (fun _ => 0) (fun _ => 0) → wpX_init post k0) ∧ (∀ post : SY → Prop, (∃ fu, wY_init_54 post (nI n) fu 1 0 (fun _ => 0) (fun _ => 0) (fun _ => 0)) → wpY_init post k0) := by
  by_cases a : 2 ≤ k0
  · by_cases b : k0 ≤ 6
    · have c : ¬ k0 < 0 := fun z => absurd (Int32.lt_of_le_of_lt a z) (by decide)
      obtain ⟨j, hj, rfl⟩ := nI_of c
      have a2 : 2 ≤ j := (nI_leI (a := 2) (by decide) hj).mp a
      have b2 : j ≤ 6 := (nI_leI (b := 6) hj (by decide)).mp b
      exact ⟨j, a2, by omega, fun post h => br_t a (br_t b h), fun post h => br_t a (br_t b h)⟩
    · exact ⟨6, by decide, by decide, fun post h => br_t a (br_f b h), fun post h => br_t a (br_f b h)⟩
  · have b : (2 : Int32) ≤ 6 := by decide
    exact ⟨2, by decide, by decide, fun post h => br_f a (br_t b h), fun post h => br_f a (br_t b h)⟩
theorem tc_ok0 {n : Nat} {G : Nat → Int32} (h2 : 2 ≤ n) (hn : n < 7) (hG : ∀ p, p < tc_P n → G p = nI (tc_E p)) : tc_ok n 0 0 (fun _ => 0) (fun _ => 0) G := by
  refine ⟨h2, hn, by decide, by decide, fun _ => Nat.zero_le _, fun _ => Nat.zero_le _, fun _ _ => ⟨rfl, rfl⟩, fun p => ?_, fun p => ?_, hG⟩
  · rw [Nat.zero_testBit]
    exact ⟨fun a => absurd a (by decide), fun a => absurd a.1 (Nat.lt_irrefl 0)⟩
  · rw [Nat.zero_testBit]
    exact ⟨fun a => absurd a (by decide), fun a => Nat.noConfusion (a : 0 = 0 + 1)⟩
theorem i_vc0 (k0 : Int32) : wpX_init (fun u => wpY_init (fun v => i_Rel 1 u v) k0) k0 := by
  obtain ⟨n, h2, hn, hX, hY⟩ := tc_start k0
  apply hX
  apply tc_xi56 h2 hn
  intro G hG
  apply hY
  apply tc_yi h2 hn
  intro H hH
  exact ⟨n, 0, 0, _, fun _ => 0, fun _ => 0, G, H, rfl, rfl, tc_ok0 h2 hn hG, hH⟩
theorem tc_updn (e : Nat → Nat) (p x : Nat) : upd (fun q => nI (e q)) p (nI x) = fun q => nI (if q = p then x else e q) := by
  funext q
  show (if q = p then nI x else nI (e q)) = nI (if q = p then x else e q)
  split <;> rfl
theorem i_vc_edges {k : Nat} {u : SX} {v : SY} (I : i_Rel k u v) (hk : k + 4 ≤ 2049) (v1 : Int32) (v2 : Int32) (v3 : Int32) : wpX_edges (fun r u' => wpY_edges (fun r' v' => r' = r ∧ i_Rel (k + 4) u' v') v v1 v2 v3) u v1 v2 v3 := by
  have rel : i_Rel (k + 4) u v := I
  obtain ⟨n, U, R, L, e, m, G, H, rfl, rfl, I, hL⟩ := I
  have I' := I
  obtain ⟨h2, hn, hU, hR, he, hm, hz, bU, bR, hG⟩ := I'
  unfold wpX_edges
  dsimp only
  rcases tc_cases hn v1 v2 with hb | ⟨a, b, ha, hb, hab, rfl, rfl⟩
  · refine tc_xpb hn hb ?_
    refine br_t rfl ?_
    unfold wpY_edges
    dsimp only
    refine tc_ybad hb ?_
    exact br_f tc_10 ⟨rfl, rel⟩
  · refine tc_xpg hn ha hb hab ?_
    refine br_f tc_10 ?_
    rcases pk_ix v3 (n := 4) (by decide) with c | c | ⟨x, hx, rfl⟩
    · refine br_t c ?_
      unfold wpY_edges
      dsimp only
      refine tc_ygood hn ha hb hab ?_
      exact br_t rfl (br_t c ⟨rfl, rel⟩)
    · have d1 : ¬ v3 < 0 := fun z => absurd (Int32.lt_of_le_of_lt c z) (by decide)
      have d2 : ¬ v3 ≤ 3 := fun z => absurd (Int32.le_trans c z) (by decide)
      refine br_f d1 (br_f d2 ?_)
      unfold wpY_edges
      dsimp only
      refine tc_ygood hn ha hb hab ?_
      exact br_t rfl (br_f d1 (br_f d2 ⟨rfl, rel⟩))
    · have d1 : ¬ nI x < 0 := nI_pos (by omega)
      have d2 : nI x ≤ 3 := nI_le (b := 3) (by omega) (by decide)
      have hin := tc_pair_in n hn a ha b hb hab
      have hP := tc_P_le n hn
      have vi : vp_in (nI (tc_pair a b)) 15 := vp_in_nI (by omega) (by decide)
      have cl : (nI (tc_pair a b)).toNatClampNeg = tc_pair a b := nI_clamp (by omega)
      refine br_f d1 (br_t d2 ?_)
      refine tc_xpairOf (by omega) (by omega) hab ?_
      refine ⟨vi, ?_⟩
      intro old eold
      refine ⟨vi, ?_⟩
      intro ea eea
      rw [cl] at eold eea
      rw [tc_updn] at eea
      subst eea
      refine tc_xclassify (e := fun q => if q = tc_pair a b then x else e q) (by omega) hU hR ?_ (hm _) ?_ ?_ ?_
      · show (if tc_pair a b = tc_pair a b then x else e (tc_pair a b)) ≤ 3
        rw [if_pos rfl]; omega
      · intro q hq
        show _ ↔ 0 < (if q = tc_pair a b then x else e q) ∧ m q ≠ 2
        rw [if_neg hq]
        exact bU q
      · intro q _
        exact bR q
      · intro U' R' lU lR bU' bR'
        dsimp only
        unfold wpY_edges
        dsimp only
        refine tc_ygood hn ha hb hab ?_
        refine br_t rfl (br_f d1 (br_t d2 ?_))
        refine tc_ypair (by omega) (by omega) hab ?_
        refine ⟨vi, ?_⟩
        intro old2 eold2
        refine ⟨vi, ?_⟩
        intro ea2 eea2
        rw [cl] at eold2 eea2
        rw [tc_updn] at eea2
        subst eea2
        refine ⟨eold2.trans eold.symm, n, U', R', L, (fun q => if q = tc_pair a b then x else e q), m, G, H, rfl, rfl, ⟨h2, hn, lU, lR, ?_, hm, ?_, bU', bR', hG⟩, hL⟩
        · intro q
          show (if q = tc_pair a b then x else e q) ≤ 3
          split
          · omega
          · exact he q
        · intro q hq
          show (if q = tc_pair a b then x else e q) = 0 ∧ m q = 0
          rw [if_neg (by omega)]
          exact hz q hq
theorem i_vc_mode {k : Nat} {u : SX} {v : SY} (I : i_Rel k u v) (hk : k + 4 ≤ 2049) (v1 : Int32) (v2 : Int32) (v3 : Int32) : wpX_mode (fun r u' => wpY_mode (fun r' v' => r' = r ∧ i_Rel (k + 4) u' v') v v1 v2 v3) u v1 v2 v3 := by
  have rel : i_Rel (k + 4) u v := I
  obtain ⟨n, U, R, L, e, m, G, H, rfl, rfl, I, hL⟩ := I
  have I' := I
  obtain ⟨h2, hn, hU, hR, he, hm, hz, bU, bR, hG⟩ := I'
  unfold wpX_mode
  dsimp only
  rcases tc_cases hn v1 v2 with hb | ⟨a, b, ha, hb, hab, rfl, rfl⟩
  · refine tc_xpb hn hb ?_
    refine br_t rfl ?_
    unfold wpY_mode
    dsimp only
    refine tc_ybad hb ?_
    exact br_f tc_10 ⟨rfl, rel⟩
  · refine tc_xpg hn ha hb hab ?_
    refine br_f tc_10 ?_
    rcases pk_ix v3 (n := 3) (by decide) with c | c | ⟨x, hx, rfl⟩
    · refine br_t c ?_
      unfold wpY_mode
      dsimp only
      refine tc_ygood hn ha hb hab ?_
      exact br_t rfl (br_t c ⟨rfl, rel⟩)
    · have d1 : ¬ v3 < 0 := fun z => absurd (Int32.lt_of_le_of_lt c z) (by decide)
      have d2 : ¬ v3 ≤ 2 := fun z => absurd (Int32.le_trans c z) (by decide)
      refine br_f d1 (br_f d2 ?_)
      unfold wpY_mode
      dsimp only
      refine tc_ygood hn ha hb hab ?_
      exact br_t rfl (br_f d1 (br_f d2 ⟨rfl, rel⟩))
    · have d1 : ¬ nI x < 0 := nI_pos (by omega)
      have d2 : nI x ≤ 2 := nI_le (b := 2) (by omega) (by decide)
      have hin := tc_pair_in n hn a ha b hb hab
      have hP := tc_P_le n hn
      have vi : vp_in (nI (tc_pair a b)) 15 := vp_in_nI (by omega) (by decide)
      have cl : (nI (tc_pair a b)).toNatClampNeg = tc_pair a b := nI_clamp (by omega)
      refine br_f d1 (br_t d2 ?_)
      refine tc_xpairOf (by omega) (by omega) hab ?_
      refine ⟨vi, ?_⟩
      intro old eold
      refine ⟨vi, ?_⟩
      intro ea eea
      rw [cl] at eold eea
      rw [tc_updn] at eea
      subst eea
      refine tc_xclassify (m := fun q => if q = tc_pair a b then x else m q) (by omega) hU hR (he _) ?_ ?_ ?_ ?_
      · show (if tc_pair a b = tc_pair a b then x else m (tc_pair a b)) ≤ 2
        rw [if_pos rfl]; omega
      · intro q hq
        show _ ↔ 0 < e q ∧ (if q = tc_pair a b then x else m q) ≠ 2
        rw [if_neg hq]
        exact bU q
      · intro q hq
        show _ ↔ (if q = tc_pair a b then x else m q) = 1
        rw [if_neg hq]
        exact bR q
      · intro U' R' lU lR bU' bR'
        dsimp only
        unfold wpY_mode
        dsimp only
        refine tc_ygood hn ha hb hab ?_
        refine br_t rfl (br_f d1 (br_t d2 ?_))
        refine tc_ypair (by omega) (by omega) hab ?_
        refine ⟨vi, ?_⟩
        intro old2 eold2
        refine ⟨vi, ?_⟩
        intro ea2 eea2
        rw [cl] at eold2 eea2
        rw [tc_updn] at eea2
        subst eea2
        refine ⟨eold2.trans eold.symm, n, U', R', L, e, (fun q => if q = tc_pair a b then x else m q), G, H, rfl, rfl, ⟨h2, hn, lU, lR, he, ?_, ?_, bU', bR', hG⟩, hL⟩
        · intro q
          show (if q = tc_pair a b then x else m q) ≤ 2
          split
          · omega
          · exact hm q
        · intro q hq
          show e q = 0 ∧ (if q = tc_pair a b then x else m q) = 0
          rw [if_neg (by omega)]
          exact hz q hq
theorem tc_TT_all (n : Nat) (W : Nat → Nat) : tc_TT n W 0 = tc_S (fun s => if tc_tr n s = true then W s else 0) (2 ^ tc_P n) := by
  unfold tc_TT
  apply tc_S_congr
  intro s _
  show (if tc_tr n s = true then (if s &&& 0 = 0 then W s else 0) else 0) = (if tc_tr n s = true then W s else 0)
  rw [if_pos (Nat.and_zero s)]
theorem i_vc_trees {k : Nat} {u : SX} {v : SY} (I : i_Rel k u v) (hk : k + 4 ≤ 2049) : wpX_trees (fun r => wpY_trees (fun r' => r' = r ∧ i_Rel (k + 4) u v) v) u := by
  have rel : i_Rel (k + 4) u v := I
  obtain ⟨n, U, R, L, e, m, G, H, rfl, rfl, I, hL⟩ := I
  have I' := I
  obtain ⟨h2, hn, hU, hR, he, hm, hz, bU, bR, hG⟩ := I'
  refine ⟨_, tc_xtrees4 I ?_ (2 ^ tc_P n) 0 (Nat.zero_add _)⟩
  unfold wpY_trees
  dsimp only
  refine tc_ywith (q := 0) h2 hn hm hL (by decide) ?_
  exact ⟨congrArg nI (tc_TT_all n _), rel⟩
theorem i_vc_using {k : Nat} {u : SX} {v : SY} (I : i_Rel k u v) (hk : k + 4 ≤ 2049) (v1 : Int32) (v2 : Int32) : wpX_using (fun r => wpY_using (fun r' => r' = r ∧ i_Rel (k + 4) u v) v v1 v2) u v1 v2 := by
  have rel : i_Rel (k + 4) u v := I
  obtain ⟨n, U, R, L, e, m, G, H, rfl, rfl, I, hL⟩ := I
  have I' := I
  obtain ⟨h2, hn, hU, hR, he, hm, hz, bU, bR, hG⟩ := I'
  unfold wpX_using
  dsimp only
  rcases tc_cases hn v1 v2 with hb | ⟨a, b, ha, hb, hab, rfl, rfl⟩
  · refine tc_xpb hn hb ?_
    refine br_t rfl ?_
    unfold wpY_using
    dsimp only
    refine tc_ybad hb ?_
    exact br_f tc_10 ⟨rfl, rel⟩
  · have hin := tc_pair_in n hn a ha b hb hab
    have hP := tc_P_le n hn
    refine tc_xpg hn ha hb hab ?_
    refine br_f tc_10 ?_
    refine tc_xpairOf (by omega) (by omega) hab ?_
    refine ⟨_, tc_xusing23 I hin ?_ (2 ^ tc_P n) 0 (Nat.zero_add _)⟩
    unfold wpY_using
    dsimp only
    refine tc_ygood hn ha hb hab ?_
    refine br_t rfl ?_
    refine tc_ypair (by omega) (by omega) hab ?_
    rw [tc_none (by omega)]
    refine tc_ywith h2 hn hm hL (Nat.pow_lt_pow_right (by decide) (by omega)) ?_
    exact ⟨rfl, rel⟩
theorem i_vc_leaf {k : Nat} {u : SX} {v : SY} (I : i_Rel k u v) (hk : k + 4 ≤ 2049) (v1 : Int32) : wpX_leaf (fun r => wpY_leaf (fun r' => r' = r ∧ i_Rel (k + 4) u v) v v1) u v1 := by
  have rel : i_Rel (k + 4) u v := I
  obtain ⟨n, U, R, L, e, m, G, H, rfl, rfl, I, hL⟩ := I
  have I' := I
  obtain ⟨h2, hn, hU, hR, he, hm, hz, bU, bR, hG⟩ := I'
  unfold wpX_leaf
  dsimp only
  rcases pk_ix v1 (n := n) (by omega) with c | c | ⟨a, ha, rfl⟩
  · refine tc_xvb (Or.inl c) ?_
    refine br_t rfl ?_
    exact br_t c ⟨rfl, rel⟩
  · refine tc_xvb (Or.inr c) ?_
    refine br_t rfl ?_
    exact br_f (fun z => absurd (Int32.lt_of_le_of_lt c z) (nI_pos (by omega))) (br_f (Int32.not_lt.mpr c) ⟨rfl, rel⟩)
  · refine tc_xvg hn ha ?_
    refine br_f tc_10 ?_
    refine ⟨_, tc_xleaf14 I ha ?_ (2 ^ tc_P n) 0 (Nat.zero_add _)⟩
    refine br_f (nI_pos (by omega)) (br_t (nI_lt ha (by omega)) ?_)
    refine ⟨_, tc_yleaf18 h2 hn hm hL ha ?_ L 0 (Nat.zero_add _)⟩
    exact ⟨congrArg nI (tc_sum hn hL (fun s => if tc_dy s a n = 1 then tc_w e m s (tc_P n) else 0)), rel⟩
theorem i_vc_degrees {k : Nat} {u : SX} {v : SY} (I : i_Rel k u v) (hk : k + 4 ≤ 2049) (v1 : Int32) : wpX_degrees (fun r => wpY_degrees (fun r' => r' = r ∧ i_Rel (k + 4) u v) v v1) u v1 := by
  have rel : i_Rel (k + 4) u v := I
  obtain ⟨n, U, R, L, e, m, G, H, rfl, rfl, I, hL⟩ := I
  have I' := I
  obtain ⟨h2, hn, hU, hR, he, hm, hz, bU, bR, hG⟩ := I'
  unfold wpX_degrees
  dsimp only
  rcases pk_ix v1 (n := n) (by omega) with c | c | ⟨a, ha, rfl⟩
  · refine tc_xvb (Or.inl c) ?_
    refine br_t rfl ?_
    exact br_t c ⟨rfl, rel⟩
  · refine tc_xvb (Or.inr c) ?_
    refine br_t rfl ?_
    exact br_f (fun z => absurd (Int32.lt_of_le_of_lt c z) (nI_pos (by omega))) (br_f (Int32.not_lt.mpr c) ⟨rfl, rel⟩)
  · refine tc_xvg hn ha ?_
    refine br_f tc_10 ?_
    refine ⟨_, tc_xdegs14 I ha ?_ (2 ^ tc_P n) 0 (Nat.zero_add _)⟩
    refine br_f (nI_pos (by omega)) (br_t (nI_lt ha (by omega)) ?_)
    refine ⟨_, tc_ydegs18 h2 hn hm hL ha ?_ L 0 (Nat.zero_add _)⟩
    exact ⟨congrArg nI (tc_sum hn hL (fun s => tc_w e m s (tc_P n) * tc_dy s a n)), rel⟩
theorem i_vc_apart {k : Nat} {u : SX} {v : SY} (I : i_Rel k u v) (hk : k + 4 ≤ 2049) (v1 : Int32) (v2 : Int32) : wpX_apart (fun r => wpY_apart (fun r' => r' = r ∧ i_Rel (k + 4) u v) v v1 v2) u v1 v2 := by
  have rel : i_Rel (k + 4) u v := I
  obtain ⟨n, U, R, L, e, m, G, H, rfl, rfl, I, hL⟩ := I
  have I' := I
  obtain ⟨h2, hn, hU, hR, he, hm, hz, bU, bR, hG⟩ := I'
  unfold wpX_apart
  dsimp only
  rcases tc_cases hn v1 v2 with hb | ⟨a, b, ha, hb, hab, rfl, rfl⟩
  · refine tc_xpb hn hb ?_
    refine br_t rfl ?_
    unfold wpY_apart
    dsimp only
    refine tc_ybad hb ?_
    exact br_f tc_10 ⟨rfl, rel⟩
  · have hin := tc_pair_in n hn a ha b hb hab
    refine tc_xpg hn ha hb hab ?_
    refine br_f tc_10 ?_
    refine ⟨_, tc_xapart16 I ha hb ?_ (2 ^ tc_P n) 0 (Nat.zero_add _)⟩
    unfold wpY_apart
    dsimp only
    refine tc_ygood hn ha hb hab ?_
    refine br_t rfl ?_
    refine tc_ypair (by omega) (by omega) hab ?_
    refine ⟨_, tc_yapart24 h2 hn hm hL hin ?_ L 0 (Nat.zero_add _)⟩
    have e1 := tc_sum hn hL (fun s => if s.testBit (tc_pair a b) = true then tc_w e m (s ^^^ (s &&& 2 ^ tc_pair a b)) (tc_P n) else 0)
    have e2 := tc_apart_sum h2 hn ha hb hab (fun s => tc_w e m s (tc_P n))
    exact ⟨congrArg nI (e1.trans e2.symm), rel⟩
theorem i_vc_idle {k : Nat} {u : SX} {v : SY} (I : i_Rel k u v) (hk : k + 4 ≤ 2049) : wpX_idle (fun r => wpY_idle (fun r' => r' = r ∧ i_Rel (k + 4) u v) v) u := by
  have rel : i_Rel (k + 4) u v := I
  obtain ⟨n, U, R, L, e, m, G, H, rfl, rfl, I, hL⟩ := I
  have I' := I
  obtain ⟨h2, hn, hU, hR, he, hm, hz, bU, bR, hG⟩ := I'
  refine tc_xidle I ?_
  refine ⟨_, tc_yidle4 h2 hn he hm hL ?_ (tc_P n) 0 (Nat.zero_add _)⟩
  exact ⟨rfl, rel⟩
theorem i_vc_needed {k : Nat} {u : SX} {v : SY} (I : i_Rel k u v) (hk : k + 4 ≤ 2049) : wpX_needed (fun r => wpY_needed (fun r' => r' = r ∧ i_Rel (k + 4) u v) v) u := by
  have rel : i_Rel (k + 4) u v := I
  obtain ⟨n, U, R, L, e, m, G, H, rfl, rfl, I, hL⟩ := I
  have I' := I
  obtain ⟨h2, hn, hU, hR, he, hm, hz, bU, bR, hG⟩ := I'
  refine tc_xneeded I ?_
  unfold wpY_needed
  dsimp only
  unfold wpY_trees
  dsimp only
  refine tc_ywith (q := 0) h2 hn hm hL (by decide) ?_
  refine ⟨_, tc_yneed9 h2 hn he hm hL ?_ (tc_P n) 0 (Nat.zero_add _)⟩
  exact ⟨rfl, rel⟩
