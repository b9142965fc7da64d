/-! what X's state keeps; X's queries against the pure sums -/
def tc_ok (n U R : Nat) (e m : Nat → Nat) (G : Nat → Int32) : Prop := 2 ≤ n ∧ n < 7 ∧ U < 2 ^ 15 ∧ R < 2 ^ 15 ∧ (∀ p, e p ≤ 3) ∧ (∀ p, m p ≤ 2) ∧ (∀ p, tc_P n ≤ p → e p = 0 ∧ m p = 0) ∧ (∀ p, U.testBit p = true ↔ 0 < e p ∧ m p ≠ 2) ∧ (∀ p, R.testBit p = true ↔ m p = 1) ∧ (∀ p, p < tc_P n → G p = nI (tc_E p))
theorem tc_al_iff {n U R : Nat} {e m : Nat → Nat} {G : Nat → Int32} {s : Nat} (I : tc_ok n U R e m G) (hs : s < 2 ^ tc_P n) : tc_al e m s (tc_P n) ↔ s ^^^ (s &&& U) = 0 ∧ R ^^^ (R &&& s) = 0 := by
  obtain ⟨h2, hn, hU, hR, he, hm, hz, bU, bR, hG⟩ := I
  rw [tc_sd0, tc_sd0]
  constructor
  · intro h
    constructor
    · intro p hp
      rcases Nat.lt_or_ge p (tc_P n) with z | z
      · exact (bU p).mpr ((h p z).1 hp)
      · rw [Nat.testBit_lt_two_pow (tc_le2 hs z)] at hp
        exact absurd hp (by decide)
    · intro p hp
      have m1 := (bR p).mp hp
      rcases Nat.lt_or_ge p (tc_P n) with z | z
      · exact (h p z).2 m1
      · rw [(hz p z).2] at m1
        exact absurd m1 (by decide)
  · intro h p _
    exact ⟨fun hp => (bU p).mp (h.1 p hp), fun hp => h.2 p ((bR p).mpr hp)⟩
theorem tc_xallow {n U R : Nat} {e m : Nat → Nat} {G : Nat → Int32} {post : Int32 → Prop} {s : Nat} (I : tc_ok n U R e m G) (hs : s < 2 ^ tc_P n) (h1 : tc_al e m s (tc_P n) → post 1) (h0 : ¬ tc_al e m s (tc_P n) → post 0) : wpX_isAllowed post (nI n, nI (tc_P n), nI U, nI R, (fun p => nI (e p)), (fun p => nI (m p)), G) (nI s) := by
  have k := tc_al_iff I hs
  obtain ⟨h2, hn, hU, hR, he, hm, hz, bU, bR, hG⟩ := I
  have b1 : s ^^^ (s &&& U) < 2 ^ 31 := tc_sd_lt (tc_le2 hs (by have := tc_P_le n hn; omega))
  have b2 : R ^^^ (R &&& s) < 2 ^ 31 := tc_sd_lt (tc_le2 hR (by decide))
  show ((nI s &&& (nI U ^^^ (-1))) = 0 → (((nI R &&& (nI s ^^^ (-1))) = 0 → post 1) ∧ (¬ (nI R &&& (nI s ^^^ (-1))) = 0 → post 0))) ∧ (¬ (nI s &&& (nI U ^^^ (-1))) = 0 → post 0)
  rw [tc_nandnot, tc_nandnot]
  by_cases z1 : s ^^^ (s &&& U) = 0
  · rw [z1]
    refine br_t rfl ?_
    by_cases z2 : R ^^^ (R &&& s) = 0
    · rw [z2]
      exact br_t rfl (h1 (k.mpr ⟨z1, z2⟩))
    · exact br_f (nI_ne0 (by omega) b2) (h0 (fun q => z2 (k.mp q).2))
  · exact br_f (nI_ne0 (by omega) b1) (h0 (fun q => z1 (k.mp q).1))
theorem tc_xtree {n U R : Nat} {e m : Nat → Nat} {G : Nat → Int32} {post : Int32 → Prop} {s : Nat} (I : tc_ok n U R e m G) (hs : s < 2 ^ tc_P n) (h1 : tc_al e m s (tc_P n) → tc_tr n s = true → post 1) (h0 : ¬ (tc_al e m s (tc_P n) ∧ tc_tr n s = true) → post 0) : wpX_isAllowedTree post (nI n, nI (tc_P n), nI U, nI R, (fun p => nI (e p)), (fun p => nI (m p)), G) (nI s) := by
  have hn := I.2.1
  have h2 := I.1
  have hG := I.2.2.2.2.2.2.2.2.2
  have sl : s < 2 ^ 31 := tc_le2 hs (by have := tc_P_le n hn; omega)
  have zl := tc_sz_le s (tc_P n)
  have pl := tc_P_le n hn
  unfold wpX_isAllowedTree
  dsimp only
  refine tc_xallow I hs (fun ha => ?_) (fun ha => ?_)
  · refine br_f tc_10 ?_
    refine tc_xsize hn sl ?_
    have e1 : nI n - 1 = nI (n - 1) := pk_sub (b := 1) (by omega)
    rw [e1]
    by_cases z : tc_sz s (tc_P n) = n - 1
    · refine br_t (congrArg nI z) ?_
      refine tc_xreach (u := 0) hn sl (by omega) hG ?_
      refine tc_xevery hn ?_
      have cl := tc_64 hn (tc_C_lt (s := s) (u := 0) hn (by omega))
      have nl := tc_2n hn
      by_cases y : tc_C s n 0 = 2 ^ n - 1
      · exact br_t (congrArg nI y) (h1 ha (tc_tr_iff.mpr ⟨z, y⟩))
      · refine br_f ?_ (h0 (fun q => y (tc_tr_iff.mp q.2).2))
        rw [nI_eq (by omega) (by omega)]
        exact y
    · refine br_f ?_ (h0 (fun q => z (tc_tr_iff.mp q.2).1))
      rw [nI_eq (by omega) (by omega)]
      exact z
  · exact br_t rfl (h0 (fun q => ha q.1))
theorem tc_xsplit {n U R : Nat} {e m : Nat → Nat} {G : Nat → Int32} {post : Int32 → Prop} {s u v : Nat} (I : tc_ok n U R e m G) (hs : s < 2 ^ tc_P n) (hu : u < n) (hv : v < n) (h1 : tc_al e m s (tc_P n) → tc_sp n s u v = true → post 1) (h0 : ¬ (tc_al e m s (tc_P n) ∧ tc_sp n s u v = true) → post 0) : wpX_isAllowedSplit post (nI n, nI (tc_P n), nI U, nI R, (fun p => nI (e p)), (fun p => nI (m p)), G) (nI s) (nI u) (nI v) := by
  have hn := I.2.1
  have h2 := I.1
  have hG := I.2.2.2.2.2.2.2.2.2
  have sl : s < 2 ^ 31 := tc_le2 hs (by have := tc_P_le n hn; omega)
  have zl := tc_sz_le s (tc_P n)
  have pl := tc_P_le n hn
  unfold wpX_isAllowedSplit
  dsimp only
  refine tc_xallow I hs (fun ha => ?_) (fun ha => ?_)
  · refine br_f tc_10 ?_
    refine tc_xsize hn sl ?_
    have e1 : nI n - 2 = nI (n - 2) := pk_sub (b := 2) (by omega)
    rw [e1]
    by_cases z : tc_sz s (tc_P n) = n - 2
    · refine br_t (congrArg nI z) ?_
      refine tc_xreach hn sl hu hG ?_
      refine tc_xreach hn sl hv hG ?_
      refine tc_xevery hn ?_
      have cl := tc_64 hn (Nat.or_lt_two_pow (tc_C_lt (s := s) hn hu) (tc_C_lt (s := s) hn hv))
      have nl := tc_2n hn
      rw [tc_nor]
      by_cases y : tc_C s n u ||| tc_C s n v = 2 ^ n - 1
      · exact br_t (congrArg nI y) (h1 ha (tc_sp_iff.mpr ⟨z, y⟩))
      · refine br_f ?_ (h0 (fun q => y (tc_sp_iff.mp q.2).2))
        rw [nI_eq (by omega) (by omega)]
        exact y
    · refine br_f ?_ (h0 (fun q => z (tc_sp_iff.mp q.2).1))
      rw [nI_eq (by omega) (by omega)]
      exact z
  · exact br_t rfl (h0 (fun q => ha q.1))
/-! the terms of the sums -/
theorem tc_F1 {e m : Nat → Nat} {n s : Nat} {b : Bool} (ha : tc_al e m s (tc_P n)) (ht : b = true) : (if b = true then tc_w e m s (tc_P n) else 0) = tc_pr e s (tc_P n) := by
  rw [if_pos ht]
  exact (tc_al_w _ ha).1
theorem tc_F0 {e m : Nat → Nat} {n s : Nat} {b : Bool} (h : ¬ (tc_al e m s (tc_P n) ∧ b = true)) : (if b = true then tc_w e m s (tc_P n) else 0) = 0 := by
  by_cases ht : b = true
  · rw [if_pos ht]
    exact tc_nal_w _ (fun ha => h ⟨ha, ht⟩)
  · rw [if_neg ht]
theorem tc_S_s (f : Nat → Nat) (i : Nat) : tc_S f (i + 1) = tc_S f i + f i := rfl
theorem tc_xN {n : Nat} (hn : n < 7) : (1 : Int32) <<< (nI (tc_P n) &&& 31) = nI (2 ^ tc_P n) := tc_none (by have := tc_P_le n hn; omega)
theorem tc_xtrees4 {n U R : Nat} {e m : Nat → Nat} {G : Nat → Int32} {post : Int32 → Prop} (I : tc_ok n U R e m G) (h : post (nI (tc_S (fun s => if tc_tr n s = true then tc_w e m s (tc_P n) else 0) (2 ^ tc_P n)))) : ∀ d i : Nat, i + d = 2 ^ tc_P n → wX_trees_4 post (nI n) (nI (tc_P n)) (nI U) (nI R) (fun p => nI (e p)) (fun p => nI (m p)) G (d + 1) (nI (tc_S (fun s => if tc_tr n s = true then tc_w e m s (tc_P n) else 0) i)) (nI i) := by
  have hn := I.2.1
  have hN := tc_N_lt hn
  intro d
  induction d with
  | zero =>
    intro i hi
    have e1 : i = 2 ^ tc_P n := by omega
    rw [e1]
    exact br_t (by rw [tc_xN hn]; exact nI_le (Nat.le_refl _) (by omega)) h
  | succ d ih =>
    intro i hi
    have k := ih (i + 1) (by omega)
    rw [tc_S_s] at k
    have sl : i < 2 ^ 31 := by omega
    refine br_f (by rw [tc_xN hn]; exact nI_ge (by omega) (by omega)) ?_
    refine tc_xtree I (by omega) (fun ha ht => ?_) (fun hb => ?_)
    · refine br_f tc_10 ?_
      refine tc_xch hn sl ?_
      intro y ey z ez
      rw [tc_F1 ha ht] at k
      rw [ey, ez, nI_add, nI_1]
      exact k
    · refine br_t rfl ?_
      intro z ez
      rw [tc_F0 hb, Nat.add_zero] at k
      rw [ez, nI_1]
      exact k
theorem tc_xusing23 {n U R : Nat} {e m : Nat → Nat} {G : Nat → Int32} {post : Int32 → Prop} {p : Nat} (I : tc_ok n U R e m G) (hp : p < tc_P n) (h : post (nI (tc_TT n (fun s => tc_w e m s (tc_P n)) (2 ^ p)))) : ∀ d i : Nat, i + d = 2 ^ tc_P n → wX_using_23 post (nI p) (nI n) (nI (tc_P n)) (nI U) (nI R) (fun p => nI (e p)) (fun p => nI (m p)) G (d + 1) (nI (tc_S (fun s => if tc_tr n s = true then (if s &&& 2 ^ p = 2 ^ p then tc_w e m s (tc_P n) else 0) else 0) i)) (nI i) := by
  have hn := I.2.1
  have hN := tc_N_lt hn
  have hP := tc_P_le n hn
  intro d
  induction d with
  | zero =>
    intro i hi
    have e1 : i = 2 ^ tc_P n := by omega
    rw [e1]
    exact br_t (by rw [tc_xN hn]; exact nI_le (Nat.le_refl _) (by omega)) h
  | succ d ih =>
    intro i hi
    have k := ih (i + 1) (by omega)
    rw [tc_S_s] at k
    have sl : i < 2 ^ 31 := by omega
    refine br_f (by rw [tc_xN hn]; exact nI_ge (by omega) (by omega)) ?_
    refine tc_xhas sl (by omega) (fun hb => ?_) (fun hb => ?_)
    · rw [if_pos ((tc_and_pow i p).mpr hb)] at k
      refine br_f tc_10 ?_
      refine tc_xtree I (by omega) (fun ha ht => ?_) (fun hc => ?_)
      · refine br_f tc_10 ?_
        refine tc_xch hn sl ?_
        intro y ey z ez
        rw [tc_F1 ha ht] at k
        rw [ey, ez, nI_add, nI_1]
        exact k
      · refine br_t rfl ?_
        intro z ez
        rw [tc_F0 hc, Nat.add_zero] at k
        rw [ez, nI_1]
        exact k
    · refine br_t rfl ?_
      intro z ez
      have nb : ¬ i &&& 2 ^ p = 2 ^ p := fun q => by rw [(tc_and_pow i p).mp q] at hb; exact absurd hb (by decide)
      rw [if_neg nb, ite_self, Nat.add_zero] at k
      rw [ez, nI_1]
      exact k
theorem tc_xleaf14 {n U R : Nat} {e m : Nat → Nat} {G : Nat → Int32} {post : Int32 → Prop} {v : Nat} (I : tc_ok n U R e m G) (hv : v < n) (h : post (nI (tc_S (fun s => if tc_tr n s = true then (if tc_dy s v n = 1 then tc_w e m s (tc_P n) else 0) else 0) (2 ^ tc_P n)))) : ∀ d i : Nat, i + d = 2 ^ tc_P n → wX_leaf_14 post (nI v) (nI n) (nI (tc_P n)) (nI U) (nI R) (fun p => nI (e p)) (fun p => nI (m p)) G (d + 1) (nI (tc_S (fun s => if tc_tr n s = true then (if tc_dy s v n = 1 then tc_w e m s (tc_P n) else 0) else 0) i)) (nI i) := by
  have hn := I.2.1
  have hN := tc_N_lt hn
  have hP := tc_P_le n hn
  have hG := I.2.2.2.2.2.2.2.2.2
  intro d
  induction d with
  | zero =>
    intro i hi
    have e1 : i = 2 ^ tc_P n := by omega
    rw [e1]
    exact br_t (by rw [tc_xN hn]; exact nI_le (Nat.le_refl _) (by omega)) h
  | succ d ih =>
    intro i hi
    have k := ih (i + 1) (by omega)
    rw [tc_S_s] at k
    have sl : i < 2 ^ 31 := by omega
    refine br_f (by rw [tc_xN hn]; exact nI_ge (by omega) (by omega)) ?_
    refine tc_xtree I (by omega) (fun ha ht => ?_) (fun hb => ?_)
    · refine br_f tc_10 ?_
      refine tc_xdeg hn sl hv hG ?_
      rw [tc_deg i I.1 hn hv]
      have dl := tc_dy_le i v n
      rw [if_pos ht] at k
      by_cases z : tc_dy i v n = 1
      · refine br_t (congrArg nI z) ?_
        refine tc_xch hn sl ?_
        intro y ey w ew
        rw [if_pos z, (tc_al_w _ ha).1] at k
        rw [ey, ew, nI_add, nI_1]
        exact k
      · refine br_f ?_ ?_
        · show ¬ nI (tc_dy i v n) = nI 1
          rw [nI_eq (by omega) (by omega)]
          exact z
        · intro w ew
          rw [if_neg z, Nat.add_zero] at k
          rw [ew, nI_1]
          exact k
    · refine br_t rfl ?_
      intro z ez
      have q0 : (if tc_tr n i = true then (if tc_dy i v n = 1 then tc_w e m i (tc_P n) else 0) else 0) = 0 := by
        by_cases ht : tc_tr n i = true
        · rw [if_pos ht, tc_nal_w _ (fun ha => hb ⟨ha, ht⟩), ite_self]
        · rw [if_neg ht]
      have k2 := k
      rw [q0, Nat.add_zero] at k2
      rw [ez, nI_1]
      exact k2
theorem tc_xdegs14 {n U R : Nat} {e m : Nat → Nat} {G : Nat → Int32} {post : Int32 → Prop} {v : Nat} (I : tc_ok n U R e m G) (hv : v < n) (h : post (nI (tc_S (fun s => if tc_tr n s = true then tc_w e m s (tc_P n) * tc_dy s v n else 0) (2 ^ tc_P n)))) : ∀ d i : Nat, i + d = 2 ^ tc_P n → wX_degrees_14 post (nI v) (nI n) (nI (tc_P n)) (nI U) (nI R) (fun p => nI (e p)) (fun p => nI (m p)) G (d + 1) (nI (tc_S (fun s => if tc_tr n s = true then tc_w e m s (tc_P n) * tc_dy s v n else 0) i)) (nI i) := by
  have hn := I.2.1
  have hN := tc_N_lt hn
  have hP := tc_P_le n hn
  have hG := I.2.2.2.2.2.2.2.2.2
  intro d
  induction d with
  | zero =>
    intro i hi
    have e1 : i = 2 ^ tc_P n := by omega
    rw [e1]
    exact br_t (by rw [tc_xN hn]; exact nI_le (Nat.le_refl _) (by omega)) h
  | succ d ih =>
    intro i hi
    have k := ih (i + 1) (by omega)
    rw [tc_S_s] at k
    have sl : i < 2 ^ 31 := by omega
    refine br_f (by rw [tc_xN hn]; exact nI_ge (by omega) (by omega)) ?_
    refine tc_xtree I (by omega) (fun ha ht => ?_) (fun hb => ?_)
    · refine br_f tc_10 ?_
      refine tc_xch hn sl ?_
      refine tc_xdeg hn sl hv hG ?_
      rw [tc_deg i I.1 hn hv]
      intro y ey w ew
      rw [if_pos ht, (tc_al_w _ ha).1] at k
      rw [ey, ew, pk_mul, nI_add, nI_1]
      exact k
    · refine br_t rfl ?_
      intro z ez
      have q0 : (if tc_tr n i = true then tc_w e m i (tc_P n) * tc_dy i v n else 0) = 0 := by
        by_cases ht : tc_tr n i = true
        · rw [if_pos ht, tc_nal_w _ (fun ha => hb ⟨ha, ht⟩), Nat.zero_mul]
        · rw [if_neg ht]
      have k2 := k
      rw [q0, Nat.add_zero] at k2
      rw [ez, nI_1]
      exact k2
theorem tc_xapart16 {n U R : Nat} {e m : Nat → Nat} {G : Nat → Int32} {post : Int32 → Prop} {u v : Nat} (I : tc_ok n U R e m G) (hu : u < n) (hv : v < n) (h : post (nI (tc_S (fun s => if tc_sp n s u v = true then tc_w e m s (tc_P n) else 0) (2 ^ tc_P n)))) : ∀ d i : Nat, i + d = 2 ^ tc_P n → wX_apart_16 post (nI u) (nI v) (nI n) (nI (tc_P n)) (nI U) (nI R) (fun p => nI (e p)) (fun p => nI (m p)) G (d + 1) (nI (tc_S (fun s => if tc_sp n s u v = true then tc_w e m s (tc_P n) else 0) i)) (nI i) := by
  have hn := I.2.1
  have hN := tc_N_lt hn
  intro d
  induction d with
  | zero =>
    intro i hi
    have e1 : i = 2 ^ tc_P n := by omega
    rw [e1]
    exact br_t (by rw [tc_xN hn]; exact nI_le (Nat.le_refl _) (by omega)) h
  | succ d ih =>
    intro i hi
    have k := ih (i + 1) (by omega)
    rw [tc_S_s] at k
    have sl : i < 2 ^ 31 := by omega
    refine br_f (by rw [tc_xN hn]; exact nI_ge (by omega) (by omega)) ?_
    refine tc_xsplit I (by omega) hu hv (fun ha ht => ?_) (fun hb => ?_)
    · refine br_f tc_10 ?_
      refine tc_xch hn sl ?_
      intro y ey z ez
      rw [tc_F1 ha ht] at k
      rw [ey, ez, nI_add, nI_1]
      exact k
    · refine br_t rfl ?_
      intro z ez
      rw [tc_F0 hb, Nat.add_zero] at k
      rw [ez, nI_1]
      exact k
