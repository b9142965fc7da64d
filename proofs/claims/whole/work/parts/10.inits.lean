/-! Y's size and connects, over any state of Y's with n vertices -/
theorem tc_sz_ext {s K : Nat} (h : s < 2 ^ K) : ∀ d, tc_sz s (K + d) = tc_sz s K := by
  intro d
  induction d with
  | zero => rfl
  | succ d ih =>
    show tc_sz s (K + d) + tc_b s (K + d) = tc_sz s K
    rw [ih, tc_b_hi (tc_le2 h (by omega))] <;> rfl
theorem tc_sz0 : tc_sz 0 15 = 0 := by decide
theorem tc_ysize4 {a b : Int32} {c d f : Nat → Int32} {post : Int32 → Prop} : ∀ fu x k : Nat, x < fu → x < 2 ^ 15 → post (nI (k + tc_sz x 15)) → wY_size_4 post a b c d f fu (nI k) (nI x) := by
  intro fu
  induction fu with
  | zero => intro x k h; exact absurd h (Nat.not_lt_zero x)
  | succ fu ih =>
    intro x k h hx hp
    by_cases z : x = 0
    · subst z
      refine br_t rfl ?_
      rw [tc_sz0] at hp
      exact hp
    · refine br_f (nI_ne0 (by omega) (by omega)) ?_
      intro y ey w ew
      have e1 : nI x - 1 = nI (x - 1) := pk_sub (b := 1) (by omega)
      rw [e1, nx_and] at ew
      have l := tc_kern_lt z
      have q := tc_kern 15 x hx z
      rw [ey, ew, nI_1]
      refine ih (x &&& (x - 1)) (k + 1) (by omega) (by omega) ?_
      have e2 : k + 1 + tc_sz (x &&& (x - 1)) 15 = k + tc_sz x 15 := by omega
      rw [e2]
      exact hp
theorem tc_ysize {n x : Nat} {a b : Int32} {c d f : Nat → Int32} {post : Int32 → Prop} (hn : n < 7) (hx : x < 2 ^ tc_P n) (h : post (nI (tc_sz x (tc_P n)))) : wpY_size post (a, b, c, d, f) (nI x) := by
  have hP := tc_P_le n hn
  refine ⟨x + 1, tc_ysize4 (x + 1) x 0 (by omega) (tc_le2 hx hP) ?_⟩
  have e1 := tc_sz_ext hx (15 - tc_P n)
  have e2 : tc_P n + (15 - tc_P n) = 15 := by omega
  rw [e2] at e1
  rw [e1, Nat.zero_add]
  exact h
theorem tc_P_s : ∀ v, v < 7 → tc_P (v + 1) = tc_P v + v := by decide +kernel
theorem tc_lh2 : ∀ v, v < 6 → ∀ u, u < v → tc_lo (tc_P v + u) = u ∧ tc_hi (tc_P v + u) = v := by decide +kernel
theorem tc_two {r u v : Nat} (hr : r < 2 ^ 31) (hu : u < 32) (hv : v < 32) : ((nI r >>> (nI u &&& 31)) ||| (nI r >>> (nI v &&& 31))) &&& 1 = nI (if r.testBit u = true ∨ r.testBit v = true then 1 else 0) := by
  rw [tc_nshr hr hu, tc_nshr hr hv, tc_nor]
  show nI _ &&& nI 1 = _
  rw [nx_and, Nat.and_one_is_mod]
  apply congrArg nI
  have t : (r / 2 ^ u ||| r / 2 ^ v) % 2 = 1 ↔ r.testBit u = true ∨ r.testBit v = true := by
    rw [Nat.mod_two_eq_one_iff_testBit_zero, Nat.testBit_or, Nat.testBit_div_two_pow, Nat.testBit_div_two_pow, Nat.zero_add, Nat.zero_add, Bool.or_eq_true]
  by_cases z : r.testBit u = true ∨ r.testBit v = true
  · rw [if_pos z]
    exact t.mpr z
  · rw [if_neg z]
    have y : ¬ (r / 2 ^ u ||| r / 2 ^ v) % 2 = 1 := fun w => z (t.mp w)
    omega
theorem tc_ymore7 {a b : Int32} {c d f : Nat → Int32} {post : Int32 → Prop} {s v n r0 : Nat} (hs : s < 2 ^ 31) (hn : n < 7) (hv : v < n) (hr : r0 < 2 ^ n) (h : post (nI (tc_rd s r0 (tc_P (v + 1))))) : ∀ fu u : Nat, u + fu = v → wY_more_7 post (nI s) (nI (tc_P v)) (nI v) a b c d f (fu + 1) (nI (tc_rd s r0 (tc_P v + u))) (nI u) := by
  have hP := tc_P_le v (by omega)
  have hPs := tc_P_s v (by omega)
  have hPn : tc_P v + v ≤ tc_P n := by
    rw [← hPs]
    exact (by decide +kernel : ∀ n, n < 7 → ∀ v, v < n → tc_P (v + 1) ≤ tc_P n) n hn v hv
  have hP15 := tc_P_le n hn
  intro fu
  induction fu with
  | zero =>
    intro u hu
    have e1 : u = v := by omega
    rw [e1]
    rw [hPs] at h
    exact br_t (nI_le (Nat.le_refl _) (by omega)) h
  | succ fu ih =>
    intro u hu
    have k := ih (u + 1) (by omega)
    have ed : tc_rd s r0 (tc_P v + (u + 1)) = tc_st s (tc_P v + u) (tc_rd s r0 (tc_P v + u)) := rfl
    rw [ed] at k
    have lt := tc_64 hn (tc_rd_lt (s := s) hn hr (tc_P v + u) (by omega))
    obtain ⟨elo, ehi⟩ := tc_lh2 v (by omega) u (by omega)
    generalize tc_rd s r0 (tc_P v + u) = r at *
    refine br_f (nI_ge (by omega) (by omega)) ?_
    rw [nI_add, tc_nbit hs (by omega)]
    by_cases hb : s.testBit (tc_P v + u) = true
    · rw [tc_b_t hb]
      refine br_t rfl (br_f tc_10 ?_)
      rw [tc_two (by omega) (by omega) (by omega)]
      by_cases z : r.testBit u = true ∨ r.testBit v = true
      · rw [if_pos z]
        refine br_t rfl ?_
        intro y ey w ew
        rw [tc_none (by omega), tc_none (by omega), tc_nor, tc_nor, Nat.or_assoc] at ey
        have hm : ¬ r &&& tc_E (tc_P v + u) = 0 := by
          have q := (tc_meet r (tc_P v + u)).mpr (by rw [elo, ehi]; exact z)
          exact q
        rw [tc_st_2 hb hm] at k
        unfold tc_E at k
        rw [elo, ehi] at k
        rw [ey, ew, nI_1]
        exact k
      · rw [if_neg z]
        refine br_f (by decide) ?_
        intro w ew
        have hm : r &&& tc_E (tc_P v + u) = 0 := by
          apply Classical.byContradiction
          intro q
          have q2 := (tc_meet r (tc_P v + u)).mp q
          rw [elo, ehi] at q2
          exact z q2
        rw [tc_st_1 hm] at k
        rw [ew, nI_1]
        exact k
    · have hb' : s.testBit (tc_P v + u) = false := Bool.eq_false_iff.mpr hb
      rw [tc_b_f hb']
      refine br_f (by decide) (br_t rfl ?_)
      intro w ew
      rw [tc_st_0 hb'] at k
      rw [ew, nI_1]
      exact k
theorem tc_ycon18 {b : Int32} {c d f : Nat → Int32} {post : Int32 → Prop} {J : Int32 → Int32 → Prop} {x3 : Int32} {s n r0 : Nat} (hs : s < 2 ^ 31) (hn : n < 7) (hr : r0 < 2 ^ n) (h : J (nI (tc_rd s r0 (tc_P n))) (x3 + 1)) : ∀ fu v : Nat, v + fu = n → wY_connects_18 post J (nI s) x3 (nI n) b c d f (fu + 1) (nI (tc_rd s r0 (tc_P v))) (nI (tc_P v)) (nI v) := by
  intro fu
  induction fu with
  | zero =>
    intro v hv
    have e1 : v = n := by omega
    rw [e1]
    exact br_t (nI_le (Nat.le_refl _) (by omega)) (nm_e h)
  | succ fu ih =>
    intro v hv
    have k := ih (v + 1) (by omega)
    have hPs := tc_P_s v (by omega)
    refine br_f (nI_ge (by omega) (by omega)) ⟨v + 1, ?_⟩
    refine tc_ymore7 hs hn (by omega) hr ?_ v 0 (Nat.zero_add _)
    intro y ey w ew
    rw [nI_add, ← hPs] at ey
    rw [ey, ew, nI_1]
    exact k
theorem tc_ycon4 {b : Int32} {c d f : Nat → Int32} {post : Int32 → Prop} {s n : Nat} (h2 : 1 ≤ n) (hs : s < 2 ^ 31) (hn : n < 7) (h1 : tc_C s n 0 = 2 ^ n - 1 → post 1) (h0 : ¬ tc_C s n 0 = 2 ^ n - 1 → post 0) : ∀ fu j : Nat, j + fu = n → wY_connects_4 post (nI s) (nI n) b c d f (fu + 1) (nI (tc_rs s (tc_P n) (2 ^ 0) j)) (nI j) := by
  intro fu
  induction fu with
  | zero =>
    intro j hj
    have e1 : j = n := by omega
    rw [e1]
    refine br_t (nI_le (Nat.le_refl _) (by omega)) ?_
    have e2 : tc_rs s (tc_P n) (2 ^ 0) n = tc_C s n 0 := by
      have e3 : n = (n - 1) + 1 := by omega
      have e4 : tc_rs s (tc_P n) (2 ^ 0) ((n - 1) + 1) = tc_rd s (tc_C s n 0) (tc_P n) := rfl
      rw [← e3] at e4
      rw [e4, tc_C_fix hn (by omega)]
    have cl := tc_64 hn (tc_C_lt (s := s) (u := 0) hn (by omega))
    have nl := tc_2n hn
    rw [e2, tc_full_v hn]
    by_cases z : tc_C s n 0 = 2 ^ n - 1
    · exact br_t (congrArg nI z) (h1 z)
    · exact br_f (by rw [nI_eq (by omega) (by omega)]; exact z) (h0 z)
  | succ fu ih =>
    intro j hj
    have k := ih (j + 1) (by omega)
    refine br_f (nI_ge (by omega) (by omega)) ⟨n - 1 + 1, ?_⟩
    refine tc_ycon18 hs hn (tc_rs_lt hn (tc_2u (u := 0) (by omega)) j) ?_ (n - 1) 1 (by omega)
    rw [nI_1]
    exact k
theorem tc_ycon {b : Int32} {c d f : Nat → Int32} {post : Int32 → Prop} {s n : Nat} (h2 : 1 ≤ n) (hs : s < 2 ^ 31) (hn : n < 7) (h1 : tc_C s n 0 = 2 ^ n - 1 → post 1) (h0 : ¬ tc_C s n 0 = 2 ^ n - 1 → post 0) : wpY_connects post (nI n, b, c, d, f) (nI s) := ⟨_, tc_ycon4 h2 hs hn h1 h0 n 0 (Nat.zero_add _)⟩
/-! Y's constructor -/
theorem tc_yi54 {z1 z2 : Nat → Int32} {post : SY → Prop} {n : Nat} (h2 : 2 ≤ n) (hn : n < 7) (h : ∀ H, tc_lst n (tc_cn n (2 ^ tc_P n)) H → post (nI n, nI (tc_cn n (2 ^ tc_P n)), z1, z2, H)) : ∀ (fu i : Nat) (H : Nat → Int32), i + fu = 2 ^ tc_P n → (∀ t, t < i → tc_tr n t = true → H (tc_cn n t) = nI t) → wY_init_54 post (nI n) (fu + 1) (nI i) (nI (tc_cn n i)) z1 z2 H := by
  have hN := tc_N_lt hn
  have hPl := tc_P_le n hn
  intro fu
  induction fu with
  | zero =>
    intro i H hi hH
    have e1 : i = 2 ^ tc_P n := by omega
    rw [e1] at hH ⊢
    exact ⟨tc_20, br_t (by rw [tc_yP h2 hn, tc_xN hn]; exact nI_le (Nat.le_refl _) (by omega)) (h H ⟨rfl, hH⟩)⟩
  | succ fu ih =>
    intro i H hi hH
    have hi2 : i < 2 ^ tc_P n := by omega
    have zl := tc_sz_le i (tc_P n)
    have e1 : nI n - 1 = nI (n - 1) := pk_sub (b := 1) (by omega)
    have skip : ¬ tc_tr n i = true → wY_init_54 post (nI n) (fu + 1) (nI (i + 1)) (nI (tc_cn n i)) z1 z2 H := by
      intro ht
      have k := ih (i + 1) H (by omega) (by
        intro t h1 h3
        rcases Nat.lt_or_ge t i with q | q
        · exact hH t q h3
        · have q2 : t = i := by omega
          rw [q2] at h3
          exact absurd h3 ht)
      rw [tc_cn_s, if_neg ht, Nat.add_zero] at k
      exact k
    refine ⟨tc_20, br_f (by rw [tc_yP h2 hn, tc_xN hn]; exact nI_ge (by omega) (by omega)) ?_⟩
    refine tc_ysize hn hi2 ?_
    rw [e1]
    by_cases z : tc_sz i (tc_P n) = n - 1
    · refine br_t (congrArg nI z) ?_
      refine tc_ycon (by omega) (by omega) hn (fun y => ?_) (fun y => ?_)
      · have ht : tc_tr n i = true := tc_tr_iff.mpr ⟨z, y⟩
        have rm := tc_cn_room hn hi2 ht
        refine br_f tc_10 (br_f ?_ ⟨vp_in_nI rm (by decide), ?_⟩)
        · show ¬ nI 1296 ≤ nI (tc_cn n i)
          exact nI_ge rm (by decide)
        · intro H' eH' w ew x ex
          rw [nI_clamp (by omega)] at eH'
          rw [nI_1] at ew ex
          rw [ew, ex]
          have k := ih (i + 1) H' (by omega) (by
            intro t h1 h3
            rw [eH']
            rcases Nat.lt_or_ge t i with q | q
            · have l : tc_cn n t < tc_cn n i := by
                have a : tc_cn n (t + 1) ≤ tc_cn n i := tc_S_mono (by omega)
                rw [tc_cn_s, if_pos h3] at a
                omega
              rw [pk_un (by omega)]
              exact hH t q h3
            · have q2 : t = i := by omega
              rw [q2, pk_us])
          rw [tc_cn_s, if_pos ht] at k
          exact k
      · refine br_t rfl ?_
        intro w ew
        rw [ew, nI_1]
        exact skip (fun q => y (tc_tr_iff.mp q).2)
    · refine br_f (by rw [nI_eq (by omega) (by omega)]; exact z) ?_
      intro w ew
      rw [ew, nI_1]
      exact skip (fun q => z (tc_tr_iff.mp q).1)
theorem tc_tr0 : ∀ n, 2 ≤ n → ¬ tc_tr n 0 = true := by
  intro n h2 q
  have a := (tc_tr_iff.mp q).1
  have b : tc_sz 0 (tc_P n) = 0 := by
    have c := tc_sz_ext (s := 0) (K := 0) (by decide) (tc_P n)
    rw [Nat.zero_add] at c
    exact c
  omega
theorem tc_yi {z1 z2 : Nat → Int32} {post : SY → Prop} {n : Nat} (h2 : 2 ≤ n) (hn : n < 7) (h : ∀ H, tc_lst n (tc_cn n (2 ^ tc_P n)) H → post (nI n, nI (tc_cn n (2 ^ tc_P n)), z1, z2, H)) : ∃ fu, wY_init_54 post (nI n) fu 1 0 z1 z2 (fun _ => 0) := by
  have hp := Nat.two_pow_pos (tc_P n)
  have c1 : tc_cn n 1 = 0 := by
    have c := tc_cn_s n 0
    rw [if_neg (tc_tr0 n h2)] at c
    exact c
  have k := tc_yi54 (z1 := z1) (z2 := z2) h2 hn h (2 ^ tc_P n - 1) 1 (fun _ => 0) (by omega) (by
    intro t h1 h3
    have q2 : t = 0 := by omega
    rw [q2] at h3
    exact absurd h3 (tc_tr0 n h2))
  rw [c1] at k
  exact ⟨_, k⟩
/-! X's constructor -/
theorem tc_xi82 {z1 z2 : Nat → Int32} {post : SX → Prop} {J : Int32 → (Nat → Int32) → (Nat → Int32) → (Nat → Int32) → Prop} {n g : Nat} {x2 f1 f2 f3 f4 : Int32} (hn : n < 7) (hg : g < n) (h : ∀ G, (∀ q, q < tc_P (g + 1) → G q = nI (tc_E q)) → J (nI (g + 1)) z1 z2 G) : ∀ (fu l : Nat) (G : Nat → Int32), l + fu = g → (∀ q, q < tc_P g + l → G q = nI (tc_E q)) → wX_init_82 post J x2 (nI g) f1 f2 f3 f4 (fu + 1) (nI l) z1 z2 G := by
  intro fu
  induction fu with
  | zero =>
    intro l G hl hG
    have e1 : l = g := by omega
    refine br_t (nI_le (by omega) (by omega)) ?_
    intro y ey
    rw [ey, nI_1]
    apply h
    rw [tc_P_s g (by omega)]
    rw [e1] at hG
    exact hG
  | succ fu ih =>
    intro l G hl hG
    have hp : tc_pair l g = tc_P g + l := if_pos (by omega)
    have hin := tc_pair_in n hn l (by omega) g hg (by omega)
    have hP := tc_P_le n hn
    refine br_f (nI_ge (by omega) (by omega)) ?_
    refine tc_xpairOf (by omega) (by omega) (by omega) ?_
    refine ⟨vp_in_nI (by omega) (by decide), ?_⟩
    intro G' eG w ew
    rw [tc_none (by omega), tc_none (by omega), tc_nor, nI_clamp (by omega), tc_pair_E l (by omega) g (by omega) (by omega)] at eG
    rw [ew, nI_1]
    refine ih (l + 1) G' (by omega) ?_
    intro q hq
    rw [eG]
    by_cases z : q = tc_pair l g
    · rw [z, pk_us]
    · rw [pk_un z]
      exact hG q (by omega)
theorem tc_xi74 {z1 z2 : Nat → Int32} {post : SX → Prop} {n : Nat} {f2 f3 f4 : Int32} (hn : n < 7) (h : ∀ G, (∀ q, q < tc_P n → G q = nI (tc_E q)) → post (nI n, f2, f3, f4, z1, z2, G)) : ∀ (fu g : Nat) (G : Nat → Int32), g + fu = n → (∀ q, q < tc_P g → G q = nI (tc_E q)) → wX_init_74 post (nI n) (nI n) f2 f3 f4 (fu + 1) (nI g) z1 z2 G := by
  intro fu
  induction fu with
  | zero =>
    intro g G hg hG
    have e1 : g = n := by omega
    rw [e1] at hG
    exact br_t (nI_le (by omega) (by omega)) (h G hG)
  | succ fu ih =>
    intro g G hg hG
    refine br_f (nI_ge (by omega) (by omega)) ⟨g + 1, ?_⟩
    exact tc_xi82 hn (by omega) (fun G' hG' => ih (g + 1) G' (by omega) hG') g 0 G (Nat.zero_add _) hG
theorem tc_xi56 {z1 z2 : Nat → Int32} {post : SX → Prop} {n : Nat} {f0 f1 f3 f4 : Int32} (h2 : 2 ≤ n) (hn : n < 7) (h : ∀ G, (∀ q, q < tc_P n → G q = nI (tc_E q)) → post (nI n, nI (tc_P n), f3, f4, z1, z2, G)) : wX_init_56 post (nI n) f0 f1 f3 f4 z1 z2 (fun _ => 0) := by
  refine ⟨tc_20, ?_⟩
  intro y ey
  rw [tc_yP h2 hn] at ey
  rw [ey]
  exact ⟨_, tc_xi74 hn h (n - 1) 1 (fun _ => 0) (by omega) (fun q hq => absurd hq (Nat.not_lt_zero q))⟩
