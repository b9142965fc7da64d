/-! the two degrees agree -/
theorem tc_e0_0 : (tc_E 0).testBit 0 = true := by decide
theorem tc_e1_0 : (tc_E 1).testBit 0 = true := by decide
theorem tc_e2_0 : (tc_E 2).testBit 0 = false := by decide
theorem tc_e3_0 : (tc_E 3).testBit 0 = true := by decide
theorem tc_e4_0 : (tc_E 4).testBit 0 = false := by decide
theorem tc_e5_0 : (tc_E 5).testBit 0 = false := by decide
theorem tc_e6_0 : (tc_E 6).testBit 0 = true := by decide
theorem tc_e7_0 : (tc_E 7).testBit 0 = false := by decide
theorem tc_e8_0 : (tc_E 8).testBit 0 = false := by decide
theorem tc_e9_0 : (tc_E 9).testBit 0 = false := by decide
theorem tc_e10_0 : (tc_E 10).testBit 0 = true := by decide
theorem tc_e11_0 : (tc_E 11).testBit 0 = false := by decide
theorem tc_e12_0 : (tc_E 12).testBit 0 = false := by decide
theorem tc_e13_0 : (tc_E 13).testBit 0 = false := by decide
theorem tc_e14_0 : (tc_E 14).testBit 0 = false := by decide
theorem tc_e0_1 : (tc_E 0).testBit 1 = true := by decide
theorem tc_e1_1 : (tc_E 1).testBit 1 = false := by decide
theorem tc_e2_1 : (tc_E 2).testBit 1 = true := by decide
theorem tc_e3_1 : (tc_E 3).testBit 1 = false := by decide
theorem tc_e4_1 : (tc_E 4).testBit 1 = true := by decide
theorem tc_e5_1 : (tc_E 5).testBit 1 = false := by decide
theorem tc_e6_1 : (tc_E 6).testBit 1 = false := by decide
theorem tc_e7_1 : (tc_E 7).testBit 1 = true := by decide
theorem tc_e8_1 : (tc_E 8).testBit 1 = false := by decide
theorem tc_e9_1 : (tc_E 9).testBit 1 = false := by decide
theorem tc_e10_1 : (tc_E 10).testBit 1 = false := by decide
theorem tc_e11_1 : (tc_E 11).testBit 1 = true := by decide
theorem tc_e12_1 : (tc_E 12).testBit 1 = false := by decide
theorem tc_e13_1 : (tc_E 13).testBit 1 = false := by decide
theorem tc_e14_1 : (tc_E 14).testBit 1 = false := by decide
theorem tc_e0_2 : (tc_E 0).testBit 2 = false := by decide
theorem tc_e1_2 : (tc_E 1).testBit 2 = true := by decide
theorem tc_e2_2 : (tc_E 2).testBit 2 = true := by decide
theorem tc_e3_2 : (tc_E 3).testBit 2 = false := by decide
theorem tc_e4_2 : (tc_E 4).testBit 2 = false := by decide
theorem tc_e5_2 : (tc_E 5).testBit 2 = true := by decide
theorem tc_e6_2 : (tc_E 6).testBit 2 = false := by decide
theorem tc_e7_2 : (tc_E 7).testBit 2 = false := by decide
theorem tc_e8_2 : (tc_E 8).testBit 2 = true := by decide
theorem tc_e9_2 : (tc_E 9).testBit 2 = false := by decide
theorem tc_e10_2 : (tc_E 10).testBit 2 = false := by decide
theorem tc_e11_2 : (tc_E 11).testBit 2 = false := by decide
theorem tc_e12_2 : (tc_E 12).testBit 2 = true := by decide
theorem tc_e13_2 : (tc_E 13).testBit 2 = false := by decide
theorem tc_e14_2 : (tc_E 14).testBit 2 = false := by decide
theorem tc_e0_3 : (tc_E 0).testBit 3 = false := by decide
theorem tc_e1_3 : (tc_E 1).testBit 3 = false := by decide
theorem tc_e2_3 : (tc_E 2).testBit 3 = false := by decide
theorem tc_e3_3 : (tc_E 3).testBit 3 = true := by decide
theorem tc_e4_3 : (tc_E 4).testBit 3 = true := by decide
theorem tc_e5_3 : (tc_E 5).testBit 3 = true := by decide
theorem tc_e6_3 : (tc_E 6).testBit 3 = false := by decide
theorem tc_e7_3 : (tc_E 7).testBit 3 = false := by decide
theorem tc_e8_3 : (tc_E 8).testBit 3 = false := by decide
theorem tc_e9_3 : (tc_E 9).testBit 3 = true := by decide
theorem tc_e10_3 : (tc_E 10).testBit 3 = false := by decide
theorem tc_e11_3 : (tc_E 11).testBit 3 = false := by decide
theorem tc_e12_3 : (tc_E 12).testBit 3 = false := by decide
theorem tc_e13_3 : (tc_E 13).testBit 3 = true := by decide
theorem tc_e14_3 : (tc_E 14).testBit 3 = false := by decide
theorem tc_e0_4 : (tc_E 0).testBit 4 = false := by decide
theorem tc_e1_4 : (tc_E 1).testBit 4 = false := by decide
theorem tc_e2_4 : (tc_E 2).testBit 4 = false := by decide
theorem tc_e3_4 : (tc_E 3).testBit 4 = false := by decide
theorem tc_e4_4 : (tc_E 4).testBit 4 = false := by decide
theorem tc_e5_4 : (tc_E 5).testBit 4 = false := by decide
theorem tc_e6_4 : (tc_E 6).testBit 4 = true := by decide
theorem tc_e7_4 : (tc_E 7).testBit 4 = true := by decide
theorem tc_e8_4 : (tc_E 8).testBit 4 = true := by decide
theorem tc_e9_4 : (tc_E 9).testBit 4 = true := by decide
theorem tc_e10_4 : (tc_E 10).testBit 4 = false := by decide
theorem tc_e11_4 : (tc_E 11).testBit 4 = false := by decide
theorem tc_e12_4 : (tc_E 12).testBit 4 = false := by decide
theorem tc_e13_4 : (tc_E 13).testBit 4 = false := by decide
theorem tc_e14_4 : (tc_E 14).testBit 4 = true := by decide
theorem tc_e0_5 : (tc_E 0).testBit 5 = false := by decide
theorem tc_e1_5 : (tc_E 1).testBit 5 = false := by decide
theorem tc_e2_5 : (tc_E 2).testBit 5 = false := by decide
theorem tc_e3_5 : (tc_E 3).testBit 5 = false := by decide
theorem tc_e4_5 : (tc_E 4).testBit 5 = false := by decide
theorem tc_e5_5 : (tc_E 5).testBit 5 = false := by decide
theorem tc_e6_5 : (tc_E 6).testBit 5 = false := by decide
theorem tc_e7_5 : (tc_E 7).testBit 5 = false := by decide
theorem tc_e8_5 : (tc_E 8).testBit 5 = false := by decide
theorem tc_e9_5 : (tc_E 9).testBit 5 = false := by decide
theorem tc_e10_5 : (tc_E 10).testBit 5 = true := by decide
theorem tc_e11_5 : (tc_E 11).testBit 5 = true := by decide
theorem tc_e12_5 : (tc_E 12).testBit 5 = true := by decide
theorem tc_e13_5 : (tc_E 13).testBit 5 = true := by decide
theorem tc_e14_5 : (tc_E 14).testBit 5 = true := by decide
theorem tc_q0_0 : Nat.beq 0 0 = true := rfl
theorem tc_p0_1 : tc_pair 0 1 = 0 := by decide
theorem tc_q0_1 : Nat.beq 0 1 = false := rfl
theorem tc_p0_2 : tc_pair 0 2 = 1 := by decide
theorem tc_q0_2 : Nat.beq 0 2 = false := rfl
theorem tc_p0_3 : tc_pair 0 3 = 3 := by decide
theorem tc_q0_3 : Nat.beq 0 3 = false := rfl
theorem tc_p0_4 : tc_pair 0 4 = 6 := by decide
theorem tc_q0_4 : Nat.beq 0 4 = false := rfl
theorem tc_p0_5 : tc_pair 0 5 = 10 := by decide
theorem tc_q0_5 : Nat.beq 0 5 = false := rfl
theorem tc_p1_0 : tc_pair 1 0 = 0 := by decide
theorem tc_q1_0 : Nat.beq 1 0 = false := rfl
theorem tc_q1_1 : Nat.beq 1 1 = true := rfl
theorem tc_p1_2 : tc_pair 1 2 = 2 := by decide
theorem tc_q1_2 : Nat.beq 1 2 = false := rfl
theorem tc_p1_3 : tc_pair 1 3 = 4 := by decide
theorem tc_q1_3 : Nat.beq 1 3 = false := rfl
theorem tc_p1_4 : tc_pair 1 4 = 7 := by decide
theorem tc_q1_4 : Nat.beq 1 4 = false := rfl
theorem tc_p1_5 : tc_pair 1 5 = 11 := by decide
theorem tc_q1_5 : Nat.beq 1 5 = false := rfl
theorem tc_p2_0 : tc_pair 2 0 = 1 := by decide
theorem tc_q2_0 : Nat.beq 2 0 = false := rfl
theorem tc_p2_1 : tc_pair 2 1 = 2 := by decide
theorem tc_q2_1 : Nat.beq 2 1 = false := rfl
theorem tc_q2_2 : Nat.beq 2 2 = true := rfl
theorem tc_p2_3 : tc_pair 2 3 = 5 := by decide
theorem tc_q2_3 : Nat.beq 2 3 = false := rfl
theorem tc_p2_4 : tc_pair 2 4 = 8 := by decide
theorem tc_q2_4 : Nat.beq 2 4 = false := rfl
theorem tc_p2_5 : tc_pair 2 5 = 12 := by decide
theorem tc_q2_5 : Nat.beq 2 5 = false := rfl
theorem tc_p3_0 : tc_pair 3 0 = 3 := by decide
theorem tc_q3_0 : Nat.beq 3 0 = false := rfl
theorem tc_p3_1 : tc_pair 3 1 = 4 := by decide
theorem tc_q3_1 : Nat.beq 3 1 = false := rfl
theorem tc_p3_2 : tc_pair 3 2 = 5 := by decide
theorem tc_q3_2 : Nat.beq 3 2 = false := rfl
theorem tc_q3_3 : Nat.beq 3 3 = true := rfl
theorem tc_p3_4 : tc_pair 3 4 = 9 := by decide
theorem tc_q3_4 : Nat.beq 3 4 = false := rfl
theorem tc_p3_5 : tc_pair 3 5 = 13 := by decide
theorem tc_q3_5 : Nat.beq 3 5 = false := rfl
theorem tc_p4_0 : tc_pair 4 0 = 6 := by decide
theorem tc_q4_0 : Nat.beq 4 0 = false := rfl
theorem tc_p4_1 : tc_pair 4 1 = 7 := by decide
theorem tc_q4_1 : Nat.beq 4 1 = false := rfl
theorem tc_p4_2 : tc_pair 4 2 = 8 := by decide
theorem tc_q4_2 : Nat.beq 4 2 = false := rfl
theorem tc_p4_3 : tc_pair 4 3 = 9 := by decide
theorem tc_q4_3 : Nat.beq 4 3 = false := rfl
theorem tc_q4_4 : Nat.beq 4 4 = true := rfl
theorem tc_p4_5 : tc_pair 4 5 = 14 := by decide
theorem tc_q4_5 : Nat.beq 4 5 = false := rfl
theorem tc_p5_0 : tc_pair 5 0 = 10 := by decide
theorem tc_q5_0 : Nat.beq 5 0 = false := rfl
theorem tc_p5_1 : tc_pair 5 1 = 11 := by decide
theorem tc_q5_1 : Nat.beq 5 1 = false := rfl
theorem tc_p5_2 : tc_pair 5 2 = 12 := by decide
theorem tc_q5_2 : Nat.beq 5 2 = false := rfl
theorem tc_p5_3 : tc_pair 5 3 = 13 := by decide
theorem tc_q5_3 : Nat.beq 5 3 = false := rfl
theorem tc_p5_4 : tc_pair 5 4 = 14 := by decide
theorem tc_q5_4 : Nat.beq 5 4 = false := rfl
theorem tc_q5_5 : Nat.beq 5 5 = true := rfl
theorem tc_deg2_0 (s : Nat) : tc_dz s 0 1 = tc_dy s 0 2 := by
  simp only [tc_dz, tc_dy, tc_e0_0, tc_p1_0, tc_q0_0, tc_q1_0, cond_true, cond_false, Nat.add_zero, Nat.zero_add]
theorem tc_deg2_1 (s : Nat) : tc_dz s 1 1 = tc_dy s 1 2 := by
  simp only [tc_dz, tc_dy, tc_e0_1, tc_p0_1, tc_q0_1, tc_q1_1, cond_true, cond_false, Nat.add_zero, Nat.zero_add]
theorem tc_deg3_0 (s : Nat) : tc_dz s 0 3 = tc_dy s 0 3 := by
  simp only [tc_dz, tc_dy, tc_e0_0, tc_e1_0, tc_e2_0, tc_p1_0, tc_p2_0, tc_q0_0, tc_q1_0, tc_q2_0, cond_true, cond_false, Nat.add_zero, Nat.zero_add]
theorem tc_deg3_1 (s : Nat) : tc_dz s 1 3 = tc_dy s 1 3 := by
  simp only [tc_dz, tc_dy, tc_e0_1, tc_e1_1, tc_e2_1, tc_p0_1, tc_p2_1, tc_q0_1, tc_q1_1, tc_q2_1, cond_true, cond_false, Nat.add_zero, Nat.zero_add]
theorem tc_deg3_2 (s : Nat) : tc_dz s 2 3 = tc_dy s 2 3 := by
  simp only [tc_dz, tc_dy, tc_e0_2, tc_e1_2, tc_e2_2, tc_p0_2, tc_p1_2, tc_q0_2, tc_q1_2, tc_q2_2, cond_true, cond_false, Nat.add_zero, Nat.zero_add]
theorem tc_deg4_0 (s : Nat) : tc_dz s 0 6 = tc_dy s 0 4 := by
  simp only [tc_dz, tc_dy, tc_e0_0, tc_e1_0, tc_e2_0, tc_e3_0, tc_e4_0, tc_e5_0, tc_p1_0, tc_p2_0, tc_p3_0, tc_q0_0, tc_q1_0, tc_q2_0, tc_q3_0, cond_true, cond_false, Nat.add_zero, Nat.zero_add]
theorem tc_deg4_1 (s : Nat) : tc_dz s 1 6 = tc_dy s 1 4 := by
  simp only [tc_dz, tc_dy, tc_e0_1, tc_e1_1, tc_e2_1, tc_e3_1, tc_e4_1, tc_e5_1, tc_p0_1, tc_p2_1, tc_p3_1, tc_q0_1, tc_q1_1, tc_q2_1, tc_q3_1, cond_true, cond_false, Nat.add_zero, Nat.zero_add]
theorem tc_deg4_2 (s : Nat) : tc_dz s 2 6 = tc_dy s 2 4 := by
  simp only [tc_dz, tc_dy, tc_e0_2, tc_e1_2, tc_e2_2, tc_e3_2, tc_e4_2, tc_e5_2, tc_p0_2, tc_p1_2, tc_p3_2, tc_q0_2, tc_q1_2, tc_q2_2, tc_q3_2, cond_true, cond_false, Nat.add_zero, Nat.zero_add]
theorem tc_deg4_3 (s : Nat) : tc_dz s 3 6 = tc_dy s 3 4 := by
  simp only [tc_dz, tc_dy, tc_e0_3, tc_e1_3, tc_e2_3, tc_e3_3, tc_e4_3, tc_e5_3, tc_p0_3, tc_p1_3, tc_p2_3, tc_q0_3, tc_q1_3, tc_q2_3, tc_q3_3, cond_true, cond_false, Nat.add_zero, Nat.zero_add]
theorem tc_deg5_0 (s : Nat) : tc_dz s 0 10 = tc_dy s 0 5 := by
  simp only [tc_dz, tc_dy, tc_e0_0, tc_e1_0, tc_e2_0, tc_e3_0, tc_e4_0, tc_e5_0, tc_e6_0, tc_e7_0, tc_e8_0, tc_e9_0, tc_p1_0, tc_p2_0, tc_p3_0, tc_p4_0, tc_q0_0, tc_q1_0, tc_q2_0, tc_q3_0, tc_q4_0, cond_true, cond_false, Nat.add_zero, Nat.zero_add]
theorem tc_deg5_1 (s : Nat) : tc_dz s 1 10 = tc_dy s 1 5 := by
  simp only [tc_dz, tc_dy, tc_e0_1, tc_e1_1, tc_e2_1, tc_e3_1, tc_e4_1, tc_e5_1, tc_e6_1, tc_e7_1, tc_e8_1, tc_e9_1, tc_p0_1, tc_p2_1, tc_p3_1, tc_p4_1, tc_q0_1, tc_q1_1, tc_q2_1, tc_q3_1, tc_q4_1, cond_true, cond_false, Nat.add_zero, Nat.zero_add]
theorem tc_deg5_2 (s : Nat) : tc_dz s 2 10 = tc_dy s 2 5 := by
  simp only [tc_dz, tc_dy, tc_e0_2, tc_e1_2, tc_e2_2, tc_e3_2, tc_e4_2, tc_e5_2, tc_e6_2, tc_e7_2, tc_e8_2, tc_e9_2, tc_p0_2, tc_p1_2, tc_p3_2, tc_p4_2, tc_q0_2, tc_q1_2, tc_q2_2, tc_q3_2, tc_q4_2, cond_true, cond_false, Nat.add_zero, Nat.zero_add]
theorem tc_deg5_3 (s : Nat) : tc_dz s 3 10 = tc_dy s 3 5 := by
  simp only [tc_dz, tc_dy, tc_e0_3, tc_e1_3, tc_e2_3, tc_e3_3, tc_e4_3, tc_e5_3, tc_e6_3, tc_e7_3, tc_e8_3, tc_e9_3, tc_p0_3, tc_p1_3, tc_p2_3, tc_p4_3, tc_q0_3, tc_q1_3, tc_q2_3, tc_q3_3, tc_q4_3, cond_true, cond_false, Nat.add_zero, Nat.zero_add]
theorem tc_deg5_4 (s : Nat) : tc_dz s 4 10 = tc_dy s 4 5 := by
  simp only [tc_dz, tc_dy, tc_e0_4, tc_e1_4, tc_e2_4, tc_e3_4, tc_e4_4, tc_e5_4, tc_e6_4, tc_e7_4, tc_e8_4, tc_e9_4, tc_p0_4, tc_p1_4, tc_p2_4, tc_p3_4, tc_q0_4, tc_q1_4, tc_q2_4, tc_q3_4, tc_q4_4, cond_true, cond_false, Nat.add_zero, Nat.zero_add]
theorem tc_deg6_0 (s : Nat) : tc_dz s 0 15 = tc_dy s 0 6 := by
  simp only [tc_dz, tc_dy, tc_e0_0, tc_e1_0, tc_e2_0, tc_e3_0, tc_e4_0, tc_e5_0, tc_e6_0, tc_e7_0, tc_e8_0, tc_e9_0, tc_e10_0, tc_e11_0, tc_e12_0, tc_e13_0, tc_e14_0, tc_p1_0, tc_p2_0, tc_p3_0, tc_p4_0, tc_p5_0, tc_q0_0, tc_q1_0, tc_q2_0, tc_q3_0, tc_q4_0, tc_q5_0, cond_true, cond_false, Nat.add_zero, Nat.zero_add]
theorem tc_deg6_1 (s : Nat) : tc_dz s 1 15 = tc_dy s 1 6 := by
  simp only [tc_dz, tc_dy, tc_e0_1, tc_e1_1, tc_e2_1, tc_e3_1, tc_e4_1, tc_e5_1, tc_e6_1, tc_e7_1, tc_e8_1, tc_e9_1, tc_e10_1, tc_e11_1, tc_e12_1, tc_e13_1, tc_e14_1, tc_p0_1, tc_p2_1, tc_p3_1, tc_p4_1, tc_p5_1, tc_q0_1, tc_q1_1, tc_q2_1, tc_q3_1, tc_q4_1, tc_q5_1, cond_true, cond_false, Nat.add_zero, Nat.zero_add]
theorem tc_deg6_2 (s : Nat) : tc_dz s 2 15 = tc_dy s 2 6 := by
  simp only [tc_dz, tc_dy, tc_e0_2, tc_e1_2, tc_e2_2, tc_e3_2, tc_e4_2, tc_e5_2, tc_e6_2, tc_e7_2, tc_e8_2, tc_e9_2, tc_e10_2, tc_e11_2, tc_e12_2, tc_e13_2, tc_e14_2, tc_p0_2, tc_p1_2, tc_p3_2, tc_p4_2, tc_p5_2, tc_q0_2, tc_q1_2, tc_q2_2, tc_q3_2, tc_q4_2, tc_q5_2, cond_true, cond_false, Nat.add_zero, Nat.zero_add]
theorem tc_deg6_3 (s : Nat) : tc_dz s 3 15 = tc_dy s 3 6 := by
  simp only [tc_dz, tc_dy, tc_e0_3, tc_e1_3, tc_e2_3, tc_e3_3, tc_e4_3, tc_e5_3, tc_e6_3, tc_e7_3, tc_e8_3, tc_e9_3, tc_e10_3, tc_e11_3, tc_e12_3, tc_e13_3, tc_e14_3, tc_p0_3, tc_p1_3, tc_p2_3, tc_p4_3, tc_p5_3, tc_q0_3, tc_q1_3, tc_q2_3, tc_q3_3, tc_q4_3, tc_q5_3, cond_true, cond_false, Nat.add_zero, Nat.zero_add]
theorem tc_deg6_4 (s : Nat) : tc_dz s 4 15 = tc_dy s 4 6 := by
  simp only [tc_dz, tc_dy, tc_e0_4, tc_e1_4, tc_e2_4, tc_e3_4, tc_e4_4, tc_e5_4, tc_e6_4, tc_e7_4, tc_e8_4, tc_e9_4, tc_e10_4, tc_e11_4, tc_e12_4, tc_e13_4, tc_e14_4, tc_p0_4, tc_p1_4, tc_p2_4, tc_p3_4, tc_p5_4, tc_q0_4, tc_q1_4, tc_q2_4, tc_q3_4, tc_q4_4, tc_q5_4, cond_true, cond_false, Nat.add_zero, Nat.zero_add]
theorem tc_deg6_5 (s : Nat) : tc_dz s 5 15 = tc_dy s 5 6 := by
  simp only [tc_dz, tc_dy, tc_e0_5, tc_e1_5, tc_e2_5, tc_e3_5, tc_e4_5, tc_e5_5, tc_e6_5, tc_e7_5, tc_e8_5, tc_e9_5, tc_e10_5, tc_e11_5, tc_e12_5, tc_e13_5, tc_e14_5, tc_p0_5, tc_p1_5, tc_p2_5, tc_p3_5, tc_p4_5, tc_q0_5, tc_q1_5, tc_q2_5, tc_q3_5, tc_q4_5, tc_q5_5, cond_true, cond_false, Nat.add_zero, Nat.zero_add]
theorem tc_deg {n v : Nat} (s : Nat) (h2 : 2 ≤ n) (hn : n < 7) (hv : v < n) : tc_dx s v (tc_P n) = tc_dy s v n := by
  rw [tc_dx_dz]
  have c : n = 2 ∨ n = 3 ∨ n = 4 ∨ n = 5 ∨ n = 6 := by omega
  rcases c with rfl | rfl | rfl | rfl | rfl
  · rcases (by omega : v = 0 ∨ v = 1) with rfl | rfl
    · exact tc_deg2_0 s
    · exact tc_deg2_1 s
  · rcases (by omega : v = 0 ∨ v = 1 ∨ v = 2) with rfl | rfl | rfl
    · exact tc_deg3_0 s
    · exact tc_deg3_1 s
    · exact tc_deg3_2 s
  · rcases (by omega : v = 0 ∨ v = 1 ∨ v = 2 ∨ v = 3) with rfl | rfl | rfl | rfl
    · exact tc_deg4_0 s
    · exact tc_deg4_1 s
    · exact tc_deg4_2 s
    · exact tc_deg4_3 s
  · rcases (by omega : v = 0 ∨ v = 1 ∨ v = 2 ∨ v = 3 ∨ v = 4) with rfl | rfl | rfl | rfl | rfl
    · exact tc_deg5_0 s
    · exact tc_deg5_1 s
    · exact tc_deg5_2 s
    · exact tc_deg5_3 s
    · exact tc_deg5_4 s
  · rcases (by omega : v = 0 ∨ v = 1 ∨ v = 2 ∨ v = 3 ∨ v = 4 ∨ v = 5) with rfl | rfl | rfl | rfl | rfl | rfl
    · exact tc_deg6_0 s
    · exact tc_deg6_1 s
    · exact tc_deg6_2 s
    · exact tc_deg6_3 s
    · exact tc_deg6_4 s
    · exact tc_deg6_5 s
/-! totals over the trees that hold a mask -/
def tc_TT (n : Nat) (W : Nat → Nat) (q : Nat) : Nat := tc_S (fun s => if tc_tr n s = true then (if s &&& q = q then W s else 0) else 0) (2 ^ tc_P n)
theorem tc_TT_le {n : Nat} {W : Nat → Nat} (hn : n < 7) (hW : ∀ s, tc_tr n s = true → W s ≤ 243) (q : Nat) : tc_TT n W q ≤ 314928 := by
  have a : tc_TT n W q ≤ tc_S (fun s => (if tc_tr n s = true then 1 else 0) * 243) (2 ^ tc_P n) := by
    apply tc_S_le
    intro s _
    show (if tc_tr n s = true then (if s &&& q = q then W s else 0) else 0) ≤ (if tc_tr n s = true then 1 else 0) * 243
    by_cases h : tc_tr n s = true
    · rw [if_pos h, if_pos h]
      have := hW s h
      split <;> omega
    · rw [if_neg h, if_neg h]
      exact Nat.zero_le _
  rw [tc_S_mul] at a
  have b : tc_S (fun s => if tc_tr n s = true then 1 else 0) (2 ^ tc_P n) ≤ 1296 := tc_cn_le hn
  omega
theorem tc_TT_in {n : Nat} {W : Nat → Nat} {q s : Nat} (h : tc_TT n W q = 0) (hs : s < 2 ^ tc_P n) (ht : tc_tr n s = true) (hq : s &&& q = q) : W s = 0 := by
  have z : (if tc_tr n s = true then (if s &&& q = q then W s else 0) else 0) = 0 := tc_S_eq0 _ h s hs
  rw [if_pos ht, if_pos hq] at z
  exact z
theorem tc_TT_0 {n : Nat} {W : Nat → Nat} {q : Nat} (h : ∀ s, s < 2 ^ tc_P n → tc_tr n s = true → s &&& q = q → W s = 0) : tc_TT n W q = 0 := by
  apply tc_S_zero
  intro s hs
  show (if tc_tr n s = true then (if s &&& q = q then W s else 0) else 0) = 0
  by_cases a : tc_tr n s = true
  · rw [if_pos a]
    by_cases b : s &&& q = q
    · rw [if_pos b]; exact h s hs a b
    · rw [if_neg b]
  · rw [if_neg a]
theorem tc_TT_sub {n : Nat} {W : Nat → Nat} (p : Nat) : tc_TT n W 0 = tc_TT n W (2 ^ p) + tc_S (fun s => if tc_tr n s = true then (if s.testBit p = true then 0 else W s) else 0) (2 ^ tc_P n) := by
  unfold tc_TT
  rw [← tc_S_plus]
  apply tc_S_congr
  intro s _
  show (if tc_tr n s = true then (if s &&& 0 = 0 then W s else 0) else 0) = (if tc_tr n s = true then (if s &&& 2 ^ p = 2 ^ p then W s else 0) else 0) + (if tc_tr n s = true then (if s.testBit p = true then 0 else W s) else 0)
  by_cases a : tc_tr n s = true
  · rw [if_pos a, if_pos a, if_pos a, if_pos (Nat.and_zero s)]
    by_cases b : s.testBit p = true
    · rw [if_pos b, if_pos ((tc_and_pow s p).mpr b)] <;> rfl
    · rw [if_neg b, if_neg (fun z => b ((tc_and_pow s p).mp z)), Nat.zero_add]
  · rw [if_neg a, if_neg a, if_neg a]
theorem tc_TT_eq {n : Nat} {W : Nat → Nat} {p : Nat} : tc_TT n W (2 ^ p) = tc_TT n W 0 ↔ ∀ s, s < 2 ^ tc_P n → tc_tr n s = true → s.testBit p = false → W s = 0 := by
  have e := tc_TT_sub (n := n) (W := W) p
  constructor
  · intro h s hs ht hb
    have z := tc_S_eq0 (f := fun s => if tc_tr n s = true then (if s.testBit p = true then 0 else W s) else 0) (2 ^ tc_P n) (by omega) s hs
    have z' : (if tc_tr n s = true then (if s.testBit p = true then 0 else W s) else 0) = 0 := z
    rw [if_pos ht, if_neg (by rw [hb]; decide)] at z'
    exact z'
  · intro h
    have y : tc_S (fun s => if tc_tr n s = true then (if s.testBit p = true then 0 else W s) else 0) (2 ^ tc_P n) = 0 := by
      apply tc_S_zero
      intro s hs
      show (if tc_tr n s = true then (if s.testBit p = true then 0 else W s) else 0) = 0
      by_cases a : tc_tr n s = true
      · rw [if_pos a]
        cases b : s.testBit p
        · rw [if_neg (by decide)]; exact h s hs a b
        · rw [if_pos rfl]
      · rw [if_neg a]
    omega
