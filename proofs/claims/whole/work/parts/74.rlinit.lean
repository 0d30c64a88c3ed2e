/-! the class's constructor -/
/-- what a new object of the class is -/
def RS (h : mr_h) (E K : Nat → Int32) (F G : Nat → Option Nat) : Prop := h.1 0 = RLO ∧ ((∀ u, u < 12 → E u = 0) ∧ (∀ u, u < 4 → K u = nI u) ∧ h.1 1 = NE 1 4 ∧ h.1 2 = mr_I 12 E ∧ h.1 3 = mr_I 12 K ∧ DV h E K 4) ∧ nshp h 4 ∧ (h.1 7 = SC 0 0 0 (-2) 0 0 ∧ h.1 8 = mr_I 120 (fun _ => 0)) ∧ isI (h.1 17) 12 ∧ (h.1 18 = mr_O 5 [.ref 19] ∧ isI (h.1 19) 12) ∧ (h.1 20 = mr_O 9 [.ref 21] ∧ isI (h.1 21) 12) ∧ (h.1 22 = mr_O 2 [.ref 23] ∧ isI (h.1 23) 12) ∧ (h.1 24 = mr_O 1 [.long 0, .long 1, .ref 25, .ref 26, .ref 27, .int 0] ∧ isI (h.1 25) 9 ∧ isI (h.1 26) 9 ∧ ∃ A, h.1 27 = mr_J 10 A) ∧ (h.1 28 = mr_O 8 [.int 0, .ref 29, .ref 30, .ref 31, .ref 32, .int 0] ∧ isI (h.1 29) 6 ∧ isI (h.1 30) 6 ∧ isI (h.1 31) 6 ∧ isI (h.1 32) 12) ∧ (h.1 33 = mr_O 4 [.int 0, .ref 34] ∧ h.1 34 = mr_A 10 F ∧ (∀ i, i < 10 → F i = some (35 + 3 * i)) ∧ ∀ i, i < 10 → nshp h (35 + 3 * i)) ∧ (h.1 65 = mr_O 0 [.ref 66, .ref 67] ∧ h.1 66 = mr_A 2 G ∧ (∀ i, i < 2 → G i = some (68 + 3 * i)) ∧ (∀ i, 2 ≤ i → G i = none) ∧ h.1 67 = mr_Z 2 (fun _ => 0) ∧ ∀ i, i < 2 → nshp h (68 + 3 * i))
theorem nshp_ag {h h2 : mr_h} {a : Nat} (s : nshp h a) (e : ∀ x, a ≤ x → x < a + 3 → h2.1 x = h.1 x) : nshp h2 a := by
  obtain ⟨x, A, B, q1, q2, q3⟩ := s
  exact ⟨x, A, B, (e a (by omega) (by omega)).trans q1, (e (a + 1) (by omega) (by omega)).trans q2, (e (a + 2) (by omega) (by omega)).trans q3⟩
section RLINIT
variable {h : mr_h} {Q : Option Value → mr_h → Prop}
theorem nt_0 {E : Nat → Int32} (h : ∀ u, u < 12 → E u = 0) : nt E 4 := ⟨by decide, fun u hu v hv => by
  rw [h u (by omega), b_0] at hv
  exact absurd hv (by decide)⟩
theorem q_rl_init (ea : h.1 0 = mr_O 10 (mr_dfs 10)) (hc : h.2.1 = 1) (kk : ∀ h2 E K F G, h2.2.1 = 74 → h2.2.2.1 = h.2.2.1 + 738 → h2.2.2.2 = h.2.2.2 → RS h2 E K F G → Q none h2) : mr_run 0 [.ref 0] h Q := by
  rw [df_10] at ea
  rw [r_rl_init]
  simp only [S_rl_init_0, S_rl_init_1, SEL, PF, mr_gf_O, mr_rc_O, Option.toList_some, Option.toList_none, List.cons_append, List.nil_append, b2i_0, b2i_1, b2i_a, a_00, a_11, ai_n, si_n, nI_1, q_rl_bit, mr_up_at, Nat.reduceLeDiff, Nat.reduceLT, Nat.reduceEqDiff, Nat.reduceAdd, if_true, if_false, Bool.true_eq_false, Bool.false_eq_true, Bool.true_and, Bool.false_and, Bool.and_true, Bool.and_false, i_10, i_01, i_00, not_true_eq_false, not_false_eq_true, PFI, hc]
  have z0 : h.1 0 = mr_O 10 [.null, .null, .null, .null, .null, .null, .null, .null, .null, .null, .null] := ea
  have c0 := hc
  refine q_ne_init (h := mr_add h 3 (mr_O 3 (mr_dfs 3))) (a := 1) (by rw [ad_at, if_pos c0.symm]) (by rw [ad_n, c0]) ?_
  intro k0 g0 fn0
  have a0 : ∀ x, x < 1 → k0.1 x = h.1 x := fun x hx => (g0.2.2.2 x (by omega) (by omega)).trans (by rw [ad_at, if_neg (by omega)])
  have y0 : k0.1 0 = mr_O 10 [.null, .null, .null, .null, .null, .null, .null, .null, .null, .null, .null] := (a0 0 (by decide)).trans z0
  have n0 : k0.2.1 = 4 := g0.1
  have s0_ : k0.2.2.1 = h.2.2.1 + 3 + 24 := g0.2.1
  have t0 : k0.2.2.2 = h.2.2.2 := g0.2.2.1
  simp only [S_rl_init_0, S_rl_init_1, SEL, PF, mr_gf_O, mr_rc_O, Option.toList_some, Option.toList_none, List.cons_append, List.nil_append, b2i_0, b2i_1, b2i_a, a_00, a_11, ai_n, si_n, nI_1, q_rl_bit, mr_up_at, Nat.reduceLeDiff, Nat.reduceLT, Nat.reduceEqDiff, Nat.reduceAdd, if_true, if_false, Bool.true_eq_false, Bool.false_eq_true, Bool.true_and, Bool.false_and, Bool.and_true, Bool.and_false, i_10, i_01, i_00, not_true_eq_false, not_false_eq_true, PFI, y0, mr_up_2, n0]
  generalize hh0 : mr_up k0 0 (mr_O 10 [.ref 1, .null, .null, .null, .null, .null, .null, .null, .null, .null, .null]) = h1
  have z1 : h1.1 0 = mr_O 10 [.ref 1, .null, .null, .null, .null, .null, .null, .null, .null, .null, .null] := by rw [← hh0]; exact up_eq _ _ _
  have u0 : ∀ x, 1 ≤ x → h1.1 x = k0.1 x := fun x hx => by rw [← hh0, mr_up_at, if_neg (by omega)]
  have e0 : h1.2 = k0.2 := by rw [← hh0]; rfl
  have c1 : h1.2.1 = 4 := by rw [e0]; exact n0
  refine q_ne_init (h := mr_add h1 3 (mr_O 3 (mr_dfs 3))) (a := 4) (by rw [ad_at, if_pos c1.symm]) (by rw [ad_n, c1]) ?_
  intro k1 g1 fn1
  have a1 : ∀ x, x < 4 → k1.1 x = h1.1 x := fun x hx => (g1.2.2.2 x (by omega) (by omega)).trans (by rw [ad_at, if_neg (by omega)])
  have y1 : k1.1 0 = mr_O 10 [.ref 1, .null, .null, .null, .null, .null, .null, .null, .null, .null, .null] := (a1 0 (by decide)).trans z1
  have n1 : k1.2.1 = 7 := g1.1
  have s1_ : k1.2.2.1 = h1.2.2.1 + 3 + 24 := g1.2.1
  have t1 : k1.2.2.2 = h1.2.2.2 := g1.2.2.1
  simp only [S_rl_init_0, S_rl_init_1, SEL, PF, mr_gf_O, mr_rc_O, Option.toList_some, Option.toList_none, List.cons_append, List.nil_append, b2i_0, b2i_1, b2i_a, a_00, a_11, ai_n, si_n, nI_1, q_rl_bit, mr_up_at, Nat.reduceLeDiff, Nat.reduceLT, Nat.reduceEqDiff, Nat.reduceAdd, if_true, if_false, Bool.true_eq_false, Bool.false_eq_true, Bool.true_and, Bool.false_and, Bool.and_true, Bool.and_false, i_10, i_01, i_00, not_true_eq_false, not_false_eq_true, PFI, y1, mr_up_2, n1]
  generalize hh1 : mr_up k1 0 (mr_O 10 [.ref 1, .ref 4, .null, .null, .null, .null, .null, .null, .null, .null, .null]) = h2
  have z2 : h2.1 0 = mr_O 10 [.ref 1, .ref 4, .null, .null, .null, .null, .null, .null, .null, .null, .null] := by rw [← hh1]; exact up_eq _ _ _
  have u1 : ∀ x, 1 ≤ x → h2.1 x = k1.1 x := fun x hx => by rw [← hh1, mr_up_at, if_neg (by omega)]
  have e1 : h2.2 = k1.2 := by rw [← hh1]; rfl
  have c2 : h2.2.1 = 7 := by rw [e1]; exact n1
  refine q_sc_init (h := mr_add h2 7 (mr_O 7 (mr_dfs 7))) (by rw [ad_at, if_pos c2.symm]) (by rw [ad_n, c2]) ?_
  intro k2 g2 s7 s8
  have a2 : ∀ x, x < 7 → k2.1 x = h2.1 x := fun x hx => (g2.2.2.2 x (by omega) (by omega)).trans (by rw [ad_at, if_neg (by omega)])
  have y2 : k2.1 0 = mr_O 10 [.ref 1, .ref 4, .null, .null, .null, .null, .null, .null, .null, .null, .null] := (a2 0 (by decide)).trans z2
  have n2 : k2.2.1 = 9 := g2.1
  have s2_ : k2.2.2.1 = h2.2.2.1 + 7 + 120 := g2.2.1
  have t2 : k2.2.2.2 = h2.2.2.2 := g2.2.2.1
  simp only [S_rl_init_0, S_rl_init_1, SEL, PF, mr_gf_O, mr_rc_O, Option.toList_some, Option.toList_none, List.cons_append, List.nil_append, b2i_0, b2i_1, b2i_a, a_00, a_11, ai_n, si_n, nI_1, q_rl_bit, mr_up_at, Nat.reduceLeDiff, Nat.reduceLT, Nat.reduceEqDiff, Nat.reduceAdd, if_true, if_false, Bool.true_eq_false, Bool.false_eq_true, Bool.true_and, Bool.false_and, Bool.and_true, Bool.and_false, i_10, i_01, i_00, not_true_eq_false, not_false_eq_true, PFI, y2, mr_up_2, n2]
  generalize hh2 : mr_up k2 0 (mr_O 10 [.ref 1, .ref 4, .ref 7, .null, .null, .null, .null, .null, .null, .null, .null]) = h3
  have z3 : h3.1 0 = mr_O 10 [.ref 1, .ref 4, .ref 7, .null, .null, .null, .null, .null, .null, .null, .null] := by rw [← hh2]; exact up_eq _ _ _
  have u2 : ∀ x, 1 ≤ x → h3.1 x = k2.1 x := fun x hx => by rw [← hh2, mr_up_at, if_neg (by omega)]
  have e2 : h3.2 = k2.2 := by rw [← hh2]; rfl
  have c3 : h3.2.1 = 9 := by rw [e2]; exact n2
  refine q_re_init (h := mr_add h3 10 (mr_O 6 (mr_dfs 6))) (by rw [ad_at, if_pos c3.symm]) (by rw [ad_n, c3]) ?_
  intro k3 g3 r9 r10 r11 r12 r13 r14 r15 r16 r17
  have a3 : ∀ x, x < 9 → k3.1 x = h3.1 x := fun x hx => (g3.2.2.2 x (by omega) (by omega)).trans (by rw [ad_at, if_neg (by omega)])
  have y3 : k3.1 0 = mr_O 10 [.ref 1, .ref 4, .ref 7, .null, .null, .null, .null, .null, .null, .null, .null] := (a3 0 (by decide)).trans z3
  have n3 : k3.2.1 = 18 := g3.1
  have s3_ : k3.2.2.1 = h3.2.2.1 + 10 + 96 := g3.2.1
  have t3 : k3.2.2.2 = h3.2.2.2 := g3.2.2.1
  simp only [S_rl_init_0, S_rl_init_1, SEL, PF, mr_gf_O, mr_rc_O, Option.toList_some, Option.toList_none, List.cons_append, List.nil_append, b2i_0, b2i_1, b2i_a, a_00, a_11, ai_n, si_n, nI_1, q_rl_bit, mr_up_at, Nat.reduceLeDiff, Nat.reduceLT, Nat.reduceEqDiff, Nat.reduceAdd, if_true, if_false, Bool.true_eq_false, Bool.false_eq_true, Bool.true_and, Bool.false_and, Bool.and_true, Bool.and_false, i_10, i_01, i_00, not_true_eq_false, not_false_eq_true, PFI, y3, mr_up_2, n3]
  generalize hh3 : mr_up k3 0 (mr_O 10 [.ref 1, .ref 4, .ref 7, .ref 9, .null, .null, .null, .null, .null, .null, .null]) = h4
  have z4 : h4.1 0 = mr_O 10 [.ref 1, .ref 4, .ref 7, .ref 9, .null, .null, .null, .null, .null, .null, .null] := by rw [← hh3]; exact up_eq _ _ _
  have u3 : ∀ x, 1 ≤ x → h4.1 x = k3.1 x := fun x hx => by rw [← hh3, mr_up_at, if_neg (by omega)]
  have e3 : h4.2 = k3.2 := by rw [← hh3]; rfl
  have c4 : h4.2.1 = 18 := by rw [e3]; exact n3
  refine q_ra_init (h := mr_add h4 1 (mr_O 5 (mr_dfs 5))) (by rw [ad_at, if_pos c4.symm]) (by rw [ad_n, c4]) ?_
  intro k4 g4 q18 q19
  have a4 : ∀ x, x < 18 → k4.1 x = h4.1 x := fun x hx => (g4.2.2.2 x (by omega) (by omega)).trans (by rw [ad_at, if_neg (by omega)])
  have y4 : k4.1 0 = mr_O 10 [.ref 1, .ref 4, .ref 7, .ref 9, .null, .null, .null, .null, .null, .null, .null] := (a4 0 (by decide)).trans z4
  have n4 : k4.2.1 = 20 := g4.1
  have s4_ : k4.2.2.1 = h4.2.2.1 + 1 + 12 := g4.2.1
  have t4 : k4.2.2.2 = h4.2.2.2 := g4.2.2.1
  simp only [S_rl_init_0, S_rl_init_1, SEL, PF, mr_gf_O, mr_rc_O, Option.toList_some, Option.toList_none, List.cons_append, List.nil_append, b2i_0, b2i_1, b2i_a, a_00, a_11, ai_n, si_n, nI_1, q_rl_bit, mr_up_at, Nat.reduceLeDiff, Nat.reduceLT, Nat.reduceEqDiff, Nat.reduceAdd, if_true, if_false, Bool.true_eq_false, Bool.false_eq_true, Bool.true_and, Bool.false_and, Bool.and_true, Bool.and_false, i_10, i_01, i_00, not_true_eq_false, not_false_eq_true, PFI, y4, mr_up_2, n4]
  generalize hh4 : mr_up k4 0 (mr_O 10 [.ref 1, .ref 4, .ref 7, .ref 9, .ref 18, .null, .null, .null, .null, .null, .null]) = h5
  have z5 : h5.1 0 = mr_O 10 [.ref 1, .ref 4, .ref 7, .ref 9, .ref 18, .null, .null, .null, .null, .null, .null] := by rw [← hh4]; exact up_eq _ _ _
  have u4 : ∀ x, 1 ≤ x → h5.1 x = k4.1 x := fun x hx => by rw [← hh4, mr_up_at, if_neg (by omega)]
  have e4 : h5.2 = k4.2 := by rw [← hh4]; rfl
  have c5 : h5.2.1 = 20 := by rw [e4]; exact n4
  refine q_wa_init (h := mr_add h5 1 (mr_O 9 (mr_dfs 9))) (by rw [ad_at, if_pos c5.symm]) (by rw [ad_n, c5]) ?_
  intro k5 g5 q20 q21
  have a5 : ∀ x, x < 20 → k5.1 x = h5.1 x := fun x hx => (g5.2.2.2 x (by omega) (by omega)).trans (by rw [ad_at, if_neg (by omega)])
  have y5 : k5.1 0 = mr_O 10 [.ref 1, .ref 4, .ref 7, .ref 9, .ref 18, .null, .null, .null, .null, .null, .null] := (a5 0 (by decide)).trans z5
  have n5 : k5.2.1 = 22 := g5.1
  have s5_ : k5.2.2.1 = h5.2.2.1 + 1 + 12 := g5.2.1
  have t5 : k5.2.2.2 = h5.2.2.2 := g5.2.2.1
  simp only [S_rl_init_0, S_rl_init_1, SEL, PF, mr_gf_O, mr_rc_O, Option.toList_some, Option.toList_none, List.cons_append, List.nil_append, b2i_0, b2i_1, b2i_a, a_00, a_11, ai_n, si_n, nI_1, q_rl_bit, mr_up_at, Nat.reduceLeDiff, Nat.reduceLT, Nat.reduceEqDiff, Nat.reduceAdd, if_true, if_false, Bool.true_eq_false, Bool.false_eq_true, Bool.true_and, Bool.false_and, Bool.and_true, Bool.and_false, i_10, i_01, i_00, not_true_eq_false, not_false_eq_true, PFI, y5, mr_up_2, n5]
  generalize hh5 : mr_up k5 0 (mr_O 10 [.ref 1, .ref 4, .ref 7, .ref 9, .ref 18, .ref 20, .null, .null, .null, .null, .null]) = h6
  have z6 : h6.1 0 = mr_O 10 [.ref 1, .ref 4, .ref 7, .ref 9, .ref 18, .ref 20, .null, .null, .null, .null, .null] := by rw [← hh5]; exact up_eq _ _ _
  have u5 : ∀ x, 1 ≤ x → h6.1 x = k5.1 x := fun x hx => by rw [← hh5, mr_up_at, if_neg (by omega)]
  have e5 : h6.2 = k5.2 := by rw [← hh5]; rfl
  have c6 : h6.2.1 = 22 := by rw [e5]; exact n5
  refine q_cg_init (h := mr_add h6 1 (mr_O 2 (mr_dfs 2))) (by rw [ad_at, if_pos c6.symm]) (by rw [ad_n, c6]) ?_
  intro k6 g6 q22 q23
  have a6 : ∀ x, x < 22 → k6.1 x = h6.1 x := fun x hx => (g6.2.2.2 x (by omega) (by omega)).trans (by rw [ad_at, if_neg (by omega)])
  have y6 : k6.1 0 = mr_O 10 [.ref 1, .ref 4, .ref 7, .ref 9, .ref 18, .ref 20, .null, .null, .null, .null, .null] := (a6 0 (by decide)).trans z6
  have n6 : k6.2.1 = 24 := g6.1
  have s6_ : k6.2.2.1 = h6.2.2.1 + 1 + 12 := g6.2.1
  have t6 : k6.2.2.2 = h6.2.2.2 := g6.2.2.1
  simp only [S_rl_init_0, S_rl_init_1, SEL, PF, mr_gf_O, mr_rc_O, Option.toList_some, Option.toList_none, List.cons_append, List.nil_append, b2i_0, b2i_1, b2i_a, a_00, a_11, ai_n, si_n, nI_1, q_rl_bit, mr_up_at, Nat.reduceLeDiff, Nat.reduceLT, Nat.reduceEqDiff, Nat.reduceAdd, if_true, if_false, Bool.true_eq_false, Bool.false_eq_true, Bool.true_and, Bool.false_and, Bool.and_true, Bool.and_false, i_10, i_01, i_00, not_true_eq_false, not_false_eq_true, PFI, y6, mr_up_2, n6]
  generalize hh6 : mr_up k6 0 (mr_O 10 [.ref 1, .ref 4, .ref 7, .ref 9, .ref 18, .ref 20, .ref 22, .null, .null, .null, .null]) = h7
  have z7 : h7.1 0 = mr_O 10 [.ref 1, .ref 4, .ref 7, .ref 9, .ref 18, .ref 20, .ref 22, .null, .null, .null, .null] := by rw [← hh6]; exact up_eq _ _ _
  have u6 : ∀ x, 1 ≤ x → h7.1 x = k6.1 x := fun x hx => by rw [← hh6, mr_up_at, if_neg (by omega)]
  have e6 : h7.2 = k6.2 := by rw [← hh6]; rfl
  have c7 : h7.2.1 = 24 := by rw [e6]; exact n6
  refine q_ch_init (h := mr_add h7 6 (mr_O 1 (mr_dfs 1))) (by rw [ad_at, if_pos c7.symm]) (by rw [ad_n, c7]) ?_
  intro k7 g7 q24 q25 q26 q27
  have a7 : ∀ x, x < 24 → k7.1 x = h7.1 x := fun x hx => (g7.2.2.2 x (by omega) (by omega)).trans (by rw [ad_at, if_neg (by omega)])
  have y7 : k7.1 0 = mr_O 10 [.ref 1, .ref 4, .ref 7, .ref 9, .ref 18, .ref 20, .ref 22, .null, .null, .null, .null] := (a7 0 (by decide)).trans z7
  have n7 : k7.2.1 = 28 := g7.1
  have s7_ : k7.2.2.1 = h7.2.2.1 + 6 + 28 := g7.2.1
  have t7 : k7.2.2.2 = h7.2.2.2 := g7.2.2.1
  simp only [S_rl_init_0, S_rl_init_1, SEL, PF, mr_gf_O, mr_rc_O, Option.toList_some, Option.toList_none, List.cons_append, List.nil_append, b2i_0, b2i_1, b2i_a, a_00, a_11, ai_n, si_n, nI_1, q_rl_bit, mr_up_at, Nat.reduceLeDiff, Nat.reduceLT, Nat.reduceEqDiff, Nat.reduceAdd, if_true, if_false, Bool.true_eq_false, Bool.false_eq_true, Bool.true_and, Bool.false_and, Bool.and_true, Bool.and_false, i_10, i_01, i_00, not_true_eq_false, not_false_eq_true, PFI, y7, mr_up_2, n7]
  generalize hh7 : mr_up k7 0 (mr_O 10 [.ref 1, .ref 4, .ref 7, .ref 9, .ref 18, .ref 20, .ref 22, .ref 24, .null, .null, .null]) = h8
  have z8 : h8.1 0 = mr_O 10 [.ref 1, .ref 4, .ref 7, .ref 9, .ref 18, .ref 20, .ref 22, .ref 24, .null, .null, .null] := by rw [← hh7]; exact up_eq _ _ _
  have u7 : ∀ x, 1 ≤ x → h8.1 x = k7.1 x := fun x hx => by rw [← hh7, mr_up_at, if_neg (by omega)]
  have e7 : h8.2 = k7.2 := by rw [← hh7]; rfl
  have c8 : h8.2.1 = 28 := by rw [e7]; exact n7
  refine q_si_init (h := mr_add h8 6 (mr_O 8 (mr_dfs 8))) (by rw [ad_at, if_pos c8.symm]) (by rw [ad_n, c8]) ?_
  intro k8 g8 q28 q29 q30 q31 q32
  have a8 : ∀ x, x < 28 → k8.1 x = h8.1 x := fun x hx => (g8.2.2.2 x (by omega) (by omega)).trans (by rw [ad_at, if_neg (by omega)])
  have y8 : k8.1 0 = mr_O 10 [.ref 1, .ref 4, .ref 7, .ref 9, .ref 18, .ref 20, .ref 22, .ref 24, .null, .null, .null] := (a8 0 (by decide)).trans z8
  have n8 : k8.2.1 = 33 := g8.1
  have s8_ : k8.2.2.1 = h8.2.2.1 + 6 + 30 := g8.2.1
  have t8 : k8.2.2.2 = h8.2.2.2 := g8.2.2.1
  simp only [S_rl_init_0, S_rl_init_1, SEL, PF, mr_gf_O, mr_rc_O, Option.toList_some, Option.toList_none, List.cons_append, List.nil_append, b2i_0, b2i_1, b2i_a, a_00, a_11, ai_n, si_n, nI_1, q_rl_bit, mr_up_at, Nat.reduceLeDiff, Nat.reduceLT, Nat.reduceEqDiff, Nat.reduceAdd, if_true, if_false, Bool.true_eq_false, Bool.false_eq_true, Bool.true_and, Bool.false_and, Bool.and_true, Bool.and_false, i_10, i_01, i_00, not_true_eq_false, not_false_eq_true, PFI, y8, mr_up_2, n8]
  generalize hh8 : mr_up k8 0 (mr_O 10 [.ref 1, .ref 4, .ref 7, .ref 9, .ref 18, .ref 20, .ref 22, .ref 24, .ref 28, .null, .null]) = h9
  have z9 : h9.1 0 = mr_O 10 [.ref 1, .ref 4, .ref 7, .ref 9, .ref 18, .ref 20, .ref 22, .ref 24, .ref 28, .null, .null] := by rw [← hh8]; exact up_eq _ _ _
  have u8 : ∀ x, 1 ≤ x → h9.1 x = k8.1 x := fun x hx => by rw [← hh8, mr_up_at, if_neg (by omega)]
  have e8 : h9.2 = k8.2 := by rw [← hh8]; rfl
  have c9 : h9.2.1 = 33 := by rw [e8]; exact n8
  refine q_pa_init (h := mr_add h9 2 (mr_O 4 (mr_dfs 4))) (by rw [ad_at, if_pos c9.symm]) (by rw [ad_n, c9]) ?_
  intro k9 F g9 q33 q34 hF hP
  have a9 : ∀ x, x < 33 → k9.1 x = h9.1 x := fun x hx => (g9.2.2.2 x (by omega) (by omega)).trans (by rw [ad_at, if_neg (by omega)])
  have y9 : k9.1 0 = mr_O 10 [.ref 1, .ref 4, .ref 7, .ref 9, .ref 18, .ref 20, .ref 22, .ref 24, .ref 28, .null, .null] := (a9 0 (by decide)).trans z9
  have n9 : k9.2.1 = 65 := g9.1
  have s9_ : k9.2.2.1 = h9.2.2.1 + 2 + 280 := g9.2.1
  have t9 : k9.2.2.2 = h9.2.2.2 := g9.2.2.1
  simp only [S_rl_init_0, S_rl_init_1, SEL, PF, mr_gf_O, mr_rc_O, Option.toList_some, Option.toList_none, List.cons_append, List.nil_append, b2i_0, b2i_1, b2i_a, a_00, a_11, ai_n, si_n, nI_1, q_rl_bit, mr_up_at, Nat.reduceLeDiff, Nat.reduceLT, Nat.reduceEqDiff, Nat.reduceAdd, if_true, if_false, Bool.true_eq_false, Bool.false_eq_true, Bool.true_and, Bool.false_and, Bool.and_true, Bool.and_false, i_10, i_01, i_00, not_true_eq_false, not_false_eq_true, PFI, y9, mr_up_2, n9]
  generalize hh9 : mr_up k9 0 (mr_O 10 [.ref 1, .ref 4, .ref 7, .ref 9, .ref 18, .ref 20, .ref 22, .ref 24, .ref 28, .ref 33, .null]) = h10
  have z10 : h10.1 0 = mr_O 10 [.ref 1, .ref 4, .ref 7, .ref 9, .ref 18, .ref 20, .ref 22, .ref 24, .ref 28, .ref 33, .null] := by rw [← hh9]; exact up_eq _ _ _
  have u9 : ∀ x, 1 ≤ x → h10.1 x = k9.1 x := fun x hx => by rw [← hh9, mr_up_at, if_neg (by omega)]
  have e9 : h10.2 = k9.2 := by rw [← hh9]; rfl
  have c10 : h10.2.1 = 65 := by rw [e9]; exact n9
  refine q_al_init (h := mr_add h10 2 (mr_O 0 (mr_dfs 0))) (by rw [ad_at, if_pos c10.symm]) (by rw [ad_n, c10]) ?_
  intro k10 G g10 q65 q66 hG hN q67 hA
  have a10 : ∀ x, x < 65 → k10.1 x = h10.1 x := fun x hx => (g10.2.2.2 x (by omega) (by omega)).trans (by rw [ad_at, if_neg (by omega)])
  have y10 : k10.1 0 = mr_O 10 [.ref 1, .ref 4, .ref 7, .ref 9, .ref 18, .ref 20, .ref 22, .ref 24, .ref 28, .ref 33, .null] := (a10 0 (by decide)).trans z10
  have n10 : k10.2.1 = 74 := g10.1
  have s10_ : k10.2.2.1 = h10.2.2.1 + 2 + 58 := g10.2.1
  have t10 : k10.2.2.2 = h10.2.2.2 := g10.2.2.1
  simp only [S_rl_init_0, S_rl_init_1, SEL, PF, mr_gf_O, mr_rc_O, Option.toList_some, Option.toList_none, List.cons_append, List.nil_append, b2i_0, b2i_1, b2i_a, a_00, a_11, ai_n, si_n, nI_1, q_rl_bit, mr_up_at, Nat.reduceLeDiff, Nat.reduceLT, Nat.reduceEqDiff, Nat.reduceAdd, if_true, if_false, Bool.true_eq_false, Bool.false_eq_true, Bool.true_and, Bool.false_and, Bool.and_true, Bool.and_false, i_10, i_01, i_00, not_true_eq_false, not_false_eq_true, PFI, y10, mr_up_2, n10]
  generalize hh10 : mr_up k10 0 (mr_O 10 [.ref 1, .ref 4, .ref 7, .ref 9, .ref 18, .ref 20, .ref 22, .ref 24, .ref 28, .ref 33, .ref 65]) = h11
  have z11 : h11.1 0 = mr_O 10 [.ref 1, .ref 4, .ref 7, .ref 9, .ref 18, .ref 20, .ref 22, .ref 24, .ref 28, .ref 33, .ref 65] := by rw [← hh10]; exact up_eq _ _ _
  have u10 : ∀ x, 1 ≤ x → h11.1 x = k10.1 x := fun x hx => by rw [← hh10, mr_up_at, if_neg (by omega)]
  have e10 : h11.2 = k10.2 := by rw [← hh10]; rfl
  have c11 : h11.2.1 = 74 := by rw [e10]; exact n10
  have A10 : ∀ x, 1 ≤ x → x < 74 → h11.1 x = k10.1 x := fun x h1 _ => u10 x h1
  have A9 : ∀ x, 1 ≤ x → x < 65 → h11.1 x = k9.1 x := fun x h1 h2 => (A10 x h1 (by omega)).trans ((a10 x (by omega)).trans (u9 x h1))
  have A8 : ∀ x, 1 ≤ x → x < 33 → h11.1 x = k8.1 x := fun x h1 h2 => (A9 x h1 (by omega)).trans ((a9 x (by omega)).trans (u8 x h1))
  have A7 : ∀ x, 1 ≤ x → x < 28 → h11.1 x = k7.1 x := fun x h1 h2 => (A8 x h1 (by omega)).trans ((a8 x (by omega)).trans (u7 x h1))
  have A6 : ∀ x, 1 ≤ x → x < 24 → h11.1 x = k6.1 x := fun x h1 h2 => (A7 x h1 (by omega)).trans ((a7 x (by omega)).trans (u6 x h1))
  have A5 : ∀ x, 1 ≤ x → x < 22 → h11.1 x = k5.1 x := fun x h1 h2 => (A6 x h1 (by omega)).trans ((a6 x (by omega)).trans (u5 x h1))
  have A4 : ∀ x, 1 ≤ x → x < 20 → h11.1 x = k4.1 x := fun x h1 h2 => (A5 x h1 (by omega)).trans ((a5 x (by omega)).trans (u4 x h1))
  have A3 : ∀ x, 1 ≤ x → x < 18 → h11.1 x = k3.1 x := fun x h1 h2 => (A4 x h1 (by omega)).trans ((a4 x (by omega)).trans (u3 x h1))
  have A2 : ∀ x, 1 ≤ x → x < 9 → h11.1 x = k2.1 x := fun x h1 h2 => (A3 x h1 (by omega)).trans ((a3 x (by omega)).trans (u2 x h1))
  have A1 : ∀ x, 1 ≤ x → x < 7 → h11.1 x = k1.1 x := fun x h1 h2 => (A2 x h1 (by omega)).trans ((a2 x (by omega)).trans (u1 x h1))
  have A0 : ∀ x, 1 ≤ x → x < 4 → h11.1 x = k0.1 x := fun x h1 h2 => (A1 x h1 (by omega)).trans ((a1 x (by omega)).trans (u0 x h1))
  obtain ⟨p1, E, K, p2, p3, hE, hK⟩ := fn0
  have w1 : h11.1 1 = NE 1 4 := (A0 1 (by decide) (by decide)).trans p1
  have w2 : h11.1 2 = mr_I 12 E := (A0 2 (by decide) (by decide)).trans p2
  have w3 : h11.1 3 = mr_I 12 K := (A0 3 (by decide) (by decide)).trans p3
  replace s7 := (A2 7 (by decide) (by decide)).trans s7
  replace s8 := (A2 8 (by decide) (by decide)).trans s8
  replace r9 := (A3 9 (by decide) (by decide)).trans r9
  replace r10 := (A3 10 (by decide) (by decide)).trans r10
  replace r11 := (A3 11 (by decide) (by decide)).trans r11
  replace r12 := (A3 12 (by decide) (by decide)).trans r12
  replace r13 := (A3 13 (by decide) (by decide)).trans r13
  replace r14 := (A3 14 (by decide) (by decide)).trans r14
  replace r15 := (A3 15 (by decide) (by decide)).trans r15
  replace r16 := (A3 16 (by decide) (by decide)).trans r16
  replace r17 := (A3 17 (by decide) (by decide)).trans r17
  replace q18 := (A4 18 (by decide) (by decide)).trans q18
  replace q19 := (A4 19 (by decide) (by decide)).trans q19
  replace q20 := (A5 20 (by decide) (by decide)).trans q20
  replace q21 := (A5 21 (by decide) (by decide)).trans q21
  replace q22 := (A6 22 (by decide) (by decide)).trans q22
  replace q23 := (A6 23 (by decide) (by decide)).trans q23
  replace q24 := (A7 24 (by decide) (by decide)).trans q24
  replace q25 := (A7 25 (by decide) (by decide)).trans q25
  replace q26 := (A7 26 (by decide) (by decide)).trans q26
  replace q27 := (A7 27 (by decide) (by decide)).trans q27
  replace q28 := (A8 28 (by decide) (by decide)).trans q28
  replace q29 := (A8 29 (by decide) (by decide)).trans q29
  replace q30 := (A8 30 (by decide) (by decide)).trans q30
  replace q31 := (A8 31 (by decide) (by decide)).trans q31
  replace q32 := (A8 32 (by decide) (by decide)).trans q32
  replace q33 := (A9 33 (by decide) (by decide)).trans q33
  replace q34 := (A9 34 (by decide) (by decide)).trans q34
  replace q65 := (A10 65 (by decide) (by decide)).trans q65
  replace q66 := (A10 66 (by decide) (by decide)).trans q66
  replace q67 := (A10 67 (by decide) (by decide)).trans q67
  have ds : DS h11 := ⟨0, 0, _, _, _, _, _, _, _, r9, r10, r11, r12, r13, r14, r15, r16⟩
  have r9k := (u10 9 (by decide)).symm.trans r9
  simp only [r9k, S_rl_init_0, S_rl_init_1, SEL, PF, mr_gf_O, mr_rc_O, Option.toList_some, Option.toList_none, List.cons_append, List.nil_append, b2i_0, b2i_1, b2i_a, a_00, a_11, ai_n, si_n, nI_1, q_rl_bit, mr_up_at, Nat.reduceLeDiff, Nat.reduceLT, Nat.reduceEqDiff, Nat.reduceAdd, if_true, if_false, Bool.true_eq_false, Bool.false_eq_true, Bool.true_and, Bool.false_and, Bool.and_true, Bool.and_false, i_10, i_01, i_00, not_true_eq_false, not_false_eq_true]
  refine q_re_derive (n := 4) (E := E) (K := K) (nt_0 hE) w1 w2 w3 ds ?_
  intro hz f dv
  simp only [S_rl_init_0, S_rl_init_1, SEL, PF, mr_gf_O, mr_rc_O, Option.toList_some, Option.toList_none, List.cons_append, List.nil_append, b2i_0, b2i_1, b2i_a, a_00, a_11, ai_n, si_n, nI_1, q_rl_bit, mr_up_at, Nat.reduceLeDiff, Nat.reduceLT, Nat.reduceEqDiff, Nat.reduceAdd, if_true, if_false, Bool.true_eq_false, Bool.false_eq_true, Bool.true_and, Bool.false_and, Bool.and_true, Bool.and_false, i_10, i_01, i_00, not_true_eq_false, not_false_eq_true]
  have out : ∀ x, 17 ≤ x → x ∉ [9, 10, 11, 12, 13, 14, 15, 16] := fun x h1 h3 => by
    simp only [List.mem_cons, List.not_mem_nil, or_false] at h3
    omega
  have out2 : ∀ x, x < 9 → x ∉ [9, 10, 11, 12, 13, 14, 15, 16] := fun x h1 h3 => by
    simp only [List.mem_cons, List.not_mem_nil, or_false] at h3
    omega
  refine kk hz E K F G ?_ ?_ ?_ ?_
  · rw [f.1]; exact c11
  · rw [f.1]
    rw [e10, s10_]
    rw [e9, s9_]
    rw [e8, s8_]
    rw [e7, s7_]
    rw [e6, s6_]
    rw [e5, s5_]
    rw [e4, s4_]
    rw [e3, s3_]
    rw [e2, s2_]
    rw [e1, s1_]
    rw [e0, s0_]
  · rw [f.1]
    rw [e10, t10]
    rw [e9, t9]
    rw [e8, t8]
    rw [e7, t7]
    rw [e6, t6]
    rw [e5, t5]
    rw [e4, t4]
    rw [e3, t3]
    rw [e2, t2]
    rw [e1, t1]
    rw [e0, t0]
  · refine ⟨fr_at f (by decide) z11, ⟨hE, hK, fr_at f (by decide) w1, fr_at f (by decide) w2, fr_at f (by decide) w3, dv⟩, ?_, ⟨fr_at f (by decide) s7, fr_at f (by decide) s8⟩, ⟨_, fr_at f (by decide) r17⟩, ⟨fr_at f (by decide) q18, ⟨_, fr_at f (by decide) q19⟩⟩, ⟨fr_at f (by decide) q20, ⟨_, fr_at f (by decide) q21⟩⟩, ⟨fr_at f (by decide) q22, ⟨_, fr_at f (by decide) q23⟩⟩, ⟨fr_at f (by decide) q24, ⟨_, fr_at f (by decide) q25⟩, ⟨_, fr_at f (by decide) q26⟩, ⟨_, fr_at f (by decide) q27⟩⟩, ⟨fr_at f (by decide) q28, ⟨_, fr_at f (by decide) q29⟩, ⟨_, fr_at f (by decide) q30⟩, ⟨_, fr_at f (by decide) q31⟩, ⟨_, fr_at f (by decide) q32⟩⟩, ⟨fr_at f (by decide) q33, fr_at f (by decide) q34, hF, fun i hi => ?_⟩, fr_at f (by decide) q65, fr_at f (by decide) q66, hG, hN, fr_at f (by decide) q67, fun i hi => ?_⟩
    · exact nshp_ag (fnet_shp fn1) (fun x h1 h2 => (f.2 x (out2 x (by omega))).trans (A1 x (by omega) (by omega)))
    · exact nshp_ag (hP i hi) (fun x h1 h2 => (f.2 x (out x (by omega))).trans (A9 x (by omega) (by omega)))
    · exact nshp_ag (hA i hi) (fun x h1 h2 => (f.2 x (out x (by omega))).trans (A10 x (by omega) (by omega)))
end RLINIT
