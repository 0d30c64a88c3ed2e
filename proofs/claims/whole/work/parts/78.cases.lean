/-! the law: each call is answered alike -/
theorem nI_2 (i : Nat) : nI i + 2 = nI (i + 2) := nI_add i 2
theorem nI_3 (i : Nat) : nI i + 3 = nI (i + 3) := nI_add i 3
theorem nI_4 (i : Nat) : nI i + 4 = nI (i + 4) := nI_add i 4
theorem nI_5 (i : Nat) : nI i + 5 = nI (i + 5) := nI_add i 5
theorem lw_r {h : mr_h} {i : Nat} (hL : i + 5 ≤ h.2.2.2.1) (hM : h.2.2.2.1 ≤ 2560) (j : Nat) (hj : j < 5) : (nI (i + j) < 0 ∨ h.2.2.2.1 ≤ (nI (i + j)).toNatClampNeg) = False := eq_false (nI_in (by omega) (by omega))
theorem Inv_e0 {h : mr_h} (hi : Inv h) : h.1 0 = mr_O 10 [.ref 1, .ref 4, .ref 7, .ref 9, .ref 18, .ref 20, .ref 22, .ref 24, .ref 28, .ref 33, .ref 65] := by
  obtain ⟨n, len, us, m, E, K, st⟩ := hi
  exact gS_0 st.1
theorem Inv_74 {h h1 : mr_h} (hi : Inv h) (h9 : 74 < h.2.1) (k : kp h h1) : ∃ fs, h1.1 74 = mr_O 11 fs := by
  obtain ⟨n, len, us, m, E, K, -, -, -, -, -, -, th, tt, tk, pl, va, fa, dn, dr, uf, e⟩ := hi
  exact k.2.2 74 11 _ h9 e
section CASES
variable {h : mr_h} {Q : Option Value → mr_h → Prop} {i : Nat}
theorem lc_type (hi : Inv h) (h9 : 74 < h.2.1) (hL : i + 5 ≤ h.2.2.2.1) (hM : h.2.2.2.1 ≤ 2560) (nx : ∀ h2, Inv h2 → h2.2 = h.2 → mr_wp 181 18 [.retAddr 0, .ref 0, .ref 74, .int (nI (i + 5))] [] h2 Q) : mr_wp 181 148 [.retAddr 0, .ref 0, .ref 74, .int (nI i)] [] h Q := by
  have e0 := Inv_e0 hi
  have r1 := lw_r hL hM 1 (by decide)
  simp only [S_law_law_0, SEL, PF, mr_gf_O, mr_rc_O, Option.toList_some, Option.toList_none, List.cons_append, List.nil_append, b2i_0, b2i_1, b2i_a, a_00, a_11, ai_n, si_n, nI_1, q_rl_bit, mr_up_at, Nat.reduceLeDiff, Nat.reduceLT, Nat.reduceEqDiff, Nat.reduceAdd, if_true, if_false, Bool.true_eq_false, Bool.false_eq_true, Bool.true_and, Bool.false_and, Bool.and_true, Bool.and_false, i_10, i_01, i_00, not_true_eq_false, not_false_eq_true, e0, r1]
  refine both_law (b_type hi _) ?_
  intro x h1 hr kq
  obtain ⟨fs, e74⟩ := Inv_74 hi h9 kq
  simp only [S_law_law_0, SEL, PF, mr_gf_O, mr_rc_O, Option.toList_some, Option.toList_none, List.cons_append, List.nil_append, b2i_0, b2i_1, b2i_a, a_00, a_11, ai_n, si_n, nI_1, q_rl_bit, mr_up_at, Nat.reduceLeDiff, Nat.reduceLT, Nat.reduceEqDiff, Nat.reduceAdd, if_true, if_false, Bool.true_eq_false, Bool.false_eq_true, Bool.true_and, Bool.false_and, Bool.and_true, Bool.and_false, i_10, i_01, i_00, not_true_eq_false, not_false_eq_true, kq.1, e74, r1]
  refine run_mono hr ?_
  rintro r h2 ⟨rfl, iv, e⟩
  simp only [S_law_law_0, S_law_law_14, SEL, PF, mr_gf_O, mr_rc_O, Option.toList_some, Option.toList_none, List.cons_append, List.nil_append, b2i_0, b2i_1, b2i_a, a_00, a_11, ai_n, si_n, nI_1, q_rl_bit, mr_up_at, Nat.reduceLeDiff, Nat.reduceLT, Nat.reduceEqDiff, Nat.reduceAdd, if_true, if_false, Bool.true_eq_false, Bool.false_eq_true, Bool.true_and, Bool.false_and, Bool.and_true, Bool.and_false, i_10, i_01, i_00, not_true_eq_false, not_false_eq_true, nI_5]
  exact nx h2 iv e
theorem lc_clear (hi : Inv h) (h9 : 74 < h.2.1) (hL : i + 5 ≤ h.2.2.2.1) (hM : h.2.2.2.1 ≤ 2560) (nx : ∀ h2, Inv h2 → h2.2 = h.2 → mr_wp 181 18 [.retAddr 0, .ref 0, .ref 74, .int (nI (i + 5))] [] h2 Q) : mr_wp 181 171 [.retAddr 0, .ref 0, .ref 74, .int (nI i)] [] h Q := by
  have e0 := Inv_e0 hi
  simp only [S_law_law_0, S_law_law_1, SEL, PF, mr_gf_O, mr_rc_O, Option.toList_some, Option.toList_none, List.cons_append, List.nil_append, b2i_0, b2i_1, b2i_a, a_00, a_11, ai_n, si_n, nI_1, q_rl_bit, mr_up_at, Nat.reduceLeDiff, Nat.reduceLT, Nat.reduceEqDiff, Nat.reduceAdd, if_true, if_false, Bool.true_eq_false, Bool.false_eq_true, Bool.true_and, Bool.false_and, Bool.and_true, Bool.and_false, i_10, i_01, i_00, not_true_eq_false, not_false_eq_true, e0]
  refine both_law (b_clear hi) ?_
  intro x h1 hr kq
  obtain ⟨fs, e74⟩ := Inv_74 hi h9 kq
  simp only [S_law_law_0, S_law_law_1, SEL, PF, mr_gf_O, mr_rc_O, Option.toList_some, Option.toList_none, List.cons_append, List.nil_append, b2i_0, b2i_1, b2i_a, a_00, a_11, ai_n, si_n, nI_1, q_rl_bit, mr_up_at, Nat.reduceLeDiff, Nat.reduceLT, Nat.reduceEqDiff, Nat.reduceAdd, if_true, if_false, Bool.true_eq_false, Bool.false_eq_true, Bool.true_and, Bool.false_and, Bool.and_true, Bool.and_false, i_10, i_01, i_00, not_true_eq_false, not_false_eq_true, kq.1, e74]
  refine run_mono hr ?_
  rintro r h2 ⟨rfl, iv, e⟩
  simp only [S_law_law_0, S_law_law_1, S_law_law_14, SEL, PF, mr_gf_O, mr_rc_O, Option.toList_some, Option.toList_none, List.cons_append, List.nil_append, b2i_0, b2i_1, b2i_a, a_00, a_11, ai_n, si_n, nI_1, q_rl_bit, mr_up_at, Nat.reduceLeDiff, Nat.reduceLT, Nat.reduceEqDiff, Nat.reduceAdd, if_true, if_false, Bool.true_eq_false, Bool.false_eq_true, Bool.true_and, Bool.false_and, Bool.and_true, Bool.and_false, i_10, i_01, i_00, not_true_eq_false, not_false_eq_true, nI_5]
  exact nx h2 iv e
theorem lc_graph (hi : Inv h) (h9 : 74 < h.2.1) (hL : i + 5 ≤ h.2.2.2.1) (hM : h.2.2.2.1 ≤ 2560) (nx : ∀ h2, Inv h2 → h2.2 = h.2 → mr_wp 181 18 [.retAddr 0, .ref 0, .ref 74, .int (nI (i + 5))] [] h2 Q) : mr_wp 181 184 [.retAddr 0, .ref 0, .ref 74, .int (nI i)] [] h Q := by
  have e0 := Inv_e0 hi
  simp only [S_law_law_1, SEL, PF, mr_gf_O, mr_rc_O, Option.toList_some, Option.toList_none, List.cons_append, List.nil_append, b2i_0, b2i_1, b2i_a, a_00, a_11, ai_n, si_n, nI_1, q_rl_bit, mr_up_at, Nat.reduceLeDiff, Nat.reduceLT, Nat.reduceEqDiff, Nat.reduceAdd, if_true, if_false, Bool.true_eq_false, Bool.false_eq_true, Bool.true_and, Bool.false_and, Bool.and_true, Bool.and_false, i_10, i_01, i_00, not_true_eq_false, not_false_eq_true, e0]
  refine both_law (b_graph hi) ?_
  intro x h1 hr kq
  obtain ⟨fs, e74⟩ := Inv_74 hi h9 kq
  simp only [S_law_law_1, SEL, PF, mr_gf_O, mr_rc_O, Option.toList_some, Option.toList_none, List.cons_append, List.nil_append, b2i_0, b2i_1, b2i_a, a_00, a_11, ai_n, si_n, nI_1, q_rl_bit, mr_up_at, Nat.reduceLeDiff, Nat.reduceLT, Nat.reduceEqDiff, Nat.reduceAdd, if_true, if_false, Bool.true_eq_false, Bool.false_eq_true, Bool.true_and, Bool.false_and, Bool.and_true, Bool.and_false, i_10, i_01, i_00, not_true_eq_false, not_false_eq_true, kq.1, e74]
  refine run_mono hr ?_
  rintro r h2 ⟨rfl, iv, e⟩
  simp only [S_law_law_1, S_law_law_14, SEL, PF, mr_gf_O, mr_rc_O, Option.toList_some, Option.toList_none, List.cons_append, List.nil_append, b2i_0, b2i_1, b2i_a, a_00, a_11, ai_n, si_n, nI_1, q_rl_bit, mr_up_at, Nat.reduceLeDiff, Nat.reduceLT, Nat.reduceEqDiff, Nat.reduceAdd, if_true, if_false, Bool.true_eq_false, Bool.false_eq_true, Bool.true_and, Bool.false_and, Bool.and_true, Bool.and_false, i_10, i_01, i_00, not_true_eq_false, not_false_eq_true, nI_5]
  exact nx h2 iv e
theorem lc_node (hi : Inv h) (h9 : 74 < h.2.1) (hL : i + 5 ≤ h.2.2.2.1) (hM : h.2.2.2.1 ≤ 2560) (nx : ∀ h2, Inv h2 → h2.2 = h.2 → mr_wp 181 18 [.retAddr 0, .ref 0, .ref 74, .int (nI (i + 5))] [] h2 Q) : mr_wp 181 197 [.retAddr 0, .ref 0, .ref 74, .int (nI i)] [] h Q := by
  have e0 := Inv_e0 hi
  have r1 := lw_r hL hM 1 (by decide)
  have r2 := lw_r hL hM 2 (by decide)
  simp only [S_law_law_1, SEL, PF, mr_gf_O, mr_rc_O, Option.toList_some, Option.toList_none, List.cons_append, List.nil_append, b2i_0, b2i_1, b2i_a, a_00, a_11, ai_n, si_n, nI_1, q_rl_bit, mr_up_at, Nat.reduceLeDiff, Nat.reduceLT, Nat.reduceEqDiff, Nat.reduceAdd, if_true, if_false, Bool.true_eq_false, Bool.false_eq_true, Bool.true_and, Bool.false_and, Bool.and_true, Bool.and_false, i_10, i_01, i_00, not_true_eq_false, not_false_eq_true, e0, nI_2, r1, r2]
  refine both_law (b_node hi _ _) ?_
  intro x h1 hr kq
  obtain ⟨fs, e74⟩ := Inv_74 hi h9 kq
  simp only [S_law_law_1, SEL, PF, mr_gf_O, mr_rc_O, Option.toList_some, Option.toList_none, List.cons_append, List.nil_append, b2i_0, b2i_1, b2i_a, a_00, a_11, ai_n, si_n, nI_1, q_rl_bit, mr_up_at, Nat.reduceLeDiff, Nat.reduceLT, Nat.reduceEqDiff, Nat.reduceAdd, if_true, if_false, Bool.true_eq_false, Bool.false_eq_true, Bool.true_and, Bool.false_and, Bool.and_true, Bool.and_false, i_10, i_01, i_00, not_true_eq_false, not_false_eq_true, kq.1, e74, nI_2, r1, r2]
  refine run_mono hr ?_
  rintro r h2 ⟨rfl, iv, e⟩
  simp only [S_law_law_1, S_law_law_14, SEL, PF, mr_gf_O, mr_rc_O, Option.toList_some, Option.toList_none, List.cons_append, List.nil_append, b2i_0, b2i_1, b2i_a, a_00, a_11, ai_n, si_n, nI_1, q_rl_bit, mr_up_at, Nat.reduceLeDiff, Nat.reduceLT, Nat.reduceEqDiff, Nat.reduceAdd, if_true, if_false, Bool.true_eq_false, Bool.false_eq_true, Bool.true_and, Bool.false_and, Bool.and_true, Bool.and_false, i_10, i_01, i_00, not_true_eq_false, not_false_eq_true, nI_5]
  exact nx h2 iv e
theorem lc_edge (hi : Inv h) (h9 : 74 < h.2.1) (hL : i + 5 ≤ h.2.2.2.1) (hM : h.2.2.2.1 ≤ 2560) (nx : ∀ h2, Inv h2 → h2.2 = h.2 → mr_wp 181 18 [.retAddr 0, .ref 0, .ref 74, .int (nI (i + 5))] [] h2 Q) : mr_wp 181 230 [.retAddr 0, .ref 0, .ref 74, .int (nI i)] [] h Q := by
  have e0 := Inv_e0 hi
  have r1 := lw_r hL hM 1 (by decide)
  have r2 := lw_r hL hM 2 (by decide)
  simp only [S_law_law_1, S_law_law_2, SEL, PF, mr_gf_O, mr_rc_O, Option.toList_some, Option.toList_none, List.cons_append, List.nil_append, b2i_0, b2i_1, b2i_a, a_00, a_11, ai_n, si_n, nI_1, q_rl_bit, mr_up_at, Nat.reduceLeDiff, Nat.reduceLT, Nat.reduceEqDiff, Nat.reduceAdd, if_true, if_false, Bool.true_eq_false, Bool.false_eq_true, Bool.true_and, Bool.false_and, Bool.and_true, Bool.and_false, i_10, i_01, i_00, not_true_eq_false, not_false_eq_true, e0, nI_2, r1, r2]
  refine both_law (b_edge hi _ _) ?_
  intro x h1 hr kq
  obtain ⟨fs, e74⟩ := Inv_74 hi h9 kq
  simp only [S_law_law_1, S_law_law_2, SEL, PF, mr_gf_O, mr_rc_O, Option.toList_some, Option.toList_none, List.cons_append, List.nil_append, b2i_0, b2i_1, b2i_a, a_00, a_11, ai_n, si_n, nI_1, q_rl_bit, mr_up_at, Nat.reduceLeDiff, Nat.reduceLT, Nat.reduceEqDiff, Nat.reduceAdd, if_true, if_false, Bool.true_eq_false, Bool.false_eq_true, Bool.true_and, Bool.false_and, Bool.and_true, Bool.and_false, i_10, i_01, i_00, not_true_eq_false, not_false_eq_true, kq.1, e74, nI_2, r1, r2]
  refine run_mono hr ?_
  rintro r h2 ⟨rfl, iv, e⟩
  simp only [S_law_law_1, S_law_law_2, S_law_law_14, SEL, PF, mr_gf_O, mr_rc_O, Option.toList_some, Option.toList_none, List.cons_append, List.nil_append, b2i_0, b2i_1, b2i_a, a_00, a_11, ai_n, si_n, nI_1, q_rl_bit, mr_up_at, Nat.reduceLeDiff, Nat.reduceLT, Nat.reduceEqDiff, Nat.reduceAdd, if_true, if_false, Bool.true_eq_false, Bool.false_eq_true, Bool.true_and, Bool.false_and, Bool.and_true, Bool.and_false, i_10, i_01, i_00, not_true_eq_false, not_false_eq_true, nI_5]
  exact nx h2 iv e
theorem lc_now (hi : Inv h) (h9 : 74 < h.2.1) (hL : i + 5 ≤ h.2.2.2.1) (hM : h.2.2.2.1 ≤ 2560) (nx : ∀ h2, Inv h2 → h2.2 = h.2 → mr_wp 181 18 [.retAddr 0, .ref 0, .ref 74, .int (nI (i + 5))] [] h2 Q) : mr_wp 181 263 [.retAddr 0, .ref 0, .ref 74, .int (nI i)] [] h Q := by
  have e0 := Inv_e0 hi
  have r1 := lw_r hL hM 1 (by decide)
  simp only [S_law_law_2, S_law_law_3, SEL, PF, mr_gf_O, mr_rc_O, Option.toList_some, Option.toList_none, List.cons_append, List.nil_append, b2i_0, b2i_1, b2i_a, a_00, a_11, ai_n, si_n, nI_1, q_rl_bit, mr_up_at, Nat.reduceLeDiff, Nat.reduceLT, Nat.reduceEqDiff, Nat.reduceAdd, if_true, if_false, Bool.true_eq_false, Bool.false_eq_true, Bool.true_and, Bool.false_and, Bool.and_true, Bool.and_false, i_10, i_01, i_00, not_true_eq_false, not_false_eq_true, e0, r1]
  refine both_law (b_now hi _) ?_
  intro x h1 hr kq
  obtain ⟨fs, e74⟩ := Inv_74 hi h9 kq
  simp only [S_law_law_2, S_law_law_3, SEL, PF, mr_gf_O, mr_rc_O, Option.toList_some, Option.toList_none, List.cons_append, List.nil_append, b2i_0, b2i_1, b2i_a, a_00, a_11, ai_n, si_n, nI_1, q_rl_bit, mr_up_at, Nat.reduceLeDiff, Nat.reduceLT, Nat.reduceEqDiff, Nat.reduceAdd, if_true, if_false, Bool.true_eq_false, Bool.false_eq_true, Bool.true_and, Bool.false_and, Bool.and_true, Bool.and_false, i_10, i_01, i_00, not_true_eq_false, not_false_eq_true, kq.1, e74, r1]
  refine run_mono hr ?_
  rintro r h2 ⟨rfl, iv, e⟩
  simp only [S_law_law_2, S_law_law_3, S_law_law_14, SEL, PF, mr_gf_O, mr_rc_O, Option.toList_some, Option.toList_none, List.cons_append, List.nil_append, b2i_0, b2i_1, b2i_a, a_00, a_11, ai_n, si_n, nI_1, q_rl_bit, mr_up_at, Nat.reduceLeDiff, Nat.reduceLT, Nat.reduceEqDiff, Nat.reduceAdd, if_true, if_false, Bool.true_eq_false, Bool.false_eq_true, Bool.true_and, Bool.false_and, Bool.and_true, Bool.and_false, i_10, i_01, i_00, not_true_eq_false, not_false_eq_true, nI_5]
  exact nx h2 iv e
theorem lc_adds (hi : Inv h) (h9 : 74 < h.2.1) (hL : i + 5 ≤ h.2.2.2.1) (hM : h.2.2.2.1 ≤ 2560) (nx : ∀ h2, Inv h2 → h2.2 = h.2 → mr_wp 181 18 [.retAddr 0, .ref 0, .ref 74, .int (nI (i + 5))] [] h2 Q) : mr_wp 181 286 [.retAddr 0, .ref 0, .ref 74, .int (nI i)] [] h Q := by
  have e0 := Inv_e0 hi
  have r1 := lw_r hL hM 1 (by decide)
  have r2 := lw_r hL hM 2 (by decide)
  simp only [S_law_law_3, SEL, PF, mr_gf_O, mr_rc_O, Option.toList_some, Option.toList_none, List.cons_append, List.nil_append, b2i_0, b2i_1, b2i_a, a_00, a_11, ai_n, si_n, nI_1, q_rl_bit, mr_up_at, Nat.reduceLeDiff, Nat.reduceLT, Nat.reduceEqDiff, Nat.reduceAdd, if_true, if_false, Bool.true_eq_false, Bool.false_eq_true, Bool.true_and, Bool.false_and, Bool.and_true, Bool.and_false, i_10, i_01, i_00, not_true_eq_false, not_false_eq_true, e0, nI_2, r1, r2]
  refine both_law (b_adds hi _ _) ?_
  intro x h1 hr kq
  obtain ⟨fs, e74⟩ := Inv_74 hi h9 kq
  simp only [S_law_law_3, SEL, PF, mr_gf_O, mr_rc_O, Option.toList_some, Option.toList_none, List.cons_append, List.nil_append, b2i_0, b2i_1, b2i_a, a_00, a_11, ai_n, si_n, nI_1, q_rl_bit, mr_up_at, Nat.reduceLeDiff, Nat.reduceLT, Nat.reduceEqDiff, Nat.reduceAdd, if_true, if_false, Bool.true_eq_false, Bool.false_eq_true, Bool.true_and, Bool.false_and, Bool.and_true, Bool.and_false, i_10, i_01, i_00, not_true_eq_false, not_false_eq_true, kq.1, e74, nI_2, r1, r2]
  refine run_mono hr ?_
  rintro r h2 ⟨rfl, iv, e⟩
  simp only [S_law_law_3, S_law_law_14, SEL, PF, mr_gf_O, mr_rc_O, Option.toList_some, Option.toList_none, List.cons_append, List.nil_append, b2i_0, b2i_1, b2i_a, a_00, a_11, ai_n, si_n, nI_1, q_rl_bit, mr_up_at, Nat.reduceLeDiff, Nat.reduceLT, Nat.reduceEqDiff, Nat.reduceAdd, if_true, if_false, Bool.true_eq_false, Bool.false_eq_true, Bool.true_and, Bool.false_and, Bool.and_true, Bool.and_false, i_10, i_01, i_00, not_true_eq_false, not_false_eq_true, nI_5]
  exact nx h2 iv e
theorem lc_cuts (hi : Inv h) (h9 : 74 < h.2.1) (hL : i + 5 ≤ h.2.2.2.1) (hM : h.2.2.2.1 ≤ 2560) (nx : ∀ h2, Inv h2 → h2.2 = h.2 → mr_wp 181 18 [.retAddr 0, .ref 0, .ref 74, .int (nI (i + 5))] [] h2 Q) : mr_wp 181 319 [.retAddr 0, .ref 0, .ref 74, .int (nI i)] [] h Q := by
  have e0 := Inv_e0 hi
  have r1 := lw_r hL hM 1 (by decide)
  have r2 := lw_r hL hM 2 (by decide)
  simp only [S_law_law_3, S_law_law_4, SEL, PF, mr_gf_O, mr_rc_O, Option.toList_some, Option.toList_none, List.cons_append, List.nil_append, b2i_0, b2i_1, b2i_a, a_00, a_11, ai_n, si_n, nI_1, q_rl_bit, mr_up_at, Nat.reduceLeDiff, Nat.reduceLT, Nat.reduceEqDiff, Nat.reduceAdd, if_true, if_false, Bool.true_eq_false, Bool.false_eq_true, Bool.true_and, Bool.false_and, Bool.and_true, Bool.and_false, i_10, i_01, i_00, not_true_eq_false, not_false_eq_true, e0, nI_2, r1, r2]
  refine both_law (b_cuts hi _ _) ?_
  intro x h1 hr kq
  obtain ⟨fs, e74⟩ := Inv_74 hi h9 kq
  simp only [S_law_law_3, S_law_law_4, SEL, PF, mr_gf_O, mr_rc_O, Option.toList_some, Option.toList_none, List.cons_append, List.nil_append, b2i_0, b2i_1, b2i_a, a_00, a_11, ai_n, si_n, nI_1, q_rl_bit, mr_up_at, Nat.reduceLeDiff, Nat.reduceLT, Nat.reduceEqDiff, Nat.reduceAdd, if_true, if_false, Bool.true_eq_false, Bool.false_eq_true, Bool.true_and, Bool.false_and, Bool.and_true, Bool.and_false, i_10, i_01, i_00, not_true_eq_false, not_false_eq_true, kq.1, e74, nI_2, r1, r2]
  refine run_mono hr ?_
  rintro r h2 ⟨rfl, iv, e⟩
  simp only [S_law_law_3, S_law_law_4, S_law_law_14, SEL, PF, mr_gf_O, mr_rc_O, Option.toList_some, Option.toList_none, List.cons_append, List.nil_append, b2i_0, b2i_1, b2i_a, a_00, a_11, ai_n, si_n, nI_1, q_rl_bit, mr_up_at, Nat.reduceLeDiff, Nat.reduceLT, Nat.reduceEqDiff, Nat.reduceAdd, if_true, if_false, Bool.true_eq_false, Bool.false_eq_true, Bool.true_and, Bool.false_and, Bool.and_true, Bool.and_false, i_10, i_01, i_00, not_true_eq_false, not_false_eq_true, nI_5]
  exact nx h2 iv e
theorem lc_ranks (hi : Inv h) (h9 : 74 < h.2.1) (hL : i + 5 ≤ h.2.2.2.1) (hM : h.2.2.2.1 ≤ 2560) (nx : ∀ h2, Inv h2 → h2.2 = h.2 → mr_wp 181 18 [.retAddr 0, .ref 0, .ref 74, .int (nI (i + 5))] [] h2 Q) : mr_wp 181 352 [.retAddr 0, .ref 0, .ref 74, .int (nI i)] [] h Q := by
  have e0 := Inv_e0 hi
  simp only [S_law_law_4, SEL, PF, mr_gf_O, mr_rc_O, Option.toList_some, Option.toList_none, List.cons_append, List.nil_append, b2i_0, b2i_1, b2i_a, a_00, a_11, ai_n, si_n, nI_1, q_rl_bit, mr_up_at, Nat.reduceLeDiff, Nat.reduceLT, Nat.reduceEqDiff, Nat.reduceAdd, if_true, if_false, Bool.true_eq_false, Bool.false_eq_true, Bool.true_and, Bool.false_and, Bool.and_true, Bool.and_false, i_10, i_01, i_00, not_true_eq_false, not_false_eq_true, e0]
  refine both_law (b_ranks hi) ?_
  intro x h1 hr kq
  obtain ⟨fs, e74⟩ := Inv_74 hi h9 kq
  simp only [S_law_law_4, SEL, PF, mr_gf_O, mr_rc_O, Option.toList_some, Option.toList_none, List.cons_append, List.nil_append, b2i_0, b2i_1, b2i_a, a_00, a_11, ai_n, si_n, nI_1, q_rl_bit, mr_up_at, Nat.reduceLeDiff, Nat.reduceLT, Nat.reduceEqDiff, Nat.reduceAdd, if_true, if_false, Bool.true_eq_false, Bool.false_eq_true, Bool.true_and, Bool.false_and, Bool.and_true, Bool.and_false, i_10, i_01, i_00, not_true_eq_false, not_false_eq_true, kq.1, e74]
  refine run_mono hr ?_
  rintro r h2 ⟨rfl, iv, e⟩
  simp only [S_law_law_4, S_law_law_14, SEL, PF, mr_gf_O, mr_rc_O, Option.toList_some, Option.toList_none, List.cons_append, List.nil_append, b2i_0, b2i_1, b2i_a, a_00, a_11, ai_n, si_n, nI_1, q_rl_bit, mr_up_at, Nat.reduceLeDiff, Nat.reduceLT, Nat.reduceEqDiff, Nat.reduceAdd, if_true, if_false, Bool.true_eq_false, Bool.false_eq_true, Bool.true_and, Bool.false_and, Bool.and_true, Bool.and_false, i_10, i_01, i_00, not_true_eq_false, not_false_eq_true, nI_5]
  exact nx h2 iv e
theorem lc_undo (hi : Inv h) (h9 : 74 < h.2.1) (hL : i + 5 ≤ h.2.2.2.1) (hM : h.2.2.2.1 ≤ 2560) (nx : ∀ h2, Inv h2 → h2.2 = h.2 → mr_wp 181 18 [.retAddr 0, .ref 0, .ref 74, .int (nI (i + 5))] [] h2 Q) : mr_wp 181 365 [.retAddr 0, .ref 0, .ref 74, .int (nI i)] [] h Q := by
  have e0 := Inv_e0 hi
  simp only [S_law_law_4, SEL, PF, mr_gf_O, mr_rc_O, Option.toList_some, Option.toList_none, List.cons_append, List.nil_append, b2i_0, b2i_1, b2i_a, a_00, a_11, ai_n, si_n, nI_1, q_rl_bit, mr_up_at, Nat.reduceLeDiff, Nat.reduceLT, Nat.reduceEqDiff, Nat.reduceAdd, if_true, if_false, Bool.true_eq_false, Bool.false_eq_true, Bool.true_and, Bool.false_and, Bool.and_true, Bool.and_false, i_10, i_01, i_00, not_true_eq_false, not_false_eq_true, e0]
  refine both_law (b_undo hi) ?_
  intro x h1 hr kq
  obtain ⟨fs, e74⟩ := Inv_74 hi h9 kq
  simp only [S_law_law_4, SEL, PF, mr_gf_O, mr_rc_O, Option.toList_some, Option.toList_none, List.cons_append, List.nil_append, b2i_0, b2i_1, b2i_a, a_00, a_11, ai_n, si_n, nI_1, q_rl_bit, mr_up_at, Nat.reduceLeDiff, Nat.reduceLT, Nat.reduceEqDiff, Nat.reduceAdd, if_true, if_false, Bool.true_eq_false, Bool.false_eq_true, Bool.true_and, Bool.false_and, Bool.and_true, Bool.and_false, i_10, i_01, i_00, not_true_eq_false, not_false_eq_true, kq.1, e74]
  refine run_mono hr ?_
  rintro r h2 ⟨rfl, iv, e⟩
  simp only [S_law_law_4, S_law_law_14, SEL, PF, mr_gf_O, mr_rc_O, Option.toList_some, Option.toList_none, List.cons_append, List.nil_append, b2i_0, b2i_1, b2i_a, a_00, a_11, ai_n, si_n, nI_1, q_rl_bit, mr_up_at, Nat.reduceLeDiff, Nat.reduceLT, Nat.reduceEqDiff, Nat.reduceAdd, if_true, if_false, Bool.true_eq_false, Bool.false_eq_true, Bool.true_and, Bool.false_and, Bool.and_true, Bool.and_false, i_10, i_01, i_00, not_true_eq_false, not_false_eq_true, nI_5]
  exact nx h2 iv e
theorem lc_comes (hi : Inv h) (h9 : 74 < h.2.1) (hL : i + 5 ≤ h.2.2.2.1) (hM : h.2.2.2.1 ≤ 2560) (nx : ∀ h2, Inv h2 → h2.2 = h.2 → mr_wp 181 18 [.retAddr 0, .ref 0, .ref 74, .int (nI (i + 5))] [] h2 Q) : mr_wp 181 378 [.retAddr 0, .ref 0, .ref 74, .int (nI i)] [] h Q := by
  have e0 := Inv_e0 hi
  have r1 := lw_r hL hM 1 (by decide)
  have r2 := lw_r hL hM 2 (by decide)
  simp only [S_law_law_4, S_law_law_5, SEL, PF, mr_gf_O, mr_rc_O, Option.toList_some, Option.toList_none, List.cons_append, List.nil_append, b2i_0, b2i_1, b2i_a, a_00, a_11, ai_n, si_n, nI_1, q_rl_bit, mr_up_at, Nat.reduceLeDiff, Nat.reduceLT, Nat.reduceEqDiff, Nat.reduceAdd, if_true, if_false, Bool.true_eq_false, Bool.false_eq_true, Bool.true_and, Bool.false_and, Bool.and_true, Bool.and_false, i_10, i_01, i_00, not_true_eq_false, not_false_eq_true, e0, nI_2, r1, r2]
  refine both_law (b_comes hi _ _) ?_
  intro x h1 hr kq
  obtain ⟨fs, e74⟩ := Inv_74 hi h9 kq
  simp only [S_law_law_4, S_law_law_5, SEL, PF, mr_gf_O, mr_rc_O, Option.toList_some, Option.toList_none, List.cons_append, List.nil_append, b2i_0, b2i_1, b2i_a, a_00, a_11, ai_n, si_n, nI_1, q_rl_bit, mr_up_at, Nat.reduceLeDiff, Nat.reduceLT, Nat.reduceEqDiff, Nat.reduceAdd, if_true, if_false, Bool.true_eq_false, Bool.false_eq_true, Bool.true_and, Bool.false_and, Bool.and_true, Bool.and_false, i_10, i_01, i_00, not_true_eq_false, not_false_eq_true, kq.1, e74, nI_2, r1, r2]
  refine run_mono hr ?_
  rintro r h2 ⟨rfl, iv, e⟩
  simp only [S_law_law_4, S_law_law_5, S_law_law_14, SEL, PF, mr_gf_O, mr_rc_O, Option.toList_some, Option.toList_none, List.cons_append, List.nil_append, b2i_0, b2i_1, b2i_a, a_00, a_11, ai_n, si_n, nI_1, q_rl_bit, mr_up_at, Nat.reduceLeDiff, Nat.reduceLT, Nat.reduceEqDiff, Nat.reduceAdd, if_true, if_false, Bool.true_eq_false, Bool.false_eq_true, Bool.true_and, Bool.false_and, Bool.and_true, Bool.and_false, i_10, i_01, i_00, not_true_eq_false, not_false_eq_true, nI_5]
  exact nx h2 iv e
theorem lc_hub (hi : Inv h) (h9 : 74 < h.2.1) (hL : i + 5 ≤ h.2.2.2.1) (hM : h.2.2.2.1 ≤ 2560) (nx : ∀ h2, Inv h2 → h2.2 = h.2 → mr_wp 181 18 [.retAddr 0, .ref 0, .ref 74, .int (nI (i + 5))] [] h2 Q) : mr_wp 181 411 [.retAddr 0, .ref 0, .ref 74, .int (nI i)] [] h Q := by
  have e0 := Inv_e0 hi
  have r1 := lw_r hL hM 1 (by decide)
  have r2 := lw_r hL hM 2 (by decide)
  simp only [S_law_law_5, S_law_law_6, SEL, PF, mr_gf_O, mr_rc_O, Option.toList_some, Option.toList_none, List.cons_append, List.nil_append, b2i_0, b2i_1, b2i_a, a_00, a_11, ai_n, si_n, nI_1, q_rl_bit, mr_up_at, Nat.reduceLeDiff, Nat.reduceLT, Nat.reduceEqDiff, Nat.reduceAdd, if_true, if_false, Bool.true_eq_false, Bool.false_eq_true, Bool.true_and, Bool.false_and, Bool.and_true, Bool.and_false, i_10, i_01, i_00, not_true_eq_false, not_false_eq_true, e0, nI_2, r1, r2]
  refine both_law (b_hub hi _ _) ?_
  intro x h1 hr kq
  obtain ⟨fs, e74⟩ := Inv_74 hi h9 kq
  simp only [S_law_law_5, S_law_law_6, SEL, PF, mr_gf_O, mr_rc_O, Option.toList_some, Option.toList_none, List.cons_append, List.nil_append, b2i_0, b2i_1, b2i_a, a_00, a_11, ai_n, si_n, nI_1, q_rl_bit, mr_up_at, Nat.reduceLeDiff, Nat.reduceLT, Nat.reduceEqDiff, Nat.reduceAdd, if_true, if_false, Bool.true_eq_false, Bool.false_eq_true, Bool.true_and, Bool.false_and, Bool.and_true, Bool.and_false, i_10, i_01, i_00, not_true_eq_false, not_false_eq_true, kq.1, e74, nI_2, r1, r2]
  refine run_mono hr ?_
  rintro r h2 ⟨rfl, iv, e⟩
  simp only [S_law_law_5, S_law_law_6, S_law_law_14, SEL, PF, mr_gf_O, mr_rc_O, Option.toList_some, Option.toList_none, List.cons_append, List.nil_append, b2i_0, b2i_1, b2i_a, a_00, a_11, ai_n, si_n, nI_1, q_rl_bit, mr_up_at, Nat.reduceLeDiff, Nat.reduceLT, Nat.reduceEqDiff, Nat.reduceAdd, if_true, if_false, Bool.true_eq_false, Bool.false_eq_true, Bool.true_and, Bool.false_and, Bool.and_true, Bool.and_false, i_10, i_01, i_00, not_true_eq_false, not_false_eq_true, nI_5]
  exact nx h2 iv e
theorem lc_way (hi : Inv h) (h9 : 74 < h.2.1) (hL : i + 5 ≤ h.2.2.2.1) (hM : h.2.2.2.1 ≤ 2560) (nx : ∀ h2, Inv h2 → h2.2 = h.2 → mr_wp 181 18 [.retAddr 0, .ref 0, .ref 74, .int (nI (i + 5))] [] h2 Q) : mr_wp 181 444 [.retAddr 0, .ref 0, .ref 74, .int (nI i)] [] h Q := by
  have e0 := Inv_e0 hi
  have r1 := lw_r hL hM 1 (by decide)
  have r2 := lw_r hL hM 2 (by decide)
  have r3 := lw_r hL hM 3 (by decide)
  simp only [S_law_law_6, S_law_law_7, SEL, PF, mr_gf_O, mr_rc_O, Option.toList_some, Option.toList_none, List.cons_append, List.nil_append, b2i_0, b2i_1, b2i_a, a_00, a_11, ai_n, si_n, nI_1, q_rl_bit, mr_up_at, Nat.reduceLeDiff, Nat.reduceLT, Nat.reduceEqDiff, Nat.reduceAdd, if_true, if_false, Bool.true_eq_false, Bool.false_eq_true, Bool.true_and, Bool.false_and, Bool.and_true, Bool.and_false, i_10, i_01, i_00, not_true_eq_false, not_false_eq_true, e0, nI_2, nI_3, r1, r2, r3]
  refine both_law (b_way hi _ _ _) ?_
  intro x h1 hr kq
  obtain ⟨fs, e74⟩ := Inv_74 hi h9 kq
  simp only [S_law_law_6, S_law_law_7, SEL, PF, mr_gf_O, mr_rc_O, Option.toList_some, Option.toList_none, List.cons_append, List.nil_append, b2i_0, b2i_1, b2i_a, a_00, a_11, ai_n, si_n, nI_1, q_rl_bit, mr_up_at, Nat.reduceLeDiff, Nat.reduceLT, Nat.reduceEqDiff, Nat.reduceAdd, if_true, if_false, Bool.true_eq_false, Bool.false_eq_true, Bool.true_and, Bool.false_and, Bool.and_true, Bool.and_false, i_10, i_01, i_00, not_true_eq_false, not_false_eq_true, kq.1, e74, nI_2, nI_3, r1, r2, r3]
  refine run_mono hr ?_
  rintro r h2 ⟨rfl, iv, e⟩
  simp only [S_law_law_6, S_law_law_7, S_law_law_14, SEL, PF, mr_gf_O, mr_rc_O, Option.toList_some, Option.toList_none, List.cons_append, List.nil_append, b2i_0, b2i_1, b2i_a, a_00, a_11, ai_n, si_n, nI_1, q_rl_bit, mr_up_at, Nat.reduceLeDiff, Nat.reduceLT, Nat.reduceEqDiff, Nat.reduceAdd, if_true, if_false, Bool.true_eq_false, Bool.false_eq_true, Bool.true_and, Bool.false_and, Bool.and_true, Bool.and_false, i_10, i_01, i_00, not_true_eq_false, not_false_eq_true, nI_5]
  exact nx h2 iv e
theorem lc_on (hi : Inv h) (h9 : 74 < h.2.1) (hL : i + 5 ≤ h.2.2.2.1) (hM : h.2.2.2.1 ≤ 2560) (nx : ∀ h2, Inv h2 → h2.2 = h.2 → mr_wp 181 18 [.retAddr 0, .ref 0, .ref 74, .int (nI (i + 5))] [] h2 Q) : mr_wp 181 487 [.retAddr 0, .ref 0, .ref 74, .int (nI i)] [] h Q := by
  have e0 := Inv_e0 hi
  have r1 := lw_r hL hM 1 (by decide)
  have r2 := lw_r hL hM 2 (by decide)
  have r3 := lw_r hL hM 3 (by decide)
  simp only [S_law_law_7, SEL, PF, mr_gf_O, mr_rc_O, Option.toList_some, Option.toList_none, List.cons_append, List.nil_append, b2i_0, b2i_1, b2i_a, a_00, a_11, ai_n, si_n, nI_1, q_rl_bit, mr_up_at, Nat.reduceLeDiff, Nat.reduceLT, Nat.reduceEqDiff, Nat.reduceAdd, if_true, if_false, Bool.true_eq_false, Bool.false_eq_true, Bool.true_and, Bool.false_and, Bool.and_true, Bool.and_false, i_10, i_01, i_00, not_true_eq_false, not_false_eq_true, e0, nI_2, nI_3, r1, r2, r3]
  refine both_law (b_on hi _ _ _) ?_
  intro x h1 hr kq
  obtain ⟨fs, e74⟩ := Inv_74 hi h9 kq
  simp only [S_law_law_7, SEL, PF, mr_gf_O, mr_rc_O, Option.toList_some, Option.toList_none, List.cons_append, List.nil_append, b2i_0, b2i_1, b2i_a, a_00, a_11, ai_n, si_n, nI_1, q_rl_bit, mr_up_at, Nat.reduceLeDiff, Nat.reduceLT, Nat.reduceEqDiff, Nat.reduceAdd, if_true, if_false, Bool.true_eq_false, Bool.false_eq_true, Bool.true_and, Bool.false_and, Bool.and_true, Bool.and_false, i_10, i_01, i_00, not_true_eq_false, not_false_eq_true, kq.1, e74, nI_2, nI_3, r1, r2, r3]
  refine run_mono hr ?_
  rintro r h2 ⟨rfl, iv, e⟩
  simp only [S_law_law_7, S_law_law_14, SEL, PF, mr_gf_O, mr_rc_O, Option.toList_some, Option.toList_none, List.cons_append, List.nil_append, b2i_0, b2i_1, b2i_a, a_00, a_11, ai_n, si_n, nI_1, q_rl_bit, mr_up_at, Nat.reduceLeDiff, Nat.reduceLT, Nat.reduceEqDiff, Nat.reduceAdd, if_true, if_false, Bool.true_eq_false, Bool.false_eq_true, Bool.true_and, Bool.false_and, Bool.and_true, Bool.and_false, i_10, i_01, i_00, not_true_eq_false, not_false_eq_true, nI_5]
  exact nx h2 iv e
theorem lc_loss (hi : Inv h) (h9 : 74 < h.2.1) (hL : i + 5 ≤ h.2.2.2.1) (hM : h.2.2.2.1 ≤ 2560) (nx : ∀ h2, Inv h2 → h2.2 = h.2 → mr_wp 181 18 [.retAddr 0, .ref 0, .ref 74, .int (nI (i + 5))] [] h2 Q) : mr_wp 181 530 [.retAddr 0, .ref 0, .ref 74, .int (nI i)] [] h Q := by
  have e0 := Inv_e0 hi
  have r1 := lw_r hL hM 1 (by decide)
  have r2 := lw_r hL hM 2 (by decide)
  have r3 := lw_r hL hM 3 (by decide)
  simp only [S_law_law_7, S_law_law_8, SEL, PF, mr_gf_O, mr_rc_O, Option.toList_some, Option.toList_none, List.cons_append, List.nil_append, b2i_0, b2i_1, b2i_a, a_00, a_11, ai_n, si_n, nI_1, q_rl_bit, mr_up_at, Nat.reduceLeDiff, Nat.reduceLT, Nat.reduceEqDiff, Nat.reduceAdd, if_true, if_false, Bool.true_eq_false, Bool.false_eq_true, Bool.true_and, Bool.false_and, Bool.and_true, Bool.and_false, i_10, i_01, i_00, not_true_eq_false, not_false_eq_true, e0, nI_2, nI_3, r1, r2, r3]
  refine both_law (b_loss hi _ _ _) ?_
  intro x h1 hr kq
  obtain ⟨fs, e74⟩ := Inv_74 hi h9 kq
  simp only [S_law_law_7, S_law_law_8, SEL, PF, mr_gf_O, mr_rc_O, Option.toList_some, Option.toList_none, List.cons_append, List.nil_append, b2i_0, b2i_1, b2i_a, a_00, a_11, ai_n, si_n, nI_1, q_rl_bit, mr_up_at, Nat.reduceLeDiff, Nat.reduceLT, Nat.reduceEqDiff, Nat.reduceAdd, if_true, if_false, Bool.true_eq_false, Bool.false_eq_true, Bool.true_and, Bool.false_and, Bool.and_true, Bool.and_false, i_10, i_01, i_00, not_true_eq_false, not_false_eq_true, kq.1, e74, nI_2, nI_3, r1, r2, r3]
  refine run_mono hr ?_
  rintro r h2 ⟨rfl, iv, e⟩
  simp only [S_law_law_7, S_law_law_8, S_law_law_14, SEL, PF, mr_gf_O, mr_rc_O, Option.toList_some, Option.toList_none, List.cons_append, List.nil_append, b2i_0, b2i_1, b2i_a, a_00, a_11, ai_n, si_n, nI_1, q_rl_bit, mr_up_at, Nat.reduceLeDiff, Nat.reduceLT, Nat.reduceEqDiff, Nat.reduceAdd, if_true, if_false, Bool.true_eq_false, Bool.false_eq_true, Bool.true_and, Bool.false_and, Bool.and_true, Bool.and_false, i_10, i_01, i_00, not_true_eq_false, not_false_eq_true, nI_5]
  exact nx h2 iv e
theorem lc_gain (hi : Inv h) (h9 : 74 < h.2.1) (hL : i + 5 ≤ h.2.2.2.1) (hM : h.2.2.2.1 ≤ 2560) (nx : ∀ h2, Inv h2 → h2.2 = h.2 → mr_wp 181 18 [.retAddr 0, .ref 0, .ref 74, .int (nI (i + 5))] [] h2 Q) : mr_wp 181 573 [.retAddr 0, .ref 0, .ref 74, .int (nI i)] [] h Q := by
  have e0 := Inv_e0 hi
  have r1 := lw_r hL hM 1 (by decide)
  have r2 := lw_r hL hM 2 (by decide)
  simp only [S_law_law_8, S_law_law_9, SEL, PF, mr_gf_O, mr_rc_O, Option.toList_some, Option.toList_none, List.cons_append, List.nil_append, b2i_0, b2i_1, b2i_a, a_00, a_11, ai_n, si_n, nI_1, q_rl_bit, mr_up_at, Nat.reduceLeDiff, Nat.reduceLT, Nat.reduceEqDiff, Nat.reduceAdd, if_true, if_false, Bool.true_eq_false, Bool.false_eq_true, Bool.true_and, Bool.false_and, Bool.and_true, Bool.and_false, i_10, i_01, i_00, not_true_eq_false, not_false_eq_true, e0, nI_2, r1, r2]
  refine both_law (b_gain hi _ _) ?_
  intro x h1 hr kq
  obtain ⟨fs, e74⟩ := Inv_74 hi h9 kq
  simp only [S_law_law_8, S_law_law_9, SEL, PF, mr_gf_O, mr_rc_O, Option.toList_some, Option.toList_none, List.cons_append, List.nil_append, b2i_0, b2i_1, b2i_a, a_00, a_11, ai_n, si_n, nI_1, q_rl_bit, mr_up_at, Nat.reduceLeDiff, Nat.reduceLT, Nat.reduceEqDiff, Nat.reduceAdd, if_true, if_false, Bool.true_eq_false, Bool.false_eq_true, Bool.true_and, Bool.false_and, Bool.and_true, Bool.and_false, i_10, i_01, i_00, not_true_eq_false, not_false_eq_true, kq.1, e74, nI_2, r1, r2]
  refine run_mono hr ?_
  rintro r h2 ⟨rfl, iv, e⟩
  simp only [S_law_law_8, S_law_law_9, S_law_law_14, SEL, PF, mr_gf_O, mr_rc_O, Option.toList_some, Option.toList_none, List.cons_append, List.nil_append, b2i_0, b2i_1, b2i_a, a_00, a_11, ai_n, si_n, nI_1, q_rl_bit, mr_up_at, Nat.reduceLeDiff, Nat.reduceLT, Nat.reduceEqDiff, Nat.reduceAdd, if_true, if_false, Bool.true_eq_false, Bool.false_eq_true, Bool.true_and, Bool.false_and, Bool.and_true, Bool.and_false, i_10, i_01, i_00, not_true_eq_false, not_false_eq_true, nI_5]
  exact nx h2 iv e
theorem lc_best (hi : Inv h) (h9 : 74 < h.2.1) (hL : i + 5 ≤ h.2.2.2.1) (hM : h.2.2.2.1 ≤ 2560) (nx : ∀ h2, Inv h2 → h2.2 = h.2 → mr_wp 181 18 [.retAddr 0, .ref 0, .ref 74, .int (nI (i + 5))] [] h2 Q) : mr_wp 181 606 [.retAddr 0, .ref 0, .ref 74, .int (nI i)] [] h Q := by
  have e0 := Inv_e0 hi
  have r1 := lw_r hL hM 1 (by decide)
  simp only [S_law_law_9, SEL, PF, mr_gf_O, mr_rc_O, Option.toList_some, Option.toList_none, List.cons_append, List.nil_append, b2i_0, b2i_1, b2i_a, a_00, a_11, ai_n, si_n, nI_1, q_rl_bit, mr_up_at, Nat.reduceLeDiff, Nat.reduceLT, Nat.reduceEqDiff, Nat.reduceAdd, if_true, if_false, Bool.true_eq_false, Bool.false_eq_true, Bool.true_and, Bool.false_and, Bool.and_true, Bool.and_false, i_10, i_01, i_00, not_true_eq_false, not_false_eq_true, e0, r1]
  refine both_law (b_best hi _) ?_
  intro x h1 hr kq
  obtain ⟨fs, e74⟩ := Inv_74 hi h9 kq
  simp only [S_law_law_9, SEL, PF, mr_gf_O, mr_rc_O, Option.toList_some, Option.toList_none, List.cons_append, List.nil_append, b2i_0, b2i_1, b2i_a, a_00, a_11, ai_n, si_n, nI_1, q_rl_bit, mr_up_at, Nat.reduceLeDiff, Nat.reduceLT, Nat.reduceEqDiff, Nat.reduceAdd, if_true, if_false, Bool.true_eq_false, Bool.false_eq_true, Bool.true_and, Bool.false_and, Bool.and_true, Bool.and_false, i_10, i_01, i_00, not_true_eq_false, not_false_eq_true, kq.1, e74, r1]
  refine run_mono hr ?_
  rintro r h2 ⟨rfl, iv, e⟩
  simp only [S_law_law_9, S_law_law_14, SEL, PF, mr_gf_O, mr_rc_O, Option.toList_some, Option.toList_none, List.cons_append, List.nil_append, b2i_0, b2i_1, b2i_a, a_00, a_11, ai_n, si_n, nI_1, q_rl_bit, mr_up_at, Nat.reduceLeDiff, Nat.reduceLT, Nat.reduceEqDiff, Nat.reduceAdd, if_true, if_false, Bool.true_eq_false, Bool.false_eq_true, Bool.true_and, Bool.false_and, Bool.and_true, Bool.and_false, i_10, i_01, i_00, not_true_eq_false, not_false_eq_true, nI_5]
  exact nx h2 iv e
theorem lc_odds (hi : Inv h) (h9 : 74 < h.2.1) (hL : i + 5 ≤ h.2.2.2.1) (hM : h.2.2.2.1 ≤ 2560) (nx : ∀ h2, Inv h2 → h2.2 = h.2 → mr_wp 181 18 [.retAddr 0, .ref 0, .ref 74, .int (nI (i + 5))] [] h2 Q) : mr_wp 181 629 [.retAddr 0, .ref 0, .ref 74, .int (nI i)] [] h Q := by
  have e0 := Inv_e0 hi
  have r1 := lw_r hL hM 1 (by decide)
  have r2 := lw_r hL hM 2 (by decide)
  have r3 := lw_r hL hM 3 (by decide)
  have r4 := lw_r hL hM 4 (by decide)
  simp only [S_law_law_9, S_law_law_10, S_law_law_11, SEL, PF, mr_gf_O, mr_rc_O, Option.toList_some, Option.toList_none, List.cons_append, List.nil_append, b2i_0, b2i_1, b2i_a, a_00, a_11, ai_n, si_n, nI_1, q_rl_bit, mr_up_at, Nat.reduceLeDiff, Nat.reduceLT, Nat.reduceEqDiff, Nat.reduceAdd, if_true, if_false, Bool.true_eq_false, Bool.false_eq_true, Bool.true_and, Bool.false_and, Bool.and_true, Bool.and_false, i_10, i_01, i_00, not_true_eq_false, not_false_eq_true, e0, nI_2, nI_3, nI_4, r1, r2, r3, r4]
  refine both_law (b_odds hi _ _ _ _) ?_
  intro x h1 hr kq
  obtain ⟨fs, e74⟩ := Inv_74 hi h9 kq
  simp only [S_law_law_9, S_law_law_10, S_law_law_11, SEL, PF, mr_gf_O, mr_rc_O, Option.toList_some, Option.toList_none, List.cons_append, List.nil_append, b2i_0, b2i_1, b2i_a, a_00, a_11, ai_n, si_n, nI_1, q_rl_bit, mr_up_at, Nat.reduceLeDiff, Nat.reduceLT, Nat.reduceEqDiff, Nat.reduceAdd, if_true, if_false, Bool.true_eq_false, Bool.false_eq_true, Bool.true_and, Bool.false_and, Bool.and_true, Bool.and_false, i_10, i_01, i_00, not_true_eq_false, not_false_eq_true, kq.1, e74, nI_2, nI_3, nI_4, r1, r2, r3, r4]
  refine run_mono hr ?_
  rintro r h2 ⟨rfl, iv, e⟩
  simp only [S_law_law_9, S_law_law_10, S_law_law_11, S_law_law_14, SEL, PF, mr_gf_O, mr_rc_O, Option.toList_some, Option.toList_none, List.cons_append, List.nil_append, b2i_0, b2i_1, b2i_a, a_00, a_11, ai_n, si_n, nI_1, q_rl_bit, mr_up_at, Nat.reduceLeDiff, Nat.reduceLT, Nat.reduceEqDiff, Nat.reduceAdd, if_true, if_false, Bool.true_eq_false, Bool.false_eq_true, Bool.true_and, Bool.false_and, Bool.and_true, Bool.and_false, i_10, i_01, i_00, not_true_eq_false, not_false_eq_true, nI_5]
  exact nx h2 iv e
theorem lc_sees (hi : Inv h) (h9 : 74 < h.2.1) (hL : i + 5 ≤ h.2.2.2.1) (hM : h.2.2.2.1 ≤ 2560) (nx : ∀ h2, Inv h2 → h2.2 = h.2 → mr_wp 181 18 [.retAddr 0, .ref 0, .ref 74, .int (nI (i + 5))] [] h2 Q) : mr_wp 181 682 [.retAddr 0, .ref 0, .ref 74, .int (nI i)] [] h Q := by
  have e0 := Inv_e0 hi
  have r1 := lw_r hL hM 1 (by decide)
  have r2 := lw_r hL hM 2 (by decide)
  have r3 := lw_r hL hM 3 (by decide)
  simp only [S_law_law_11, S_law_law_12, SEL, PF, mr_gf_O, mr_rc_O, Option.toList_some, Option.toList_none, List.cons_append, List.nil_append, b2i_0, b2i_1, b2i_a, a_00, a_11, ai_n, si_n, nI_1, q_rl_bit, mr_up_at, Nat.reduceLeDiff, Nat.reduceLT, Nat.reduceEqDiff, Nat.reduceAdd, if_true, if_false, Bool.true_eq_false, Bool.false_eq_true, Bool.true_and, Bool.false_and, Bool.and_true, Bool.and_false, i_10, i_01, i_00, not_true_eq_false, not_false_eq_true, e0, nI_2, nI_3, r1, r2, r3]
  refine both_law (b_sees hi _ _ _) ?_
  intro x h1 hr kq
  obtain ⟨fs, e74⟩ := Inv_74 hi h9 kq
  simp only [S_law_law_11, S_law_law_12, SEL, PF, mr_gf_O, mr_rc_O, Option.toList_some, Option.toList_none, List.cons_append, List.nil_append, b2i_0, b2i_1, b2i_a, a_00, a_11, ai_n, si_n, nI_1, q_rl_bit, mr_up_at, Nat.reduceLeDiff, Nat.reduceLT, Nat.reduceEqDiff, Nat.reduceAdd, if_true, if_false, Bool.true_eq_false, Bool.false_eq_true, Bool.true_and, Bool.false_and, Bool.and_true, Bool.and_false, i_10, i_01, i_00, not_true_eq_false, not_false_eq_true, kq.1, e74, nI_2, nI_3, r1, r2, r3]
  refine run_mono hr ?_
  rintro r h2 ⟨rfl, iv, e⟩
  simp only [S_law_law_11, S_law_law_12, S_law_law_14, SEL, PF, mr_gf_O, mr_rc_O, Option.toList_some, Option.toList_none, List.cons_append, List.nil_append, b2i_0, b2i_1, b2i_a, a_00, a_11, ai_n, si_n, nI_1, q_rl_bit, mr_up_at, Nat.reduceLeDiff, Nat.reduceLT, Nat.reduceEqDiff, Nat.reduceAdd, if_true, if_false, Bool.true_eq_false, Bool.false_eq_true, Bool.true_and, Bool.false_and, Bool.and_true, Bool.and_false, i_10, i_01, i_00, not_true_eq_false, not_false_eq_true, nI_5]
  exact nx h2 iv e
theorem lc_forget (hi : Inv h) (h9 : 74 < h.2.1) (hL : i + 5 ≤ h.2.2.2.1) (hM : h.2.2.2.1 ≤ 2560) (nx : ∀ h2, Inv h2 → h2.2 = h.2 → mr_wp 181 18 [.retAddr 0, .ref 0, .ref 74, .int (nI (i + 5))] [] h2 Q) : mr_wp 181 725 [.retAddr 0, .ref 0, .ref 74, .int (nI i)] [] h Q := by
  have e0 := Inv_e0 hi
  simp only [S_law_law_12, SEL, PF, mr_gf_O, mr_rc_O, Option.toList_some, Option.toList_none, List.cons_append, List.nil_append, b2i_0, b2i_1, b2i_a, a_00, a_11, ai_n, si_n, nI_1, q_rl_bit, mr_up_at, Nat.reduceLeDiff, Nat.reduceLT, Nat.reduceEqDiff, Nat.reduceAdd, if_true, if_false, Bool.true_eq_false, Bool.false_eq_true, Bool.true_and, Bool.false_and, Bool.and_true, Bool.and_false, i_10, i_01, i_00, not_true_eq_false, not_false_eq_true, e0]
  refine both_law (b_forget hi) ?_
  intro x h1 hr kq
  obtain ⟨fs, e74⟩ := Inv_74 hi h9 kq
  simp only [S_law_law_12, SEL, PF, mr_gf_O, mr_rc_O, Option.toList_some, Option.toList_none, List.cons_append, List.nil_append, b2i_0, b2i_1, b2i_a, a_00, a_11, ai_n, si_n, nI_1, q_rl_bit, mr_up_at, Nat.reduceLeDiff, Nat.reduceLT, Nat.reduceEqDiff, Nat.reduceAdd, if_true, if_false, Bool.true_eq_false, Bool.false_eq_true, Bool.true_and, Bool.false_and, Bool.and_true, Bool.and_false, i_10, i_01, i_00, not_true_eq_false, not_false_eq_true, kq.1, e74]
  refine run_mono hr ?_
  rintro r h2 ⟨rfl, iv, e⟩
  simp only [S_law_law_12, S_law_law_14, SEL, PF, mr_gf_O, mr_rc_O, Option.toList_some, Option.toList_none, List.cons_append, List.nil_append, b2i_0, b2i_1, b2i_a, a_00, a_11, ai_n, si_n, nI_1, q_rl_bit, mr_up_at, Nat.reduceLeDiff, Nat.reduceLT, Nat.reduceEqDiff, Nat.reduceAdd, if_true, if_false, Bool.true_eq_false, Bool.false_eq_true, Bool.true_and, Bool.false_and, Bool.and_true, Bool.and_false, i_10, i_01, i_00, not_true_eq_false, not_false_eq_true, nI_5]
  exact nx h2 iv e
theorem lc_unseen (hi : Inv h) (h9 : 74 < h.2.1) (hL : i + 5 ≤ h.2.2.2.1) (hM : h.2.2.2.1 ≤ 2560) (nx : ∀ h2, Inv h2 → h2.2 = h.2 → mr_wp 181 18 [.retAddr 0, .ref 0, .ref 74, .int (nI (i + 5))] [] h2 Q) : mr_wp 181 738 [.retAddr 0, .ref 0, .ref 74, .int (nI i)] [] h Q := by
  have e0 := Inv_e0 hi
  have r1 := lw_r hL hM 1 (by decide)
  simp only [S_law_law_12, SEL, PF, mr_gf_O, mr_rc_O, Option.toList_some, Option.toList_none, List.cons_append, List.nil_append, b2i_0, b2i_1, b2i_a, a_00, a_11, ai_n, si_n, nI_1, q_rl_bit, mr_up_at, Nat.reduceLeDiff, Nat.reduceLT, Nat.reduceEqDiff, Nat.reduceAdd, if_true, if_false, Bool.true_eq_false, Bool.false_eq_true, Bool.true_and, Bool.false_and, Bool.and_true, Bool.and_false, i_10, i_01, i_00, not_true_eq_false, not_false_eq_true, e0, r1]
  refine both_law (b_unseen hi _) ?_
  intro x h1 hr kq
  obtain ⟨fs, e74⟩ := Inv_74 hi h9 kq
  simp only [S_law_law_12, SEL, PF, mr_gf_O, mr_rc_O, Option.toList_some, Option.toList_none, List.cons_append, List.nil_append, b2i_0, b2i_1, b2i_a, a_00, a_11, ai_n, si_n, nI_1, q_rl_bit, mr_up_at, Nat.reduceLeDiff, Nat.reduceLT, Nat.reduceEqDiff, Nat.reduceAdd, if_true, if_false, Bool.true_eq_false, Bool.false_eq_true, Bool.true_and, Bool.false_and, Bool.and_true, Bool.and_false, i_10, i_01, i_00, not_true_eq_false, not_false_eq_true, kq.1, e74, r1]
  refine run_mono hr ?_
  rintro r h2 ⟨rfl, iv, e⟩
  simp only [S_law_law_12, S_law_law_14, SEL, PF, mr_gf_O, mr_rc_O, Option.toList_some, Option.toList_none, List.cons_append, List.nil_append, b2i_0, b2i_1, b2i_a, a_00, a_11, ai_n, si_n, nI_1, q_rl_bit, mr_up_at, Nat.reduceLeDiff, Nat.reduceLT, Nat.reduceEqDiff, Nat.reduceAdd, if_true, if_false, Bool.true_eq_false, Bool.false_eq_true, Bool.true_and, Bool.false_and, Bool.and_true, Bool.and_false, i_10, i_01, i_00, not_true_eq_false, not_false_eq_true, nI_5]
  exact nx h2 iv e
theorem lc_next (hi : Inv h) (h9 : 74 < h.2.1) (hL : i + 5 ≤ h.2.2.2.1) (hM : h.2.2.2.1 ≤ 2560) (nx : ∀ h2, Inv h2 → h2.2 = h.2 → mr_wp 181 18 [.retAddr 0, .ref 0, .ref 74, .int (nI (i + 5))] [] h2 Q) : mr_wp 181 761 [.retAddr 0, .ref 0, .ref 74, .int (nI i)] [] h Q := by
  have e0 := Inv_e0 hi
  simp only [S_law_law_12, SEL, PF, mr_gf_O, mr_rc_O, Option.toList_some, Option.toList_none, List.cons_append, List.nil_append, b2i_0, b2i_1, b2i_a, a_00, a_11, ai_n, si_n, nI_1, q_rl_bit, mr_up_at, Nat.reduceLeDiff, Nat.reduceLT, Nat.reduceEqDiff, Nat.reduceAdd, if_true, if_false, Bool.true_eq_false, Bool.false_eq_true, Bool.true_and, Bool.false_and, Bool.and_true, Bool.and_false, i_10, i_01, i_00, not_true_eq_false, not_false_eq_true, e0]
  refine both_law (b_next hi) ?_
  intro x h1 hr kq
  obtain ⟨fs, e74⟩ := Inv_74 hi h9 kq
  simp only [S_law_law_12, SEL, PF, mr_gf_O, mr_rc_O, Option.toList_some, Option.toList_none, List.cons_append, List.nil_append, b2i_0, b2i_1, b2i_a, a_00, a_11, ai_n, si_n, nI_1, q_rl_bit, mr_up_at, Nat.reduceLeDiff, Nat.reduceLT, Nat.reduceEqDiff, Nat.reduceAdd, if_true, if_false, Bool.true_eq_false, Bool.false_eq_true, Bool.true_and, Bool.false_and, Bool.and_true, Bool.and_false, i_10, i_01, i_00, not_true_eq_false, not_false_eq_true, kq.1, e74]
  refine run_mono hr ?_
  rintro r h2 ⟨rfl, iv, e⟩
  simp only [S_law_law_12, S_law_law_14, SEL, PF, mr_gf_O, mr_rc_O, Option.toList_some, Option.toList_none, List.cons_append, List.nil_append, b2i_0, b2i_1, b2i_a, a_00, a_11, ai_n, si_n, nI_1, q_rl_bit, mr_up_at, Nat.reduceLeDiff, Nat.reduceLT, Nat.reduceEqDiff, Nat.reduceAdd, if_true, if_false, Bool.true_eq_false, Bool.false_eq_true, Bool.true_and, Bool.false_and, Bool.and_true, Bool.and_false, i_10, i_01, i_00, not_true_eq_false, not_false_eq_true, nI_5]
  exact nx h2 iv e
theorem lc_keep (hi : Inv h) (h9 : 74 < h.2.1) (hL : i + 5 ≤ h.2.2.2.1) (hM : h.2.2.2.1 ≤ 2560) (nx : ∀ h2, Inv h2 → h2.2 = h.2 → mr_wp 181 18 [.retAddr 0, .ref 0, .ref 74, .int (nI (i + 5))] [] h2 Q) : mr_wp 181 774 [.retAddr 0, .ref 0, .ref 74, .int (nI i)] [] h Q := by
  have e0 := Inv_e0 hi
  have r1 := lw_r hL hM 1 (by decide)
  simp only [S_law_law_12, S_law_law_13, SEL, PF, mr_gf_O, mr_rc_O, Option.toList_some, Option.toList_none, List.cons_append, List.nil_append, b2i_0, b2i_1, b2i_a, a_00, a_11, ai_n, si_n, nI_1, q_rl_bit, mr_up_at, Nat.reduceLeDiff, Nat.reduceLT, Nat.reduceEqDiff, Nat.reduceAdd, if_true, if_false, Bool.true_eq_false, Bool.false_eq_true, Bool.true_and, Bool.false_and, Bool.and_true, Bool.and_false, i_10, i_01, i_00, not_true_eq_false, not_false_eq_true, e0, r1]
  refine both_law (b_keep hi _) ?_
  intro x h1 hr kq
  obtain ⟨fs, e74⟩ := Inv_74 hi h9 kq
  simp only [S_law_law_12, S_law_law_13, SEL, PF, mr_gf_O, mr_rc_O, Option.toList_some, Option.toList_none, List.cons_append, List.nil_append, b2i_0, b2i_1, b2i_a, a_00, a_11, ai_n, si_n, nI_1, q_rl_bit, mr_up_at, Nat.reduceLeDiff, Nat.reduceLT, Nat.reduceEqDiff, Nat.reduceAdd, if_true, if_false, Bool.true_eq_false, Bool.false_eq_true, Bool.true_and, Bool.false_and, Bool.and_true, Bool.and_false, i_10, i_01, i_00, not_true_eq_false, not_false_eq_true, kq.1, e74, r1]
  refine run_mono hr ?_
  rintro r h2 ⟨rfl, iv, e⟩
  simp only [S_law_law_12, S_law_law_13, S_law_law_14, SEL, PF, mr_gf_O, mr_rc_O, Option.toList_some, Option.toList_none, List.cons_append, List.nil_append, b2i_0, b2i_1, b2i_a, a_00, a_11, ai_n, si_n, nI_1, q_rl_bit, mr_up_at, Nat.reduceLeDiff, Nat.reduceLT, Nat.reduceEqDiff, Nat.reduceAdd, if_true, if_false, Bool.true_eq_false, Bool.false_eq_true, Bool.true_and, Bool.false_and, Bool.and_true, Bool.and_false, i_10, i_01, i_00, not_true_eq_false, not_false_eq_true, nI_5]
  exact nx h2 iv e
theorem lc_back (hi : Inv h) (h9 : 74 < h.2.1) (hL : i + 5 ≤ h.2.2.2.1) (hM : h.2.2.2.1 ≤ 2560) (nx : ∀ h2, Inv h2 → h2.2 = h.2 → mr_wp 181 18 [.retAddr 0, .ref 0, .ref 74, .int (nI (i + 5))] [] h2 Q) : mr_wp 181 797 [.retAddr 0, .ref 0, .ref 74, .int (nI i)] [] h Q := by
  have e0 := Inv_e0 hi
  have r1 := lw_r hL hM 1 (by decide)
  simp only [S_law_law_13, SEL, PF, mr_gf_O, mr_rc_O, Option.toList_some, Option.toList_none, List.cons_append, List.nil_append, b2i_0, b2i_1, b2i_a, a_00, a_11, ai_n, si_n, nI_1, q_rl_bit, mr_up_at, Nat.reduceLeDiff, Nat.reduceLT, Nat.reduceEqDiff, Nat.reduceAdd, if_true, if_false, Bool.true_eq_false, Bool.false_eq_true, Bool.true_and, Bool.false_and, Bool.and_true, Bool.and_false, i_10, i_01, i_00, not_true_eq_false, not_false_eq_true, e0, r1]
  refine both_law (b_back hi _) ?_
  intro x h1 hr kq
  obtain ⟨fs, e74⟩ := Inv_74 hi h9 kq
  simp only [S_law_law_13, SEL, PF, mr_gf_O, mr_rc_O, Option.toList_some, Option.toList_none, List.cons_append, List.nil_append, b2i_0, b2i_1, b2i_a, a_00, a_11, ai_n, si_n, nI_1, q_rl_bit, mr_up_at, Nat.reduceLeDiff, Nat.reduceLT, Nat.reduceEqDiff, Nat.reduceAdd, if_true, if_false, Bool.true_eq_false, Bool.false_eq_true, Bool.true_and, Bool.false_and, Bool.and_true, Bool.and_false, i_10, i_01, i_00, not_true_eq_false, not_false_eq_true, kq.1, e74, r1]
  refine run_mono hr ?_
  rintro r h2 ⟨rfl, iv, e⟩
  simp only [S_law_law_13, S_law_law_14, SEL, PF, mr_gf_O, mr_rc_O, Option.toList_some, Option.toList_none, List.cons_append, List.nil_append, b2i_0, b2i_1, b2i_a, a_00, a_11, ai_n, si_n, nI_1, q_rl_bit, mr_up_at, Nat.reduceLeDiff, Nat.reduceLT, Nat.reduceEqDiff, Nat.reduceAdd, if_true, if_false, Bool.true_eq_false, Bool.false_eq_true, Bool.true_and, Bool.false_and, Bool.and_true, Bool.and_false, i_10, i_01, i_00, not_true_eq_false, not_false_eq_true, nI_5]
  exact nx h2 iv e
theorem lc_count (hi : Inv h) (h9 : 74 < h.2.1) (hL : i + 5 ≤ h.2.2.2.1) (hM : h.2.2.2.1 ≤ 2560) (nx : ∀ h2, Inv h2 → h2.2 = h.2 → mr_wp 181 18 [.retAddr 0, .ref 0, .ref 74, .int (nI (i + 5))] [] h2 Q) : mr_wp 181 820 [.retAddr 0, .ref 0, .ref 74, .int (nI i)] [] h Q := by
  have e0 := Inv_e0 hi
  have r1 := lw_r hL hM 1 (by decide)
  simp only [S_law_law_13, S_law_law_14, SEL, PF, mr_gf_O, mr_rc_O, Option.toList_some, Option.toList_none, List.cons_append, List.nil_append, b2i_0, b2i_1, b2i_a, a_00, a_11, ai_n, si_n, nI_1, q_rl_bit, mr_up_at, Nat.reduceLeDiff, Nat.reduceLT, Nat.reduceEqDiff, Nat.reduceAdd, if_true, if_false, Bool.true_eq_false, Bool.false_eq_true, Bool.true_and, Bool.false_and, Bool.and_true, Bool.and_false, i_10, i_01, i_00, not_true_eq_false, not_false_eq_true, e0, r1]
  refine both_law (b_count hi _) ?_
  intro x h1 hr kq
  obtain ⟨fs, e74⟩ := Inv_74 hi h9 kq
  simp only [S_law_law_13, S_law_law_14, SEL, PF, mr_gf_O, mr_rc_O, Option.toList_some, Option.toList_none, List.cons_append, List.nil_append, b2i_0, b2i_1, b2i_a, a_00, a_11, ai_n, si_n, nI_1, q_rl_bit, mr_up_at, Nat.reduceLeDiff, Nat.reduceLT, Nat.reduceEqDiff, Nat.reduceAdd, if_true, if_false, Bool.true_eq_false, Bool.false_eq_true, Bool.true_and, Bool.false_and, Bool.and_true, Bool.and_false, i_10, i_01, i_00, not_true_eq_false, not_false_eq_true, kq.1, e74, r1]
  refine run_mono hr ?_
  rintro r h2 ⟨rfl, iv, e⟩
  simp only [S_law_law_13, S_law_law_14, SEL, PF, mr_gf_O, mr_rc_O, Option.toList_some, Option.toList_none, List.cons_append, List.nil_append, b2i_0, b2i_1, b2i_a, a_00, a_11, ai_n, si_n, nI_1, q_rl_bit, mr_up_at, Nat.reduceLeDiff, Nat.reduceLT, Nat.reduceEqDiff, Nat.reduceAdd, if_true, if_false, Bool.true_eq_false, Bool.false_eq_true, Bool.true_and, Bool.false_and, Bool.and_true, Bool.and_false, i_10, i_01, i_00, not_true_eq_false, not_false_eq_true, nI_5]
  exact nx h2 iv e
end CASES
