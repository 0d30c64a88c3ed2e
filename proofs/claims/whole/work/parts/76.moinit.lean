/-! the reference's constructor -/
theorem mi_st {H : mr_h} {n a : Nat} {c o : mr_c} (hc : H.2.1 = a) (ha : 74 < a) : (mr_up (mr_add H n c) 74 o).1 74 = o ∧ (mr_up (mr_add H n c) 74 o).1 a = c ∧ (∀ x, x ≠ 74 → x < a → (mr_up (mr_add H n c) 74 o).1 x = H.1 x) ∧ (mr_up (mr_add H n c) 74 o).2.1 = a + 1 ∧ (mr_up (mr_add H n c) 74 o).2.2.1 = H.2.2.1 + n ∧ (mr_up (mr_add H n c) 74 o).2.2.2 = H.2.2.2 := by
  refine ⟨up_eq _ _ _, ?_, fun x h1 h2 => ?_, ?_, rfl, rfl⟩
  · rw [mr_up_at, if_neg (by omega), ad_at, if_pos hc.symm]
  · rw [mr_up_at, if_neg h1, ad_at, if_neg (by omega)]
  · rw [mr_up_2, ad_n, hc]
theorem mi_ad {H : mr_h} {n a : Nat} {c o : mr_c} (hc : H.2.1 = a) (ha : 74 < a) (e : H.1 74 = o) : (mr_add H n c).1 74 = o := by
  rw [ad_at, if_neg (by omega)]
  exact e
/-- what a new reference is -/
def MS (h : mr_h) : Prop := (∃ tt tk pl va fa dn dr uf, h.1 74 = MO 0 (nI 0) tt tk pl va fa (nI 4) dn dr (nI 0) (nI 0) uf) ∧ isI (h.1 75) 120 ∧ isI (h.1 76) 24 ∧ (∃ S, h.1 77 = mr_I 24 S ∧ ∀ u, u < 12 → S u = 0 ∧ S (12 + u) = nI u) ∧ isI (h.1 78) 24 ∧ isI (h.1 79) 48 ∧ (∃ Z, h.1 80 = mr_Z 2 Z ∧ ∀ i, i < 2 → Z i = 0) ∧ isI (h.1 81) 240 ∧ isI (h.1 82) 6 ∧ isI (h.1 83) 6 ∧ isI (h.1 84) 6 ∧ isI (h.1 85) 12 ∧ isI (h.1 86) 12 ∧ isI (h.1 87) 12 ∧ isI (h.1 88) 12 ∧ isI (h.1 89) 144
section MOINIT
variable {h : mr_h} {Q : Option Value → mr_h → Prop}
theorem q_mo_init (ea : h.1 74 = mr_O 11 (mr_dfs 11)) (hc : h.2.1 = 75) (kk : ∀ h2, h2.2.1 = 90 → h2.2.2.1 = h.2.2.1 + 692 → h2.2.2.2 = h.2.2.2 → (∀ x, x < 74 → h2.1 x = h.1 x) → MS h2 → Q none h2) : mr_run 116 [.ref 74] h Q := by
  rw [df_11] at ea
  rw [r_mo_init]
  have z0 : h.1 74 = mr_O 11 [.int 0, .null, .int 0, .int 0, .int 0, .int 0, .int 0, .int 0, .int 0, .int 0, .null, .int 0, .null, .null, .null, .null, .null, .int 0, .null, .null, .null, .int 0, .null, .null, .null, .null, .null, .int 0] := ea
  have c0 := hc
  have p0 : (mr_add h 120 (mr_I 120 (fun _ => 0))).1 74 = mr_O 11 [.int 0, .null, .int 0, .int 0, .int 0, .int 0, .int 0, .int 0, .int 0, .int 0, .null, .int 0, .null, .null, .null, .null, .null, .int 0, .null, .null, .null, .int 0, .null, .null, .null, .null, .null, .int 0] := mi_ad c0 (by decide) z0
  simp only [S_mo_init_0, S_mo_init_1, SEL, PF, mr_gf_O, mr_rc_O, Option.toList_some, Option.toList_none, List.cons_append, List.nil_append, b2i_0, b2i_1, b2i_a, a_00, a_11, ai_n, si_n, nI_1, q_rl_bit, mr_up_at, Nat.reduceLeDiff, Nat.reduceLT, Nat.reduceEqDiff, Nat.reduceAdd, if_true, if_false, Bool.true_eq_false, Bool.false_eq_true, Bool.true_and, Bool.false_and, Bool.and_true, Bool.and_false, i_10, i_01, i_00, not_true_eq_false, not_false_eq_true, PFI, p0, c0]
  have m0 := mi_st (n := 120) (c := mr_I 120 (fun _ => 0)) (o := mr_O 11 [.int 0, .ref 75, .int 0, .int 0, .int 0, .int 0, .int 0, .int 0, .int 0, .int 0, .null, .int 0, .null, .null, .null, .null, .null, .int 0, .null, .null, .null, .int 0, .null, .null, .null, .null, .null, .int 0]) c0 (by decide)
  generalize hh0 : mr_up (mr_add h 120 (mr_I 120 (fun _ => 0))) 74 (mr_O 11 [.int 0, .ref 75, .int 0, .int 0, .int 0, .int 0, .int 0, .int 0, .int 0, .int 0, .null, .int 0, .null, .null, .null, .null, .null, .int 0, .null, .null, .null, .int 0, .null, .null, .null, .null, .null, .int 0]) = h1 at m0 ⊢
  obtain ⟨z1, v0, w0, d1, s0, t0⟩ := m0
  have c1 : h1.2.1 = 76 := d1
  have p1 : (mr_add h1 24 (mr_I 24 (fun _ => 0))).1 74 = mr_O 11 [.int 0, .ref 75, .int 0, .int 0, .int 0, .int 0, .int 0, .int 0, .int 0, .int 0, .null, .int 0, .null, .null, .null, .null, .null, .int 0, .null, .null, .null, .int 0, .null, .null, .null, .null, .null, .int 0] := mi_ad c1 (by decide) z1
  simp only [S_mo_init_0, S_mo_init_1, SEL, PF, mr_gf_O, mr_rc_O, Option.toList_some, Option.toList_none, List.cons_append, List.nil_append, b2i_0, b2i_1, b2i_a, a_00, a_11, ai_n, si_n, nI_1, q_rl_bit, mr_up_at, Nat.reduceLeDiff, Nat.reduceLT, Nat.reduceEqDiff, Nat.reduceAdd, if_true, if_false, Bool.true_eq_false, Bool.false_eq_true, Bool.true_and, Bool.false_and, Bool.and_true, Bool.and_false, i_10, i_01, i_00, not_true_eq_false, not_false_eq_true, PFI, p1, c1]
  have m1 := mi_st (n := 24) (c := mr_I 24 (fun _ => 0)) (o := mr_O 11 [.int 0, .ref 75, .int 0, .int 0, .int 0, .int 0, .int 0, .int 0, .int 0, .int 0, .ref 76, .int 0, .null, .null, .null, .null, .null, .int 0, .null, .null, .null, .int 0, .null, .null, .null, .null, .null, .int 0]) c1 (by decide)
  generalize hh1 : mr_up (mr_add h1 24 (mr_I 24 (fun _ => 0))) 74 (mr_O 11 [.int 0, .ref 75, .int 0, .int 0, .int 0, .int 0, .int 0, .int 0, .int 0, .int 0, .ref 76, .int 0, .null, .null, .null, .null, .null, .int 0, .null, .null, .null, .int 0, .null, .null, .null, .null, .null, .int 0]) = h2 at m1 ⊢
  obtain ⟨z2, v1, w1, d2, s1, t1⟩ := m1
  have c2 : h2.2.1 = 77 := d2
  have p2 : (mr_add h2 24 (mr_I 24 (fun _ => 0))).1 74 = mr_O 11 [.int 0, .ref 75, .int 0, .int 0, .int 0, .int 0, .int 0, .int 0, .int 0, .int 0, .ref 76, .int 0, .null, .null, .null, .null, .null, .int 0, .null, .null, .null, .int 0, .null, .null, .null, .null, .null, .int 0] := mi_ad c2 (by decide) z2
  simp only [S_mo_init_0, S_mo_init_1, SEL, PF, mr_gf_O, mr_rc_O, Option.toList_some, Option.toList_none, List.cons_append, List.nil_append, b2i_0, b2i_1, b2i_a, a_00, a_11, ai_n, si_n, nI_1, q_rl_bit, mr_up_at, Nat.reduceLeDiff, Nat.reduceLT, Nat.reduceEqDiff, Nat.reduceAdd, if_true, if_false, Bool.true_eq_false, Bool.false_eq_true, Bool.true_and, Bool.false_and, Bool.and_true, Bool.and_false, i_10, i_01, i_00, not_true_eq_false, not_false_eq_true, PFI, p2, c2]
  have m2 := mi_st (n := 24) (c := mr_I 24 (fun _ => 0)) (o := mr_O 11 [.int 0, .ref 75, .int 0, .int 0, .int 0, .int 0, .int 0, .int 0, .int 0, .int 0, .ref 76, .int 0, .ref 77, .null, .null, .null, .null, .int 0, .null, .null, .null, .int 0, .null, .null, .null, .null, .null, .int 0]) c2 (by decide)
  generalize hh2 : mr_up (mr_add h2 24 (mr_I 24 (fun _ => 0))) 74 (mr_O 11 [.int 0, .ref 75, .int 0, .int 0, .int 0, .int 0, .int 0, .int 0, .int 0, .int 0, .ref 76, .int 0, .ref 77, .null, .null, .null, .null, .int 0, .null, .null, .null, .int 0, .null, .null, .null, .null, .null, .int 0]) = h3 at m2 ⊢
  obtain ⟨z3, v2, w2, d3, s2, t2⟩ := m2
  have c3 : h3.2.1 = 78 := d3
  have p3 : (mr_add h3 24 (mr_I 24 (fun _ => 0))).1 74 = mr_O 11 [.int 0, .ref 75, .int 0, .int 0, .int 0, .int 0, .int 0, .int 0, .int 0, .int 0, .ref 76, .int 0, .ref 77, .null, .null, .null, .null, .int 0, .null, .null, .null, .int 0, .null, .null, .null, .null, .null, .int 0] := mi_ad c3 (by decide) z3
  simp only [S_mo_init_0, S_mo_init_1, SEL, PF, mr_gf_O, mr_rc_O, Option.toList_some, Option.toList_none, List.cons_append, List.nil_append, b2i_0, b2i_1, b2i_a, a_00, a_11, ai_n, si_n, nI_1, q_rl_bit, mr_up_at, Nat.reduceLeDiff, Nat.reduceLT, Nat.reduceEqDiff, Nat.reduceAdd, if_true, if_false, Bool.true_eq_false, Bool.false_eq_true, Bool.true_and, Bool.false_and, Bool.and_true, Bool.and_false, i_10, i_01, i_00, not_true_eq_false, not_false_eq_true, PFI, p3, c3]
  have m3 := mi_st (n := 24) (c := mr_I 24 (fun _ => 0)) (o := mr_O 11 [.int 0, .ref 75, .int 0, .int 0, .int 0, .int 0, .int 0, .int 0, .int 0, .int 0, .ref 76, .int 0, .ref 77, .ref 78, .null, .null, .null, .int 0, .null, .null, .null, .int 0, .null, .null, .null, .null, .null, .int 0]) c3 (by decide)
  generalize hh3 : mr_up (mr_add h3 24 (mr_I 24 (fun _ => 0))) 74 (mr_O 11 [.int 0, .ref 75, .int 0, .int 0, .int 0, .int 0, .int 0, .int 0, .int 0, .int 0, .ref 76, .int 0, .ref 77, .ref 78, .null, .null, .null, .int 0, .null, .null, .null, .int 0, .null, .null, .null, .null, .null, .int 0]) = h4 at m3 ⊢
  obtain ⟨z4, v3, w3, d4, s3, t3⟩ := m3
  have c4 : h4.2.1 = 79 := d4
  have p4 : (mr_add h4 48 (mr_I 48 (fun _ => 0))).1 74 = mr_O 11 [.int 0, .ref 75, .int 0, .int 0, .int 0, .int 0, .int 0, .int 0, .int 0, .int 0, .ref 76, .int 0, .ref 77, .ref 78, .null, .null, .null, .int 0, .null, .null, .null, .int 0, .null, .null, .null, .null, .null, .int 0] := mi_ad c4 (by decide) z4
  simp only [S_mo_init_0, S_mo_init_1, SEL, PF, mr_gf_O, mr_rc_O, Option.toList_some, Option.toList_none, List.cons_append, List.nil_append, b2i_0, b2i_1, b2i_a, a_00, a_11, ai_n, si_n, nI_1, q_rl_bit, mr_up_at, Nat.reduceLeDiff, Nat.reduceLT, Nat.reduceEqDiff, Nat.reduceAdd, if_true, if_false, Bool.true_eq_false, Bool.false_eq_true, Bool.true_and, Bool.false_and, Bool.and_true, Bool.and_false, i_10, i_01, i_00, not_true_eq_false, not_false_eq_true, PFI, p4, c4]
  have m4 := mi_st (n := 48) (c := mr_I 48 (fun _ => 0)) (o := mr_O 11 [.int 0, .ref 75, .int 0, .int 0, .int 0, .int 0, .int 0, .int 0, .int 0, .int 0, .ref 76, .int 0, .ref 77, .ref 78, .ref 79, .null, .null, .int 0, .null, .null, .null, .int 0, .null, .null, .null, .null, .null, .int 0]) c4 (by decide)
  generalize hh4 : mr_up (mr_add h4 48 (mr_I 48 (fun _ => 0))) 74 (mr_O 11 [.int 0, .ref 75, .int 0, .int 0, .int 0, .int 0, .int 0, .int 0, .int 0, .int 0, .ref 76, .int 0, .ref 77, .ref 78, .ref 79, .null, .null, .int 0, .null, .null, .null, .int 0, .null, .null, .null, .null, .null, .int 0]) = h5 at m4 ⊢
  obtain ⟨z5, v4, w4, d5, s4, t4⟩ := m4
  have c5 : h5.2.1 = 80 := d5
  have p5 : (mr_add h5 2 (mr_Z 2 (fun _ => 0))).1 74 = mr_O 11 [.int 0, .ref 75, .int 0, .int 0, .int 0, .int 0, .int 0, .int 0, .int 0, .int 0, .ref 76, .int 0, .ref 77, .ref 78, .ref 79, .null, .null, .int 0, .null, .null, .null, .int 0, .null, .null, .null, .null, .null, .int 0] := mi_ad c5 (by decide) z5
  simp only [S_mo_init_0, S_mo_init_1, SEL, PF, mr_gf_O, mr_rc_O, Option.toList_some, Option.toList_none, List.cons_append, List.nil_append, b2i_0, b2i_1, b2i_a, a_00, a_11, ai_n, si_n, nI_1, q_rl_bit, mr_up_at, Nat.reduceLeDiff, Nat.reduceLT, Nat.reduceEqDiff, Nat.reduceAdd, if_true, if_false, Bool.true_eq_false, Bool.false_eq_true, Bool.true_and, Bool.false_and, Bool.and_true, Bool.and_false, i_10, i_01, i_00, not_true_eq_false, not_false_eq_true, PFI, p5, c5]
  have m5 := mi_st (n := 2) (c := mr_Z 2 (fun _ => 0)) (o := mr_O 11 [.int 0, .ref 75, .int 0, .int 0, .int 0, .int 0, .int 0, .int 0, .int 0, .int 0, .ref 76, .int 0, .ref 77, .ref 78, .ref 79, .ref 80, .null, .int 0, .null, .null, .null, .int 0, .null, .null, .null, .null, .null, .int 0]) c5 (by decide)
  generalize hh5 : mr_up (mr_add h5 2 (mr_Z 2 (fun _ => 0))) 74 (mr_O 11 [.int 0, .ref 75, .int 0, .int 0, .int 0, .int 0, .int 0, .int 0, .int 0, .int 0, .ref 76, .int 0, .ref 77, .ref 78, .ref 79, .ref 80, .null, .int 0, .null, .null, .null, .int 0, .null, .null, .null, .null, .null, .int 0]) = h6 at m5 ⊢
  obtain ⟨z6, v5, w5, d6, s5, t5⟩ := m5
  have c6 : h6.2.1 = 81 := d6
  have p6 : (mr_add h6 240 (mr_I 240 (fun _ => 0))).1 74 = mr_O 11 [.int 0, .ref 75, .int 0, .int 0, .int 0, .int 0, .int 0, .int 0, .int 0, .int 0, .ref 76, .int 0, .ref 77, .ref 78, .ref 79, .ref 80, .null, .int 0, .null, .null, .null, .int 0, .null, .null, .null, .null, .null, .int 0] := mi_ad c6 (by decide) z6
  simp only [S_mo_init_0, S_mo_init_1, SEL, PF, mr_gf_O, mr_rc_O, Option.toList_some, Option.toList_none, List.cons_append, List.nil_append, b2i_0, b2i_1, b2i_a, a_00, a_11, ai_n, si_n, nI_1, q_rl_bit, mr_up_at, Nat.reduceLeDiff, Nat.reduceLT, Nat.reduceEqDiff, Nat.reduceAdd, if_true, if_false, Bool.true_eq_false, Bool.false_eq_true, Bool.true_and, Bool.false_and, Bool.and_true, Bool.and_false, i_10, i_01, i_00, not_true_eq_false, not_false_eq_true, PFI, p6, c6]
  have m6 := mi_st (n := 240) (c := mr_I 240 (fun _ => 0)) (o := mr_O 11 [.int 0, .ref 75, .int 0, .int 0, .int 0, .int 0, .int 0, .int 0, .int 0, .int 0, .ref 76, .int 0, .ref 77, .ref 78, .ref 79, .ref 80, .ref 81, .int 0, .null, .null, .null, .int 0, .null, .null, .null, .null, .null, .int 0]) c6 (by decide)
  generalize hh6 : mr_up (mr_add h6 240 (mr_I 240 (fun _ => 0))) 74 (mr_O 11 [.int 0, .ref 75, .int 0, .int 0, .int 0, .int 0, .int 0, .int 0, .int 0, .int 0, .ref 76, .int 0, .ref 77, .ref 78, .ref 79, .ref 80, .ref 81, .int 0, .null, .null, .null, .int 0, .null, .null, .null, .null, .null, .int 0]) = h7 at m6 ⊢
  obtain ⟨z7, v6, w6, d7, s6, t6⟩ := m6
  have c7 : h7.2.1 = 82 := d7
  have p7 : (mr_add h7 6 (mr_I 6 (fun _ => 0))).1 74 = mr_O 11 [.int 0, .ref 75, .int 0, .int 0, .int 0, .int 0, .int 0, .int 0, .int 0, .int 0, .ref 76, .int 0, .ref 77, .ref 78, .ref 79, .ref 80, .ref 81, .int 0, .null, .null, .null, .int 0, .null, .null, .null, .null, .null, .int 0] := mi_ad c7 (by decide) z7
  simp only [S_mo_init_0, S_mo_init_1, SEL, PF, mr_gf_O, mr_rc_O, Option.toList_some, Option.toList_none, List.cons_append, List.nil_append, b2i_0, b2i_1, b2i_a, a_00, a_11, ai_n, si_n, nI_1, q_rl_bit, mr_up_at, Nat.reduceLeDiff, Nat.reduceLT, Nat.reduceEqDiff, Nat.reduceAdd, if_true, if_false, Bool.true_eq_false, Bool.false_eq_true, Bool.true_and, Bool.false_and, Bool.and_true, Bool.and_false, i_10, i_01, i_00, not_true_eq_false, not_false_eq_true, PFI, p7, c7]
  have m7 := mi_st (n := 6) (c := mr_I 6 (fun _ => 0)) (o := mr_O 11 [.int 0, .ref 75, .int 0, .int 0, .int 0, .int 0, .int 0, .int 0, .int 0, .int 0, .ref 76, .int 0, .ref 77, .ref 78, .ref 79, .ref 80, .ref 81, .int 0, .ref 82, .null, .null, .int 0, .null, .null, .null, .null, .null, .int 0]) c7 (by decide)
  generalize hh7 : mr_up (mr_add h7 6 (mr_I 6 (fun _ => 0))) 74 (mr_O 11 [.int 0, .ref 75, .int 0, .int 0, .int 0, .int 0, .int 0, .int 0, .int 0, .int 0, .ref 76, .int 0, .ref 77, .ref 78, .ref 79, .ref 80, .ref 81, .int 0, .ref 82, .null, .null, .int 0, .null, .null, .null, .null, .null, .int 0]) = h8 at m7 ⊢
  obtain ⟨z8, v7, w7, d8, s7, t7⟩ := m7
  have c8 : h8.2.1 = 83 := d8
  have p8 : (mr_add h8 6 (mr_I 6 (fun _ => 0))).1 74 = mr_O 11 [.int 0, .ref 75, .int 0, .int 0, .int 0, .int 0, .int 0, .int 0, .int 0, .int 0, .ref 76, .int 0, .ref 77, .ref 78, .ref 79, .ref 80, .ref 81, .int 0, .ref 82, .null, .null, .int 0, .null, .null, .null, .null, .null, .int 0] := mi_ad c8 (by decide) z8
  simp only [S_mo_init_0, S_mo_init_1, SEL, PF, mr_gf_O, mr_rc_O, Option.toList_some, Option.toList_none, List.cons_append, List.nil_append, b2i_0, b2i_1, b2i_a, a_00, a_11, ai_n, si_n, nI_1, q_rl_bit, mr_up_at, Nat.reduceLeDiff, Nat.reduceLT, Nat.reduceEqDiff, Nat.reduceAdd, if_true, if_false, Bool.true_eq_false, Bool.false_eq_true, Bool.true_and, Bool.false_and, Bool.and_true, Bool.and_false, i_10, i_01, i_00, not_true_eq_false, not_false_eq_true, PFI, p8, c8]
  have m8 := mi_st (n := 6) (c := mr_I 6 (fun _ => 0)) (o := mr_O 11 [.int 0, .ref 75, .int 0, .int 0, .int 0, .int 0, .int 0, .int 0, .int 0, .int 0, .ref 76, .int 0, .ref 77, .ref 78, .ref 79, .ref 80, .ref 81, .int 0, .ref 82, .ref 83, .null, .int 0, .null, .null, .null, .null, .null, .int 0]) c8 (by decide)
  generalize hh8 : mr_up (mr_add h8 6 (mr_I 6 (fun _ => 0))) 74 (mr_O 11 [.int 0, .ref 75, .int 0, .int 0, .int 0, .int 0, .int 0, .int 0, .int 0, .int 0, .ref 76, .int 0, .ref 77, .ref 78, .ref 79, .ref 80, .ref 81, .int 0, .ref 82, .ref 83, .null, .int 0, .null, .null, .null, .null, .null, .int 0]) = h9 at m8 ⊢
  obtain ⟨z9, v8, w8, d9, s8, t8⟩ := m8
  have c9 : h9.2.1 = 84 := d9
  have p9 : (mr_add h9 6 (mr_I 6 (fun _ => 0))).1 74 = mr_O 11 [.int 0, .ref 75, .int 0, .int 0, .int 0, .int 0, .int 0, .int 0, .int 0, .int 0, .ref 76, .int 0, .ref 77, .ref 78, .ref 79, .ref 80, .ref 81, .int 0, .ref 82, .ref 83, .null, .int 0, .null, .null, .null, .null, .null, .int 0] := mi_ad c9 (by decide) z9
  simp only [S_mo_init_0, S_mo_init_1, SEL, PF, mr_gf_O, mr_rc_O, Option.toList_some, Option.toList_none, List.cons_append, List.nil_append, b2i_0, b2i_1, b2i_a, a_00, a_11, ai_n, si_n, nI_1, q_rl_bit, mr_up_at, Nat.reduceLeDiff, Nat.reduceLT, Nat.reduceEqDiff, Nat.reduceAdd, if_true, if_false, Bool.true_eq_false, Bool.false_eq_true, Bool.true_and, Bool.false_and, Bool.and_true, Bool.and_false, i_10, i_01, i_00, not_true_eq_false, not_false_eq_true, PFI, p9, c9]
  have m9 := mi_st (n := 6) (c := mr_I 6 (fun _ => 0)) (o := mr_O 11 [.int 0, .ref 75, .int 0, .int 0, .int 0, .int 0, .int 0, .int 0, .int 0, .int 0, .ref 76, .int 0, .ref 77, .ref 78, .ref 79, .ref 80, .ref 81, .int 0, .ref 82, .ref 83, .ref 84, .int 0, .null, .null, .null, .null, .null, .int 0]) c9 (by decide)
  generalize hh9 : mr_up (mr_add h9 6 (mr_I 6 (fun _ => 0))) 74 (mr_O 11 [.int 0, .ref 75, .int 0, .int 0, .int 0, .int 0, .int 0, .int 0, .int 0, .int 0, .ref 76, .int 0, .ref 77, .ref 78, .ref 79, .ref 80, .ref 81, .int 0, .ref 82, .ref 83, .ref 84, .int 0, .null, .null, .null, .null, .null, .int 0]) = h10 at m9 ⊢
  obtain ⟨z10, v9, w9, d10, s9, t9⟩ := m9
  have c10 : h10.2.1 = 85 := d10
  have p10 : (mr_add h10 12 (mr_I 12 (fun _ => 0))).1 74 = mr_O 11 [.int 0, .ref 75, .int 0, .int 0, .int 0, .int 0, .int 0, .int 0, .int 0, .int 0, .ref 76, .int 0, .ref 77, .ref 78, .ref 79, .ref 80, .ref 81, .int 0, .ref 82, .ref 83, .ref 84, .int 0, .null, .null, .null, .null, .null, .int 0] := mi_ad c10 (by decide) z10
  simp only [S_mo_init_0, S_mo_init_1, SEL, PF, mr_gf_O, mr_rc_O, Option.toList_some, Option.toList_none, List.cons_append, List.nil_append, b2i_0, b2i_1, b2i_a, a_00, a_11, ai_n, si_n, nI_1, q_rl_bit, mr_up_at, Nat.reduceLeDiff, Nat.reduceLT, Nat.reduceEqDiff, Nat.reduceAdd, if_true, if_false, Bool.true_eq_false, Bool.false_eq_true, Bool.true_and, Bool.false_and, Bool.and_true, Bool.and_false, i_10, i_01, i_00, not_true_eq_false, not_false_eq_true, PFI, p10, c10]
  have m10 := mi_st (n := 12) (c := mr_I 12 (fun _ => 0)) (o := mr_O 11 [.int 0, .ref 75, .int 0, .int 0, .int 0, .int 0, .int 0, .int 0, .int 0, .int 0, .ref 76, .int 0, .ref 77, .ref 78, .ref 79, .ref 80, .ref 81, .int 0, .ref 82, .ref 83, .ref 84, .int 0, .ref 85, .null, .null, .null, .null, .int 0]) c10 (by decide)
  generalize hh10 : mr_up (mr_add h10 12 (mr_I 12 (fun _ => 0))) 74 (mr_O 11 [.int 0, .ref 75, .int 0, .int 0, .int 0, .int 0, .int 0, .int 0, .int 0, .int 0, .ref 76, .int 0, .ref 77, .ref 78, .ref 79, .ref 80, .ref 81, .int 0, .ref 82, .ref 83, .ref 84, .int 0, .ref 85, .null, .null, .null, .null, .int 0]) = h11 at m10 ⊢
  obtain ⟨z11, v10, w10, d11, s10, t10⟩ := m10
  have c11 : h11.2.1 = 86 := d11
  have p11 : (mr_add h11 12 (mr_I 12 (fun _ => 0))).1 74 = mr_O 11 [.int 0, .ref 75, .int 0, .int 0, .int 0, .int 0, .int 0, .int 0, .int 0, .int 0, .ref 76, .int 0, .ref 77, .ref 78, .ref 79, .ref 80, .ref 81, .int 0, .ref 82, .ref 83, .ref 84, .int 0, .ref 85, .null, .null, .null, .null, .int 0] := mi_ad c11 (by decide) z11
  simp only [S_mo_init_0, S_mo_init_1, SEL, PF, mr_gf_O, mr_rc_O, Option.toList_some, Option.toList_none, List.cons_append, List.nil_append, b2i_0, b2i_1, b2i_a, a_00, a_11, ai_n, si_n, nI_1, q_rl_bit, mr_up_at, Nat.reduceLeDiff, Nat.reduceLT, Nat.reduceEqDiff, Nat.reduceAdd, if_true, if_false, Bool.true_eq_false, Bool.false_eq_true, Bool.true_and, Bool.false_and, Bool.and_true, Bool.and_false, i_10, i_01, i_00, not_true_eq_false, not_false_eq_true, PFI, p11, c11]
  have m11 := mi_st (n := 12) (c := mr_I 12 (fun _ => 0)) (o := mr_O 11 [.int 0, .ref 75, .int 0, .int 0, .int 0, .int 0, .int 0, .int 0, .int 0, .int 0, .ref 76, .int 0, .ref 77, .ref 78, .ref 79, .ref 80, .ref 81, .int 0, .ref 82, .ref 83, .ref 84, .int 0, .ref 85, .ref 86, .null, .null, .null, .int 0]) c11 (by decide)
  generalize hh11 : mr_up (mr_add h11 12 (mr_I 12 (fun _ => 0))) 74 (mr_O 11 [.int 0, .ref 75, .int 0, .int 0, .int 0, .int 0, .int 0, .int 0, .int 0, .int 0, .ref 76, .int 0, .ref 77, .ref 78, .ref 79, .ref 80, .ref 81, .int 0, .ref 82, .ref 83, .ref 84, .int 0, .ref 85, .ref 86, .null, .null, .null, .int 0]) = h12 at m11 ⊢
  obtain ⟨z12, v11, w11, d12, s11, t11⟩ := m11
  have c12 : h12.2.1 = 87 := d12
  have p12 : (mr_add h12 12 (mr_I 12 (fun _ => 0))).1 74 = mr_O 11 [.int 0, .ref 75, .int 0, .int 0, .int 0, .int 0, .int 0, .int 0, .int 0, .int 0, .ref 76, .int 0, .ref 77, .ref 78, .ref 79, .ref 80, .ref 81, .int 0, .ref 82, .ref 83, .ref 84, .int 0, .ref 85, .ref 86, .null, .null, .null, .int 0] := mi_ad c12 (by decide) z12
  simp only [S_mo_init_0, S_mo_init_1, SEL, PF, mr_gf_O, mr_rc_O, Option.toList_some, Option.toList_none, List.cons_append, List.nil_append, b2i_0, b2i_1, b2i_a, a_00, a_11, ai_n, si_n, nI_1, q_rl_bit, mr_up_at, Nat.reduceLeDiff, Nat.reduceLT, Nat.reduceEqDiff, Nat.reduceAdd, if_true, if_false, Bool.true_eq_false, Bool.false_eq_true, Bool.true_and, Bool.false_and, Bool.and_true, Bool.and_false, i_10, i_01, i_00, not_true_eq_false, not_false_eq_true, PFI, p12, c12]
  have m12 := mi_st (n := 12) (c := mr_I 12 (fun _ => 0)) (o := mr_O 11 [.int 0, .ref 75, .int 0, .int 0, .int 0, .int 0, .int 0, .int 0, .int 0, .int 0, .ref 76, .int 0, .ref 77, .ref 78, .ref 79, .ref 80, .ref 81, .int 0, .ref 82, .ref 83, .ref 84, .int 0, .ref 85, .ref 86, .ref 87, .null, .null, .int 0]) c12 (by decide)
  generalize hh12 : mr_up (mr_add h12 12 (mr_I 12 (fun _ => 0))) 74 (mr_O 11 [.int 0, .ref 75, .int 0, .int 0, .int 0, .int 0, .int 0, .int 0, .int 0, .int 0, .ref 76, .int 0, .ref 77, .ref 78, .ref 79, .ref 80, .ref 81, .int 0, .ref 82, .ref 83, .ref 84, .int 0, .ref 85, .ref 86, .ref 87, .null, .null, .int 0]) = h13 at m12 ⊢
  obtain ⟨z13, v12, w12, d13, s12, t12⟩ := m12
  have c13 : h13.2.1 = 88 := d13
  have p13 : (mr_add h13 12 (mr_I 12 (fun _ => 0))).1 74 = mr_O 11 [.int 0, .ref 75, .int 0, .int 0, .int 0, .int 0, .int 0, .int 0, .int 0, .int 0, .ref 76, .int 0, .ref 77, .ref 78, .ref 79, .ref 80, .ref 81, .int 0, .ref 82, .ref 83, .ref 84, .int 0, .ref 85, .ref 86, .ref 87, .null, .null, .int 0] := mi_ad c13 (by decide) z13
  simp only [S_mo_init_0, S_mo_init_1, SEL, PF, mr_gf_O, mr_rc_O, Option.toList_some, Option.toList_none, List.cons_append, List.nil_append, b2i_0, b2i_1, b2i_a, a_00, a_11, ai_n, si_n, nI_1, q_rl_bit, mr_up_at, Nat.reduceLeDiff, Nat.reduceLT, Nat.reduceEqDiff, Nat.reduceAdd, if_true, if_false, Bool.true_eq_false, Bool.false_eq_true, Bool.true_and, Bool.false_and, Bool.and_true, Bool.and_false, i_10, i_01, i_00, not_true_eq_false, not_false_eq_true, PFI, p13, c13]
  have m13 := mi_st (n := 12) (c := mr_I 12 (fun _ => 0)) (o := mr_O 11 [.int 0, .ref 75, .int 0, .int 0, .int 0, .int 0, .int 0, .int 0, .int 0, .int 0, .ref 76, .int 0, .ref 77, .ref 78, .ref 79, .ref 80, .ref 81, .int 0, .ref 82, .ref 83, .ref 84, .int 0, .ref 85, .ref 86, .ref 87, .ref 88, .null, .int 0]) c13 (by decide)
  generalize hh13 : mr_up (mr_add h13 12 (mr_I 12 (fun _ => 0))) 74 (mr_O 11 [.int 0, .ref 75, .int 0, .int 0, .int 0, .int 0, .int 0, .int 0, .int 0, .int 0, .ref 76, .int 0, .ref 77, .ref 78, .ref 79, .ref 80, .ref 81, .int 0, .ref 82, .ref 83, .ref 84, .int 0, .ref 85, .ref 86, .ref 87, .ref 88, .null, .int 0]) = h14 at m13 ⊢
  obtain ⟨z14, v13, w13, d14, s13, t13⟩ := m13
  have c14 : h14.2.1 = 89 := d14
  have p14 : (mr_add h14 144 (mr_I 144 (fun _ => 0))).1 74 = mr_O 11 [.int 0, .ref 75, .int 0, .int 0, .int 0, .int 0, .int 0, .int 0, .int 0, .int 0, .ref 76, .int 0, .ref 77, .ref 78, .ref 79, .ref 80, .ref 81, .int 0, .ref 82, .ref 83, .ref 84, .int 0, .ref 85, .ref 86, .ref 87, .ref 88, .null, .int 0] := mi_ad c14 (by decide) z14
  simp only [S_mo_init_0, S_mo_init_1, SEL, PF, mr_gf_O, mr_rc_O, Option.toList_some, Option.toList_none, List.cons_append, List.nil_append, b2i_0, b2i_1, b2i_a, a_00, a_11, ai_n, si_n, nI_1, q_rl_bit, mr_up_at, Nat.reduceLeDiff, Nat.reduceLT, Nat.reduceEqDiff, Nat.reduceAdd, if_true, if_false, Bool.true_eq_false, Bool.false_eq_true, Bool.true_and, Bool.false_and, Bool.and_true, Bool.and_false, i_10, i_01, i_00, not_true_eq_false, not_false_eq_true, PFI, p14, c14]
  have m14 := mi_st (n := 144) (c := mr_I 144 (fun _ => 0)) (o := mr_O 11 [.int 0, .ref 75, .int 0, .int 0, .int 0, .int 0, .int 0, .int 0, .int 0, .int 0, .ref 76, .int 0, .ref 77, .ref 78, .ref 79, .ref 80, .ref 81, .int 0, .ref 82, .ref 83, .ref 84, .int 0, .ref 85, .ref 86, .ref 87, .ref 88, .ref 89, .int 0]) c14 (by decide)
  generalize hh14 : mr_up (mr_add h14 144 (mr_I 144 (fun _ => 0))) 74 (mr_O 11 [.int 0, .ref 75, .int 0, .int 0, .int 0, .int 0, .int 0, .int 0, .int 0, .int 0, .ref 76, .int 0, .ref 77, .ref 78, .ref 79, .ref 80, .ref 81, .int 0, .ref 82, .ref 83, .ref 84, .int 0, .ref 85, .ref 86, .ref 87, .ref 88, .ref 89, .int 0]) = h15 at m14 ⊢
  obtain ⟨z15, v14, w14, d15, s14, t14⟩ := m14
  have c15 : h15.2.1 = 90 := d15
  have A14 : ∀ x, x ≠ 74 → x < 90 → h15.1 x = h15.1 x := fun _ _ _ => rfl
  have A13 : ∀ x, x ≠ 74 → x < 89 → h15.1 x = h14.1 x := fun x h1 h2 => (A14 x h1 (by omega)).trans (w14 x h1 h2)
  have A12 : ∀ x, x ≠ 74 → x < 88 → h15.1 x = h13.1 x := fun x h1 h2 => (A13 x h1 (by omega)).trans (w13 x h1 h2)
  have A11 : ∀ x, x ≠ 74 → x < 87 → h15.1 x = h12.1 x := fun x h1 h2 => (A12 x h1 (by omega)).trans (w12 x h1 h2)
  have A10 : ∀ x, x ≠ 74 → x < 86 → h15.1 x = h11.1 x := fun x h1 h2 => (A11 x h1 (by omega)).trans (w11 x h1 h2)
  have A9 : ∀ x, x ≠ 74 → x < 85 → h15.1 x = h10.1 x := fun x h1 h2 => (A10 x h1 (by omega)).trans (w10 x h1 h2)
  have A8 : ∀ x, x ≠ 74 → x < 84 → h15.1 x = h9.1 x := fun x h1 h2 => (A9 x h1 (by omega)).trans (w9 x h1 h2)
  have A7 : ∀ x, x ≠ 74 → x < 83 → h15.1 x = h8.1 x := fun x h1 h2 => (A8 x h1 (by omega)).trans (w8 x h1 h2)
  have A6 : ∀ x, x ≠ 74 → x < 82 → h15.1 x = h7.1 x := fun x h1 h2 => (A7 x h1 (by omega)).trans (w7 x h1 h2)
  have A5 : ∀ x, x ≠ 74 → x < 81 → h15.1 x = h6.1 x := fun x h1 h2 => (A6 x h1 (by omega)).trans (w6 x h1 h2)
  have A4 : ∀ x, x ≠ 74 → x < 80 → h15.1 x = h5.1 x := fun x h1 h2 => (A5 x h1 (by omega)).trans (w5 x h1 h2)
  have A3 : ∀ x, x ≠ 74 → x < 79 → h15.1 x = h4.1 x := fun x h1 h2 => (A4 x h1 (by omega)).trans (w4 x h1 h2)
  have A2 : ∀ x, x ≠ 74 → x < 78 → h15.1 x = h3.1 x := fun x h1 h2 => (A3 x h1 (by omega)).trans (w3 x h1 h2)
  have A1 : ∀ x, x ≠ 74 → x < 77 → h15.1 x = h2.1 x := fun x h1 h2 => (A2 x h1 (by omega)).trans (w2 x h1 h2)
  have A0 : ∀ x, x ≠ 74 → x < 76 → h15.1 x = h1.1 x := fun x h1 h2 => (A1 x h1 (by omega)).trans (w1 x h1 h2)
  replace v0 := (A0 75 (by decide) (by decide)).trans v0
  replace v1 := (A1 76 (by decide) (by decide)).trans v1
  replace v2 := (A2 77 (by decide) (by decide)).trans v2
  replace v3 := (A3 78 (by decide) (by decide)).trans v3
  replace v4 := (A4 79 (by decide) (by decide)).trans v4
  replace v5 := (A5 80 (by decide) (by decide)).trans v5
  replace v6 := (A6 81 (by decide) (by decide)).trans v6
  replace v7 := (A7 82 (by decide) (by decide)).trans v7
  replace v8 := (A8 83 (by decide) (by decide)).trans v8
  replace v9 := (A9 84 (by decide) (by decide)).trans v9
  replace v10 := (A10 85 (by decide) (by decide)).trans v10
  replace v11 := (A11 86 (by decide) (by decide)).trans v11
  replace v12 := (A12 87 (by decide) (by decide)).trans v12
  replace v13 := (A13 88 (by decide) (by decide)).trans v13
  replace v14 := (A14 89 (by decide) (by decide)).trans v14
  have ag : ∀ x, x < 74 → h15.1 x = h.1 x := fun x hx => (A0 x (by omega) (by omega)).trans (w0 x (by omega) (by omega))
  have sz : h15.2.2.1 = h.2.2.1 + 692 := by
    omega
  have rs : h15.2.2.2 = h.2.2.2 := by
    rw [t14, t13, t12, t11, t10, t9, t8, t7, t6, t5, t4, t3, t2, t1, t0]
  have y0 : h15.1 74 = MO 0 0 0 0 0 0 0 0 0 0 0 0 0 := z15
  try simp only [S_mo_init_0, S_mo_init_1, SEL, PF, mr_gf_O, mr_rc_O, Option.toList_some, Option.toList_none, List.cons_append, List.nil_append, b2i_0, b2i_1, b2i_a, a_00, a_11, ai_n, si_n, nI_1, q_rl_bit, mr_up_at, Nat.reduceLeDiff, Nat.reduceLT, Nat.reduceEqDiff, Nat.reduceAdd, if_true, if_false, Bool.true_eq_false, Bool.false_eq_true, Bool.true_and, Bool.false_and, Bool.and_true, Bool.and_false, i_10, i_01, i_00, not_true_eq_false, not_false_eq_true, z15]
  refine q_mo_begins y0 v1 ?_
  intro g1 W1 f1 a74 a76 hW1
  have a74' := a74
  simp only [MO] at a74'
  simp only [S_mo_init_0, S_mo_init_1, SEL, PF, mr_gf_O, mr_rc_O, Option.toList_some, Option.toList_none, List.cons_append, List.nil_append, b2i_0, b2i_1, b2i_a, a_00, a_11, ai_n, si_n, nI_1, q_rl_bit, mr_up_at, Nat.reduceLeDiff, Nat.reduceLT, Nat.reduceEqDiff, Nat.reduceAdd, if_true, if_false, Bool.true_eq_false, Bool.false_eq_true, Bool.true_and, Bool.false_and, Bool.and_true, Bool.and_false, i_10, i_01, i_00, not_true_eq_false, not_false_eq_true, a74']
  refine q_mo_ranksRest (W := W1) (rk := 0) (fun u hu => Or.inl (hW1 u hu).2) a74 a76 ?_
  intro g2 W2 dr f2 b74 b76 hW2
  have b74' := b74
  simp only [MO] at b74'
  simp only [S_mo_init_0, S_mo_init_1, SEL, PF, mr_gf_O, mr_rc_O, Option.toList_some, Option.toList_none, List.cons_append, List.nil_append, b2i_0, b2i_1, b2i_a, a_00, a_11, ai_n, si_n, nI_1, q_rl_bit, mr_up_at, Nat.reduceLeDiff, Nat.reduceLT, Nat.reduceEqDiff, Nat.reduceAdd, if_true, if_false, Bool.true_eq_false, Bool.false_eq_true, Bool.true_and, Bool.false_and, Bool.and_true, Bool.and_false, i_10, i_01, i_00, not_true_eq_false, not_false_eq_true, b74']
  have f12 : mr_fr h15 g2 [74, 76] := fr_tr f1 f2 (by decide)
  refine q_mo_settles b76 (fr_at f12 (by decide) v2) b74 (fr_at f12 (by decide) v5) ?_
  intro g3 S3 Z3 f3 d74 d77 hS3 d80 hZ3
  simp only [S_mo_init_0, S_mo_init_1, SEL, PF, mr_gf_O, mr_rc_O, Option.toList_some, Option.toList_none, List.cons_append, List.nil_append, b2i_0, b2i_1, b2i_a, a_00, a_11, ai_n, si_n, nI_1, q_rl_bit, mr_up_at, Nat.reduceLeDiff, Nat.reduceLT, Nat.reduceEqDiff, Nat.reduceAdd, if_true, if_false, Bool.true_eq_false, Bool.false_eq_true, Bool.true_and, Bool.false_and, Bool.and_true, Bool.and_false, i_10, i_01, i_00, not_true_eq_false, not_false_eq_true]
  have f13 : mr_fr h15 g3 [74, 76, 77, 80] := fr_tr (fr_wk f12 (by decide)) f3 (by decide)
  refine kk g3 ?_ ?_ ?_ (fun x hx => ?_) ⟨⟨_, _, _, _, _, _, _, _, d74⟩, ⟨_, fr_at f13 (by decide) v0⟩, ⟨_, fr_at f3 (by decide) b76⟩, ⟨S3, d77, fun u hu => ⟨?_, ?_⟩⟩, ⟨_, fr_at f13 (by decide) v3⟩, ⟨_, fr_at f13 (by decide) v4⟩, ⟨Z3, d80, hZ3⟩, ⟨_, fr_at f13 (by decide) v6⟩, ⟨_, fr_at f13 (by decide) v7⟩, ⟨_, fr_at f13 (by decide) v8⟩, ⟨_, fr_at f13 (by decide) v9⟩, ⟨_, fr_at f13 (by decide) v10⟩, ⟨_, fr_at f13 (by decide) v11⟩, ⟨_, fr_at f13 (by decide) v12⟩, ⟨_, fr_at f13 (by decide) v13⟩, ⟨_, fr_at f13 (by decide) v14⟩⟩
  · rw [f13.1]; exact c15
  · rw [f13.1]; exact sz
  · rw [f13.1]; exact rs
  · rw [f13.2 x (fun z => by simp only [List.mem_cons, List.not_mem_nil, or_false] at z; omega)]
    exact ag x hx
  · rw [hS3 u (by omega), (hW2 u hu).1, (hW1 u hu).1]
  · rw [hS3 (12 + u) (by omega), (hW2 u hu).2]
    exact rkv_0 (fun v hv => (hW1 v hv).2) hu
end MOINIT
