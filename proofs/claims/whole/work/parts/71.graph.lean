/-! graph: both sides alike -/
theorem rkv_cong {R R2 : Nat → Int32} {rk u : Nat} (h : ∀ j, j ≤ u → R j = R2 j) : rkv R rk u = rkv R2 rk u := by
  unfold rkv
  rw [h u (Nat.le_refl u), fb_ct_cong (fun k hk => by rw [h k (by omega)])]
theorem rkv_ok {len i a dn rk : Nat} {D R : Nat → Int32} (g : gd len i a dn D R rk) {u : Nat} (hu : u < dn) : ∃ j, j < 12 ∧ rkv R rk u = nI j := by
  obtain ⟨-, -, -, g4, -, g6, g7, -⟩ := g
  have hrk : rk ≤ 12 := by rw [← g7]; exact fb_ct_le _ 12
  unfold rkv
  by_cases z : R u = -1
  · rw [if_pos z]
    refine ⟨_, ?_, rfl⟩
    have h1 := fb_ct_not (fun j => decide (R j = -1)) 12
    have h2 := fb_ct_mono (fun j => decide (R j = -1)) (show u + 1 ≤ 12 by omega)
    rw [fb_ct_succ, decide_eq_true z, if_pos rfl] at h2
    omega
  · rw [if_neg z]
    rcases g6 u (by omega) with w | ⟨-, j, hj, e⟩
    · exact absurd w z
    · exact ⟨j, by omega, e⟩
theorem neg_q : ∀ q, q ≤ 120 → ¬ (0 : Int32) ≤ -10 - nI q := by decide +kernel
section GRAPH
variable {h : mr_h} {Q : Option Value → mr_h → Prop} {T : Nat → Int32} {len n us m : Nat} {E K : Nat → Int32}
theorem l_empty {Z : Nat → Int32} (e65 : h.1 65 = mr_O 0 [.ref 66, .ref 67]) (kk : ∀ h2 Z', mr_fr h h2 [67] → h2.1 67 = mr_Z 2 Z' → (∀ i, i < 2 → Z' i = 0) → Q none h2) : ∀ (d k : Nat) (h1 : mr_h), k + d = 2 → mr_fr h h1 [67] → h1.1 67 = mr_Z 2 (fun j => if j < k then 0 else Z j) → mr_wp 42 2 [.ref 65, .int (nI k)] [] h1 Q := by
  intro d
  induction d with
  | zero =>
    intro k h1 hk f e67
    have : k = 2 := by omega
    subst this
    rw [s_al_empty_2]
    simp only [S_al_empty, SEL, PF, mr_gf_O, mr_rc_O, Option.toList_some, Option.toList_none, List.cons_append, List.nil_append, b2i_0, b2i_1, b2i_a, a_00, a_11, ai_n, si_n, nI_1, q_rl_bit, mr_up_at, Nat.reduceLeDiff, Nat.reduceLT, Nat.reduceEqDiff, Nat.reduceAdd, if_true, if_false, Bool.true_eq_false, Bool.false_eq_true, Bool.true_and, Bool.false_and, Bool.and_true, Bool.and_false, i_10, i_01, i_00, not_true_eq_false, not_false_eq_true, if_pos (show (2 : Int32) ≤ nI 2 by decide)]
    exact kk h1 _ f e67 (fun i hi => if_pos hi)
  | succ d ih =>
    intro k h1 hk f e67
    have g65 := fr_at f (by decide) e65
    rw [s_al_empty_2]
    simp only [S_al_empty, SEL, PF, mr_gf_O, mr_rc_O, Option.toList_some, Option.toList_none, List.cons_append, List.nil_append, b2i_0, b2i_1, b2i_a, a_00, a_11, ai_n, si_n, nI_1, q_rl_bit, mr_up_at, Nat.reduceLeDiff, Nat.reduceLT, Nat.reduceEqDiff, Nat.reduceAdd, if_true, if_false, Bool.true_eq_false, Bool.false_eq_true, Bool.true_and, Bool.false_and, Bool.and_true, Bool.and_false, i_10, i_01, i_00, not_true_eq_false, not_false_eq_true, if_neg (show ¬ (2 : Int32) ≤ nI k from nI_ge (b := 2) (by omega) (by decide)), g65, e67, sz_n (show k < 2 by omega) (show 2 ≤ 1000 by decide)]
    refine ih (k + 1) _ (by omega) (fr_up _ f (by decide)) ?_
    rw [up_eq]
    exact congrArg (mr_Z 2) (upd_ext (by simp) (fun j e => by simp only [lt_s_ne e]))
theorem q_al_empty {Z : Nat → Int32} (e65 : h.1 65 = mr_O 0 [.ref 66, .ref 67]) (e67 : h.1 67 = mr_Z 2 Z) (kk : ∀ h2 Z', mr_fr h h2 [67] → h2.1 67 = mr_Z 2 Z' → (∀ i, i < 2 → Z' i = 0) → Q none h2) : mr_run 42 [.ref 65] h Q := by
  rw [r_al_empty]
  simp only [S_al_empty, SEL, PF, mr_gf_O, mr_rc_O, Option.toList_some, Option.toList_none, List.cons_append, List.nil_append, b2i_0, b2i_1, b2i_a, a_00, a_11, ai_n, si_n, nI_1, q_rl_bit, mr_up_at, Nat.reduceLeDiff, Nat.reduceLT, Nat.reduceEqDiff, Nat.reduceAdd, if_true, if_false, Bool.true_eq_false, Bool.false_eq_true, Bool.true_and, Bool.false_and, Bool.and_true, Bool.and_false, i_10, i_01, i_00, not_true_eq_false, not_false_eq_true]
  rw [← nI_0]
  refine l_empty (h := h) (Z := Z) e65 kk 2 0 h (by decide) (fr_rf _ _) ?_
  rw [e67]
  exact congrArg (mr_Z 2) (funext fun j => by rw [if_neg (Nat.not_lt_zero j)])
theorem q_mo_graph {S Z D R : Nat → Int32} {th tt tk pl va fa nn dn dr um sn uf : Int32} (hl : len ≤ 120) (hb : ∀ j, j < len → ¬ T j < 0) (e75 : h.1 75 = mr_I 120 T) (e74 : h.1 74 = MO th (nI len) tt tk pl va fa nn dn dr um sn uf) (e76 : isI (h.1 76) 24) (e77 : h.1 77 = mr_I 24 S) (e80 : h.1 80 = mr_Z 2 Z) (hz : ∀ u, u < 12 → D u = 0 ∧ R u = -1)
    (k0 : ∀ q h2, prs (lx T len) 200 0 0 4 D R 0 = .inl q → MF h h2 len q nn um sn uf → Q (some (.int (-10 - nI q))) h2)
    (k1 : ∀ i a dn D' R' rk h2, prs (lx T len) 200 0 0 4 D R 0 = .inr (i, a, dn, D', R', rk) → mr_fr h h2 [74, 76, 77, 80] → (∃ tt tk pl va fa dr, h2.1 74 = MO 0 (nI 0) tt tk pl va fa (nI dn) (nI dn) dr (nI 0) (nI 0) uf) → isI (h2.1 76) 24 → (∃ S', h2.1 77 = mr_I 24 S' ∧ ∀ u, u < 12 → S' u = D' u ∧ S' (12 + u) = rkv R' rk u) → (∃ Z', h2.1 80 = mr_Z 2 Z' ∧ ∀ i, i < 2 → Z' i = 0) → Q (some (.int (nI i))) h2) : mr_run 123 [.ref 74] h Q := by
  obtain ⟨W0, e76⟩ := e76
  simp only [MO] at e74
  rw [r_mo_graph]
  simp only [S_mo_graph_0, S_mo_graph_1, SEL, PF, mr_gf_O, mr_rc_O, Option.toList_some, Option.toList_none, List.cons_append, List.nil_append, b2i_0, b2i_1, b2i_a, a_00, a_11, ai_n, si_n, nI_1, q_rl_bit, mr_up_at, Nat.reduceLeDiff, Nat.reduceLT, Nat.reduceEqDiff, Nat.reduceAdd, if_true, if_false, Bool.true_eq_false, Bool.false_eq_true, Bool.true_and, Bool.false_and, Bool.and_true, Bool.and_false, i_10, i_01, i_00, not_true_eq_false, not_false_eq_true, e74]
  generalize hh : mr_up (mr_up (mr_up h 74 _) 74 _) 74 _ = h1
  have f1 : mr_fr h h1 [74] := by rw [← hh]; exact fr_up _ (fr_up _ (fr_up _ (fr_rf _ _) (by decide)) (by decide)) (by decide)
  have g74 : h1.1 74 = MO 0 (nI len) 0 tk pl va (-1) nn dn dr um sn uf := by rw [← hh]; exact up_eq _ _ _
  refine q_mo_begins g74 (fr_at f1 (by decide) e76) ?_
  intro h2 W f2 j74 j76 hW
  simp only [S_mo_graph_0, S_mo_graph_1, SEL, PF, mr_gf_O, mr_rc_O, Option.toList_some, Option.toList_none, List.cons_append, List.nil_append, b2i_0, b2i_1, b2i_a, a_00, a_11, ai_n, si_n, nI_1, q_rl_bit, mr_up_at, Nat.reduceLeDiff, Nat.reduceLT, Nat.reduceEqDiff, Nat.reduceAdd, if_true, if_false, Bool.true_eq_false, Bool.false_eq_true, Bool.true_and, Bool.false_and, Bool.and_true, Bool.and_false, i_10, i_01, i_00, not_true_eq_false, not_false_eq_true]
  have F2 : mr_fr h h2 [74, 76] := fr_tr (fr_wk f1 (by decide)) f2 (by decide)
  have j74' := j74
  simp only [MO] at j74'
  simp only [j74', SEL, PF, mr_gf_O, mr_rc_O, Option.toList_some, Option.toList_none, List.cons_append, List.nil_append, b2i_0, b2i_1, b2i_a, a_00, a_11, ai_n, si_n, nI_1, q_rl_bit, mr_up_at, Nat.reduceLeDiff, Nat.reduceLT, Nat.reduceEqDiff, Nat.reduceAdd, if_true, if_false, Bool.true_eq_false, Bool.false_eq_true, Bool.true_and, Bool.false_and, Bool.and_true, Bool.and_false, i_10, i_01, i_00, not_true_eq_false, not_false_eq_true]
  refine q_mo_advances (a := 0) hl (fr_at F2 (by decide) e75) (Nat.zero_le len) hb j74 ?_
  intro h3 va3 f3 k74 hv hs
  have mr : MR h h3 (lx T len) len 0 4 D R 0 va3 nn um sn uf := ⟨fr_tr F2 f3 (by decide), k74, hv, hs, W, fr_at f3 (by decide) j76, fun u hu => ⟨(hW u hu).1.trans (hz u hu).1.symm, (hW u hu).2.trans (hz u hu).2.symm⟩⟩
  simp only [S_mo_graph_0, S_mo_graph_1, SEL, PF, mr_gf_O, mr_rc_O, Option.toList_some, Option.toList_none, List.cons_append, List.nil_append, b2i_0, b2i_1, b2i_a, a_00, a_11, ai_n, si_n, nI_1, q_rl_bit, mr_up_at, Nat.reduceLeDiff, Nat.reduceLT, Nat.reduceEqDiff, Nat.reduceAdd, if_true, if_false, Bool.true_eq_false, Bool.false_eq_true, Bool.true_and, Bool.false_and, Bool.and_true, Bool.and_false, i_10, i_01, i_00, not_true_eq_false, not_false_eq_true]
  rw [← nI_0]
  refine lm_text hl e75 hb 200 0 0 4 D R 0 va3 h3 _ (by omega) (gd_0 hz) mr k0 ?_
  intro i a dn' D' R' rk va4 h4 v2 e mr4
  have gg := prs_gd hl hb 200 0 0 4 D R 0 (gd_0 hz) e
  obtain ⟨f4, l74, -, -, W4, l76, hW4⟩ := id mr4
  have l74' := l74
  simp only [MO] at l74'
  have hrk : rk ≤ 12 := by rw [← gg.2.2.2.2.2.2.1]; exact fb_ct_le _ 12
  simp only [S_mo_graph_0, S_mo_graph_1, SEL, PF, mr_gf_O, mr_rc_O, Option.toList_some, Option.toList_none, List.cons_append, List.nil_append, b2i_0, b2i_1, b2i_a, a_00, a_11, ai_n, si_n, nI_1, q_rl_bit, mr_up_at, Nat.reduceLeDiff, Nat.reduceLT, Nat.reduceEqDiff, Nat.reduceAdd, if_true, if_false, Bool.true_eq_false, Bool.false_eq_true, Bool.true_and, Bool.false_and, Bool.and_true, Bool.and_false, i_10, i_01, i_00, not_true_eq_false, not_false_eq_true, l74']
  refine q_mo_ranksRest (W := W4) (fun u hu => ?_) l74 l76 ?_
  · rw [(hW4 u hu).2]
    rcases gg.2.2.2.2.2.1 u hu with z | ⟨-, j, hj, z⟩
    · exact Or.inl z
    · exact Or.inr ⟨j, by omega, z⟩
  · intro h5 W5 dr5 f5 m74 m76 hW5
    have F5 : mr_fr h h5 [74, 76] := fr_tr f4 f5 (by decide)
    have m74' := m74
    simp only [MO] at m74'
    simp only [S_mo_graph_0, S_mo_graph_1, SEL, PF, mr_gf_O, mr_rc_O, Option.toList_some, Option.toList_none, List.cons_append, List.nil_append, b2i_0, b2i_1, b2i_a, a_00, a_11, ai_n, si_n, nI_1, q_rl_bit, mr_up_at, Nat.reduceLeDiff, Nat.reduceLT, Nat.reduceEqDiff, Nat.reduceAdd, if_true, if_false, Bool.true_eq_false, Bool.false_eq_true, Bool.true_and, Bool.false_and, Bool.and_true, Bool.and_false, i_10, i_01, i_00, not_true_eq_false, not_false_eq_true, m74']
    refine q_mo_settles m76 (fr_at F5 (by decide) e77) m74 (fr_at F5 (by decide) e80) ?_
    intro h6 S6 Z6 f6 n74 n77 hS6 n80 hZ6
    simp only [S_mo_graph_0, S_mo_graph_1, SEL, PF, mr_gf_O, mr_rc_O, Option.toList_some, Option.toList_none, List.cons_append, List.nil_append, b2i_0, b2i_1, b2i_a, a_00, a_11, ai_n, si_n, nI_1, q_rl_bit, mr_up_at, Nat.reduceLeDiff, Nat.reduceLT, Nat.reduceEqDiff, Nat.reduceAdd, if_true, if_false, Bool.true_eq_false, Bool.false_eq_true, Bool.true_and, Bool.false_and, Bool.and_true, Bool.and_false, i_10, i_01, i_00, not_true_eq_false, not_false_eq_true]
    refine k1 i a dn' D' R' rk h6 e (fr_tr (fr_wk F5 (by decide)) f6 (by decide)) ⟨_, _, _, _, _, _, n74⟩ ⟨_, fr_at f6 (by decide) m76⟩ ⟨S6, n77, fun u hu => ⟨?_, ?_⟩⟩ ⟨Z6, n80, hZ6⟩
    · rw [hS6 u (by omega), (hW5 u hu).1, (hW4 u hu).1]
    · rw [hS6 (12 + u) (by omega), (hW5 u hu).2]
      exact rkv_cong fun j hj => (hW4 j (by omega)).2
theorem c4 (st : St h n len us m E K) : ∃ x, h.1 4 = mr_O 3 [.int x, .ref 5, .ref 6] := by
  have := st.1 4 (by decide)
  simpa [shp] using this
theorem c5 (st : St h n len us m E K) : isI (h.1 5) 12 := by
  have := st.1 5 (by decide)
  simpa [shp] using this
theorem c6 (st : St h n len us m E K) : isI (h.1 6) 12 := by
  have := st.1 6 (by decide)
  simpa [shp] using this
theorem c76 (st : St h n len us m E K) : isI (h.1 76) 24 := by
  have := st.1 76 (by decide)
  simpa [shp] using this
theorem b_graph (hi : Inv h) : Both 29 123 [] h := by
  obtain ⟨n, len, us, m, E, K, st⟩ := hi
  obtain ⟨gs, gn, gt, gv, gp, ga, gm⟩ := id st
  obtain ⟨hl, ⟨sa, sb, sc, sd, se, e7⟩, T, T2, e8, e75, hT⟩ := id gt
  obtain ⟨Z, Z2, DA, e67, e80, e79, hA⟩ := id ga
  obtain ⟨S, e77, hS⟩ := St_77 st
  obtain ⟨th, tt, tk, pl, va, fa, dn, dr, uf, e74⟩ := id gm
  have hb : ∀ j, j < len → ¬ T j < 0 := fun j hj => (hT j hj).2.1
  have hlx : lx T2 len = lx T len := by
    funext j
    unfold lx
    split
    · rename_i z; rw [(hT j z).1]
    · rfl
  have hb2 : ∀ j, j < len → ¬ T2 j < 0 := fun j hj => by rw [← (hT j hj).1]; exact hb j hj
  have e0 := St_0 st
  have e65 := c65 gs
  unfold Both
  rw [r_rl_graph]
  have e7' := e7
  simp only [SC] at e7'
  simp only [S_rl_graph, SEL, PF, mr_gf_O, mr_rc_O, Option.toList_some, Option.toList_none, List.cons_append, List.nil_append, b2i_0, b2i_1, b2i_a, a_00, a_11, ai_n, si_n, nI_1, q_rl_bit, mr_up_at, Nat.reduceLeDiff, Nat.reduceLT, Nat.reduceEqDiff, Nat.reduceAdd, if_true, if_false, Bool.true_eq_false, Bool.false_eq_true, Bool.true_and, Bool.false_and, Bool.and_true, Bool.and_false, i_10, i_01, i_00, not_true_eq_false, not_false_eq_true, e0, RLO, e7']
  refine q_sc_readInto hl e8 hb ⟨_, _, _, _, _, e7⟩ (c4 st) (c5 st) (c6 st) ?_
  intro D R hz
  refine ⟨?_, ?_⟩
  · -- a fault
    intro q h1 he cf
    have hq := prs_lt hl hb 200 0 0 4 D R 0 (gd_0 hz) he
    obtain ⟨f1, ⟨x7, z7, w7, r7, g7⟩, g4, g5, g6⟩ := cf
    simp only [S_rl_graph, SEL, PF, mr_gf_O, mr_rc_O, Option.toList_some, Option.toList_none, List.cons_append, List.nil_append, b2i_0, b2i_1, b2i_a, a_00, a_11, ai_n, si_n, nI_1, q_rl_bit, mr_up_at, Nat.reduceLeDiff, Nat.reduceLT, Nat.reduceEqDiff, Nat.reduceAdd, if_true, if_false, Bool.true_eq_false, Bool.false_eq_true, Bool.true_and, Bool.false_and, Bool.and_true, Bool.and_false, i_10, i_01, i_00, not_true_eq_false, not_false_eq_true, if_neg (neg_q q hq)]
    refine q_mo_graph (T := T2) (D := D) (R := R) hl hb2 (fr_at f1 (by decide) e75) (fr_at f1 (by decide) e74) (by rw [f1.2 76 (by decide)]; exact c76 st) (fr_at f1 (by decide) e77) (fr_at f1 (by decide) e80) hz ?_ ?_
    · intro q2 h2 he2 mf
      rw [hlx, he] at he2
      cases he2
      obtain ⟨f2, -, ⟨tt2, tk2, pl2, va2, dn2, dr2, k74⟩, k76⟩ := mf
      have F : mr_fr h h2 [4, 5, 6, 7, 74, 76] := fr_tr (fr_wk f1 (by decide)) f2 (by decide)
      refine ⟨⟨_, rfl, rfl⟩, ⟨n, len, us, m, E, K, gS_fr gs F (fun k hk hk2 => ?_), gN_fr gn F (by decide), ?_, gV_fr gv F (by decide), gP_fr gp F (by decide), gA_fr ga F (by decide), ⟨_, _, _, _, _, _, _, _, _, k74⟩⟩, F.1⟩
      · have : k = 4 ∨ k = 5 ∨ k = 6 ∨ k = 7 ∨ k = 74 ∨ k = 76 := by simpa using hk
        rcases this with rfl | rfl | rfl | rfl | rfl | rfl
        · rw [f2.2 4 (by decide)]; simpa [shp] using g4
        · rw [f2.2 5 (by decide)]; simpa [shp] using g5
        · rw [f2.2 6 (by decide)]; simpa [shp] using g6
        · exact absurd hk2 (by decide)
        · exact absurd hk2 (by decide)
        · simpa [shp] using k76
      · exact ⟨hl, ⟨_, _, _, _, _, fr_at f2 (by decide) g7⟩, T, T2, fr_at F (by decide) e8, fr_at F (by decide) e75, hT⟩
    · intro i a dn2 D' R' rk h2 he2
      rw [hlx, he] at he2
      cases he2
  · -- a text that is read
    intro i a dn' D' R' rk h1 he cd
    have gg := prs_gd hl hb 200 0 0 4 D R 0 (gd_0 hz) he
    have hi120 : i ≤ 120 := by have := gg.1; have := gg.2.1; omega
    obtain ⟨f1, ⟨x7, y7, z7, w7, r7, g7⟩, g4, g5, K1, g6, hK1⟩ := cd
    have g1 := fr_at f1 (by decide) (St_1 st)
    have g2 := fr_at f1 (by decide) (St_2 st)
    have g3 := fr_at f1 (by decide) (St_3 st)
    have g0 := fr_at f1 (by decide) e0
    have g1' := g1
    simp only [NE] at g1'
    simp only [S_rl_graph, SEL, PF, mr_gf_O, mr_rc_O, Option.toList_some, Option.toList_none, List.cons_append, List.nil_append, b2i_0, b2i_1, b2i_a, a_00, a_11, ai_n, si_n, nI_1, q_rl_bit, mr_up_at, Nat.reduceLeDiff, Nat.reduceLT, Nat.reduceEqDiff, Nat.reduceAdd, if_true, if_false, Bool.true_eq_false, Bool.false_eq_true, Bool.true_and, Bool.false_and, Bool.and_true, Bool.and_false, i_10, i_01, i_00, not_true_eq_false, not_false_eq_true, if_pos (show (0 : Int32) ≤ nI i from nI_pos' (by omega)), g0, RLO, g1']
    refine q_ne_become (a := 1) (b := 4) (Or.inl (by decide)) g1' g2 g3 g4 g5 g6 ?_
    intro h2 E2 K2 f2 k1 k2 k3 hc
    have hE2 : nt E2 dn' := ⟨gg.2.2.2.1, fun u hu v hv => by
      rw [(hc u (by have := gg.2.2.2.1; omega)).1] at hv
      exact (gg.2.2.2.2.1 u v (by have := gg.2.2.2.1; omega) hv).2.1⟩
    have hR2 : rks E2 K2 dn' := by
      refine ⟨fun u hu => ?_, fun u hu => ?_⟩
      · obtain ⟨j, hj, e⟩ := rkv_ok gg hu
        exact ⟨j, hj, by rw [(hc u (by have := gg.2.2.2.1; omega)).2, hK1 u hu, e]⟩
      · rw [(hc u (by have := gg.2.2.2.1; omega)).1]
        cases z : bt (D' u) u with
        | false => rfl
        | true => exact absurd rfl (gg.2.2.2.2.1 u u (by have := gg.2.2.2.1; omega) z).2.2
    have F2 : mr_fr h h2 [1, 2, 3, 4, 5, 6, 7] := fr_tr (fr_wk f1 (by decide)) f2 (by decide)
    have m0 := fr_at F2 (by decide) e0
    have ds : DS h2 := by
      obtain ⟨n0, nm, A, B, C, I, O, Rr, Ll, d9, d10, d11, d12, d13, d14, d15, d16⟩ := DV_DS (St_D st)
      exact ⟨n0, nm, A, B, C, I, O, Rr, Ll, fr_at F2 (by decide) d9, fr_at F2 (by decide) d10, fr_at F2 (by decide) d11, fr_at F2 (by decide) d12, fr_at F2 (by decide) d13, fr_at F2 (by decide) d14, fr_at F2 (by decide) d15, fr_at F2 (by decide) d16⟩
    have m9 : ∃ n0 nm, h2.1 9 = RE n0 nm := by
      obtain ⟨n0, nm, A, B, C, I, O, Rr, Ll, d9, -⟩ := id ds
      exact ⟨n0, nm, d9⟩
    obtain ⟨n0, nm, m9⟩ := m9
    simp only [RE] at m9
    simp only [S_rl_graph, SEL, PF, mr_gf_O, mr_rc_O, Option.toList_some, Option.toList_none, List.cons_append, List.nil_append, b2i_0, b2i_1, b2i_a, a_00, a_11, ai_n, si_n, nI_1, q_rl_bit, mr_up_at, Nat.reduceLeDiff, Nat.reduceLT, Nat.reduceEqDiff, Nat.reduceAdd, if_true, if_false, Bool.true_eq_false, Bool.false_eq_true, Bool.true_and, Bool.false_and, Bool.and_true, Bool.and_false, i_10, i_01, i_00, not_true_eq_false, not_false_eq_true, m0, RLO, m9]
    refine q_re_derive (n := dn') (E := E2) (K := K2) hE2 k1 k2 k3 ds ?_
    intro h3 f3 dv
    have F3 : mr_fr h h3 [1, 2, 3, 4, 5, 6, 7, 9, 10, 11, 12, 13, 14, 15, 16] := fr_tr (fr_wk F2 (by decide)) f3 (by decide)
    have p0 := fr_at F3 (by decide) e0
    have p7 : h3.1 7 = SC len x7 y7 z7 w7 r7 := fr_at f3 (by decide) (fr_at f2 (by decide) g7)
    obtain ⟨hv0, ⟨xv, e28⟩, va1, va2, va3, vb1, vb2, vb3, e29, e30, e31, e82, e83, e84, hv⟩ := id gv
    obtain ⟨hp0, e33, P, F, DP, e34, hF, hinj, e81, hsh, hnk⟩ := id gp
    have p28 := fr_at F3 (by decide) e28
    have p33 := fr_at F3 (by decide) e33
    have p65 := fr_at F3 (by decide) e65
    have p7' := p7
    simp only [SC] at p7'
    simp only [S_rl_graph, SEL, PF, mr_gf_O, mr_rc_O, Option.toList_some, Option.toList_none, List.cons_append, List.nil_append, b2i_0, b2i_1, b2i_a, a_00, a_11, ai_n, si_n, nI_1, q_rl_bit, mr_up_at, Nat.reduceLeDiff, Nat.reduceLT, Nat.reduceEqDiff, Nat.reduceAdd, if_true, if_false, Bool.true_eq_false, Bool.false_eq_true, Bool.true_and, Bool.false_and, Bool.and_true, Bool.and_false, i_10, i_01, i_00, not_true_eq_false, not_false_eq_true, p0, RLO, p7', p28, p33, p65]
    generalize hh : mr_up (mr_up (mr_up h3 7 _) 28 _) 33 _ = h4
    have f4 : mr_fr h3 h4 [7, 28, 33] := by rw [← hh]; exact fr_up _ (fr_up _ (fr_up _ (fr_rf _ _) (by decide)) (by decide)) (by decide)
    have r7 : h4.1 7 = SC 0 x7 y7 z7 w7 r7 := by rw [← hh]; simp only [mr_up_at, Nat.reduceEqDiff, if_false, if_true]; rfl
    have r28 : h4.1 28 = mr_O 8 [.int (nI 0), .ref 29, .ref 30, .ref 31, .ref 32, .int xv] := by rw [← hh]; simp only [mr_up_at, Nat.reduceEqDiff, if_false, if_true]; rfl
    have r33 : h4.1 33 = mr_O 4 [.int (nI 0), .ref 34] := by rw [← hh]; simp only [mr_up_at, Nat.reduceEqDiff, if_false, if_true]; rfl
    have F4 : mr_fr h h4 [1, 2, 3, 4, 5, 6, 7, 9, 10, 11, 12, 13, 14, 15, 16, 28, 33] := fr_tr (fr_wk F3 (by decide)) f4 (by decide)
    refine q_al_empty (Z := Z) (fr_at F4 (by decide) e65) (fr_at F4 (by decide) e67) ?_
    intro h5 Z5 f5 s67 hZ5
    simp only [S_rl_graph, SEL, PF, mr_gf_O, mr_rc_O, Option.toList_some, Option.toList_none, List.cons_append, List.nil_append, b2i_0, b2i_1, b2i_a, a_00, a_11, ai_n, si_n, nI_1, q_rl_bit, mr_up_at, Nat.reduceLeDiff, Nat.reduceLT, Nat.reduceEqDiff, Nat.reduceAdd, if_true, if_false, Bool.true_eq_false, Bool.false_eq_true, Bool.true_and, Bool.false_and, Bool.and_true, Bool.and_false, i_10, i_01, i_00, not_true_eq_false, not_false_eq_true]
    have F5 : mr_fr h h5 [1, 2, 3, 4, 5, 6, 7, 9, 10, 11, 12, 13, 14, 15, 16, 28, 33, 67] := fr_tr (fr_wk F4 (by decide)) f5 (by decide)
    refine q_mo_graph (T := T2) (D := D) (R := R) hl hb2 (fr_at F5 (by decide) e75) (fr_at F5 (by decide) e74) (by rw [F5.2 76 (by decide)]; exact c76 st) (fr_at F5 (by decide) e77) (fr_at F5 (by decide) e80) hz ?_ ?_
    · intro q2 h6 he2
      rw [hlx, he] at he2
      cases he2
    · intro i2 a2 dn2 D2 R2 rk2 h6 he2
      rw [hlx, he] at he2
      have hinj2 := Sum.inr.inj he2
      simp only [Prod.mk.injEq] at hinj2
      obtain ⟨z1, z2, z3, z4, z5, z6⟩ := hinj2
      rw [← z1, ← z3, ← z4, ← z5, ← z6]
      rintro f6 ⟨tt6, tk6, pl6, va6, fa6, dr6, t74⟩ t76 ⟨S6, t77, hS6⟩ ⟨Z6, t80, hZ6⟩
      have F6 : mr_fr h h6 [1, 2, 3, 4, 5, 6, 7, 9, 10, 11, 12, 13, 14, 15, 16, 28, 33, 67, 74, 76, 77, 80] := fr_tr (fr_wk F5 (by decide)) f6 (by decide)
      have G6 : mr_fr h3 h6 [7, 28, 33, 67, 74, 76, 77, 80] := fr_tr (fr_tr (fr_wk f4 (by decide)) f5 (by decide)) f6 (by decide)
      have H6 : mr_fr h1 h6 [1, 2, 3, 7, 9, 10, 11, 12, 13, 14, 15, 16, 28, 33, 67, 74, 76, 77, 80] := fr_tr (fr_tr (fr_wk f2 (by decide)) f3 (by decide)) G6 (by decide)
      have I6 : mr_fr h4 h6 [67, 74, 76, 77, 80] := fr_tr (fr_wk f5 (by decide)) f6 (by decide)
      refine ⟨⟨_, rfl, rfl⟩, ⟨dn', 0, 0, 0, E2, K2, gS_fr gs F6 (fun k hk hk2 => ?_), ?_, ?_, ?_, ?_, ?_, ⟨_, _, _, _, _, _, _, _, _, t74⟩⟩, F6.1⟩
      · have hk4 : k = 4 ∨ k = 5 ∨ k = 6 ∨ k = 76 := by
          revert hk2
          revert k
          decide
        rcases hk4 with rfl | rfl | rfl | rfl
        · rw [H6.2 4 (by decide), g4]; exact ⟨_, rfl⟩
        · rw [H6.2 5 (by decide), g5]; exact ⟨_, rfl⟩
        · rw [H6.2 6 (by decide), g6]; exact ⟨_, rfl⟩
        · simpa [shp] using t76
      · refine ⟨hE2, gg.2.2.1, hR2, fr_at G6 (by decide) (fr_at f3 (by decide) k1), fr_at G6 (by decide) (fr_at f3 (by decide) k2), fr_at G6 (by decide) (fr_at f3 (by decide) k3), DV_fr dv G6 (by decide), S6, t77, fun u hu => ?_⟩
        have hu12 : u < 12 := by have := gg.2.2.2.1; omega
        rw [(hS6 u hu12).1, (hS6 u hu12).2, (hc u hu12).1, (hc u hu12).2, hK1 u hu]
        exact ⟨rfl, rfl⟩
      · exact ⟨by omega, ⟨_, _, _, _, _, fr_at I6 (by decide) r7⟩, T, T2, fr_at F6 (by decide) e8, fr_at F6 (by decide) e75, fun j hj => absurd hj (Nat.not_lt_zero j)⟩
      · exact ⟨by omega, ⟨_, fr_at I6 (by decide) r28⟩, va1, va2, va3, vb1, vb2, vb3, fr_at F6 (by decide) e29, fr_at F6 (by decide) e30, fr_at F6 (by decide) e31, fr_at F6 (by decide) e82, fr_at F6 (by decide) e83, fr_at F6 (by decide) e84, fun j hj => absurd hj (Nat.not_lt_zero j)⟩
      · have out : ∀ a, 34 ≤ a → a ≤ 64 → a ∉ [1, 2, 3, 4, 5, 6, 7, 9, 10, 11, 12, 13, 14, 15, 16, 28, 33, 67, 74, 76, 77, 80] := fun a h1 h2 h3 => by
          simp only [List.mem_cons, List.not_mem_nil, or_false] at h3
          omega
        refine ⟨by omega, fr_at I6 (by decide) r33, P, F, DP, fr_at F6 (by decide) e34, hF, hinj, fr_at F6 (by decide) e81, fun i hi' => ?_, fun i hi' => absurd hi' (Nat.not_lt_zero i)⟩
        exact nshp_fr (hsh i hi') F6 (out _ (by omega) (by omega)) (out _ (by omega) (by omega)) (out _ (by omega) (by omega))
      · have out : ∀ a, 68 ≤ a → a ≤ 73 → a ∉ [1, 2, 3, 4, 5, 6, 7, 9, 10, 11, 12, 13, 14, 15, 16, 28, 33, 67, 74, 76, 77, 80] := fun a h1 h2 h3 => by
          simp only [List.mem_cons, List.not_mem_nil, or_false] at h3
          omega
        refine ⟨Z5, Z6, DA, fr_at f6 (by decide) s67, t80, fr_at F6 (by decide) e79, fun i hi' => ?_⟩
        rw [hZ5 i hi', hZ6 i hi']
        exact ⟨rfl, Or.inl rfl, nshp_fr (hA i hi').2.2.1 F6 (out _ (by omega) (by omega)) (out _ (by omega) (by omega)) (out _ (by omega) (by omega)), fun z => absurd z (by decide)⟩
end GRAPH
