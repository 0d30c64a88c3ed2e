/-! a net anew, ranks of the rest; the class reads a text -/
def rkv (R : Nat → Int32) (rk u : Nat) : Int32 := if R u = -1 then nI (rk + fb_ct (fun j => decide (R j = -1)) u) else R u
section NETS
variable {h h0 : mr_h} {Q : Option Value → mr_h → Prop} {a n rk : Nat} {D0 R0 R : Nat → Int32}
theorem l_startAnew (kk : ∀ h2 D R, mr_fr h h2 [a, a + 1, a + 2] → h2.1 a = NE a 4 → h2.1 (a + 1) = mr_I 12 D → h2.1 (a + 2) = mr_I 12 R → (∀ u, u < 12 → D u = 0 ∧ R u = -1) → Q none h2) : ∀ (d k : Nat) (h1 : mr_h), k + d = 12 → mr_fr h h1 [a, a + 1, a + 2] → h1.1 a = NE a 4 → h1.1 (a + 1) = mr_I 12 (fun j => if j < k then 0 else D0 j) → h1.1 (a + 2) = mr_I 12 (fun j => if j < k then -1 else R0 j) → mr_wp 2 7 [.ref a, .int (nI k)] [] h1 Q := by
  intro d
  induction d with
  | zero =>
    intro k h1 hk f e1 e2 e3
    have : k = 12 := by omega
    subst this
    rw [s_ne_startAnew_7]
    simp only [S_ne_startAnew, SEL, PF, mr_gf_O, mr_rc_O, Option.toList_some, Option.toList_none, List.cons_append, List.nil_append, b2i_0, b2i_1, b2i_a, a_00, a_11, ai_n, si_n, nI_1, q_rl_bit, mr_up_at, Nat.reduceLeDiff, Nat.reduceLT, Nat.reduceEqDiff, Nat.reduceAdd, if_true, if_false, Bool.true_eq_false, Bool.false_eq_true, Bool.true_and, Bool.false_and, Bool.and_true, Bool.and_false, i_10, i_01, i_00, not_true_eq_false, not_false_eq_true, if_pos (show (12 : Int32) ≤ nI 12 by decide)]
    exact kk h1 _ _ f e1 e2 e3 (fun u hu => ⟨if_pos hu, if_pos hu⟩)
  | succ d ih =>
    intro k h1 hk f e1 e2 e3
    have i1 : ¬ a + 2 = a + 1 := by omega
    have i2 : ¬ a = a + 1 := by omega
    have i3 : ¬ a + 1 = a + 2 := by omega
    have i4 : ¬ a = a + 2 := by omega
    rw [s_ne_startAnew_7]
    simp only [S_ne_startAnew, SEL, PF, mr_gf_O, mr_rc_O, Option.toList_some, Option.toList_none, List.cons_append, List.nil_append, b2i_0, b2i_1, b2i_a, a_00, a_11, ai_n, si_n, nI_1, q_rl_bit, mr_up_at, Nat.reduceLeDiff, Nat.reduceLT, Nat.reduceEqDiff, Nat.reduceAdd, if_true, if_false, Bool.true_eq_false, Bool.false_eq_true, Bool.true_and, Bool.false_and, Bool.and_true, Bool.and_false, i_10, i_01, i_00, not_true_eq_false, not_false_eq_true, if_neg (show ¬ (12 : Int32) ≤ nI k from nI_ge (b := 12) (by omega) (by decide)), e1, NE, e2, e3, show k < 12 by omega, i1, i2]
    refine ih (k + 1) _ (by omega) (fr_up _ (fr_up _ f (by simp)) (by simp)) ?_ ?_ ?_
    · simp only [mr_up_at, i2, i4, if_false]
      exact e1
    · simp only [mr_up_at, i3, if_false, if_true]
      exact congrArg (mr_I 12) (upd_ext (by simp) (fun j e => by simp only [lt_s_ne e]))
    · rw [up_eq]
      exact congrArg (mr_I 12) (upd_ext (by simp) (fun j e => by simp only [lt_s_ne e]))
theorem q_ne_startAnew {x : Int32} (e1 : h.1 a = mr_O 3 [.int x, .ref (a + 1), .ref (a + 2)]) (e2 : h.1 (a + 1) = mr_I 12 D0) (e3 : h.1 (a + 2) = mr_I 12 R0) (kk : ∀ h2 D R, mr_fr h h2 [a, a + 1, a + 2] → h2.1 a = NE a 4 → h2.1 (a + 1) = mr_I 12 D → h2.1 (a + 2) = mr_I 12 R → (∀ u, u < 12 → D u = 0 ∧ R u = -1) → Q none h2) : mr_run 2 [.ref a] h Q := by
  rw [r_ne_startAnew]
  simp only [S_ne_startAnew, SEL, PF, mr_gf_O, mr_rc_O, Option.toList_some, Option.toList_none, List.cons_append, List.nil_append, b2i_0, b2i_1, b2i_a, a_00, a_11, ai_n, si_n, nI_1, q_rl_bit, mr_up_at, Nat.reduceLeDiff, Nat.reduceLT, Nat.reduceEqDiff, Nat.reduceAdd, if_true, if_false, Bool.true_eq_false, Bool.false_eq_true, Bool.true_and, Bool.false_and, Bool.and_true, Bool.and_false, i_10, i_01, i_00, not_true_eq_false, not_false_eq_true, e1]
  rw [← nI_0]
  have i1 : ¬ a + 1 = a := by omega
  have i2 : ¬ a + 2 = a := by omega
  refine l_startAnew (h := h) (D0 := D0) (R0 := R0) kk 12 0 _ (by decide) (fr_up _ (fr_rf _ _) (by simp)) (up_eq _ _ _) ?_ ?_
  · simp only [mr_up_at, i1, if_false]
    rw [e2]
    exact congrArg (mr_I 12) (funext fun j => by rw [if_neg (Nat.not_lt_zero j)])
  · simp only [mr_up_at, i2, if_false]
    rw [e3]
    exact congrArg (mr_I 12) (funext fun j => by rw [if_neg (Nat.not_lt_zero j)])
theorem l_rankRest (hn : n ≤ 12) (ea : h.1 a = NE a n) {x1 : Int32} (kk : ∀ h2 K, mr_fr h h2 [a + 2] → h2.1 (a + 2) = mr_I 12 K → (∀ u, u < n → K u = rkv R rk u) → (∀ u, n ≤ u → K u = R u) → Q none h2) : ∀ (d k : Nat) (h1 : mr_h), k + d = n → mr_fr h h1 [a + 2] → h1.1 (a + 2) = mr_I 12 (fun j => if j < k then rkv R rk j else R j) → mr_wp 3 4 [.ref a, .int x1, .int (nI (rk + fb_ct (fun j => decide (R j = -1)) k)), .int (nI k)] [] h1 Q := by
  intro d
  induction d with
  | zero =>
    intro k h1 hk f e3
    have : k = n := by omega
    subst this
    have g1 := fr_at f (by simp) ea
    rw [s_ne_rankRest_4]
    simp only [S_ne_rankRest, SEL, PF, mr_gf_O, mr_rc_O, Option.toList_some, Option.toList_none, List.cons_append, List.nil_append, b2i_0, b2i_1, b2i_a, a_00, a_11, ai_n, si_n, nI_1, q_rl_bit, mr_up_at, Nat.reduceLeDiff, Nat.reduceLT, Nat.reduceEqDiff, Nat.reduceAdd, if_true, if_false, Bool.true_eq_false, Bool.false_eq_true, Bool.true_and, Bool.false_and, Bool.and_true, Bool.and_false, i_10, i_01, i_00, not_true_eq_false, not_false_eq_true, g1, NE, if_pos (nI_le (Nat.le_refl k) (show k < 2 ^ 31 by omega))]
    exact kk h1 _ f e3 (fun u hu => if_pos hu) (fun u hu => if_neg (by omega))
  | succ d ih =>
    intro k h1 hk f e3
    have g1 := fr_at f (by simp) ea
    have hk12 : k < 12 := by omega
    have ir : ∀ Q, mr_run 4 [.ref a, .int (nI k)] h1 Q = Q (some (.int (b2i (!decide (R k = -1))))) h1 := fun Q => by
      rw [r_ne_isRanked]
      simp only [S_ne_isRanked, SEL, PF, mr_gf_O, mr_rc_O, Option.toList_some, Option.toList_none, List.cons_append, List.nil_append, b2i_0, b2i_1, b2i_a, a_00, a_11, ai_n, si_n, nI_1, q_rl_bit, mr_up_at, Nat.reduceLeDiff, Nat.reduceLT, Nat.reduceEqDiff, Nat.reduceAdd, if_true, if_false, Bool.true_eq_false, Bool.false_eq_true, Bool.true_and, Bool.false_and, Bool.and_true, Bool.and_false, i_10, i_01, i_00, not_true_eq_false, not_false_eq_true, g1, NE, e3, hk12, Nat.lt_irrefl, if_false]
      by_cases z : R k = -1
      · simp only [if_pos z, S_ne_isRanked, SEL, PF, mr_gf_O, mr_rc_O, Option.toList_some, Option.toList_none, List.cons_append, List.nil_append, b2i_0, b2i_1, b2i_a, a_00, a_11, ai_n, si_n, nI_1, q_rl_bit, mr_up_at, Nat.reduceLeDiff, Nat.reduceLT, Nat.reduceEqDiff, Nat.reduceAdd, if_true, if_false, Bool.true_eq_false, Bool.false_eq_true, Bool.true_and, Bool.false_and, Bool.and_true, Bool.and_false, i_10, i_01, i_00, not_true_eq_false, not_false_eq_true, decide_eq_true z]
        rfl
      · simp only [if_neg z, S_ne_isRanked, SEL, PF, mr_gf_O, mr_rc_O, Option.toList_some, Option.toList_none, List.cons_append, List.nil_append, b2i_0, b2i_1, b2i_a, a_00, a_11, ai_n, si_n, nI_1, q_rl_bit, mr_up_at, Nat.reduceLeDiff, Nat.reduceLT, Nat.reduceEqDiff, Nat.reduceAdd, if_true, if_false, Bool.true_eq_false, Bool.false_eq_true, Bool.true_and, Bool.false_and, Bool.and_true, Bool.and_false, i_10, i_01, i_00, not_true_eq_false, not_false_eq_true, decide_eq_false z]
        rfl
    rw [s_ne_rankRest_4]
    simp only [S_ne_rankRest, SEL, PF, mr_gf_O, mr_rc_O, Option.toList_some, Option.toList_none, List.cons_append, List.nil_append, b2i_0, b2i_1, b2i_a, a_00, a_11, ai_n, si_n, nI_1, q_rl_bit, mr_up_at, Nat.reduceLeDiff, Nat.reduceLT, Nat.reduceEqDiff, Nat.reduceAdd, if_true, if_false, Bool.true_eq_false, Bool.false_eq_true, Bool.true_and, Bool.false_and, Bool.and_true, Bool.and_false, i_10, i_01, i_00, not_true_eq_false, not_false_eq_true, g1, NE, if_neg (show ¬ nI n ≤ nI k from nI_ge (by omega) (by omega)), ir]
    have nx := ih (k + 1)
    by_cases z : R k = -1
    · rw [fb_ct_succ, decide_eq_true z, if_pos rfl, ← Nat.add_assoc] at nx
      simp only [decide_eq_true z, Bool.not_true, S_ne_rankRest, SEL, PF, mr_gf_O, mr_rc_O, Option.toList_some, Option.toList_none, List.cons_append, List.nil_append, b2i_0, b2i_1, b2i_a, a_00, a_11, ai_n, si_n, nI_1, q_rl_bit, mr_up_at, Nat.reduceLeDiff, Nat.reduceLT, Nat.reduceEqDiff, Nat.reduceAdd, if_true, if_false, Bool.true_eq_false, Bool.false_eq_true, Bool.true_and, Bool.false_and, Bool.and_true, Bool.and_false, i_10, i_01, i_00, not_true_eq_false, not_false_eq_true, g1, NE, e3, hk12]
      refine nx _ (by omega) (fr_up _ f (by simp)) ?_
      rw [up_eq]
      exact congrArg (mr_I 12) (upd_ext (by simp [rkv, z]) (fun j e => by simp only [lt_s_ne e]))
    · rw [fb_ct_succ, decide_eq_false z, if_neg (by decide), Nat.add_zero] at nx
      simp only [decide_eq_false z, Bool.not_false, S_ne_rankRest, SEL, PF, mr_gf_O, mr_rc_O, Option.toList_some, Option.toList_none, List.cons_append, List.nil_append, b2i_0, b2i_1, b2i_a, a_00, a_11, ai_n, si_n, nI_1, q_rl_bit, mr_up_at, Nat.reduceLeDiff, Nat.reduceLT, Nat.reduceEqDiff, Nat.reduceAdd, if_true, if_false, Bool.true_eq_false, Bool.false_eq_true, Bool.true_and, Bool.false_and, Bool.and_true, Bool.and_false, i_10, i_01, i_00, not_true_eq_false, not_false_eq_true]
      refine nx _ (by omega) f ?_
      rw [e3]
      refine congrArg (mr_I 12) (funext fun j => ?_)
      by_cases e : j = k
      · subst e
        simp [rkv, z]
      · simp only [lt_s_ne e]
theorem q_ne_rankRest (hn : n ≤ 12) (ea : h.1 a = NE a n) (eb : h.1 (a + 2) = mr_I 12 R) (kk : ∀ h2 K, mr_fr h h2 [a + 2] → h2.1 (a + 2) = mr_I 12 K → (∀ u, u < n → K u = rkv R rk u) → (∀ u, n ≤ u → K u = R u) → Q none h2) : mr_run 3 [.ref a, .int (nI rk)] h Q := by
  rw [r_ne_rankRest]
  simp only [S_ne_rankRest, SEL, PF, mr_gf_O, mr_rc_O, Option.toList_some, Option.toList_none, List.cons_append, List.nil_append, b2i_0, b2i_1, b2i_a, a_00, a_11, ai_n, si_n, nI_1, q_rl_bit, mr_up_at, Nat.reduceLeDiff, Nat.reduceLT, Nat.reduceEqDiff, Nat.reduceAdd, if_true, if_false, Bool.true_eq_false, Bool.false_eq_true, Bool.true_and, Bool.false_and, Bool.and_true, Bool.and_false, i_10, i_01, i_00, not_true_eq_false, not_false_eq_true]
  have := l_rankRest (h := h) (Q := Q) (R := R) (rk := rk) hn ea (x1 := nI rk) kk n 0 h (by omega) (fr_rf _ _) (by rw [eb]; exact congrArg (mr_I 12) (funext fun j => by rw [if_neg (Nat.not_lt_zero j)]))
  rw [show fb_ct (fun j => decide (R j = -1)) 0 = 0 from rfl, Nat.add_zero, nI_0] at this
  exact this
theorem gd_0 {len : Nat} {D R : Nat → Int32} (hz : ∀ u, u < 12 → D u = 0 ∧ R u = -1) : gd len 0 0 4 D R 0 := by
  refine ⟨Nat.zero_le _, Nat.le_refl _, by decide, by decide, fun u v hu hv => ?_, fun u hu => Or.inl (hz u hu).2, fb_ct_zero.mpr fun k hk => ?_, fun _ => hz⟩
  · rw [(hz u hu).1, b_0] at hv
    exact absurd hv (by decide)
  · rw [(hz k hk).2]
    decide
/-- the class's draft once a text is read -/
def CD (h0 h : mr_h) (len dn : Nat) (D R : Nat → Int32) (rk : Nat) : Prop := mr_fr h0 h [4, 5, 6, 7] ∧ (∃ x y z w r, h.1 7 = SC len x y z w r) ∧ h.1 4 = NE 4 dn ∧ h.1 5 = mr_I 12 D ∧ ∃ K, h.1 6 = mr_I 12 K ∧ ∀ u, u < dn → K u = rkv R rk u
theorem q_sc_readInto {T : Nat → Int32} {len : Nat} (hl : len ≤ 120) (e8 : h.1 8 = mr_I 120 T) (hb : ∀ j, j < len → ¬ T j < 0) (e7 : ∃ x y z w r, h.1 7 = SC len x y z w r) (e4 : ∃ x, h.1 4 = mr_O 3 [.int x, .ref 5, .ref 6]) (e5 : isI (h.1 5) 12) (e6 : isI (h.1 6) 12)
    (kk : ∀ D R, (∀ u, u < 12 → D u = 0 ∧ R u = -1) → (∀ q h2, prs (lx T len) 200 0 0 4 D R 0 = .inl q → CF h h2 len q → Q (some (.int (-10 - nI q))) h2) ∧ (∀ i a dn D' R' rk h2, prs (lx T len) 200 0 0 4 D R 0 = .inr (i, a, dn, D', R', rk) → CD h h2 len dn D' R' rk → Q (some (.int (nI i))) h2)) : mr_run 30 [.ref 7, .ref 4] h Q := by
  obtain ⟨x, y, z, w, r, e7⟩ := e7
  obtain ⟨x4, e4⟩ := e4
  obtain ⟨D0, e5⟩ := e5
  obtain ⟨R0, e6⟩ := e6
  rw [r_sc_readInto]
  simp only [S_sc_readInto_0, S_sc_readInto_1, SEL, PF, mr_gf_O, mr_rc_O, Option.toList_some, Option.toList_none, List.cons_append, List.nil_append, b2i_0, b2i_1, b2i_a, a_00, a_11, ai_n, si_n, nI_1, q_rl_bit, mr_up_at, Nat.reduceLeDiff, Nat.reduceLT, Nat.reduceEqDiff, Nat.reduceAdd, if_true, if_false, Bool.true_eq_false, Bool.false_eq_true, Bool.true_and, Bool.false_and, Bool.and_true, Bool.and_false, i_10, i_01, i_00, not_true_eq_false, not_false_eq_true, e4]
  refine q_ne_startAnew (a := 4) e4 e5 e6 ?_
  intro h2 D R f2 g4 g5 g6 hz
  have g7 := fr_at f2 (by decide) e7
  obtain ⟨k0, k1⟩ := kk D R hz
  simp only [S_sc_readInto_0, S_sc_readInto_1, SEL, PF, mr_gf_O, mr_rc_O, Option.toList_some, Option.toList_none, List.cons_append, List.nil_append, b2i_0, b2i_1, b2i_a, a_00, a_11, ai_n, si_n, nI_1, q_rl_bit, mr_up_at, Nat.reduceLeDiff, Nat.reduceLT, Nat.reduceEqDiff, Nat.reduceAdd, if_true, if_false, Bool.true_eq_false, Bool.false_eq_true, Bool.true_and, Bool.false_and, Bool.and_true, Bool.and_false, i_10, i_01, i_00, not_true_eq_false, not_false_eq_true, g7, SC]
  have cg : CG h (mr_up (mr_up h2 7 (SC len x y z w 0)) 7 (SC len (nI 0) y z w (nI 0))) len 0 4 D R 0 := ⟨fr_up _ (fr_up _ (fr_wk f2 (by decide)) (by decide)) (by decide), ⟨_, _, _, up_eq _ _ _⟩, by simp only [mr_up_at, Nat.reduceEqDiff, if_false]; exact g4, by simp only [mr_up_at, Nat.reduceEqDiff, if_false]; exact g5, by simp only [mr_up_at, Nat.reduceEqDiff, if_false]; exact g6⟩
  refine st_token (h := mr_up (mr_up h2 7 (SC len x y z w 0)) 7 (SC len (nI 0) y z w (nI 0))) hl e8 (Nat.zero_le len) hb cg ?_
  intro h3 va cr
  simp only [S_sc_readInto_0, S_sc_readInto_1, SEL, PF, mr_gf_O, mr_rc_O, Option.toList_some, Option.toList_none, List.cons_append, List.nil_append, b2i_0, b2i_1, b2i_a, a_00, a_11, ai_n, si_n, nI_1, q_rl_bit, mr_up_at, Nat.reduceLeDiff, Nat.reduceLT, Nat.reduceEqDiff, Nat.reduceAdd, if_true, if_false, Bool.true_eq_false, Bool.false_eq_true, Bool.true_and, Bool.false_and, Bool.and_true, Bool.and_false, i_10, i_01, i_00, not_true_eq_false, not_false_eq_true]
  rw [← nI_0]
  refine l_text hl e8 hb 200 0 0 4 D R 0 va h3 (by omega) (gd_0 hz) cr k0 ?_
  intro i a dn D' R' rk va' h4 e cr4
  obtain ⟨f4, j7, -, j4, j5, j6⟩ := id cr4
  have gg := prs_gd hl hb 200 0 0 4 D R 0 (gd_0 hz) e
  simp only [S_sc_readInto_0, S_sc_readInto_1, SEL, PF, mr_gf_O, mr_rc_O, Option.toList_some, Option.toList_none, List.cons_append, List.nil_append, b2i_0, b2i_1, b2i_a, a_00, a_11, ai_n, si_n, nI_1, q_rl_bit, mr_up_at, Nat.reduceLeDiff, Nat.reduceLT, Nat.reduceEqDiff, Nat.reduceAdd, if_true, if_false, Bool.true_eq_false, Bool.false_eq_true, Bool.true_and, Bool.false_and, Bool.and_true, Bool.and_false, i_10, i_01, i_00, not_true_eq_false, not_false_eq_true, j7, SC, j4, NE]
  refine q_ne_rankRest (a := 4) (n := dn) (rk := rk) gg.2.2.2.1 j4 j6 ?_
  intro h5 K f5 m6 hK _
  simp only [S_sc_readInto_0, S_sc_readInto_1, SEL, PF, mr_gf_O, mr_rc_O, Option.toList_some, Option.toList_none, List.cons_append, List.nil_append, b2i_0, b2i_1, b2i_a, a_00, a_11, ai_n, si_n, nI_1, q_rl_bit, mr_up_at, Nat.reduceLeDiff, Nat.reduceLT, Nat.reduceEqDiff, Nat.reduceAdd, if_true, if_false, Bool.true_eq_false, Bool.false_eq_true, Bool.true_and, Bool.false_and, Bool.and_true, Bool.and_false, i_10, i_01, i_00, not_true_eq_false, not_false_eq_true]
  exact k1 i a dn D' R' rk h5 e ⟨fr_tr f4 f5 (by decide), ⟨_, _, _, _, _, fr_at f5 (by decide) j7⟩, fr_at f5 (by decide) j4, fr_at f5 (by decide) j5, K, m6, hK⟩
end NETS
