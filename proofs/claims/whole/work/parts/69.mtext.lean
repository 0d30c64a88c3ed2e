/-! a whole text: the reference -/
section MTEXT
variable {h0 h : mr_h} {Q : Option Value → mr_h → Prop} {T : Nat → Int32} {len a dn rk : Nat} {D R : Nat → Int32} {va nn um sn uf : Int32}
theorem mi_all (hl : len ≤ 120) (e75 : h0.1 75 = mr_I 120 T) (ha : a ≤ len) (hb : ∀ j, j < len → ¬ T j < 0) (hd1 : 1 ≤ dn) (hd : dn ≤ 12) (hR : ∀ u, u < 12 → R u = -1 ∨ ∃ j, j < 100 ∧ R u = nI j) {fb : Bool} (ht : (tT (lx T len) a = 110 ∧ fb = true) ∨ tT (lx T len) a = 101 ∨ tT (lx T len) a = 114) (c : MR h0 h (lx T len) len (tE (lx T len) a) dn D R rk va nn um sn uf)
    (k0 : ∀ q h2, itB (lx T len) fb a dn D R rk = .inl q → MF h0 h2 len q nn um sn uf → Q none h2)
    (k1 : ∀ a' dn' D' R' rk' h2 va', itB (lx T len) fb a dn D R rk = .inr (a', dn', D', R', rk') → MR h0 h2 (lx T len) len a' dn' D' R' rk' va' nn um sn uf → Q none h2) : mr_run 128 [.ref 74, .int (tT (lx T len) a)] h Q := by
  have t0 := tE_in (T := T) hl ha hb
  have hB : itB (lx T len) fb a dn D R rk = if tT (lx T len) a = 110 then
    if fb then (if nmb (lx T len) (tE (lx T len) a) 1 12 then .inr (tE (lx T len) (tE (lx T len) a), tV (lx T len) (tE (lx T len) a), D, R, rk) else .inl (tS (lx T len) (tE (lx T len) a))) else .inl (tS (lx T len) a)
    else if tT (lx T len) a = 101 then
    if nmb (lx T len) (tE (lx T len) a) 0 (dn - 1) then
      if nmb (lx T len) (tE (lx T len) (tE (lx T len) a)) 0 (dn - 1) && (!decide (tV (lx T len) (tE (lx T len) (tE (lx T len) a)) = tV (lx T len) (tE (lx T len) a)) && !bt (D (tV (lx T len) (tE (lx T len) a))) (tV (lx T len) (tE (lx T len) (tE (lx T len) a)))) then .inr (tE (lx T len) (tE (lx T len) (tE (lx T len) a)), dn, upd D (tV (lx T len) (tE (lx T len) a)) (D (tV (lx T len) (tE (lx T len) a)) ||| nb (tV (lx T len) (tE (lx T len) (tE (lx T len) a)))), R, rk)
      else .inl (tS (lx T len) (tE (lx T len) (tE (lx T len) a)))
    else .inl (tS (lx T len) (tE (lx T len) a))
    else if tT (lx T len) a = 114 then
    if nmb (lx T len) (tE (lx T len) a) 0 (dn - 1) && decide (R (tV (lx T len) (tE (lx T len) a)) = -1) then .inr (tE (lx T len) (tE (lx T len) a), dn, D, upd R (tV (lx T len) (tE (lx T len) a)) (nI rk), rk + 1) else .inl (tS (lx T len) (tE (lx T len) a))
    else .inl (tS (lx T len) a) := rfl
  rcases ht with ⟨c1, hf⟩ | c1 | c1
  · rw [if_pos c1, if_pos hf] at hB
    rw [c1]
    refine mi_n hl e75 t0.2.1 hb c (fun z h2 mf => k0 _ h2 ?_ mf) (fun z h2 va' mr => k1 _ _ _ _ _ h2 va' ?_ mr)
    · rw [hB, z]; rfl
    · rw [hB, if_pos z]
  · rw [if_neg (by rw [c1]; decide), if_pos c1] at hB
    rw [c1]
    refine mi_e hl e75 t0.2.1 hb hd1 hd c (fun z h2 mf => k0 _ h2 ?_ mf) (fun z1 z2 h2 mf => k0 _ h2 ?_ mf) (fun z1 z2 h2 va' mr => k1 _ _ _ _ _ h2 va' ?_ mr)
    · rw [hB, z]; rfl
    · rw [hB, if_pos z1, z2]; rfl
    · rw [hB, if_pos z1, if_pos z2]
  · rw [if_neg (by rw [c1]; decide), if_neg (by rw [c1]; decide), if_pos c1] at hB
    rw [c1]
    refine mi_r hl e75 t0.2.1 hb hd1 hd hR c (fun z h2 mf => k0 _ h2 ?_ mf) (fun z h2 va' mr => k1 _ _ _ _ _ h2 va' ?_ mr)
    · rw [hB, z]; rfl
    · rw [hB, if_pos z]
theorem lm_bad {q : Nat} {x : Int32} {v2 : Value} (c : MF h0 h len q nn um sn uf) (kk : Q (some (.int (-10 - nI q))) h) : mr_wp 123 25 [.ref 74, .int x, v2] [] h Q := by
  obtain ⟨f, hq, ⟨tt, tk, pl, va, dn, dr, e74⟩, -⟩ := c
  have hw := fun Q => q_mo_isWell (Q := Q) e74
  simp only [MO] at e74
  rw [s_mo_graph_25]
  simp only [S_mo_graph_0, S_mo_graph_1, SEL, PF, mr_gf_O, mr_rc_O, Option.toList_some, Option.toList_none, List.cons_append, List.nil_append, b2i_0, b2i_1, b2i_a, a_00, a_11, ai_n, si_n, nI_1, q_rl_bit, mr_up_at, Nat.reduceLeDiff, Nat.reduceLT, Nat.reduceEqDiff, Nat.reduceAdd, if_true, if_false, Bool.true_eq_false, Bool.false_eq_true, Bool.true_and, Bool.false_and, Bool.and_true, Bool.and_false, i_10, i_01, i_00, not_true_eq_false, not_false_eq_true, e74, hw, decide_eq_false (nI_pos (show q < 2 ^ 31 by omega))]
  exact kk
theorem lm_stop {q : Nat} {x : Int32} {v2 : Value} (c : MF h0 h len q nn um sn uf) (kk : Q (some (.int (-10 - nI q))) h) : mr_wp 123 82 [.ref 74, .int x, v2] [] h Q := by
  have hb := fun x Q => mt_bad (x := x) (Q := Q) c
  have lb := fun x => lm_bad (Q := Q) (x := x) (v2 := v2) c kk
  obtain ⟨f, hq, ⟨tt, tk, pl, va, dn, dr, e74⟩, -⟩ := c
  simp only [MO] at e74
  by_cases z : tk = 3
  · simp only [S_mo_graph_0, S_mo_graph_1, SEL, PF, mr_gf_O, mr_rc_O, Option.toList_some, Option.toList_none, List.cons_append, List.nil_append, b2i_0, b2i_1, b2i_a, a_00, a_11, ai_n, si_n, nI_1, q_rl_bit, mr_up_at, Nat.reduceLeDiff, Nat.reduceLT, Nat.reduceEqDiff, Nat.reduceAdd, if_true, if_false, Bool.true_eq_false, Bool.false_eq_true, Bool.true_and, Bool.false_and, Bool.and_true, Bool.and_false, i_10, i_01, i_00, not_true_eq_false, not_false_eq_true, e74, z, hb]
    exact lb _
  · simp only [S_mo_graph_0, S_mo_graph_1, SEL, PF, mr_gf_O, mr_rc_O, Option.toList_some, Option.toList_none, List.cons_append, List.nil_append, b2i_0, b2i_1, b2i_a, a_00, a_11, ai_n, si_n, nI_1, q_rl_bit, mr_up_at, Nat.reduceLeDiff, Nat.reduceLT, Nat.reduceEqDiff, Nat.reduceAdd, if_true, if_false, Bool.true_eq_false, Bool.false_eq_true, Bool.true_and, Bool.false_and, Bool.and_true, Bool.and_false, i_10, i_01, i_00, not_true_eq_false, not_false_eq_true, e74, if_pos z, hb]
    exact lb _
theorem lm_text (hl : len ≤ 120) (e75 : h0.1 75 = mr_I 120 T) (hb : ∀ j, j < len → ¬ T j < 0) : ∀ (f i a dn : Nat) (D R : Nat → Int32) (rk : Nat) (va : Int32) (h : mr_h) (v2 : Value), len < a + f → gd len i a dn D R rk → MR h0 h (lx T len) len a dn D R rk va nn um sn uf →
    (∀ q h2, prs (lx T len) f i a dn D R rk = .inl q → MF h0 h2 len q nn um sn uf → Q (some (.int (-10 - nI q))) h2) →
    (∀ i' a' dn' D' R' rk' va' h2 v2, prs (lx T len) f i a dn D R rk = .inr (i', a', dn', D', R', rk') → MR h0 h2 (lx T len) len a' dn' D' R' rk' va' nn um sn uf → mr_wp 123 121 [.ref 74, .int (nI i'), v2] [] h2 Q) → mr_wp 123 25 [.ref 74, .int (nI i), v2] [] h Q := by
  intro f
  induction f with
  | zero =>
    intro i a dn D R rk va h v2 hf g
    have := g.1
    omega
  | succ f ih =>
    intro i a dn D R rk va h v2 hf g c k0 k1
    obtain ⟨f1, e74, hv, hs, W, e76, hW⟩ := id c
    have hw := fun Q => q_mo_isWell (Q := Q) e74
    have e74' := e74
    simp only [MO] at e74'
    have hp : prs (lx T len) (f + 1) i a dn D R rk = if tT (lx T len) a = -2 then .inr (i, a, dn, D, R, rk) else
      match itm (lx T len) (decide (i = 0)) a dn D R rk with
      | .inl q => .inl q
      | .inr (a', dn', D', R', rk') => prs (lx T len) f (i + 1) a' dn' D' R' rk' := rfl
    rw [s_mo_graph_25]
    by_cases c1 : tT (lx T len) a = -2
    · rw [if_pos c1] at hp
      have := k1 _ _ _ _ _ _ _ h v2 hp c
      simp only [S_mo_graph_0, S_mo_graph_1, SEL, PF, mr_gf_O, mr_rc_O, Option.toList_some, Option.toList_none, List.cons_append, List.nil_append, b2i_0, b2i_1, b2i_a, a_00, a_11, ai_n, si_n, nI_1, q_rl_bit, mr_up_at, Nat.reduceLeDiff, Nat.reduceLT, Nat.reduceEqDiff, Nat.reduceAdd, if_true, if_false, Bool.true_eq_false, Bool.false_eq_true, Bool.true_and, Bool.false_and, Bool.and_true, Bool.and_false, i_10, i_01, i_00, not_true_eq_false, not_false_eq_true, e74', hw, show decide ((-1 : Int32) < 0) = true from rfl, kd_0, if_pos c1] at this ⊢
      exact this
    · rw [if_neg c1] at hp
      have hi120 : i ≤ 120 := by have := g.1; have := g.2.1; omega
      -- an item that is wrong
      have bad : ∀ q h2, itB (lx T len) (decide (i = 0)) a dn D R rk = .inl q → MF h0 h2 len q nn um sn uf → Q (some (.int (-10 - nI q))) h2 := fun q h2 e mf => k0 q h2 (by rw [hp]; unfold itm; rw [e]) mf
      by_cases c2 : (tT (lx T len) a = 110 ∧ decide (i = 0) = true) ∨ tT (lx T len) a = 101 ∨ tT (lx T len) a = 114
      · have hk1 : kd (tT (lx T len) a) = 1 := by
          rw [kd_1]
          rcases c2 with z | z | z
          · exact Or.inl z.1
          · exact Or.inr (Or.inl z)
          · exact Or.inr (Or.inr z)
        have hsg : sgb (tT (lx T len) a) = true := by
          rcases c2 with z | z | z
          · rw [z.1]; decide
          · rw [z]; decide
          · rw [z]; decide
        have ev := hs hsg
        subst ev
        have te := tE_in (T := T) hl g.1 hb
        have step : mr_run 127 [.ref 74, .int 1] h (fun v h' => mr_wp 123 69 [.ref 74, .int (nI i), v2] (v.toList ++ []) h' Q) := by
          refine mt_ok hl e75 g.1 hb c ?_
          intro h2 va2 mr2
          obtain ⟨f2, g74, -, -, -⟩ := id mr2
          have hw2 := fun Q => q_mo_isWell (Q := Q) g74
          simp only [MO] at g74
          simp only [S_mo_graph_0, S_mo_graph_1, SEL, PF, mr_gf_O, mr_rc_O, Option.toList_some, Option.toList_none, List.cons_append, List.nil_append, b2i_0, b2i_1, b2i_a, a_00, a_11, ai_n, si_n, nI_1, q_rl_bit, mr_up_at, Nat.reduceLeDiff, Nat.reduceLT, Nat.reduceEqDiff, Nat.reduceAdd, if_true, if_false, Bool.true_eq_false, Bool.false_eq_true, Bool.true_and, Bool.false_and, Bool.and_true, Bool.and_false, i_10, i_01, i_00, not_true_eq_false, not_false_eq_true, g74, hw2, show decide ((-1 : Int32) < 0) = true from rfl]
          refine mi_all (fb := decide (i = 0)) hl e75 g.1 hb g.2.2.1 g.2.2.2.1 (fun u hu => ?_) c2 mr2 (fun q h3 e mf => ?_) (fun a' dn' D' R' rk' h3 va3 e mr3 => ?_)
          · rcases g.2.2.2.2.2.1 u hu with z | ⟨-, j, hj, z⟩
            · exact Or.inl z
            · have hrk : rk ≤ 12 := by rw [← g.2.2.2.2.2.2.1]; exact fb_ct_le _ 12
              exact Or.inr ⟨j, by omega, z⟩
          · have := lm_stop (Q := Q) (x := nI i) (v2 := .int (tT (lx T len) a)) mf (bad q h3 e mf)
            simp only [S_mo_graph_0, S_mo_graph_1, SEL, PF, mr_gf_O, mr_rc_O, Option.toList_some, Option.toList_none, List.cons_append, List.nil_append, b2i_0, b2i_1, b2i_a, a_00, a_11, ai_n, si_n, nI_1, q_rl_bit, mr_up_at, Nat.reduceLeDiff, Nat.reduceLT, Nat.reduceEqDiff, Nat.reduceAdd, if_true, if_false, Bool.true_eq_false, Bool.false_eq_true, Bool.true_and, Bool.false_and, Bool.and_true, Bool.and_false, i_10, i_01, i_00, not_true_eq_false, not_false_eq_true] at this ⊢
            exact this
          · obtain ⟨gB, hlt⟩ := itB_gd hl hb g c1 e
            obtain ⟨f3, j74, -, -, -⟩ := id mr3
            simp only [MO] at j74
            by_cases c3 : tT (lx T len) a' = 59
            · have he : itm (lx T len) (decide (i = 0)) a dn D R rk = .inr (tE (lx T len) a', dn', D', R', rk') := by
                unfold itm
                rw [e]
                exact if_pos c3
              obtain ⟨g', hlt'⟩ := itm_gd hl hb g c1 he
              simp only [S_mo_graph_0, S_mo_graph_1, SEL, PF, mr_gf_O, mr_rc_O, Option.toList_some, Option.toList_none, List.cons_append, List.nil_append, b2i_0, b2i_1, b2i_a, a_00, a_11, ai_n, si_n, nI_1, q_rl_bit, mr_up_at, Nat.reduceLeDiff, Nat.reduceLT, Nat.reduceEqDiff, Nat.reduceAdd, if_true, if_false, Bool.true_eq_false, Bool.false_eq_true, Bool.true_and, Bool.false_and, Bool.and_true, Bool.and_false, i_10, i_01, i_00, not_true_eq_false, not_false_eq_true, j74, kd_3, c3]
              refine mt_ok hl e75 gB.1 hb mr3 ?_
              intro h4 va4 mr4
              simp only [S_mo_graph_0, S_mo_graph_1, SEL, PF, mr_gf_O, mr_rc_O, Option.toList_some, Option.toList_none, List.cons_append, List.nil_append, b2i_0, b2i_1, b2i_a, a_00, a_11, ai_n, si_n, nI_1, q_rl_bit, mr_up_at, Nat.reduceLeDiff, Nat.reduceLT, Nat.reduceEqDiff, Nat.reduceAdd, if_true, if_false, Bool.true_eq_false, Bool.false_eq_true, Bool.true_and, Bool.false_and, Bool.and_true, Bool.and_false, i_10, i_01, i_00, not_true_eq_false, not_false_eq_true]
              refine ih (i + 1) _ _ _ _ _ va4 h4 _ (by omega) g' mr4 (fun q h5 e5 mf => k0 q h5 ?_ mf) (fun i' a'' dn'' D'' R'' rk'' va'' h5 v5 e5 mr5 => k1 i' a'' dn'' D'' R'' rk'' va'' h5 v5 ?_ mr5)
              · rw [hp, he]; exact e5
              · rw [hp, he]; exact e5
            · simp only [S_mo_graph_0, S_mo_graph_1, SEL, PF, mr_gf_O, mr_rc_O, Option.toList_some, Option.toList_none, List.cons_append, List.nil_append, b2i_0, b2i_1, b2i_a, a_00, a_11, ai_n, si_n, nI_1, q_rl_bit, mr_up_at, Nat.reduceLeDiff, Nat.reduceLT, Nat.reduceEqDiff, Nat.reduceAdd, if_true, if_false, Bool.true_eq_false, Bool.false_eq_true, Bool.true_and, Bool.false_and, Bool.and_true, Bool.and_false, i_10, i_01, i_00, not_true_eq_false, not_false_eq_true, j74, kd_3, if_pos c3]
              refine mt_no hl gB.1 mr3 ?_
              intro mf
              have := lm_bad (Q := Q) (x := nI (i + 1)) (v2 := .int (tT (lx T len) a)) mf (k0 _ _ (by rw [hp]; unfold itm; rw [e]; simp only [if_neg c3]) mf)
              simp only [S_mo_graph_0, S_mo_graph_1, SEL, PF, mr_gf_O, mr_rc_O, Option.toList_some, Option.toList_none, List.cons_append, List.nil_append, b2i_0, b2i_1, b2i_a, a_00, a_11, ai_n, si_n, nI_1, q_rl_bit, mr_up_at, Nat.reduceLeDiff, Nat.reduceLT, Nat.reduceEqDiff, Nat.reduceAdd, if_true, if_false, Bool.true_eq_false, Bool.false_eq_true, Bool.true_and, Bool.false_and, Bool.and_true, Bool.and_false, i_10, i_01, i_00, not_true_eq_false, not_false_eq_true] at this ⊢
              exact this
        by_cases c4 : tT (lx T len) a = 110
        · have hi0 : i = 0 := by
            rcases c2 with z | z | z
            · simpa using z.2
            · rw [c4] at z; exact absurd z (by decide)
            · rw [c4] at z; exact absurd z (by decide)
          subst hi0
          have e0 : nI 0 = (0 : Int32) := rfl
          simp only [S_mo_graph_0, S_mo_graph_1, SEL, PF, mr_gf_O, mr_rc_O, Option.toList_some, Option.toList_none, List.cons_append, List.nil_append, b2i_0, b2i_1, b2i_a, a_00, a_11, ai_n, si_n, nI_1, q_rl_bit, mr_up_at, Nat.reduceLeDiff, Nat.reduceLT, Nat.reduceEqDiff, Nat.reduceAdd, if_true, if_false, Bool.true_eq_false, Bool.false_eq_true, Bool.true_and, Bool.false_and, Bool.and_true, Bool.and_false, i_10, i_01, i_00, not_true_eq_false, not_false_eq_true, e74', hw, show decide ((-1 : Int32) < 0) = true from rfl, kd_0, c1, hk1, c4, e0] at step ⊢
          exact step
        · simp only [S_mo_graph_0, S_mo_graph_1, SEL, PF, mr_gf_O, mr_rc_O, Option.toList_some, Option.toList_none, List.cons_append, List.nil_append, b2i_0, b2i_1, b2i_a, a_00, a_11, ai_n, si_n, nI_1, q_rl_bit, mr_up_at, Nat.reduceLeDiff, Nat.reduceLT, Nat.reduceEqDiff, Nat.reduceAdd, if_true, if_false, Bool.true_eq_false, Bool.false_eq_true, Bool.true_and, Bool.false_and, Bool.and_true, Bool.and_false, i_10, i_01, i_00, not_true_eq_false, not_false_eq_true, e74', hw, show decide ((-1 : Int32) < 0) = true from rfl, kd_0, c1, hk1, if_pos c4, i_10] at step ⊢
          exact step
      · have hq : itB (lx T len) (decide (i = 0)) a dn D R rk = .inl (tS (lx T len) a) := by
          unfold itB
          by_cases z1 : tT (lx T len) a = 110
          · rw [if_pos z1, if_neg (fun z => c2 (Or.inl ⟨z1, z⟩))]
          · rw [if_neg z1, if_neg (fun z => c2 (Or.inr (Or.inl z))), if_neg (fun z => c2 (Or.inr (Or.inr z)))]
        have step : mr_run 127 [.ref 74, .int 0] h (fun v h' => mr_wp 123 69 [.ref 74, .int (nI i), v2] (v.toList ++ []) h' Q) := by
          refine mt_no hl g.1 c ?_
          intro mf
          have this := lm_stop (Q := Q) (x := nI i) (v2 := .int 0) mf (bad _ _ hq mf)
          obtain ⟨f2, hq2, ⟨tt, tk, pl, va2, dn2, dr2, g74⟩, -⟩ := mf
          have hw2 := fun Q => q_mo_isWell (Q := Q) g74
          have hqn : decide (nI (tS (lx T len) a) < 0) = false := decide_eq_false (nI_pos (by omega))
          simp only [MO] at hw2 this
          simp only [S_mo_graph_0, S_mo_graph_1, SEL, PF, mr_gf_O, mr_rc_O, Option.toList_some, Option.toList_none, List.cons_append, List.nil_append, b2i_0, b2i_1, b2i_a, a_00, a_11, ai_n, si_n, nI_1, q_rl_bit, mr_up_at, Nat.reduceLeDiff, Nat.reduceLT, Nat.reduceEqDiff, Nat.reduceAdd, if_true, if_false, Bool.true_eq_false, Bool.false_eq_true, Bool.true_and, Bool.false_and, Bool.and_true, Bool.and_false, i_10, i_01, i_00, not_true_eq_false, not_false_eq_true, MO, hw2, hqn] at this ⊢
          exact this
        by_cases c3 : kd (tT (lx T len) a) = 1
        · have c4 : tT (lx T len) a = 110 := by
            rw [kd_1] at c3
            rcases c3 with z | z | z
            · exact z
            · exact absurd (Or.inr (Or.inl z)) c2
            · exact absurd (Or.inr (Or.inr z)) c2
          have hi0 : ¬ i = 0 := fun z => c2 (Or.inl ⟨c4, decide_eq_true z⟩)
          have ev := hs (by rw [c4]; decide)
          subst ev
          simp only [S_mo_graph_0, S_mo_graph_1, SEL, PF, mr_gf_O, mr_rc_O, Option.toList_some, Option.toList_none, List.cons_append, List.nil_append, b2i_0, b2i_1, b2i_a, a_00, a_11, ai_n, si_n, nI_1, q_rl_bit, mr_up_at, Nat.reduceLeDiff, Nat.reduceLT, Nat.reduceEqDiff, Nat.reduceAdd, if_true, if_false, Bool.true_eq_false, Bool.false_eq_true, Bool.true_and, Bool.false_and, Bool.and_true, Bool.and_false, i_10, i_01, i_00, not_true_eq_false, not_false_eq_true, e74', hw, show decide ((-1 : Int32) < 0) = true from rfl, kd_0, c1, c3, i_10, c4, if_pos (nI_ne0 (show 0 < i by omega) (show i < 2 ^ 31 by omega))] at step ⊢
          exact step
        · simp only [S_mo_graph_0, S_mo_graph_1, SEL, PF, mr_gf_O, mr_rc_O, Option.toList_some, Option.toList_none, List.cons_append, List.nil_append, b2i_0, b2i_1, b2i_a, a_00, a_11, ai_n, si_n, nI_1, q_rl_bit, mr_up_at, Nat.reduceLeDiff, Nat.reduceLT, Nat.reduceEqDiff, Nat.reduceAdd, if_true, if_false, Bool.true_eq_false, Bool.false_eq_true, Bool.true_and, Bool.false_and, Bool.and_true, Bool.and_false, i_10, i_01, i_00, not_true_eq_false, not_false_eq_true, e74', hw, show decide ((-1 : Int32) < 0) = true from rfl, kd_0, c1, if_pos c3] at step ⊢
          exact step
end MTEXT
