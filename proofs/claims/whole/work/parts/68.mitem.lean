/-! an item and a whole text: the reference -/
section MITEM
variable {h0 h : mr_h} {Q : Option Value → mr_h → Prop} {T : Nat → Int32} {len a dn rk : Nat} {D R : Nat → Int32} {va nn um sn uf : Int32}
theorem or_m0 (x : Int32) : x ||| 0 = x := b_ext fun i _ => by rw [b_or, b_0, Bool.or_false]
/-- e: an edge -/
theorem mi_e (hl : len ≤ 120) (e75 : h0.1 75 = mr_I 120 T) (ha : a ≤ len) (hb : ∀ j, j < len → ¬ T j < 0) (hd1 : 1 ≤ dn) (hd : dn ≤ 12) (c : MR h0 h (lx T len) len a dn D R rk va nn um sn uf)
    (k0 : nmb (lx T len) a 0 (dn - 1) = false → ∀ h2, MF h0 h2 len (tS (lx T len) a) nn um sn uf → Q none h2)
    (k2 : nmb (lx T len) a 0 (dn - 1) = true → (nmb (lx T len) (tE (lx T len) a) 0 (dn - 1) && (!decide (tV (lx T len) (tE (lx T len) a) = tV (lx T len) a) && !bt (D (tV (lx T len) a)) (tV (lx T len) (tE (lx T len) a)))) = false → ∀ h2, MF h0 h2 len (tS (lx T len) (tE (lx T len) a)) nn um sn uf → Q none h2)
    (k1 : nmb (lx T len) a 0 (dn - 1) = true → (nmb (lx T len) (tE (lx T len) a) 0 (dn - 1) && (!decide (tV (lx T len) (tE (lx T len) a) = tV (lx T len) a) && !bt (D (tV (lx T len) a)) (tV (lx T len) (tE (lx T len) a)))) = true → ∀ h2 va', MR h0 h2 (lx T len) len (tE (lx T len) (tE (lx T len) a)) dn (upd D (tV (lx T len) a) (D (tV (lx T len) a) ||| nb (tV (lx T len) (tE (lx T len) a)))) R rk va' nn um sn uf → Q none h2) : mr_run 128 [.ref 74, .int 101] h Q := by
  obtain ⟨f, e74, hv, -, W, e76, hW⟩ := id c
  have hn := fun Q => q_mo_isNumber (Q := Q) (lo := 0) (hi := dn - 1) (by decide) (by omega) tV_99 e74 hv
  rw [nI_0] at hn
  have e74' := e74
  simp only [MO] at e74'
  rw [r_mo_readsItem]
  simp only [S_mo_readsItem_0, S_mo_readsItem_1, S_mo_readsItem_2, SEL, PF, mr_gf_O, mr_rc_O, Option.toList_some, Option.toList_none, List.cons_append, List.nil_append, b2i_0, b2i_1, b2i_a, a_00, a_11, ai_n, si_n, nI_1, q_rl_bit, mr_up_at, Nat.reduceLeDiff, Nat.reduceLT, Nat.reduceEqDiff, Nat.reduceAdd, if_true, if_false, Bool.true_eq_false, Bool.false_eq_true, Bool.true_and, Bool.false_and, Bool.and_true, Bool.and_false, i_10, i_01, i_00, not_true_eq_false, not_false_eq_true, e74', nI_pm hd1, hn, if_pos (show ¬ (101 : Int32) = 110 by decide)]
  cases hnb : nmb (lx T len) a 0 (dn - 1) with
  | false =>
    rw [b2i_f]
    refine mt_no hl ha c ?_
    intro mf
    obtain ⟨f2, hq, -, h76⟩ := id mf
    generalize hh : mr_up h 74 (MO 0 (nI len) (nI (tE (lx T len) a)) (kd (tT (lx T len) a)) (nI (tS (lx T len) a)) va (nI (tS (lx T len) a)) nn (nI dn) (nI rk) um sn uf) = h2 at *
    have g74 : h2.1 74 = MO 0 (nI len) (nI (tE (lx T len) a)) (kd (tT (lx T len) a)) (nI (tS (lx T len) a)) va (nI (tS (lx T len) a)) nn (nI dn) (nI rk) um sn uf := by rw [← hh]; exact up_eq _ _ _
    have g76 : h2.1 76 = mr_I 24 W := by rw [← hh]; simp only [mr_up_at, Nat.reduceEqDiff, if_false]; exact e76
    have hn2 := fun Q => q_mo_isNumber (Q := Q) (lo := 0) (hi := dn - 1) (by decide) (by omega) tV_99 g74 hv
    rw [nI_0] at hn2
    have hw := fun Q => q_mo_isWell (Q := Q) g74
    have hbad := fun x Q => mt_bad (x := x) (Q := Q) mf
    have g74' := g74
    simp only [MO] at g74'
    have a0 : ∀ (f : Nat → Int32) (K : Int32 → Prop), mr_ai (mr_I 24 f) 0 K = K (f 0) := fun f K => ai_n (k := 0) (by decide) (by decide)
    have s0 : ∀ (f : Nat → Int32) (x : Int32) (K : mr_c → Prop), mr_si (mr_I 24 f) 0 x K = K (mr_I 24 (upd f 0 x)) := fun f x K => si_n (k := 0) (by decide) (by decide)
    simp only [S_mo_readsItem_0, S_mo_readsItem_1, S_mo_readsItem_2, SEL, PF, mr_gf_O, mr_rc_O, Option.toList_some, Option.toList_none, List.cons_append, List.nil_append, b2i_0, b2i_1, b2i_a, a_00, a_11, ai_n, si_n, nI_1, q_rl_bit, mr_up_at, Nat.reduceLeDiff, Nat.reduceLT, Nat.reduceEqDiff, Nat.reduceAdd, if_true, if_false, Bool.true_eq_false, Bool.false_eq_true, Bool.true_and, Bool.false_and, Bool.and_true, Bool.and_false, i_10, i_01, i_00, not_true_eq_false, not_false_eq_true, g74', nI_pm hd1, hn2, hnb, hbad, hw, decide_eq_false (nI_pos (show tS (lx T len) a < 2 ^ 31 by omega)), g76, z_add, or_m0, a0, s0]
    exact k0 hnb _ ⟨fr_up _ f2 (by decide), hq, ⟨_, _, _, _, _, _, by simp only [mr_up_at, Nat.reduceEqDiff, if_false]; exact g74⟩, _, up_eq _ _ _⟩
  | true =>
    have hy := nmb_yes hnb
    have ev := hv hy.1
    subst ev
    have hv12 : tV (lx T len) a < 12 := by omega
    rw [b2i_t]
    refine mt_ok hl e75 ha hb c ?_
    intro h2 va' mr
    have te := tE_in (T := T) hl ha hb
    have k0' := k2 hnb
    have k1' := k1 hnb
    clear k0 k1 k2 hnb
    generalize tE (lx T len) a = a2 at *
    generalize hu : tV (lx T len) a = u at *
    obtain ⟨f2, g74, hv2, hs2, W2, g76, hW2⟩ := id mr
    have hn2 := fun Q => q_mo_isNumber (Q := Q) (lo := 0) (hi := dn - 1) (by decide) (by omega) tV_99 g74 hv2
    rw [nI_0] at hn2
    have g74' := g74
    simp only [MO] at g74'
    have no : (nmb (lx T len) a2 0 (dn - 1) && (!decide (tV (lx T len) a2 = u) && !bt (D u) (tV (lx T len) a2))) = false → mr_run 127 [.ref 74, .int 0] h2 (fun v h' => mr_wp 128 95 [.ref 74, .int 101, .int (nI u), .null] (v.toList ++ []) h' Q) := fun hk => by
      refine mt_no hl te.2.1 mr ?_
      intro mf
      obtain ⟨f3, hq, -, h76⟩ := id mf
      generalize hh : mr_up h2 74 (MO 0 (nI len) (nI (tE (lx T len) a2)) (kd (tT (lx T len) a2)) (nI (tS (lx T len) a2)) va' (nI (tS (lx T len) a2)) nn (nI dn) (nI rk) um sn uf) = h3 at *
      have j74 : h3.1 74 = MO 0 (nI len) (nI (tE (lx T len) a2)) (kd (tT (lx T len) a2)) (nI (tS (lx T len) a2)) va' (nI (tS (lx T len) a2)) nn (nI dn) (nI rk) um sn uf := by rw [← hh]; exact up_eq _ _ _
      have j76 : h3.1 76 = mr_I 24 W2 := by rw [← hh]; simp only [mr_up_at, Nat.reduceEqDiff, if_false]; exact g76
      have hw := fun Q => q_mo_isWell (Q := Q) j74
      have j74' := j74
      simp only [MO] at j74'
      simp only [S_mo_readsItem_0, S_mo_readsItem_1, S_mo_readsItem_2, SEL, PF, mr_gf_O, mr_rc_O, Option.toList_some, Option.toList_none, List.cons_append, List.nil_append, b2i_0, b2i_1, b2i_a, a_00, a_11, ai_n, si_n, nI_1, q_rl_bit, mr_up_at, Nat.reduceLeDiff, Nat.reduceLT, Nat.reduceEqDiff, Nat.reduceAdd, if_true, if_false, Bool.true_eq_false, Bool.false_eq_true, Bool.true_and, Bool.false_and, Bool.and_true, Bool.and_false, i_10, i_01, i_00, not_true_eq_false, not_false_eq_true, j74', hw, decide_eq_false (nI_pos (show tS (lx T len) a2 < 2 ^ 31 by omega)), j76, z_add, or_m0, show u < 24 by omega]
      exact k0' hk _ ⟨fr_up _ f3 (by decide), hq, ⟨_, _, _, _, _, _, by simp only [mr_up_at, Nat.reduceEqDiff, if_false]; exact j74⟩, _, up_eq _ _ _⟩
    simp only [S_mo_readsItem_0, S_mo_readsItem_1, S_mo_readsItem_2, SEL, PF, mr_gf_O, mr_rc_O, Option.toList_some, Option.toList_none, List.cons_append, List.nil_append, b2i_0, b2i_1, b2i_a, a_00, a_11, ai_n, si_n, nI_1, q_rl_bit, mr_up_at, Nat.reduceLeDiff, Nat.reduceLT, Nat.reduceEqDiff, Nat.reduceAdd, if_true, if_false, Bool.true_eq_false, Bool.false_eq_true, Bool.true_and, Bool.false_and, Bool.and_true, Bool.and_false, i_10, i_01, i_00, not_true_eq_false, not_false_eq_true, g74', nI_pm hd1, hn2]
    cases hnb2 : nmb (lx T len) a2 0 (dn - 1) with
    | false =>
      simp only [S_mo_readsItem_0, S_mo_readsItem_1, S_mo_readsItem_2, SEL, PF, mr_gf_O, mr_rc_O, Option.toList_some, Option.toList_none, List.cons_append, List.nil_append, b2i_0, b2i_1, b2i_a, a_00, a_11, ai_n, si_n, nI_1, q_rl_bit, mr_up_at, Nat.reduceLeDiff, Nat.reduceLT, Nat.reduceEqDiff, Nat.reduceAdd, if_true, if_false, Bool.true_eq_false, Bool.false_eq_true, Bool.true_and, Bool.false_and, Bool.and_true, Bool.and_false, i_10, i_01, i_00, not_true_eq_false, not_false_eq_true]
      exact no (by rw [hnb2]; rfl)
    | true =>
      have hy2 := nmb_yes hnb2
      have ev := hv2 hy2.1
      subst ev
      rw [hnb2, Bool.true_and] at k1' no
      generalize hww : tV (lx T len) a2 = ww at *
      have ceq : (nI ww = nI u) = (ww = u) := propext (nI_eq (by omega) (by omega))
      simp only [S_mo_readsItem_0, S_mo_readsItem_1, S_mo_readsItem_2, SEL, PF, mr_gf_O, mr_rc_O, Option.toList_some, Option.toList_none, List.cons_append, List.nil_append, b2i_0, b2i_1, b2i_a, a_00, a_11, ai_n, si_n, nI_1, q_rl_bit, mr_up_at, Nat.reduceLeDiff, Nat.reduceLT, Nat.reduceEqDiff, Nat.reduceAdd, if_true, if_false, Bool.true_eq_false, Bool.false_eq_true, Bool.true_and, Bool.false_and, Bool.and_true, Bool.and_false, i_10, i_01, i_00, not_true_eq_false, not_false_eq_true, g74', ceq, g76, z_add, show u < 24 by omega, (hW2 u hv12).1, q_mo_has (show ww < 32 by omega)]
      by_cases c1 : ww = u
      · rw [if_pos c1]
        exact no (by rw [decide_eq_true c1]; rfl)
      · rw [if_neg c1]
        rw [decide_eq_false c1] at no k1'
        cases c2 : bt (D u) ww with
        | true =>
          rw [c2] at no
          simp only [S_mo_readsItem_0, S_mo_readsItem_1, S_mo_readsItem_2, SEL, PF, mr_gf_O, mr_rc_O, Option.toList_some, Option.toList_none, List.cons_append, List.nil_append, b2i_0, b2i_1, b2i_a, a_00, a_11, ai_n, si_n, nI_1, q_rl_bit, mr_up_at, Nat.reduceLeDiff, Nat.reduceLT, Nat.reduceEqDiff, Nat.reduceAdd, if_true, if_false, Bool.true_eq_false, Bool.false_eq_true, Bool.true_and, Bool.false_and, Bool.and_true, Bool.and_false, i_10, i_01, i_00, not_true_eq_false, not_false_eq_true]
          exact no rfl
        | false =>
          rw [c2] at k1'
          simp only [S_mo_readsItem_0, S_mo_readsItem_1, S_mo_readsItem_2, SEL, PF, mr_gf_O, mr_rc_O, Option.toList_some, Option.toList_none, List.cons_append, List.nil_append, b2i_0, b2i_1, b2i_a, a_00, a_11, ai_n, si_n, nI_1, q_rl_bit, mr_up_at, Nat.reduceLeDiff, Nat.reduceLT, Nat.reduceEqDiff, Nat.reduceAdd, if_true, if_false, Bool.true_eq_false, Bool.false_eq_true, Bool.true_and, Bool.false_and, Bool.and_true, Bool.and_false, i_10, i_01, i_00, not_true_eq_false, not_false_eq_true]
          refine mt_ok hl e75 te.2.1 hb mr ?_
          intro h3 va3 mr3
          obtain ⟨f3, j74, hv3, hs3, W3, j76, hW3⟩ := id mr3
          have hw := fun Q => q_mo_isWell (Q := Q) j74
          have j74' := j74
          simp only [MO] at j74'
          simp only [S_mo_readsItem_0, S_mo_readsItem_1, S_mo_readsItem_2, SEL, PF, mr_gf_O, mr_rc_O, Option.toList_some, Option.toList_none, List.cons_append, List.nil_append, b2i_0, b2i_1, b2i_a, a_00, a_11, ai_n, si_n, nI_1, q_rl_bit, mr_up_at, Nat.reduceLeDiff, Nat.reduceLT, Nat.reduceEqDiff, Nat.reduceAdd, if_true, if_false, Bool.true_eq_false, Bool.false_eq_true, Bool.true_and, Bool.false_and, Bool.and_true, Bool.and_false, i_10, i_01, i_00, not_true_eq_false, not_false_eq_true, j74', hw, show decide ((-1 : Int32) < 0) = true from rfl, j76, z_add, show u < 24 by omega, nb_def, (hW3 u hv12).1]
          exact k1' rfl _ va3 ⟨fr_up _ f3 (by decide), by simp only [mr_up_at, Nat.reduceEqDiff, if_false]; exact j74, hv3, hs3, _, up_eq _ _ _, W_up hv12 hW3⟩
end MITEM
