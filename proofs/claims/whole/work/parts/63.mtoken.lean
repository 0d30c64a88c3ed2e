/-! the reference's tokens -/
section MTOKEN
variable {h : mr_h} {Q : Option Value → mr_h → Prop} {T : Nat → Int32} {len : Nat} {th tk pl va fa nn dn dr um sn uf : Int32}
theorem q_mo_letterAt {tt : Int32} {j : Nat} (hl : len ≤ 120) (hj : j ≤ 120) (e74 : h.1 74 = MO th (nI len) tt tk pl va fa nn dn dr um sn uf) (e75 : h.1 75 = mr_I 120 T) : mr_run 125 [.ref 74, .int (nI j)] h Q = Q (some (.int (lx T len j))) h := by
  rw [r_mo_letterAt]
  by_cases z : j < len
  · rw [lx_in z]
    simp only [S_mo_letterAt, e74, MO, SEL, PF, mr_gf_O, mr_rc_O, Option.toList_some, Option.toList_none, List.cons_append, List.nil_append, b2i_0, b2i_1, b2i_a, a_00, a_11, ai_n, si_n, nI_1, q_rl_bit, mr_up_at, Nat.reduceLeDiff, Nat.reduceLT, Nat.reduceEqDiff, Nat.reduceAdd, if_true, if_false, Bool.true_eq_false, Bool.false_eq_true, Bool.true_and, Bool.false_and, Bool.and_true, Bool.and_false, i_10, i_01, i_00, not_true_eq_false, not_false_eq_true, if_neg (show ¬ nI len ≤ nI j from nI_ge z (by omega)), e75, show j < 120 by omega]
  · rw [lx_out (by omega)]
    simp only [S_mo_letterAt, e74, MO, SEL, PF, mr_gf_O, mr_rc_O, Option.toList_some, Option.toList_none, List.cons_append, List.nil_append, b2i_0, b2i_1, b2i_a, a_00, a_11, ai_n, si_n, nI_1, q_rl_bit, mr_up_at, Nat.reduceLeDiff, Nat.reduceLT, Nat.reduceEqDiff, Nat.reduceAdd, if_true, if_false, Bool.true_eq_false, Bool.false_eq_true, Bool.true_and, Bool.false_and, Bool.and_true, Bool.and_false, i_10, i_01, i_00, not_true_eq_false, not_false_eq_true, if_pos (show nI len ≤ nI j from nI_le (by omega) (by omega))]
theorem l_ad0 (hl : len ≤ 120) (e75 : h.1 75 = mr_I 120 T) {s : Nat} (hs : s ≤ len) (hne : ¬ lx T len s = 32) {v1 : Value} (kk : ∀ h2, mr_fr h h2 [74] → h2.1 74 = MO th (nI len) (nI s) tk pl va fa nn dn dr um sn uf → mr_wp 124 26 [.ref 74, v1] [] h2 Q) : ∀ (k a : Nat) (h1 : mr_h), a + k = s → (∀ j, a ≤ j → j < s → lx T len j = 32) → mr_fr h h1 [74] → h1.1 74 = MO th (nI len) (nI a) tk pl va fa nn dn dr um sn uf → mr_wp 124 0 [.ref 74, v1] [] h1 Q := by
  intro k
  induction k with
  | zero =>
    intro a h1 hk _ f e74
    have : a = s := by omega
    subst this
    have g75 := fr_at f (by decide) e75
    have := kk h1 f e74
    have la := fun Q => q_mo_letterAt (Q := Q) (j := a) hl (by omega) e74 g75
    simp only [MO] at e74
    rw [s_mo_advances_0]
    simp only [S_mo_advances_0, S_mo_advances_1, S_mo_advances_2, e74, SEL, PF, mr_gf_O, mr_rc_O, Option.toList_some, Option.toList_none, List.cons_append, List.nil_append, b2i_0, b2i_1, b2i_a, a_00, a_11, ai_n, si_n, nI_1, q_rl_bit, mr_up_at, Nat.reduceLeDiff, Nat.reduceLT, Nat.reduceEqDiff, Nat.reduceAdd, if_true, if_false, Bool.true_eq_false, Bool.false_eq_true, Bool.true_and, Bool.false_and, Bool.and_true, Bool.and_false, i_10, i_01, i_00, not_true_eq_false, not_false_eq_true, la, if_pos hne] at this ⊢
    exact this
  | succ k ih =>
    intro a h1 hk hbl f e74
    have g75 := fr_at f (by decide) e75
    have ha := hbl a (Nat.le_refl a) (by omega)
    have la := fun Q => q_mo_letterAt (Q := Q) (j := a) hl (by omega) e74 g75
    simp only [MO] at e74
    rw [s_mo_advances_0]
    simp only [S_mo_advances_0, S_mo_advances_1, S_mo_advances_2, e74, SEL, PF, mr_gf_O, mr_rc_O, Option.toList_some, Option.toList_none, List.cons_append, List.nil_append, b2i_0, b2i_1, b2i_a, a_00, a_11, ai_n, si_n, nI_1, q_rl_bit, mr_up_at, Nat.reduceLeDiff, Nat.reduceLT, Nat.reduceEqDiff, Nat.reduceAdd, if_true, if_false, Bool.true_eq_false, Bool.false_eq_true, Bool.true_and, Bool.false_and, Bool.and_true, Bool.and_false, i_10, i_01, i_00, not_true_eq_false, not_false_eq_true, la, ha]
    exact ih (a + 1) _ (by omega) (fun j h1 h2 => hbl j (by omega) h2) (fr_up _ f (by decide)) (up_eq _ _ _)
theorem l_ad1 (hl : len ≤ 120) (e75 : h.1 75 = mr_I 120 T) {s e : Nat} (he : e ≤ len) (hd : ∀ j, s ≤ j → j < e → dgb (lx T len j) = true) (hnd : dgb (lx T len e) = false) {v1 : Value} (kk : ∀ h2, mr_fr h h2 [74] → h2.1 74 = MO th (nI len) (nI e) tk pl (nI (vl (lx T len) s (e - s))) fa nn dn dr um sn uf → mr_wp 124 141 [.ref 74, v1] [] h2 Q) : ∀ (d k : Nat) (h1 : mr_h), s + k + d = e → mr_fr h h1 [74] → h1.1 74 = MO th (nI len) (nI (s + k)) tk pl (nI (vl (lx T len) s k)) fa nn dn dr um sn uf → mr_wp 124 71 [.ref 74, v1] [] h1 Q := by
  intro d
  induction d with
  | zero =>
    intro k h1 hk f e74
    have : e = s + k := by omega
    subst this
    have g75 := fr_at f (by decide) e75
    have kk' := kk h1 f (by rw [show s + k - s = k by omega]; exact e74)
    have la := fun Q => q_mo_letterAt (Q := Q) (j := s + k) hl (by omega) e74 g75
    have hnd' : decide (¬ lx T len (s + k) < 48 ∧ ¬ (57 : Int32) < lx T len (s + k)) = false := hnd
    simp only [MO] at e74
    rw [s_mo_advances_71]
    simp only [S_mo_advances_0, S_mo_advances_1, S_mo_advances_2, e74, SEL, PF, mr_gf_O, mr_rc_O, Option.toList_some, Option.toList_none, List.cons_append, List.nil_append, b2i_0, b2i_1, b2i_a, a_00, a_11, ai_n, si_n, nI_1, q_rl_bit, mr_up_at, Nat.reduceLeDiff, Nat.reduceLT, Nat.reduceEqDiff, Nat.reduceAdd, if_true, if_false, Bool.true_eq_false, Bool.false_eq_true, Bool.true_and, Bool.false_and, Bool.and_true, Bool.and_false, i_10, i_01, i_00, not_true_eq_false, not_false_eq_true, la, q_mo_in, hnd'] at kk' ⊢
    exact kk'
  | succ d ih =>
    intro k h1 hk f e74
    have g75 := fr_at f (by decide) e75
    have hdk := hd (s + k) (by omega) (by omega)
    obtain ⟨x, hx, ex⟩ := dg_nI hdk
    have hv := vl_le (lx T len) s k (fun j hj => hd (s + j) (by omega) (by omega))
    have ev : vl (lx T len) s (k + 1) = if 99 < vl (lx T len) s k then vl (lx T len) s k else 10 * vl (lx T len) s k + x := by
      show (if 99 < vl (lx T len) s k then vl (lx T len) s k else 10 * vl (lx T len) s k + dv (lx T len (s + k))) = _
      rw [ex, dv_nI hx]
    have la := fun Q => q_mo_letterAt (Q := Q) (j := s + k) hl (by omega) e74 g75
    have hdk' : decide (¬ lx T len (s + k) < 48 ∧ ¬ (57 : Int32) < lx T len (s + k)) = true := hdk
    have e48 : (48 : Int32) = nI 48 := rfl
    have e10 : (10 : Int32) = nI 10 := rfl
    have q := nI_sub (a := 10 * vl (lx T len) s k + (48 + x)) (b := 48) (by omega)
    have e10' : nI 10 * nI (vl (lx T len) s k) + nI (48 + x) - nI 48 = nI (10 * vl (lx T len) s k + x) := by
      rw [nI_mulN, nI_add, q]
      exact congrArg nI (by omega)
    have nx := ih (k + 1)
    rw [ev] at nx
    simp only [MO] at e74
    rw [s_mo_advances_71]
    by_cases c : 99 < vl (lx T len) s k
    · rw [if_pos c] at nx
      simp only [S_mo_advances_0, S_mo_advances_1, S_mo_advances_2, e74, SEL, PF, mr_gf_O, mr_rc_O, Option.toList_some, Option.toList_none, List.cons_append, List.nil_append, b2i_0, b2i_1, b2i_a, a_00, a_11, ai_n, si_n, nI_1, q_rl_bit, mr_up_at, Nat.reduceLeDiff, Nat.reduceLT, Nat.reduceEqDiff, Nat.reduceAdd, if_true, if_false, Bool.true_eq_false, Bool.false_eq_true, Bool.true_and, Bool.false_and, Bool.and_true, Bool.and_false, i_10, i_01, i_00, not_true_eq_false, not_false_eq_true, la, q_mo_in, hdk', if_neg (show ¬ nI (vl (lx T len) s k) ≤ 99 from nI_ge (a := 99) c (by omega))]
      exact nx _ (by omega) (fr_up _ (fr_up _ f (by decide)) (by decide)) (up_eq _ _ _)
    · rw [if_neg c] at nx
      simp only [S_mo_advances_0, S_mo_advances_1, S_mo_advances_2, e74, SEL, PF, mr_gf_O, mr_rc_O, Option.toList_some, Option.toList_none, List.cons_append, List.nil_append, b2i_0, b2i_1, b2i_a, a_00, a_11, ai_n, si_n, nI_1, q_rl_bit, mr_up_at, Nat.reduceLeDiff, Nat.reduceLT, Nat.reduceEqDiff, Nat.reduceAdd, if_true, if_false, Bool.true_eq_false, Bool.false_eq_true, Bool.true_and, Bool.false_and, Bool.and_true, Bool.and_false, i_10, i_01, i_00, not_true_eq_false, not_false_eq_true, la, q_mo_in, hdk', if_pos (show nI (vl (lx T len) s k) ≤ 99 from nI_le (b := 99) (by omega) (by decide))]
      rw [ex, e48, e10, e10']
      exact nx _ (by omega) (fr_up _ (fr_up _ f (by decide)) (by decide)) (up_eq _ _ _)
theorem kd_sg {c : Int32} (h1 : dgb c = false) (h2 : ¬ c < 0) : kd (if sgb c then c else -1) = if c = 59 then 3 else if c = 110 ∨ c = 101 ∨ c = 114 then 1 else 4 := by
  unfold sgb
  by_cases z1 : c = 59
  · subst z1; decide
  · by_cases z2 : c = 110
    · subst z2; decide
    · by_cases z3 : c = 101
      · subst z3; decide
      · by_cases z4 : c = 114
        · subst z4; decide
        · simp [z1, z2, z3, z4]
          decide
theorem q_mo_advances (hl : len ≤ 120) (e75 : h.1 75 = mr_I 120 T) {a : Nat} (ha : a ≤ len) (hb : ∀ j, j < len → ¬ T j < 0) (e74 : h.1 74 = MO th (nI len) (nI a) tk pl va fa nn dn dr um sn uf) (kk : ∀ h2 va, mr_fr h h2 [74] → h2.1 74 = MO th (nI len) (nI (tE (lx T len) a)) (kd (tT (lx T len) a)) (nI (tS (lx T len) a)) va fa nn dn dr um sn uf → (tT (lx T len) a = 48 → va = nI (tV (lx T len) a)) → (sgb (tT (lx T len) a) = true → va = tT (lx T len) a) → Q none h2) : mr_run 124 [.ref 74] h Q := by
  obtain ⟨h1, h2, h3, h4⟩ := tS_in (T := T) hl ha
  have hE : tE (lx T len) a = if lx T len (tS (lx T len) a) < 0 then tS (lx T len) a else if dgb (lx T len (tS (lx T len) a)) then dE (lx T len) (tS (lx T len) a) else tS (lx T len) a + 1 := rfl
  have hT : tT (lx T len) a = if lx T len (tS (lx T len) a) < 0 then -2 else if dgb (lx T len (tS (lx T len) a)) then (if (lx T len (tS (lx T len) a) = 48 ∧ 1 < dE (lx T len) (tS (lx T len) a) - tS (lx T len) a) ∨ 99 < tV (lx T len) a then -1 else 48) else if sgb (lx T len (tS (lx T len) a)) then lx T len (tS (lx T len) a) else -1 := rfl
  have hV : tV (lx T len) a = vl (lx T len) (tS (lx T len) a) (dE (lx T len) (tS (lx T len) a) - tS (lx T len) a) := rfl
  generalize hs : tS (lx T len) a = s at *
  rw [r_mo_advances]
  refine l_ad0 hl e75 h2 h4 ?_ (s - a) a h (by omega) h3 (fr_rf _ _) e74
  intro h5 f5 g74
  have g75 := fr_at f5 (by decide) e75
  have la := fun Q => q_mo_letterAt (h := mr_up h5 74 (MO th (nI len) (nI s) tk (nI s) va fa nn dn dr um sn uf)) (Q := Q) (j := s) hl (by omega) (up_eq _ _ _) (show _ = mr_I 120 T by simp only [mr_up_at, Nat.reduceEqDiff, if_false]; exact g75)
  simp only [MO] at la g74
  by_cases z : s < len
  · have hn0 : ¬ lx T len s < 0 := by rw [lx_in z]; exact hb s z
    rw [if_neg hn0] at hE hT
    have hge : (0 : Int32) ≤ lx T len s := fa_of_nlt hn0
    simp only [S_mo_advances_0, S_mo_advances_1, S_mo_advances_2, g74, SEL, PF, mr_gf_O, mr_rc_O, Option.toList_some, Option.toList_none, List.cons_append, List.nil_append, b2i_0, b2i_1, b2i_a, a_00, a_11, ai_n, si_n, nI_1, q_rl_bit, mr_up_at, Nat.reduceLeDiff, Nat.reduceLT, Nat.reduceEqDiff, Nat.reduceAdd, if_true, if_false, Bool.true_eq_false, Bool.false_eq_true, Bool.true_and, Bool.false_and, Bool.and_true, Bool.and_false, i_10, i_01, i_00, not_true_eq_false, not_false_eq_true, la, if_pos hge, q_mo_in]
    rw [show decide (¬ lx T len s < 48 ∧ ¬ (57 : Int32) < lx T len s) = dgb (lx T len s) from rfl]
    cases hd : dgb (lx T len s) with
    | false =>
      rw [hd, if_neg (by decide)] at hE hT
      have kk' := fun h2 f e => kk h2 (lx T len s) f e (fun z => by
        rw [hT] at z
        split at z
        · rename_i z2
          rw [z] at z2
          exact absurd z2 (by decide)
        · exact absurd z (by decide)) (fun z => by
        rw [hT] at z ⊢
        split at z
        · rename_i z2
          rw [if_pos z2]
        · exact absurd z (by decide))
      rw [hE, hT, kd_sg hd hn0] at kk'
      simp only [MO] at kk'
      simp only [S_mo_advances_0, S_mo_advances_1, S_mo_advances_2, SEL, PF, mr_gf_O, mr_rc_O, Option.toList_some, Option.toList_none, List.cons_append, List.nil_append, b2i_0, b2i_1, b2i_a, a_00, a_11, ai_n, si_n, nI_1, q_rl_bit, mr_up_at, Nat.reduceLeDiff, Nat.reduceLT, Nat.reduceEqDiff, Nat.reduceAdd, if_true, if_false, Bool.true_eq_false, Bool.false_eq_true, Bool.true_and, Bool.false_and, Bool.and_true, Bool.and_false, i_10, i_01, i_00, not_true_eq_false, not_false_eq_true]
      by_cases c1 : lx T len s = 59
      · rw [if_pos c1] at kk'
        simp only [c1, S_mo_advances_0, S_mo_advances_1, S_mo_advances_2, SEL, PF, mr_gf_O, mr_rc_O, Option.toList_some, Option.toList_none, List.cons_append, List.nil_append, b2i_0, b2i_1, b2i_a, a_00, a_11, ai_n, si_n, nI_1, q_rl_bit, mr_up_at, Nat.reduceLeDiff, Nat.reduceLT, Nat.reduceEqDiff, Nat.reduceAdd, if_true, if_false, Bool.true_eq_false, Bool.false_eq_true, Bool.true_and, Bool.false_and, Bool.and_true, Bool.and_false, i_10, i_01, i_00, not_true_eq_false, not_false_eq_true] at kk' ⊢
        exact kk' _ (fr_up _ (fr_up _ (fr_up _ (fr_up _ f5 (by decide)) (by decide)) (by decide)) (by decide)) (up_eq _ _ _)
      · rw [if_neg c1] at kk'
        by_cases c2 : lx T len s = 110
        · rw [if_pos (Or.inl c2)] at kk'
          simp only [c2, S_mo_advances_0, S_mo_advances_1, S_mo_advances_2, SEL, PF, mr_gf_O, mr_rc_O, Option.toList_some, Option.toList_none, List.cons_append, List.nil_append, b2i_0, b2i_1, b2i_a, a_00, a_11, ai_n, si_n, nI_1, q_rl_bit, mr_up_at, Nat.reduceLeDiff, Nat.reduceLT, Nat.reduceEqDiff, Nat.reduceAdd, if_true, if_false, Bool.true_eq_false, Bool.false_eq_true, Bool.true_and, Bool.false_and, Bool.and_true, Bool.and_false, i_10, i_01, i_00, not_true_eq_false, not_false_eq_true, if_pos (show ¬ (110 : Int32) = 59 by decide)] at kk' ⊢
          exact kk' _ (fr_up _ (fr_up _ (fr_up _ (fr_up _ f5 (by decide)) (by decide)) (by decide)) (by decide)) (up_eq _ _ _)
        · by_cases c3 : lx T len s = 101
          · rw [if_pos (Or.inr (Or.inl c3))] at kk'
            simp only [c3, S_mo_advances_0, S_mo_advances_1, S_mo_advances_2, SEL, PF, mr_gf_O, mr_rc_O, Option.toList_some, Option.toList_none, List.cons_append, List.nil_append, b2i_0, b2i_1, b2i_a, a_00, a_11, ai_n, si_n, nI_1, q_rl_bit, mr_up_at, Nat.reduceLeDiff, Nat.reduceLT, Nat.reduceEqDiff, Nat.reduceAdd, if_true, if_false, Bool.true_eq_false, Bool.false_eq_true, Bool.true_and, Bool.false_and, Bool.and_true, Bool.and_false, i_10, i_01, i_00, not_true_eq_false, not_false_eq_true, if_pos (show ¬ (101 : Int32) = 59 by decide), if_neg (show ¬ (101 : Int32) = 110 by decide)] at kk' ⊢
            exact kk' _ (fr_up _ (fr_up _ (fr_up _ (fr_up _ f5 (by decide)) (by decide)) (by decide)) (by decide)) (up_eq _ _ _)
          · by_cases c4 : lx T len s = 114
            · rw [if_pos (Or.inr (Or.inr c4))] at kk'
              simp only [c4, S_mo_advances_0, S_mo_advances_1, S_mo_advances_2, SEL, PF, mr_gf_O, mr_rc_O, Option.toList_some, Option.toList_none, List.cons_append, List.nil_append, b2i_0, b2i_1, b2i_a, a_00, a_11, ai_n, si_n, nI_1, q_rl_bit, mr_up_at, Nat.reduceLeDiff, Nat.reduceLT, Nat.reduceEqDiff, Nat.reduceAdd, if_true, if_false, Bool.true_eq_false, Bool.false_eq_true, Bool.true_and, Bool.false_and, Bool.and_true, Bool.and_false, i_10, i_01, i_00, not_true_eq_false, not_false_eq_true, if_pos (show ¬ (114 : Int32) = 59 by decide), if_neg (show ¬ (114 : Int32) = 110 by decide), if_neg (show ¬ (114 : Int32) = 101 by decide)] at kk' ⊢
              exact kk' _ (fr_up _ (fr_up _ (fr_up _ (fr_up _ f5 (by decide)) (by decide)) (by decide)) (by decide)) (up_eq _ _ _)
            · rw [if_neg (by rintro (z | z | z); exact c2 z; exact c3 z; exact c4 z)] at kk'
              simp only [if_pos c1, if_neg c2, if_neg c3, if_pos c4, S_mo_advances_0, S_mo_advances_1, S_mo_advances_2, SEL, PF, mr_gf_O, mr_rc_O, Option.toList_some, Option.toList_none, List.cons_append, List.nil_append, b2i_0, b2i_1, b2i_a, a_00, a_11, ai_n, si_n, nI_1, q_rl_bit, mr_up_at, Nat.reduceLeDiff, Nat.reduceLT, Nat.reduceEqDiff, Nat.reduceAdd, if_true, if_false, Bool.true_eq_false, Bool.false_eq_true, Bool.true_and, Bool.false_and, Bool.and_true, Bool.and_false, i_10, i_01, i_00, not_true_eq_false, not_false_eq_true]
              exact kk' _ (fr_up _ (fr_up _ (fr_up _ (fr_up _ f5 (by decide)) (by decide)) (by decide)) (by decide)) (up_eq _ _ _)
    | true =>
      rw [hd, if_pos rfl] at hE hT
      obtain ⟨d1, d2, d3, d4⟩ := dE_in (T := T) hl h2
      generalize hee : dE (lx T len) s = e at *
      simp only [S_mo_advances_0, S_mo_advances_1, S_mo_advances_2, SEL, PF, mr_gf_O, mr_rc_O, Option.toList_some, Option.toList_none, List.cons_append, List.nil_append, b2i_0, b2i_1, b2i_a, a_00, a_11, ai_n, si_n, nI_1, q_rl_bit, mr_up_at, Nat.reduceLeDiff, Nat.reduceLT, Nat.reduceEqDiff, Nat.reduceAdd, if_true, if_false, Bool.true_eq_false, Bool.false_eq_true, Bool.true_and, Bool.false_and, Bool.and_true, Bool.and_false, i_10, i_01, i_00, not_true_eq_false, not_false_eq_true]
      have key := l_ad1 (h := mr_up (mr_up h5 74 (MO th (nI len) (nI s) tk (nI s) va fa nn dn dr um sn uf)) 74 (MO th (nI len) (nI s) tk (nI s) (nI 0) fa nn dn dr um sn uf)) (Q := Q) (th := th) (tk := tk) (pl := nI s) (fa := fa) (nn := nn) (dn := dn) (dr := dr) (um := um) (sn := sn) (uf := uf) (v1 := .int (lx T len s)) (s := s) (e := e) hl (show _ = mr_I 120 T by simp only [mr_up_at, Nat.reduceEqDiff, if_false]; exact g75) d2 d3 d4 ?_ (e - s) 0 _ (by omega) (fr_rf _ _) (up_eq _ _ _)
      · exact key
      · intro h6 f6 k74
        rw [← hV] at k74
        have F6 : mr_fr h h6 [74] := fr_tr (fr_up _ (fr_up _ f5 (by decide)) (by decide)) f6 (by decide)
        have hv9 : vl (lx T len) s (e - s) ≤ 999 := vl_le _ _ _ (fun j hj => d3 (s + j) (by omega) (by omega))
        rw [← hV] at hv9
        rw [hE, hT] at kk
        generalize tV (lx T len) a = V at *
        have c99 : ((99 : Int32) < nI (V)) = (99 < V) := propext (by
          rw [show (99 : Int32) = nI 99 from rfl, nI_ltI (by decide) (by omega)])
        have k4 : kd (-1) = 4 := by decide
        have k2 : kd 48 = 2 := by decide
        have wr : 99 < V ∨ (lx T len s = 48 ∧ 1 < e - s) → Q none (mr_up h6 74 (MO th (nI len) (nI e) 4 (nI s) (nI (V)) fa nn dn dr um sn uf)) := fun z => by
          rw [if_pos (by rcases z with z | z; exact Or.inr z; exact Or.inl z), k4] at kk
          exact kk _ _ (fr_up _ F6 (by decide)) (up_eq _ _ _) (fun z => absurd z (by decide)) (fun z => absurd z (by decide))
        have ok : V ≤ 99 → ¬ (lx T len s = 48 ∧ 1 < e - s) → Q none (mr_up h6 74 (MO th (nI len) (nI e) 2 (nI s) (nI (V)) fa nn dn dr um sn uf)) := fun z1 z2 => by
          rw [if_neg (by rintro (z | z); exact z2 z; omega), k2] at kk
          exact kk _ _ (fr_up _ F6 (by decide)) (up_eq _ _ _) (fun _ => rfl) (fun z => absurd z (by decide))
        simp only [MO] at k74 wr ok
        by_cases c0 : 99 < V
        · simp only [S_mo_advances_0, S_mo_advances_1, S_mo_advances_2, SEL, PF, mr_gf_O, mr_rc_O, Option.toList_some, Option.toList_none, List.cons_append, List.nil_append, b2i_0, b2i_1, b2i_a, a_00, a_11, ai_n, si_n, nI_1, q_rl_bit, mr_up_at, Nat.reduceLeDiff, Nat.reduceLT, Nat.reduceEqDiff, Nat.reduceAdd, if_true, if_false, Bool.true_eq_false, Bool.false_eq_true, Bool.true_and, Bool.false_and, Bool.and_true, Bool.and_false, i_10, i_01, i_00, not_true_eq_false, not_false_eq_true, k74, c99, if_pos c0]
          exact wr (Or.inl c0)
        · by_cases c48 : lx T len s = 48
          · by_cases c1 : e - s ≤ 1
            · simp only [S_mo_advances_0, S_mo_advances_1, S_mo_advances_2, SEL, PF, mr_gf_O, mr_rc_O, Option.toList_some, Option.toList_none, List.cons_append, List.nil_append, b2i_0, b2i_1, b2i_a, a_00, a_11, ai_n, si_n, nI_1, q_rl_bit, mr_up_at, Nat.reduceLeDiff, Nat.reduceLT, Nat.reduceEqDiff, Nat.reduceAdd, if_true, if_false, Bool.true_eq_false, Bool.false_eq_true, Bool.true_and, Bool.false_and, Bool.and_true, Bool.and_false, i_10, i_01, i_00, not_true_eq_false, not_false_eq_true, k74, c99, if_neg c0, c48, nI_sub d1, if_pos (show nI (e - s) ≤ 1 from nI_le (b := 1) c1 (by decide))]
              exact ok (by omega) (by omega)
            · simp only [S_mo_advances_0, S_mo_advances_1, S_mo_advances_2, SEL, PF, mr_gf_O, mr_rc_O, Option.toList_some, Option.toList_none, List.cons_append, List.nil_append, b2i_0, b2i_1, b2i_a, a_00, a_11, ai_n, si_n, nI_1, q_rl_bit, mr_up_at, Nat.reduceLeDiff, Nat.reduceLT, Nat.reduceEqDiff, Nat.reduceAdd, if_true, if_false, Bool.true_eq_false, Bool.false_eq_true, Bool.true_and, Bool.false_and, Bool.and_true, Bool.and_false, i_10, i_01, i_00, not_true_eq_false, not_false_eq_true, k74, c99, if_neg c0, c48, nI_sub d1, if_neg (show ¬ nI (e - s) ≤ 1 from nI_ge (a := 1) (by omega) (by omega))]
              exact wr (Or.inr ⟨c48, by omega⟩)
          · simp only [S_mo_advances_0, S_mo_advances_1, S_mo_advances_2, SEL, PF, mr_gf_O, mr_rc_O, Option.toList_some, Option.toList_none, List.cons_append, List.nil_append, b2i_0, b2i_1, b2i_a, a_00, a_11, ai_n, si_n, nI_1, q_rl_bit, mr_up_at, Nat.reduceLeDiff, Nat.reduceLT, Nat.reduceEqDiff, Nat.reduceAdd, if_true, if_false, Bool.true_eq_false, Bool.false_eq_true, Bool.true_and, Bool.false_and, Bool.and_true, Bool.and_false, i_10, i_01, i_00, not_true_eq_false, not_false_eq_true, k74, c99, if_neg c0, if_pos c48]
            exact ok (by omega) (fun z => c48 z.1)
  · have es : s = len := by omega
    have hn0 : lx T len s < 0 := by rw [lx_out (by omega)]; decide
    have hge : ¬ (0 : Int32) ≤ lx T len s := by rw [lx_out (by omega)]; decide
    rw [if_pos hn0] at hE hT
    rw [hE, hT] at kk
    have k0 : kd (-2) = 0 := by decide
    rw [k0] at kk
    simp only [S_mo_advances_0, S_mo_advances_1, S_mo_advances_2, g74, SEL, PF, mr_gf_O, mr_rc_O, Option.toList_some, Option.toList_none, List.cons_append, List.nil_append, b2i_0, b2i_1, b2i_a, a_00, a_11, ai_n, si_n, nI_1, q_rl_bit, mr_up_at, Nat.reduceLeDiff, Nat.reduceLT, Nat.reduceEqDiff, Nat.reduceAdd, if_true, if_false, Bool.true_eq_false, Bool.false_eq_true, Bool.true_and, Bool.false_and, Bool.and_true, Bool.and_false, i_10, i_01, i_00, not_true_eq_false, not_false_eq_true, la, if_neg hge]
    exact kk _ va (fr_up _ (fr_up _ f5 (by decide)) (by decide)) (up_eq _ _ _) (fun z => absurd z (by decide)) (fun z => absurd z (by decide))
end MTOKEN
