/-! node, count, type, sees, forget -/
theorem in_no {x : Int32} {b : Nat} (hb : b < 2 ^ 31) (h : ∀ j, j ≤ b → x ≠ nI j) : decide (¬ x < 0 ∧ ¬ nI b < x) = false := by
  apply decide_eq_false
  intro z
  obtain ⟨j, h1, h2⟩ := in_lt hb z
  exact h j h1 h2
section READS
variable {h : mr_h} {Q : Option Value → mr_h → Prop} {n len us m : Nat} {E K : Nat → Int32}
theorem b_count (hi : Inv h) (w : Int32) : Both 115 180 [.int w] h := by
  obtain ⟨n, len, us, m, E, K, st⟩ := hi
  refine both_ro st (if w = 0 then nI n else if w = 1 then nI m else if w = 2 then nI len else -1) ?_ ?_
  · intro h Q st kk
    obtain ⟨h0, ⟨a, b, c, d, e, e7⟩, -⟩ := st.2.2.1
    obtain ⟨h0, ⟨x, e28⟩, -⟩ := st.2.2.2.1
    have := kk h st rfl
    rw [r_rl_count]
    simp only [S_rl_count, s_rl_count_1, St_0 st, RLO, St_1 st, NE, e7, SC, e28, SEL, PF, mr_gf_O, mr_rc_O, Option.toList_some, Option.toList_none, List.cons_append, List.nil_append, b2i_0, b2i_1, b2i_a, a_00, a_11, ai_n, si_n, nI_1, q_rl_bit, mr_up_at, Nat.reduceLeDiff, Nat.reduceLT, Nat.reduceEqDiff, Nat.reduceAdd, if_true, if_false, Bool.true_eq_false, Bool.false_eq_true, Bool.true_and, Bool.false_and, Bool.and_true, Bool.and_false, i_10, i_01, i_00, not_true_eq_false, not_false_eq_true]
    by_cases h0 : w = 0
    · simpa only [h0, SEL, PF, mr_gf_O, mr_rc_O, Option.toList_some, Option.toList_none, List.cons_append, List.nil_append, b2i_0, b2i_1, b2i_a, a_00, a_11, ai_n, si_n, nI_1, q_rl_bit, mr_up_at, Nat.reduceLeDiff, Nat.reduceLT, Nat.reduceEqDiff, Nat.reduceAdd, if_true, if_false, Bool.true_eq_false, Bool.false_eq_true, Bool.true_and, Bool.false_and, Bool.and_true, Bool.and_false, i_10, i_01, i_00, not_true_eq_false, not_false_eq_true] using this
    · by_cases h1 : w = 1
      · simp only [h1, show ¬ (1 : Int32) = 0 by decide, SEL, PF, mr_gf_O, mr_rc_O, Option.toList_some, Option.toList_none, List.cons_append, List.nil_append, b2i_0, b2i_1, b2i_a, a_00, a_11, ai_n, si_n, nI_1, q_rl_bit, mr_up_at, Nat.reduceLeDiff, Nat.reduceLT, Nat.reduceEqDiff, Nat.reduceAdd, if_true, if_false, Bool.true_eq_false, Bool.false_eq_true, Bool.true_and, Bool.false_and, Bool.and_true, Bool.and_false, i_10, i_01, i_00, not_true_eq_false, not_false_eq_true] at this ⊢
        exact this
      · by_cases h2 : w = 2
        · simp only [h2, show ¬ (2 : Int32) = 0 by decide, show ¬ (2 : Int32) = 1 by decide, SEL, PF, mr_gf_O, mr_rc_O, Option.toList_some, Option.toList_none, List.cons_append, List.nil_append, b2i_0, b2i_1, b2i_a, a_00, a_11, ai_n, si_n, nI_1, q_rl_bit, mr_up_at, Nat.reduceLeDiff, Nat.reduceLT, Nat.reduceEqDiff, Nat.reduceAdd, if_true, if_false, Bool.true_eq_false, Bool.false_eq_true, Bool.true_and, Bool.false_and, Bool.and_true, Bool.and_false, i_10, i_01, i_00, not_true_eq_false, not_false_eq_true] at this ⊢
          exact this
        · simpa only [h0, h1, h2, SEL, PF, mr_gf_O, mr_rc_O, Option.toList_some, Option.toList_none, List.cons_append, List.nil_append, b2i_0, b2i_1, b2i_a, a_00, a_11, ai_n, si_n, nI_1, q_rl_bit, mr_up_at, Nat.reduceLeDiff, Nat.reduceLT, Nat.reduceEqDiff, Nat.reduceAdd, if_true, if_false, Bool.true_eq_false, Bool.false_eq_true, Bool.true_and, Bool.false_and, Bool.and_true, Bool.and_false, i_10, i_01, i_00, not_true_eq_false, not_false_eq_true] using this
  · intro h Q st kk
    obtain ⟨th, tt, tk, pl, va, fa, dn, dr, uf, e74⟩ := id st.2.2.2.2.2.2
    rw [r_mo_count]
    simp only [S_mo_count, e74, MO, SEL, PF, mr_gf_O, mr_rc_O, Option.toList_some, Option.toList_none, List.cons_append, List.nil_append, b2i_0, b2i_1, b2i_a, a_00, a_11, ai_n, si_n, nI_1, q_rl_bit, mr_up_at, Nat.reduceLeDiff, Nat.reduceLT, Nat.reduceEqDiff, Nat.reduceAdd, if_true, if_false, Bool.true_eq_false, Bool.false_eq_true, Bool.true_and, Bool.false_and, Bool.and_true, Bool.and_false, i_10, i_01, i_00, not_true_eq_false, not_false_eq_true]
    have s2 : St (mr_up h 74 (MO 0 (nI len) tt tk pl va fa (nI n) dn dr (nI us) (nI m) uf)) n len us m E K := St_mo st (fr_up _ (fr_rf _ _) (by decide)) ⟨_, _, _, _, _, _, _, _, _, up_eq _ _ _⟩
    have := kk _ s2 rfl
    by_cases h0 : w = 0
    · (simp only [h0, SEL, PF, mr_gf_O, mr_rc_O, Option.toList_some, Option.toList_none, List.cons_append, List.nil_append, b2i_0, b2i_1, b2i_a, a_00, a_11, ai_n, si_n, nI_1, q_rl_bit, mr_up_at, Nat.reduceLeDiff, Nat.reduceLT, Nat.reduceEqDiff, Nat.reduceAdd, if_true, if_false, Bool.true_eq_false, Bool.false_eq_true, Bool.true_and, Bool.false_and, Bool.and_true, Bool.and_false, i_10, i_01, i_00, not_true_eq_false, not_false_eq_true] at this ⊢; exact this)
    · by_cases h1 : w = 1
      · simp only [h1, show ¬ (1 : Int32) = 0 by decide, SEL, PF, mr_gf_O, mr_rc_O, Option.toList_some, Option.toList_none, List.cons_append, List.nil_append, b2i_0, b2i_1, b2i_a, a_00, a_11, ai_n, si_n, nI_1, q_rl_bit, mr_up_at, Nat.reduceLeDiff, Nat.reduceLT, Nat.reduceEqDiff, Nat.reduceAdd, if_true, if_false, Bool.true_eq_false, Bool.false_eq_true, Bool.true_and, Bool.false_and, Bool.and_true, Bool.and_false, i_10, i_01, i_00, not_true_eq_false, not_false_eq_true] at this ⊢
        exact this
      · by_cases h2 : w = 2
        · simp only [h2, show ¬ (2 : Int32) = 0 by decide, show ¬ (2 : Int32) = 1 by decide, SEL, PF, mr_gf_O, mr_rc_O, Option.toList_some, Option.toList_none, List.cons_append, List.nil_append, b2i_0, b2i_1, b2i_a, a_00, a_11, ai_n, si_n, nI_1, q_rl_bit, mr_up_at, Nat.reduceLeDiff, Nat.reduceLT, Nat.reduceEqDiff, Nat.reduceAdd, if_true, if_false, Bool.true_eq_false, Bool.false_eq_true, Bool.true_and, Bool.false_and, Bool.and_true, Bool.and_false, i_10, i_01, i_00, not_true_eq_false, not_false_eq_true] at this ⊢
          exact this
        · (simp only [h0, h1, h2, SEL, PF, mr_gf_O, mr_rc_O, Option.toList_some, Option.toList_none, List.cons_append, List.nil_append, b2i_0, b2i_1, b2i_a, a_00, a_11, ai_n, si_n, nI_1, q_rl_bit, mr_up_at, Nat.reduceLeDiff, Nat.reduceLT, Nat.reduceEqDiff, Nat.reduceAdd, if_true, if_false, Bool.true_eq_false, Bool.false_eq_true, Bool.true_and, Bool.false_and, Bool.and_true, Bool.and_false, i_10, i_01, i_00, not_true_eq_false, not_false_eq_true] at this ⊢; exact this)
theorem b_forget (hi : Inv h) : Both 102 173 [] h := by
  obtain ⟨n, len, us, m, E, K, gs, gn, gt, gv, gp, ga, gm⟩ := hi
  obtain ⟨h0, ⟨x, e28⟩, a, b, c, a2, b2, c2, e1, e2, e3, e4, e5, e6, h3⟩ := id gv
  obtain ⟨th, tt, tk, pl, va, fa, dn, dr, uf, e74⟩ := id gm
  have e0 := gS_0 gs
  unfold Both
  rw [r_rl_forget]
  simp only [S_rl_forget, e0, RLO, e28, SEL, PF, mr_gf_O, mr_rc_O, Option.toList_some, Option.toList_none, List.cons_append, List.nil_append, b2i_0, b2i_1, b2i_a, a_00, a_11, ai_n, si_n, nI_1, q_rl_bit, mr_up_at, Nat.reduceLeDiff, Nat.reduceLT, Nat.reduceEqDiff, Nat.reduceAdd, if_true, if_false]
  rw [r_mo_forget]
  simp only [S_mo_forget, mr_up_at, e74, MO, SEL, PF, mr_gf_O, mr_rc_O, Option.toList_some, Option.toList_none, List.cons_append, List.nil_append, b2i_0, b2i_1, b2i_a, a_00, a_11, ai_n, si_n, nI_1, q_rl_bit, mr_up_at, Nat.reduceLeDiff, Nat.reduceLT, Nat.reduceEqDiff, Nat.reduceAdd, if_true, if_false]
  refine ⟨⟨_, rfl, rfl⟩, ?_, rfl⟩
  have f : mr_fr h (mr_up (mr_up (mr_up h 28 (mr_O 8 [.int 0, .ref 29, .ref 30, .ref 31, .ref 32, .int x])) 74 (MO 0 (nI len) tt tk pl va fa (nI n) dn dr (nI us) (nI m) uf)) 74 (MO 0 (nI len) tt tk pl va fa (nI n) dn dr (nI us) (nI 0) uf)) [28, 74] := fr_up _ (fr_up _ (fr_up _ (fr_rf _ _) (by decide)) (by decide)) (by decide)
  refine ⟨n, len, us, 0, E, K, gS_off gs f (by decide), gN_fr gn f (by decide), gT_fr gt f (by decide), ?_, gP_fr gp f (by decide), gA_fr ga f (by decide), ?_⟩
  · refine ⟨by omega, ⟨x, ?_⟩, a, b, c, a2, b2, c2, fr_at f (by decide) e1, fr_at f (by decide) e2, fr_at f (by decide) e3, fr_at f (by decide) e4, fr_at f (by decide) e5, fr_at f (by decide) e6, fun j hj => absurd hj (Nat.not_lt_zero j)⟩
    simp only [mr_up_at]
    rfl
  · exact ⟨_, _, _, _, _, _, _, _, _, up_eq _ _ _⟩
theorem upd_ne (f : Nat → Int32) {k j : Nat} (x : Int32) (hj : j ≠ k) : upd f k x j = f j := by simp [upd, hj]
theorem b_type (hi : Inv h) (x : Int32) : Both 26 120 [.int x] h := by
  obtain ⟨n, len, us, m, E, K, st⟩ := hi
  by_cases hx : ¬ x < 0 ∧ ¬ (255 : Int32) < x
  · obtain ⟨x1, x2⟩ := id hx
    by_cases hl : len = 120
    · subst hl
      refine both_ro st (-3) ?_ ?_
      · intro h Q st kk
        obtain ⟨h0, ⟨a, b, c, d, e, e7⟩, -⟩ := st.2.2.1
        rw [r_rl_type]
        simp only [S_rl_type, St_0 st, RLO, e7, SC, SEL, PF, mr_gf_O, mr_rc_O, Option.toList_some, Option.toList_none, List.cons_append, List.nil_append, b2i_0, b2i_1, b2i_a, a_00, a_11, ai_n, si_n, nI_1, q_rl_bit, mr_up_at, Nat.reduceLeDiff, Nat.reduceLT, Nat.reduceEqDiff, Nat.reduceAdd, if_true, if_false, Bool.true_eq_false, Bool.false_eq_true, Bool.true_and, Bool.false_and, Bool.and_true, Bool.and_false, i_10, i_01, i_00, not_true_eq_false, not_false_eq_true, if_neg x1, if_pos (fa_of_nlt x2)]
        rw [r_sc_append]
        simp only [S_sc_append, S_rl_type, e7, SC, SEL, PF, mr_gf_O, mr_rc_O, Option.toList_some, Option.toList_none, List.cons_append, List.nil_append, b2i_0, b2i_1, b2i_a, a_00, a_11, ai_n, si_n, nI_1, q_rl_bit, mr_up_at, Nat.reduceLeDiff, Nat.reduceLT, Nat.reduceEqDiff, Nat.reduceAdd, if_true, if_false, Bool.true_eq_false, Bool.false_eq_true, Bool.true_and, Bool.false_and, Bool.and_true, Bool.and_false, i_10, i_01, i_00, not_true_eq_false, not_false_eq_true, show ¬ nI 120 < 120 by decide]
        exact kk h st rfl
      · intro h Q st kk
        obtain ⟨th, tt, tk, pl, va, fa, dn, dr, uf, e74⟩ := id st.2.2.2.2.2.2
        rw [r_mo_type]
        simp only [S_mo_type, e74, MO, SEL, PF, mr_gf_O, mr_rc_O, Option.toList_some, Option.toList_none, List.cons_append, List.nil_append, b2i_0, b2i_1, b2i_a, a_00, a_11, ai_n, si_n, nI_1, q_rl_bit, mr_up_at, Nat.reduceLeDiff, Nat.reduceLT, Nat.reduceEqDiff, Nat.reduceAdd, if_true, if_false, Bool.true_eq_false, Bool.false_eq_true, Bool.true_and, Bool.false_and, Bool.and_true, Bool.and_false, i_10, i_01, i_00, not_true_eq_false, not_false_eq_true, q_mo_in, x1, x2, and_self, decide_true, show (nI 120 : Int32) = 120 from rfl]
        exact kk _ (St_mo st (fr_up _ (fr_rf _ _) (by decide)) ⟨_, _, _, _, _, _, _, _, _, up_eq _ _ _⟩) rfl
    · obtain ⟨gs, gn, gt, gv, gp, ga, gm⟩ := st
      obtain ⟨h0, ⟨a, b, c, d, e, e7⟩, T, T2, e8, e75, hT⟩ := id gt
      obtain ⟨th, tt, tk, pl, va, fa, dn, dr, uf, e74⟩ := id gm
      have e0 := gS_0 gs
      have hl2 : len < 120 := by omega
      unfold Both
      rw [r_rl_type]
      simp only [S_rl_type, e0, RLO, e7, SC, SEL, PF, mr_gf_O, mr_rc_O, Option.toList_some, Option.toList_none, List.cons_append, List.nil_append, b2i_0, b2i_1, b2i_a, a_00, a_11, ai_n, si_n, nI_1, q_rl_bit, mr_up_at, Nat.reduceLeDiff, Nat.reduceLT, Nat.reduceEqDiff, Nat.reduceAdd, if_true, if_false, Bool.true_eq_false, Bool.false_eq_true, Bool.true_and, Bool.false_and, Bool.and_true, Bool.and_false, i_10, i_01, i_00, not_true_eq_false, not_false_eq_true, if_neg x1, if_pos (fa_of_nlt x2)]
      rw [r_sc_append]
      simp only [S_sc_append, S_rl_type, e0, RLO, e7, SC, e8, SEL, PF, mr_gf_O, mr_rc_O, Option.toList_some, Option.toList_none, List.cons_append, List.nil_append, b2i_0, b2i_1, b2i_a, a_00, a_11, ai_n, si_n, nI_1, q_rl_bit, mr_up_at, Nat.reduceLeDiff, Nat.reduceLT, Nat.reduceEqDiff, Nat.reduceAdd, if_true, if_false, Bool.true_eq_false, Bool.false_eq_true, Bool.true_and, Bool.false_and, Bool.and_true, Bool.and_false, i_10, i_01, i_00, not_true_eq_false, not_false_eq_true, if_pos (show nI len < 120 from nI_lt hl2 (by decide)), hl2]
      rw [r_mo_type]
      simp only [S_mo_type, e74, MO, e75, SEL, PF, mr_gf_O, mr_rc_O, Option.toList_some, Option.toList_none, List.cons_append, List.nil_append, b2i_0, b2i_1, b2i_a, a_00, a_11, ai_n, si_n, nI_1, q_rl_bit, mr_up_at, Nat.reduceLeDiff, Nat.reduceLT, Nat.reduceEqDiff, Nat.reduceAdd, if_true, if_false, Bool.true_eq_false, Bool.false_eq_true, Bool.true_and, Bool.false_and, Bool.and_true, Bool.and_false, i_10, i_01, i_00, not_true_eq_false, not_false_eq_true, q_mo_in, x1, x2, and_self, decide_true, if_pos (show ¬ nI len = 120 from fun z => hl ((nI_eq (by omega) (by decide)).mp z)), hl2]
      refine ⟨⟨_, rfl⟩, ?_, rfl⟩
      have f : mr_fr h (mr_up (mr_up (mr_up (mr_up (mr_up h 8 (mr_I 120 (upd T len x))) 7 (SC (len + 1) a b c d e)) 74 (MO 0 (nI len) tt tk pl va fa (nI n) dn dr (nI us) (nI m) uf)) 75 (mr_I 120 (upd T2 len x))) 74 (MO 0 (nI (len + 1)) tt tk pl va fa (nI n) dn dr (nI us) (nI m) uf)) [7, 8, 74, 75] := fr_up _ (fr_up _ (fr_up _ (fr_up _ (fr_up _ (fr_rf _ _) (by decide)) (by decide)) (by decide)) (by decide)) (by decide)
      refine ⟨n, len + 1, us, m, E, K, gS_off gs f (by decide), gN_fr gn f (by decide), ?_, gV_fr gv f (by decide), gP_fr gp f (by decide), gA_fr ga f (by decide), ?_⟩
      · refine ⟨by omega, ⟨a, b, c, d, e, ?_⟩, upd T len x, upd T2 len x, ?_, ?_, fun j hj => ?_⟩
        · simp only [mr_up_at]
          rfl
        · simp only [mr_up_at]
          rfl
        · simp only [mr_up_at]
          rfl
        · by_cases ej : j = len
          · subst ej
            rw [upd_at, upd_at]
            exact ⟨rfl, x1, x2⟩
          · rw [upd_ne _ _ ej, upd_ne _ _ ej]
            exact hT j (by omega)
      · exact ⟨_, _, _, _, _, _, _, _, _, up_eq _ _ _⟩
  · refine both_ro st (-1) ?_ ?_
    · intro h Q st kk
      rw [r_rl_type]
      have := kk h st rfl
      by_cases x1 : x < 0
      · simp only [S_rl_type, St_0 st, RLO, SEL, PF, mr_gf_O, mr_rc_O, Option.toList_some, Option.toList_none, List.cons_append, List.nil_append, b2i_0, b2i_1, b2i_a, a_00, a_11, ai_n, si_n, nI_1, q_rl_bit, mr_up_at, Nat.reduceLeDiff, Nat.reduceLT, Nat.reduceEqDiff, Nat.reduceAdd, if_true, if_false, Bool.true_eq_false, Bool.false_eq_true, Bool.true_and, Bool.false_and, Bool.and_true, Bool.and_false, i_10, i_01, i_00, not_true_eq_false, not_false_eq_true, if_pos x1]
        exact this
      · have x2 : (255 : Int32) < x := by
          by_cases z : (255 : Int32) < x
          · exact z
          · exact absurd ⟨x1, z⟩ hx
        simp only [S_rl_type, St_0 st, RLO, SEL, PF, mr_gf_O, mr_rc_O, Option.toList_some, Option.toList_none, List.cons_append, List.nil_append, b2i_0, b2i_1, b2i_a, a_00, a_11, ai_n, si_n, nI_1, q_rl_bit, mr_up_at, Nat.reduceLeDiff, Nat.reduceLT, Nat.reduceEqDiff, Nat.reduceAdd, if_true, if_false, Bool.true_eq_false, Bool.false_eq_true, Bool.true_and, Bool.false_and, Bool.and_true, Bool.and_false, i_10, i_01, i_00, not_true_eq_false, not_false_eq_true, if_neg x1, if_neg (fa_of_lt x2).2.1]
        exact this
    · intro h Q st kk
      obtain ⟨th, tt, tk, pl, va, fa, dn, dr, uf, e74⟩ := id st.2.2.2.2.2.2
      rw [r_mo_type]
      simp only [S_mo_type, e74, MO, SEL, PF, mr_gf_O, mr_rc_O, Option.toList_some, Option.toList_none, List.cons_append, List.nil_append, b2i_0, b2i_1, b2i_a, a_00, a_11, ai_n, si_n, nI_1, q_rl_bit, mr_up_at, Nat.reduceLeDiff, Nat.reduceLT, Nat.reduceEqDiff, Nat.reduceAdd, if_true, if_false, Bool.true_eq_false, Bool.false_eq_true, Bool.true_and, Bool.false_and, Bool.and_true, Bool.and_false, i_10, i_01, i_00, not_true_eq_false, not_false_eq_true, q_mo_in, decide_eq_false hx]
      exact kk _ (St_mo st (fr_up _ (fr_rf _ _) (by decide)) ⟨_, _, _, _, _, _, _, _, _, up_eq _ _ _⟩) rfl
theorem ch_in (c : Int32) : decide (¬ c < 0 ∧ ¬ (1 : Int32) < c) = decide (c = 0 ∨ c = 1) := by
  apply decide_eq_decide.mpr
  constructor
  · intro z
    obtain ⟨j, h1, rfl⟩ := in_lt (b := 1) (by decide) z
    have : j = 0 ∨ j = 1 := by omega
    rcases this with rfl | rfl
    · exact Or.inl rfl
    · exact Or.inr rfl
  · rintro (rfl | rfl) <;> decide
theorem b_sees (hi : Inv h) (u v c : Int32) : Both 100 172 [.int u, .int v, .int c] h := by
  obtain ⟨n, len, us, m, E, K, st⟩ := hi
  have hn := (St_E st).1
  have h1n := St_n st
  by_cases ok : (inN u n && inN v n && decide (c = 0 ∨ c = 1)) = true
  · have hu : inN u n = true := by revert ok; cases inN u n <;> simp
    have hv : inN v n = true := by revert ok; cases inN v n <;> simp
    have hc : c = 0 ∨ c = 1 := by simpa [hu, hv] using ok
    obtain ⟨p, hp, rfl⟩ := inN_yes hn hu
    obtain ⟨q, hq, rfl⟩ := inN_yes hn hv
    by_cases hl : m = 6
    · subst hl
      refine both_ro st (-3) ?_ ?_
      · intro h Q st kk
        obtain ⟨h0, ⟨x, e28⟩, -⟩ := st.2.2.2.1
        rw [r_rl_sees]
        simp only [S_rl_sees, St_0 st, RLO, SEL, PF, mr_gf_O, mr_rc_O, Option.toList_some, Option.toList_none, List.cons_append, List.nil_append, b2i_0, b2i_1, b2i_a, a_00, a_11, ai_n, si_n, nI_1, q_rl_bit, mr_up_at, Nat.reduceLeDiff, Nat.reduceLT, Nat.reduceEqDiff, Nat.reduceAdd, if_true, if_false, Bool.true_eq_false, Bool.false_eq_true, Bool.true_and, Bool.false_and, Bool.and_true, Bool.and_false, i_10, i_01, i_00, not_true_eq_false, not_false_eq_true, q_rl_areNodes (St_0 st) (St_1 st), hu, hv, q_rl_isChoice, decide_eq_true hc, e28]
        rw [r_si_append]
        simp only [S_si_append, S_rl_sees, e28, SEL, PF, mr_gf_O, mr_rc_O, Option.toList_some, Option.toList_none, List.cons_append, List.nil_append, b2i_0, b2i_1, b2i_a, a_00, a_11, ai_n, si_n, nI_1, q_rl_bit, mr_up_at, Nat.reduceLeDiff, Nat.reduceLT, Nat.reduceEqDiff, Nat.reduceAdd, if_true, if_false, Bool.true_eq_false, Bool.false_eq_true, Bool.true_and, Bool.false_and, Bool.and_true, Bool.and_false, i_10, i_01, i_00, not_true_eq_false, not_false_eq_true, show ¬ nI 6 < 6 by decide]
        exact kk h st rfl
      · intro h Q st kk
        obtain ⟨th, tt, tk, pl, va, fa, dn, dr, uf, e74⟩ := id st.2.2.2.2.2.2
        rw [r_mo_sees]
        simp only [S_mo_sees_0, S_mo_sees_1, e74, MO, SEL, PF, mr_gf_O, mr_rc_O, Option.toList_some, Option.toList_none, List.cons_append, List.nil_append, b2i_0, b2i_1, b2i_a, a_00, a_11, ai_n, si_n, nI_1, q_rl_bit, mr_up_at, Nat.reduceLeDiff, Nat.reduceLT, Nat.reduceEqDiff, Nat.reduceAdd, if_true, if_false, Bool.true_eq_false, Bool.false_eq_true, Bool.true_and, Bool.false_and, Bool.and_true, Bool.and_false, i_10, i_01, i_00, not_true_eq_false, not_false_eq_true]
        refine St_th (k := fun hh => mr_run 132 [.ref 74, .int (nI p)] hh _) st (fun h2 s2 e2 => ?_) e74 rfl
        obtain ⟨th, tt, tk, pl, va, fa, dn, dr, uf, g74⟩ := id s2.2.2.2.2.2.2
        simp only [S_mo_sees_0, S_mo_sees_1, q_mo_isNode hn h1n (St_M s2), hu, hv, SEL, PF, mr_gf_O, mr_rc_O, Option.toList_some, Option.toList_none, List.cons_append, List.nil_append, b2i_0, b2i_1, b2i_a, a_00, a_11, ai_n, si_n, nI_1, q_rl_bit, mr_up_at, Nat.reduceLeDiff, Nat.reduceLT, Nat.reduceEqDiff, Nat.reduceAdd, if_true, if_false, Bool.true_eq_false, Bool.false_eq_true, Bool.true_and, Bool.false_and, Bool.and_true, Bool.and_false, i_10, i_01, i_00, not_true_eq_false, not_false_eq_true, g74, MO, q_mo_in, ch_in, decide_eq_true hc, show (nI 6 : Int32) = 6 from rfl]
        exact kk h2 s2 e2
    · have s1 := st
      obtain ⟨gs, gn, gt, gv, gp, ga, gm⟩ := st
      obtain ⟨h0, ⟨x, e28⟩, a, b, c1, a2, b2, c2, e1, e2, e3, e4, e5, e6, h3⟩ := id gv
      have e0 := gS_0 gs
      have hl2 : m < 6 := by omega
      unfold Both
      rw [r_rl_sees]
      simp only [S_rl_sees, e0, RLO, SEL, PF, mr_gf_O, mr_rc_O, Option.toList_some, Option.toList_none, List.cons_append, List.nil_append, b2i_0, b2i_1, b2i_a, a_00, a_11, ai_n, si_n, nI_1, q_rl_bit, mr_up_at, Nat.reduceLeDiff, Nat.reduceLT, Nat.reduceEqDiff, Nat.reduceAdd, if_true, if_false, Bool.true_eq_false, Bool.false_eq_true, Bool.true_and, Bool.false_and, Bool.and_true, Bool.and_false, i_10, i_01, i_00, not_true_eq_false, not_false_eq_true, q_rl_areNodes e0 (St_1 s1), hu, hv, q_rl_isChoice, decide_eq_true hc, e28]
      rw [r_si_append]
      simp only [S_si_append, S_rl_sees, e0, RLO, e28, e1, e2, e3, SEL, PF, mr_gf_O, mr_rc_O, Option.toList_some, Option.toList_none, List.cons_append, List.nil_append, b2i_0, b2i_1, b2i_a, a_00, a_11, ai_n, si_n, nI_1, q_rl_bit, mr_up_at, Nat.reduceLeDiff, Nat.reduceLT, Nat.reduceEqDiff, Nat.reduceAdd, if_true, if_false, Bool.true_eq_false, Bool.false_eq_true, Bool.true_and, Bool.false_and, Bool.and_true, Bool.and_false, i_10, i_01, i_00, not_true_eq_false, not_false_eq_true, if_pos (show nI m < 6 from nI_lt hl2 (by decide)), hl2]
      generalize hh : mr_up (mr_up (mr_up (mr_up h 29 (mr_I 6 (upd a m (nI p)))) 30 (mr_I 6 (upd b m (nI q)))) 31 (mr_I 6 (upd c1 m c))) 28 (mr_O 8 [.int (nI (m + 1)), .ref 29, .ref 30, .ref 31, .ref 32, .int x]) = h'
      have f1 : mr_fr h h' [28, 29, 30, 31] := by
        subst hh
        exact fr_up _ (fr_up _ (fr_up _ (fr_up _ (fr_rf _ _) (by decide)) (by decide)) (by decide)) (by decide)
      obtain ⟨th, tt, tk, pl, va, fa, dn, dr, uf, e74⟩ := gM_fr gm f1 (by decide)
      rw [r_mo_sees]
      have k4 := fr_at f1 (by decide) e4
      have k5 := fr_at f1 (by decide) e5
      have k6 := fr_at f1 (by decide) e6
      have hmn : MN (mr_up h' 74 (MO 0 (nI len) tt tk pl va fa (nI n) dn dr (nI us) (nI m) uf)) n := ⟨_, _, _, _, _, _, _, _, _, _, _, _, up_eq _ _ _⟩
      have hno := fun u Q => q_mo_isNode (Q := Q) hn h1n hmn u
      simp only [MO] at hno
      simp only [S_mo_sees_0, S_mo_sees_1, e74, MO, SEL, PF, mr_gf_O, mr_rc_O, Option.toList_some, Option.toList_none, List.cons_append, List.nil_append, b2i_0, b2i_1, b2i_a, a_00, a_11, ai_n, si_n, nI_1, q_rl_bit, mr_up_at, Nat.reduceLeDiff, Nat.reduceLT, Nat.reduceEqDiff, Nat.reduceAdd, if_true, if_false, Bool.true_eq_false, Bool.false_eq_true, Bool.true_and, Bool.false_and, Bool.and_true, Bool.and_false, i_10, i_01, i_00, not_true_eq_false, not_false_eq_true, hno, hu, hv, q_mo_in, ch_in, decide_eq_true hc, k4, k5, k6, if_pos (show ¬ nI m = 6 from fun z => hl ((nI_eq (by omega) (by decide)).mp z)), hl2]
      refine ⟨⟨_, rfl, rfl⟩, ?_, ?_⟩
      · have f : mr_fr h (mr_up (mr_up (mr_up (mr_up (mr_up h' 74 (MO 0 (nI len) tt tk pl va fa (nI n) dn dr (nI us) (nI m) uf)) 82 (mr_I 6 (upd a2 m (nI p)))) 83 (mr_I 6 (upd b2 m (nI q)))) 84 (mr_I 6 (upd c2 m c))) 74 (MO 0 (nI len) tt tk pl va fa (nI n) dn dr (nI us) (nI (m + 1)) uf)) [28, 29, 30, 31, 74, 82, 83, 84] := fr_up _ (fr_up _ (fr_up _ (fr_up _ (fr_up _ (fr_wk f1 (by decide)) (by decide)) (by decide)) (by decide)) (by decide)) (by decide)
        refine ⟨n, len, us, m + 1, E, K, gS_off gs f (by decide), gN_fr gn f (by decide), gT_fr gt f (by decide), ?_, gP_fr gp f (by decide), gA_fr ga f (by decide), ?_⟩
        · refine ⟨by omega, ⟨x, ?_⟩, upd a m (nI p), upd b m (nI q), upd c1 m c, upd a2 m (nI p), upd b2 m (nI q), upd c2 m c, ?_, ?_, ?_, ?_, ?_, ?_, fun j hj => ?_⟩
          · subst hh
            simp only [mr_up_at]
            rfl
          · subst hh
            simp only [mr_up_at]
            rfl
          · subst hh
            simp only [mr_up_at]
            rfl
          · subst hh
            simp only [mr_up_at]
            rfl
          · simp only [mr_up_at]
            rfl
          · simp only [mr_up_at]
            rfl
          · simp only [mr_up_at]
            rfl
          · by_cases ej : j = m
            · subst ej
              simp only [upd_at]
              exact ⟨trivial, trivial, trivial, ⟨p, hp, rfl⟩, ⟨q, hq, rfl⟩, hc⟩
            · simp only [upd_ne _ _ ej]
              exact h3 j (by omega)
        · exact ⟨_, _, _, _, _, _, _, _, _, up_eq _ _ _⟩
      · subst hh
        rfl
  · have ok' : (inN u n && inN v n && decide (c = 0 ∨ c = 1)) = false := by simpa using ok
    refine both_ro st (-1) ?_ ?_
    · intro h Q st kk
      rw [r_rl_sees]
      have := kk h st rfl
      simp only [S_rl_sees, St_0 st, RLO, SEL, PF, mr_gf_O, mr_rc_O, Option.toList_some, Option.toList_none, List.cons_append, List.nil_append, b2i_0, b2i_1, b2i_a, a_00, a_11, ai_n, si_n, nI_1, q_rl_bit, mr_up_at, Nat.reduceLeDiff, Nat.reduceLT, Nat.reduceEqDiff, Nat.reduceAdd, if_true, if_false, Bool.true_eq_false, Bool.false_eq_true, Bool.true_and, Bool.false_and, Bool.and_true, Bool.and_false, i_10, i_01, i_00, not_true_eq_false, not_false_eq_true, q_rl_areNodes (St_0 st) (St_1 st), q_rl_isChoice]
      cases hab : (inN u n && inN v n) with
      | false => simpa only [SEL, PF, mr_gf_O, mr_rc_O, Option.toList_some, Option.toList_none, List.cons_append, List.nil_append, b2i_0, b2i_1, b2i_a, a_00, a_11, ai_n, si_n, nI_1, q_rl_bit, mr_up_at, Nat.reduceLeDiff, Nat.reduceLT, Nat.reduceEqDiff, Nat.reduceAdd, if_true, if_false, Bool.true_eq_false, Bool.false_eq_true, Bool.true_and, Bool.false_and, Bool.and_true, Bool.and_false, i_10, i_01, i_00, not_true_eq_false, not_false_eq_true] using this
      | true =>
        rw [hab, Bool.true_and] at ok'
        simpa only [ok', SEL, PF, mr_gf_O, mr_rc_O, Option.toList_some, Option.toList_none, List.cons_append, List.nil_append, b2i_0, b2i_1, b2i_a, a_00, a_11, ai_n, si_n, nI_1, q_rl_bit, mr_up_at, Nat.reduceLeDiff, Nat.reduceLT, Nat.reduceEqDiff, Nat.reduceAdd, if_true, if_false, Bool.true_eq_false, Bool.false_eq_true, Bool.true_and, Bool.false_and, Bool.and_true, Bool.and_false, i_10, i_01, i_00, not_true_eq_false, not_false_eq_true] using this
    · intro h Q st kk
      obtain ⟨th, tt, tk, pl, va, fa, dn, dr, uf, e74⟩ := id st.2.2.2.2.2.2
      rw [r_mo_sees]
      simp only [S_mo_sees_0, S_mo_sees_1, e74, MO, SEL, PF, mr_gf_O, mr_rc_O, Option.toList_some, Option.toList_none, List.cons_append, List.nil_append, b2i_0, b2i_1, b2i_a, a_00, a_11, ai_n, si_n, nI_1, q_rl_bit, mr_up_at, Nat.reduceLeDiff, Nat.reduceLT, Nat.reduceEqDiff, Nat.reduceAdd, if_true, if_false, Bool.true_eq_false, Bool.false_eq_true, Bool.true_and, Bool.false_and, Bool.and_true, Bool.and_false, i_10, i_01, i_00, not_true_eq_false, not_false_eq_true]
      refine St_th (k := fun hh => mr_run 132 [.ref 74, .int u] hh _) st (fun h2 s2 e2 => ?_) e74 rfl
      obtain ⟨th, tt, tk, pl, va, fa, dn, dr, uf, g74⟩ := id s2.2.2.2.2.2.2
      have := kk h2 s2 e2
      simp only [S_mo_sees_0, S_mo_sees_1, q_mo_isNode hn h1n (St_M s2), SEL, PF, mr_gf_O, mr_rc_O, Option.toList_some, Option.toList_none, List.cons_append, List.nil_append, b2i_0, b2i_1, b2i_a, a_00, a_11, ai_n, si_n, nI_1, q_rl_bit, mr_up_at, Nat.reduceLeDiff, Nat.reduceLT, Nat.reduceEqDiff, Nat.reduceAdd, if_true, if_false, Bool.true_eq_false, Bool.false_eq_true, Bool.true_and, Bool.false_and, Bool.and_true, Bool.and_false, i_10, i_01, i_00, not_true_eq_false, not_false_eq_true, g74, MO, q_mo_in, ch_in]
      cases hu : inN u n with
      | false => simpa only [SEL, PF, mr_gf_O, mr_rc_O, Option.toList_some, Option.toList_none, List.cons_append, List.nil_append, b2i_0, b2i_1, b2i_a, a_00, a_11, ai_n, si_n, nI_1, q_rl_bit, mr_up_at, Nat.reduceLeDiff, Nat.reduceLT, Nat.reduceEqDiff, Nat.reduceAdd, if_true, if_false, Bool.true_eq_false, Bool.false_eq_true, Bool.true_and, Bool.false_and, Bool.and_true, Bool.and_false, i_10, i_01, i_00, not_true_eq_false, not_false_eq_true] using this
      | true => cases hv : inN v n with
        | false => simpa only [SEL, PF, mr_gf_O, mr_rc_O, Option.toList_some, Option.toList_none, List.cons_append, List.nil_append, b2i_0, b2i_1, b2i_a, a_00, a_11, ai_n, si_n, nI_1, q_rl_bit, mr_up_at, Nat.reduceLeDiff, Nat.reduceLT, Nat.reduceEqDiff, Nat.reduceAdd, if_true, if_false, Bool.true_eq_false, Bool.false_eq_true, Bool.true_and, Bool.false_and, Bool.and_true, Bool.and_false, i_10, i_01, i_00, not_true_eq_false, not_false_eq_true] using this
        | true =>
          rw [hu, hv] at ok'
          simp only [Bool.true_and] at ok'
          simpa only [ok', SEL, PF, mr_gf_O, mr_rc_O, Option.toList_some, Option.toList_none, List.cons_append, List.nil_append, b2i_0, b2i_1, b2i_a, a_00, a_11, ai_n, si_n, nI_1, q_rl_bit, mr_up_at, Nat.reduceLeDiff, Nat.reduceLT, Nat.reduceEqDiff, Nat.reduceAdd, if_true, if_false, Bool.true_eq_false, Bool.false_eq_true, Bool.true_and, Bool.false_and, Bool.and_true, Bool.and_false, i_10, i_01, i_00, not_true_eq_false, not_false_eq_true] using this
theorem b_node (hi : Inv h) (u w : Int32) : Both 43 131 [.int u, .int w] h := by
  obtain ⟨n, len, us, m, E, K, st⟩ := hi
  have hE := St_E st
  have hn := hE.1
  have h1n := St_n st
  cases hu : inN u n with
  | false =>
    refine both_ro st (-1) ?_ ?_
    · intro h Q st kk
      rw [r_rl_node]
      simp only [S_rl_node_0, S_rl_node_1, St_0 st, RLO, q_rl_isNode (St_0 st) (St_1 st), hu, SEL, PF, mr_gf_O, mr_rc_O, Option.toList_some, Option.toList_none, List.cons_append, List.nil_append, b2i_0, b2i_1, b2i_a, a_00, a_11, ai_n, si_n, nI_1, q_rl_bit, mr_up_at, Nat.reduceLeDiff, Nat.reduceLT, Nat.reduceEqDiff, Nat.reduceAdd, if_true, if_false, Bool.true_eq_false, Bool.false_eq_true, Bool.true_and, Bool.false_and, Bool.and_true, Bool.and_false, i_10, i_01, i_00, not_true_eq_false, not_false_eq_true]
      exact kk h st rfl
    · intro h Q st kk
      obtain ⟨th, tt, tk, pl, va, fa, dn, dr, uf, e74⟩ := id st.2.2.2.2.2.2
      rw [r_mo_node]
      simp only [S_mo_node_0, S_mo_node_1, e74, MO, SEL, PF, mr_gf_O, mr_rc_O, Option.toList_some, Option.toList_none, List.cons_append, List.nil_append, b2i_0, b2i_1, b2i_a, a_00, a_11, ai_n, si_n, nI_1, q_rl_bit, mr_up_at, Nat.reduceLeDiff, Nat.reduceLT, Nat.reduceEqDiff, Nat.reduceAdd, if_true, if_false, Bool.true_eq_false, Bool.false_eq_true, Bool.true_and, Bool.false_and, Bool.and_true, Bool.and_false, i_10, i_01, i_00, not_true_eq_false, not_false_eq_true]
      refine St_th (k := fun hh => mr_run 132 [.ref 74, .int u] hh _) st (fun h2 s2 e2 => ?_) e74 rfl
      obtain ⟨th, tt, tk, pl, va, fa, dn, dr, uf, g74⟩ := id s2.2.2.2.2.2.2
      simp only [S_mo_node_0, S_mo_node_1, q_mo_isNode hn h1n (St_M s2), hu, SEL, PF, mr_gf_O, mr_rc_O, Option.toList_some, Option.toList_none, List.cons_append, List.nil_append, b2i_0, b2i_1, b2i_a, a_00, a_11, ai_n, si_n, nI_1, q_rl_bit, mr_up_at, Nat.reduceLeDiff, Nat.reduceLT, Nat.reduceEqDiff, Nat.reduceAdd, if_true, if_false, Bool.true_eq_false, Bool.false_eq_true, Bool.true_and, Bool.false_and, Bool.and_true, Bool.and_false, i_10, i_01, i_00, not_true_eq_false, not_false_eq_true, g74, MO]
      exact kk h2 s2 e2
  | true =>
    obtain ⟨a, ha, rfl⟩ := inN_yes hn hu
    have ha12 : a < 12 := by omega
    have ha24 : 12 + a < 24 := by omega
    by_cases hw : ¬ w < 0 ∧ ¬ (6 : Int32) < w
    · refine both_ro st (if w = 0 then nI (Nm E n a) else if w = 1 then Rg E n a else if w = 2 then K a else if w = 3 then In E K n a else if w = 4 then Ot E K n a else if w = 5 then RR E n a else Bh E n a) ?_ ?_
      · intro h Q st kk
        obtain ⟨e9, A, B, C, I, O, R, L, e10, e11, e12, e13, e14, e15, e16, hA, hB, hC, hI, hO, hR, hL⟩ := St_D st
        obtain ⟨j, hj, rfl⟩ := in_lt (b := 6) (by decide) hw
        have := kk h st rfl
        have hj' : j = 0 ∨ j = 1 ∨ j = 2 ∨ j = 3 ∨ j = 4 ∨ j = 5 ∨ j = 6 := by omega
        rw [r_rl_node]
        simp only [S_rl_node_0, S_rl_node_1, s_rl_node_11, St_0 st, RLO, q_rl_isNode (St_0 st) (St_1 st), hu, SEL, PF, mr_gf_O, mr_rc_O, Option.toList_some, Option.toList_none, List.cons_append, List.nil_append, b2i_0, b2i_1, b2i_a, a_00, a_11, ai_n, si_n, nI_1, q_rl_bit, mr_up_at, Nat.reduceLeDiff, Nat.reduceLT, Nat.reduceEqDiff, Nat.reduceAdd, if_true, if_false, Bool.true_eq_false, Bool.false_eq_true, Bool.true_and, Bool.false_and, Bool.and_true, Bool.and_false, i_10, i_01, i_00, not_true_eq_false, not_false_eq_true, e9, RE, e12, e13, e14, e10, e11, ha12, hC a ha, q_re_ringOf ha12 e9 e10 e11, hA a ha, hB a ha, ring_and2 hE ha, St_1 st, NE, St_3 st, hI a ha, hO a ha]
        rcases hj' with rfl | rfl | rfl | rfl | rfl | rfl | rfl <;> simp (decide := true) only [show (nI 0 : Int32) = 0 from rfl, show (nI 1 : Int32) = 1 from rfl, show (nI 2 : Int32) = 2 from rfl, show (nI 3 : Int32) = 3 from rfl, show (nI 4 : Int32) = 4 from rfl, show (nI 5 : Int32) = 5 from rfl, show (nI 6 : Int32) = 6 from rfl, SEL, PF, mr_gf_O, mr_rc_O, Option.toList_some, Option.toList_none, List.cons_append, List.nil_append, b2i_0, b2i_1, b2i_a, a_00, a_11, ai_n, si_n, nI_1, q_rl_bit, mr_up_at, Nat.reduceLeDiff, Nat.reduceLT, Nat.reduceEqDiff, Nat.reduceAdd, if_true, if_false, Bool.true_eq_false, Bool.false_eq_true, Bool.true_and, Bool.false_and, Bool.and_true, Bool.and_false, i_10, i_01, i_00, not_true_eq_false, not_false_eq_true] at this ⊢ <;> exact this
      · intro h Q st kk
        obtain ⟨th, tt, tk, pl, va, fa, dn, dr, uf, e74⟩ := id st.2.2.2.2.2.2
        rw [r_mo_node]
        simp only [S_mo_node_0, S_mo_node_1, e74, MO, SEL, PF, mr_gf_O, mr_rc_O, Option.toList_some, Option.toList_none, List.cons_append, List.nil_append, b2i_0, b2i_1, b2i_a, a_00, a_11, ai_n, si_n, nI_1, q_rl_bit, mr_up_at, Nat.reduceLeDiff, Nat.reduceLT, Nat.reduceEqDiff, Nat.reduceAdd, if_true, if_false, Bool.true_eq_false, Bool.false_eq_true, Bool.true_and, Bool.false_and, Bool.and_true, Bool.and_false, i_10, i_01, i_00, not_true_eq_false, not_false_eq_true]
        refine St_th (k := fun hh => mr_run 132 [.ref 74, .int (nI a)] hh _) st (fun h2 s2 e2 => ?_) e74 rfl
        obtain ⟨th, tt, tk, pl, va, fa, dn, dr, uf, g74⟩ := id s2.2.2.2.2.2.2
        simp only [S_mo_node_0, S_mo_node_1, q_mo_isNode hn h1n (St_M s2), hu, SEL, PF, mr_gf_O, mr_rc_O, Option.toList_some, Option.toList_none, List.cons_append, List.nil_append, b2i_0, b2i_1, b2i_a, a_00, a_11, ai_n, si_n, nI_1, q_rl_bit, mr_up_at, Nat.reduceLeDiff, Nat.reduceLT, Nat.reduceEqDiff, Nat.reduceAdd, if_true, if_false, Bool.true_eq_false, Bool.false_eq_true, Bool.true_and, Bool.false_and, Bool.and_true, Bool.and_false, i_10, i_01, i_00, not_true_eq_false, not_false_eq_true, g74, MO, q_mo_in, decide_eq_true hw]
        refine st_comesBy s2 (fun h3 A s3 e3 e85 hA => ?_)
        obtain ⟨th, tt, tk, pl, va, fa, dn, dr, uf, k74⟩ := id s3.2.2.2.2.2.2
        obtain ⟨S, e77, hS⟩ := St_77 s3
        have h99 := St_99 s3 hS
        have hK : ∀ k, k < n → (fun k => S (12 + k)) k = K k := fun k hk => (hS k hk).2
        obtain ⟨j, hj, rfl⟩ := in_lt (b := 6) (by decide) hw
        have := kk h3 s3 (e3.trans e2)
        have hj' : j = 0 ∨ j = 1 ∨ j = 2 ∨ j = 3 ∨ j = 4 ∨ j = 5 ∨ j = 6 := by omega
        simp only [S_mo_node_0, S_mo_node_1, k74, MO, SEL, PF, mr_gf_O, mr_rc_O, Option.toList_some, Option.toList_none, List.cons_append, List.nil_append, b2i_0, b2i_1, b2i_a, a_00, a_11, ai_n, si_n, nI_1, q_rl_bit, mr_up_at, Nat.reduceLeDiff, Nat.reduceLT, Nat.reduceEqDiff, Nat.reduceAdd, if_true, if_false, Bool.true_eq_false, Bool.false_eq_true, Bool.true_and, Bool.false_and, Bool.and_true, Bool.and_false, i_10, i_01, i_00, not_true_eq_false, not_false_eq_true, q_mo_names hE hA (St_M s3) e85, q_mo_outOf hE hA ha (St_M s3) e85 e77 h99, q_mo_inOf hE hA ha (St_M s3) e85 e77 h99, In_cong hK, Ot_cong hK, q_mo_nameOf hE hA ha (St_M s3) e85, q_mo_ring hE hA ha (St_M s3) e85, q_mo_behind hE hA ha (St_M s3) e85, e85, e77, ha12, hA a ha, t_12, ha24, (hS a ha).2]
        rcases hj' with rfl | rfl | rfl | rfl | rfl | rfl | rfl <;> simp (decide := true) only [show (nI 0 : Int32) = 0 from rfl, show (nI 1 : Int32) = 1 from rfl, show (nI 2 : Int32) = 2 from rfl, show (nI 3 : Int32) = 3 from rfl, show (nI 4 : Int32) = 4 from rfl, show (nI 5 : Int32) = 5 from rfl, show (nI 6 : Int32) = 6 from rfl, SEL, PF, mr_gf_O, mr_rc_O, Option.toList_some, Option.toList_none, List.cons_append, List.nil_append, b2i_0, b2i_1, b2i_a, a_00, a_11, ai_n, si_n, nI_1, q_rl_bit, mr_up_at, Nat.reduceLeDiff, Nat.reduceLT, Nat.reduceEqDiff, Nat.reduceAdd, if_true, if_false, Bool.true_eq_false, Bool.false_eq_true, Bool.true_and, Bool.false_and, Bool.and_true, Bool.and_false, i_10, i_01, i_00, not_true_eq_false, not_false_eq_true] at this ⊢ <;> exact this
    · refine both_ro st (-1) ?_ ?_
      · intro h Q st kk
        have := kk h st rfl
        have no : ∀ j, j ≤ 6 → w ≠ nI j := by
          rintro j hj rfl
          exact hw ⟨nI_pos (by omega), nI_nlt (b := j) (a := 6) hj (by decide)⟩
        rw [r_rl_node]
        simp only [S_rl_node_0, S_rl_node_1, s_rl_node_11, St_0 st, RLO, q_rl_isNode (St_0 st) (St_1 st), hu, SEL, PF, mr_gf_O, mr_rc_O, Option.toList_some, Option.toList_none, List.cons_append, List.nil_append, b2i_0, b2i_1, b2i_a, a_00, a_11, ai_n, si_n, nI_1, q_rl_bit, mr_up_at, Nat.reduceLeDiff, Nat.reduceLT, Nat.reduceEqDiff, Nat.reduceAdd, if_true, if_false, Bool.true_eq_false, Bool.false_eq_true, Bool.true_and, Bool.false_and, Bool.and_true, Bool.and_false, i_10, i_01, i_00, not_true_eq_false, not_false_eq_true, show ¬ w = 0 from no 0 (by decide), show ¬ w = 1 from no 1 (by decide), show ¬ w = 2 from no 2 (by decide), show ¬ w = 3 from no 3 (by decide), show ¬ w = 4 from no 4 (by decide), show ¬ w = 5 from no 5 (by decide), show ¬ w = 6 from no 6 (by decide)]
        exact this
      · intro h Q st kk
        obtain ⟨th, tt, tk, pl, va, fa, dn, dr, uf, e74⟩ := id st.2.2.2.2.2.2
        rw [r_mo_node]
        simp only [S_mo_node_0, S_mo_node_1, e74, MO, SEL, PF, mr_gf_O, mr_rc_O, Option.toList_some, Option.toList_none, List.cons_append, List.nil_append, b2i_0, b2i_1, b2i_a, a_00, a_11, ai_n, si_n, nI_1, q_rl_bit, mr_up_at, Nat.reduceLeDiff, Nat.reduceLT, Nat.reduceEqDiff, Nat.reduceAdd, if_true, if_false, Bool.true_eq_false, Bool.false_eq_true, Bool.true_and, Bool.false_and, Bool.and_true, Bool.and_false, i_10, i_01, i_00, not_true_eq_false, not_false_eq_true]
        refine St_th (k := fun hh => mr_run 132 [.ref 74, .int (nI a)] hh _) st (fun h2 s2 e2 => ?_) e74 rfl
        obtain ⟨th, tt, tk, pl, va, fa, dn, dr, uf, g74⟩ := id s2.2.2.2.2.2.2
        simp only [S_mo_node_0, S_mo_node_1, q_mo_isNode hn h1n (St_M s2), hu, SEL, PF, mr_gf_O, mr_rc_O, Option.toList_some, Option.toList_none, List.cons_append, List.nil_append, b2i_0, b2i_1, b2i_a, a_00, a_11, ai_n, si_n, nI_1, q_rl_bit, mr_up_at, Nat.reduceLeDiff, Nat.reduceLT, Nat.reduceEqDiff, Nat.reduceAdd, if_true, if_false, Bool.true_eq_false, Bool.false_eq_true, Bool.true_and, Bool.false_and, Bool.and_true, Bool.and_false, i_10, i_01, i_00, not_true_eq_false, not_false_eq_true, g74, MO, q_mo_in, decide_eq_false hw]
        exact kk h2 s2 e2
end READS
