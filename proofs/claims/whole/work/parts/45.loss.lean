/-! loss; spare edges counted -/
def spc (E : Nat → Int32) (n : Nat) : Nat → Nat := fb_sm (fun u => fb_ct (spp E n u) n)
section LOSS
variable {h : mr_h} {Q : Option Value → mr_h → Prop} {n len us m : Nat} {E K : Nat → Int32}
theorem l_spc2 (st : St h n len us m E K) {u c : Nat} (hu : u < n) (kk : mr_wp 55 54 [.ref 22, .ref 1, .int (nI (c + fb_ct (spp E n u) n)), .int (nI u), .int (nI n)] [] h Q) : ∀ (d k : Nat), k + d = n → mr_wp 55 15 [.ref 22, .ref 1, .int (nI (c + fb_ct (spp E n u) k)), .int (nI u), .int (nI k)] [] h Q := by
  have hE := St_E st
  have hn := hE.1
  intro d
  induction d with
  | zero =>
    intro k hk
    have : k = n := by omega
    subst this
    rw [s_cg_spareCount_15]
    simp only [S_cg_spareCount, St_1 st, NE, SEL, PF, mr_gf_O, mr_rc_O, Option.toList_some, Option.toList_none, List.cons_append, List.nil_append, b2i_0, b2i_1, b2i_a, a_00, a_11, ai_n, si_n, nI_1, q_rl_bit, mr_up_at, Nat.reduceLeDiff, Nat.reduceLT, Nat.reduceEqDiff, Nat.reduceAdd, if_true, if_false, if_pos (nI_le (Nat.le_refl k) (by omega))] at kk ⊢
    exact kk
  | succ d ih =>
    intro k hk
    have c1 : ¬ nI n ≤ nI k := nI_ge (by omega) (by omega)
    have hkn : k < n := by omega
    rw [s_cg_spareCount_15]
    simp only [S_cg_spareCount, St_1 st, NE, SEL, PF, mr_gf_O, mr_rc_O, Option.toList_some, Option.toList_none, List.cons_append, List.nil_append, b2i_0, b2i_1, b2i_a, a_00, a_11, ai_n, si_n, nI_1, q_rl_bit, mr_up_at, Nat.reduceLeDiff, Nat.reduceLT, Nat.reduceEqDiff, Nat.reduceAdd, if_true, if_false, if_neg c1, q_ne_has (St_1 st) (St_2 st) (show u < 12 by omega) (show k < 32 by omega), c22 st]
    have := ih (k + 1) (by omega)
    cases b1 : bt (E u) k with
    | false =>
      rw [ct_n (show spp E n u k = false by simp [spp, b1])] at this
      simp only [if_true]
      exact this
    | true =>
      simp only [Bool.true_eq_false, if_false]
      have huk : u ≠ k := fun z => by
        subst z
        rw [St_ns st u hu] at b1
        exact absurd b1 (by decide)
      refine q_cg_isSpare st hu hkn huk b1 ?_
      simp only [S_cg_spareCount, SEL, PF, mr_gf_O, mr_rc_O, Option.toList_some, Option.toList_none, List.cons_append, List.nil_append, b2i_0, b2i_1, b2i_a, a_00, a_11, ai_n, si_n, nI_1, q_rl_bit, mr_up_at, Nat.reduceLeDiff, Nat.reduceLT, Nat.reduceEqDiff, Nat.reduceAdd, if_true, if_false]
      cases b2 : rr (fl E u k) n u k with
      | false =>
        rw [ct_n (show spp E n u k = false by simp [spp, b2])] at this
        simp only [if_true]
        exact this
      | true =>
        rw [ct_y (show spp E n u k = true by simp [spp, b1, b2]), ← Nat.add_assoc] at this
        simp only [Bool.true_eq_false, if_false]
        exact this
theorem l_spc1 (st : St h n len us m E K) (kk : Q (some (.int (nI (spc E n n)))) h) : ∀ (d k : Nat) (v4 : Value), k + d = n → mr_wp 55 4 [.ref 22, .ref 1, .int (nI (spc E n k)), .int (nI k), v4] [] h Q := by
  have hE := St_E st
  have hn := hE.1
  intro d
  induction d with
  | zero =>
    intro k v4 hk
    have : k = n := by omega
    subst this
    rw [s_cg_spareCount_4]
    simp only [S_cg_spareCount, St_1 st, NE, SEL, PF, mr_gf_O, mr_rc_O, Option.toList_some, Option.toList_none, List.cons_append, List.nil_append, b2i_0, b2i_1, b2i_a, a_00, a_11, ai_n, si_n, nI_1, q_rl_bit, mr_up_at, Nat.reduceLeDiff, Nat.reduceLT, Nat.reduceEqDiff, Nat.reduceAdd, if_true, if_false, if_pos (nI_le (Nat.le_refl k) (by omega))]
    exact kk
  | succ d ih =>
    intro k v4 hk
    have c1 : ¬ nI n ≤ nI k := nI_ge (by omega) (by omega)
    have hkn : k < n := by omega
    rw [s_cg_spareCount_4]
    simp only [S_cg_spareCount, St_1 st, NE, SEL, PF, mr_gf_O, mr_rc_O, Option.toList_some, Option.toList_none, List.cons_append, List.nil_append, b2i_0, b2i_1, b2i_a, a_00, a_11, ai_n, si_n, nI_1, q_rl_bit, mr_up_at, Nat.reduceLeDiff, Nat.reduceLT, Nat.reduceEqDiff, Nat.reduceAdd, if_true, if_false, if_neg c1]
    rw [← nI_0]
    refine l_spc2 (c := spc E n k) st hkn ?_ n 0 (by omega)
    simp only [S_cg_spareCount, SEL, PF, mr_gf_O, mr_rc_O, Option.toList_some, Option.toList_none, List.cons_append, List.nil_append, b2i_0, b2i_1, b2i_a, a_00, a_11, ai_n, si_n, nI_1, q_rl_bit, mr_up_at, Nat.reduceLeDiff, Nat.reduceLT, Nat.reduceEqDiff, Nat.reduceAdd, if_true, if_false]
    exact ih (k + 1) _ (by omega)
theorem q_cg_spareCount (st : St h n len us m E K) (kk : Q (some (.int (nI (spc E n n)))) h) : mr_run 55 [.ref 22, .ref 1] h Q := by
  rw [r_cg_spareCount]
  simp only [S_cg_spareCount]
  rw [← nI_0]
  exact l_spc1 st kk n 0 _ (by omega)
theorem pN_eq_spp (hE : nt E n) {a b : Nat} (ha : a < n) (hb : b < n) (hh : bt (E a) b = true) : (nI (pN (RR (fl E a b) n) n) = nI (pN (RR E n) n)) ↔ rr (fl E a b) n a b = true := by
  have h1 := pN_le (RR (fl E a b) n) hE.1
  have h2 := pN_le (RR E n) hE.1
  rw [nI_eq (by omega) (by omega)]
  exact (cut_pN hE ha hb hh).2
theorem l_mspc2 {u c : Nat} (kk : ∀ h2, mr_fr h h2 [78, 86] → St h2 n len us m E K → mr_wp 150 70 [.ref 74, .int (nI (pN (RR E n) n)), .int (nI (c + fb_ct (spp E n u) n)), .int (nI u), .int (nI n)] [] h2 Q) (hu : u < n) : ∀ (d k : Nat) (h1 : mr_h), k + d = n → mr_fr h h1 [78, 86] → St h1 n len us m E K → mr_wp 150 20 [.ref 74, .int (nI (pN (RR E n) n)), .int (nI (c + fb_ct (spp E n u) k)), .int (nI u), .int (nI k)] [] h1 Q := by
  intro d
  induction d with
  | zero =>
    intro k h1 hk f st
    have hn := (St_E st).1
    have : k = n := by omega
    subst this
    obtain ⟨th, ty, tt, tk, pl, va, fa, dn, dr, um, sn, uf, e74⟩ := St_M st
    have := kk h1 f st
    rw [s_mo_spares_20]
    simp only [S_mo_spares_0, S_mo_spares_1, e74, MO, SEL, PF, mr_gf_O, mr_rc_O, Option.toList_some, Option.toList_none, List.cons_append, List.nil_append, b2i_0, b2i_1, b2i_a, a_00, a_11, ai_n, si_n, nI_1, q_rl_bit, mr_up_at, Nat.reduceLeDiff, Nat.reduceLT, Nat.reduceEqDiff, Nat.reduceAdd, if_true, if_false, if_pos (nI_le (Nat.le_refl k) (by omega))] at this ⊢
    exact this
  | succ d ih =>
    intro k h1 hk f st
    have hE := St_E st
    have hn := hE.1
    have c1 : ¬ nI n ≤ nI k := nI_ge (by omega) (by omega)
    have hkn : k < n := by omega
    obtain ⟨th, ty, tt, tk, pl, va, fa, dn, dr, um, sn, uf, e74⟩ := St_M st
    obtain ⟨S, e77, hS⟩ := St_77 st
    rw [s_mo_spares_20]
    simp only [S_mo_spares_0, S_mo_spares_1, e74, MO, SEL, PF, mr_gf_O, mr_rc_O, Option.toList_some, Option.toList_none, List.cons_append, List.nil_append, b2i_0, b2i_1, b2i_a, a_00, a_11, ai_n, si_n, nI_1, q_rl_bit, mr_up_at, Nat.reduceLeDiff, Nat.reduceLT, Nat.reduceEqDiff, Nat.reduceAdd, if_true, if_false, if_neg c1, e77, z_add, show u < 24 by omega, (hS u hu).1, q_mo_has (show k < 32 by omega)]
    cases b1 : bt (E u) k with
    | false =>
      have := ih (k + 1) h1 (by omega) f st
      rw [ct_n (show spp E n u k = false by simp [spp, b1])] at this
      simp only [if_true, Int32.add_zero]
      exact this
    | true =>
      simp only [Bool.true_eq_false, if_false]
      refine q_mo_pairsWith st hu hkn ?_
      intro h2 A f2 s2 e86 hA
      have := ih (k + 1) h2 (by omega) (fr_tr f f2 (by decide)) s2
      simp only [S_mo_spares_0, S_mo_spares_1, SEL, PF, mr_gf_O, mr_rc_O, Option.toList_some, Option.toList_none, List.cons_append, List.nil_append, b2i_0, b2i_1, b2i_a, a_00, a_11, ai_n, si_n, nI_1, q_rl_bit, mr_up_at, Nat.reduceLeDiff, Nat.reduceLT, Nat.reduceEqDiff, Nat.reduceAdd, if_true, if_false, pN_eq_spp hE hu hkn b1]
      cases b2 : rr (fl E u k) n u k with
      | false =>
        rw [ct_n (show spp E n u k = false by simp [spp, b2])] at this
        simp only [Bool.false_eq_true, not_false_eq_true, if_true, Int32.add_zero]
        exact this
      | true =>
        rw [ct_y (show spp E n u k = true by simp [spp, b1, b2]), ← Nat.add_assoc] at this
        simp only [not_true_eq_false, if_false, nI_1]
        exact this
theorem l_mspc1 (kk : ∀ h2, mr_fr h h2 [78, 86] → St h2 n len us m E K → Q (some (.int (nI (spc E n n)))) h2) : ∀ (d k : Nat) (v4 : Value) (h1 : mr_h), k + d = n → mr_fr h h1 [78, 86] → St h1 n len us m E K → mr_wp 150 9 [.ref 74, .int (nI (pN (RR E n) n)), .int (nI (spc E n k)), .int (nI k), v4] [] h1 Q := by
  intro d
  induction d with
  | zero =>
    intro k v4 h1 hk f st
    have hn := (St_E st).1
    have : k = n := by omega
    subst this
    obtain ⟨th, ty, tt, tk, pl, va, fa, dn, dr, um, sn, uf, e74⟩ := St_M st
    rw [s_mo_spares_9]
    simp only [S_mo_spares_0, S_mo_spares_1, e74, MO, SEL, PF, mr_gf_O, mr_rc_O, Option.toList_some, Option.toList_none, List.cons_append, List.nil_append, b2i_0, b2i_1, b2i_a, a_00, a_11, ai_n, si_n, nI_1, q_rl_bit, mr_up_at, Nat.reduceLeDiff, Nat.reduceLT, Nat.reduceEqDiff, Nat.reduceAdd, if_true, if_false, if_pos (nI_le (Nat.le_refl k) (by omega))]
    exact kk h1 f st
  | succ d ih =>
    intro k v4 h1 hk f st
    have hn := (St_E st).1
    have c1 : ¬ nI n ≤ nI k := nI_ge (by omega) (by omega)
    have hkn : k < n := by omega
    obtain ⟨th, ty, tt, tk, pl, va, fa, dn, dr, um, sn, uf, e74⟩ := St_M st
    rw [s_mo_spares_9]
    simp only [S_mo_spares_0, S_mo_spares_1, e74, MO, SEL, PF, mr_gf_O, mr_rc_O, Option.toList_some, Option.toList_none, List.cons_append, List.nil_append, b2i_0, b2i_1, b2i_a, a_00, a_11, ai_n, si_n, nI_1, q_rl_bit, mr_up_at, Nat.reduceLeDiff, Nat.reduceLT, Nat.reduceEqDiff, Nat.reduceAdd, if_true, if_false, if_neg c1]
    rw [← nI_0]
    refine l_mspc2 (c := spc E n k) ?_ hkn n 0 h1 (by omega) (fr_rf _ _) st
    intro h2 f2 s2
    simp only [S_mo_spares_0, S_mo_spares_1, SEL, PF, mr_gf_O, mr_rc_O, Option.toList_some, Option.toList_none, List.cons_append, List.nil_append, b2i_0, b2i_1, b2i_a, a_00, a_11, ai_n, si_n, nI_1, q_rl_bit, mr_up_at, Nat.reduceLeDiff, Nat.reduceLT, Nat.reduceEqDiff, Nat.reduceAdd, if_true, if_false]
    exact ih (k + 1) _ h2 (by omega) (fr_tr f f2 (by decide)) s2
theorem q_mo_spares (st : St h n len us m E K) (kk : ∀ h2, h2.2 = h.2 → St h2 n len us m E K → Q (some (.int (nI (spc E n n)))) h2) : mr_run 150 [.ref 74] h Q := by
  obtain ⟨th, ty, tt, tk, pl, va, fa, dn, dr, um, sn, uf, e74⟩ := St_M st
  rw [r_mo_spares]
  simp only [S_mo_spares_0, S_mo_spares_1, e74, MO, SEL, PF, mr_gf_O, mr_rc_O, Option.toList_some, Option.toList_none, List.cons_append, List.nil_append, b2i_0, b2i_1, b2i_a, a_00, a_11, ai_n, si_n, nI_1, q_rl_bit, mr_up_at, Nat.reduceLeDiff, Nat.reduceLT, Nat.reduceEqDiff, Nat.reduceAdd, if_true, if_false]
  refine q_mo_pairsNow st ?_
  intro h2 A f2 s2 e85 hA
  simp only [S_mo_spares_0, S_mo_spares_1, SEL, PF, mr_gf_O, mr_rc_O, Option.toList_some, Option.toList_none, List.cons_append, List.nil_append, b2i_0, b2i_1, b2i_a, a_00, a_11, ai_n, si_n, nI_1, q_rl_bit, mr_up_at, Nat.reduceLeDiff, Nat.reduceLT, Nat.reduceEqDiff, Nat.reduceAdd, if_true, if_false]
  rw [← nI_0]
  exact l_mspc1 (fun h3 f3 s3 => kk h3 (f3.1.trans f2.1) s3) n 0 _ h2 (by omega) (fr_rf _ _) s2
theorem b_loss (hi : Inv h) (u v w : Int32) : Both 84 167 [.int u, .int v, .int w] h := by
  obtain ⟨n, len, us, m, E, K, st⟩ := hi
  have hE := St_E st
  have hn := hE.1
  have h1n := St_n st
  cases huv : (inN u n && inN v n && !decide (u = v)) with
  | false =>
    refine both_ro st (-1) ?_ ?_
    · intro h Q st kk
      rw [r_rl_loss]
      simp only [S_rl_loss_0, S_rl_loss_1, St_0 st, RLO, q_rl_areTwoNodes (St_0 st) (St_1 st), huv, SEL, PF, mr_gf_O, mr_rc_O, Option.toList_some, Option.toList_none, List.cons_append, List.nil_append, b2i_0, b2i_1, b2i_a, a_00, a_11, ai_n, si_n, nI_1, q_rl_bit, mr_up_at, Nat.reduceLeDiff, Nat.reduceLT, Nat.reduceEqDiff, Nat.reduceAdd, if_true, if_false, Bool.true_eq_false, Bool.false_eq_true, Bool.true_and, Bool.false_and, Bool.and_true, Bool.and_false, i_10, i_01, i_00, not_true_eq_false, not_false_eq_true]
      exact kk h st rfl
    · intro h Q st kk
      obtain ⟨th, tt, tk, pl, va, fa, dn, dr, uf, e74⟩ := id st.2.2.2.2.2.2
      rw [r_mo_loss]
      simp only [S_mo_loss_0, S_mo_loss_1, e74, MO, SEL, PF, mr_gf_O, mr_rc_O, Option.toList_some, Option.toList_none, List.cons_append, List.nil_append, b2i_0, b2i_1, b2i_a, a_00, a_11, ai_n, si_n, nI_1, q_rl_bit, mr_up_at, Nat.reduceLeDiff, Nat.reduceLT, Nat.reduceEqDiff, Nat.reduceAdd, if_true, if_false, Bool.true_eq_false, Bool.false_eq_true, Bool.true_and, Bool.false_and, Bool.and_true, Bool.and_false, i_10, i_01, i_00, not_true_eq_false, not_false_eq_true]
      refine St_th (k := fun hh => mr_run 144 [.ref 74, .int u, .int v] hh _) st (fun h2 s2 e2 => ?_) e74 rfl
      obtain ⟨th, tt, tk, pl, va, fa, dn, dr, uf, g74⟩ := id s2.2.2.2.2.2.2
      simp only [S_mo_loss_0, S_mo_loss_1, q_mo_isTwo hn h1n (St_M s2), huv, SEL, PF, mr_gf_O, mr_rc_O, Option.toList_some, Option.toList_none, List.cons_append, List.nil_append, b2i_0, b2i_1, b2i_a, a_00, a_11, ai_n, si_n, nI_1, q_rl_bit, mr_up_at, Nat.reduceLeDiff, Nat.reduceLT, Nat.reduceEqDiff, Nat.reduceAdd, if_true, if_false, Bool.true_eq_false, Bool.false_eq_true, Bool.true_and, Bool.false_and, Bool.and_true, Bool.and_false, i_10, i_01, i_00, not_true_eq_false, not_false_eq_true, g74, MO]
      exact kk h2 s2 e2
  | true =>
    by_cases hw : w = 0 ∨ w = 1
    · have hu : inN u n = true := by revert huv; cases inN u n <;> simp
      have hv : inN v n = true := by revert huv; cases inN v n <;> simp
      obtain ⟨a, ha, rfl⟩ := inN_yes hn hu
      obtain ⟨b, hb, rfl⟩ := inN_yes hn hv
      have hab : a ≠ b := fun z => by
        subst z
        simp at huv
      cases hh : bt (E a) b with
      | false =>
        refine both_ro st (-2) ?_ ?_
        · intro h Q st kk
          rw [r_rl_loss]
          simp only [S_rl_loss_0, S_rl_loss_1, St_0 st, RLO, q_rl_areTwoNodes (St_0 st) (St_1 st), huv, SEL, PF, mr_gf_O, mr_rc_O, Option.toList_some, Option.toList_none, List.cons_append, List.nil_append, b2i_0, b2i_1, b2i_a, a_00, a_11, ai_n, si_n, nI_1, q_rl_bit, mr_up_at, Nat.reduceLeDiff, Nat.reduceLT, Nat.reduceEqDiff, Nat.reduceAdd, if_true, if_false, Bool.true_eq_false, Bool.false_eq_true, Bool.true_and, Bool.false_and, Bool.and_true, Bool.and_false, i_10, i_01, i_00, not_true_eq_false, not_false_eq_true, q_rl_isChoice, decide_eq_true hw, q_ne_has (St_1 st) (St_2 st) (show a < 12 by omega) (show b < 32 by omega), St_1 st, NE, hh]
          exact kk h st rfl
        · intro h Q st kk
          obtain ⟨th, tt, tk, pl, va, fa, dn, dr, uf, e74⟩ := id st.2.2.2.2.2.2
          rw [r_mo_loss]
          simp only [S_mo_loss_0, S_mo_loss_1, e74, MO, SEL, PF, mr_gf_O, mr_rc_O, Option.toList_some, Option.toList_none, List.cons_append, List.nil_append, b2i_0, b2i_1, b2i_a, a_00, a_11, ai_n, si_n, nI_1, q_rl_bit, mr_up_at, Nat.reduceLeDiff, Nat.reduceLT, Nat.reduceEqDiff, Nat.reduceAdd, if_true, if_false, Bool.true_eq_false, Bool.false_eq_true, Bool.true_and, Bool.false_and, Bool.and_true, Bool.and_false, i_10, i_01, i_00, not_true_eq_false, not_false_eq_true]
          refine St_th (k := fun hh => mr_run 144 [.ref 74, .int (nI a), .int (nI b)] hh _) st (fun h2 s2 e2 => ?_) e74 rfl
          obtain ⟨th, tt, tk, pl, va, fa, dn, dr, uf, g74⟩ := id s2.2.2.2.2.2.2
          obtain ⟨S, e77, hS⟩ := St_77 s2
          simp only [S_mo_loss_0, S_mo_loss_1, q_mo_isTwo hn h1n (St_M s2), huv, SEL, PF, mr_gf_O, mr_rc_O, Option.toList_some, Option.toList_none, List.cons_append, List.nil_append, b2i_0, b2i_1, b2i_a, a_00, a_11, ai_n, si_n, nI_1, q_rl_bit, mr_up_at, Nat.reduceLeDiff, Nat.reduceLT, Nat.reduceEqDiff, Nat.reduceAdd, if_true, if_false, Bool.true_eq_false, Bool.false_eq_true, Bool.true_and, Bool.false_and, Bool.and_true, Bool.and_false, i_10, i_01, i_00, not_true_eq_false, not_false_eq_true, g74, MO, q_mo_in, ch_in, decide_eq_true hw, e77, z_add, show a < 24 by omega, (hS a ha).1, q_mo_has (show b < 32 by omega), hh]
          exact kk h2 s2 e2
      | true =>
        have hle := cut_pN hE ha hb hh
        refine both_ro st (if w = 1 then nI (pN (RR E n) n - pN (RR (fl E a b) n) n) else b2i (rr (fl E a b) n a b)) ?_ ?_
        · intro h Q st kk
          have kk0 := kk h st rfl
          rw [r_rl_loss]
          simp only [S_rl_loss_0, S_rl_loss_1, St_0 st, RLO, q_rl_areTwoNodes (St_0 st) (St_1 st), huv, SEL, PF, mr_gf_O, mr_rc_O, Option.toList_some, Option.toList_none, List.cons_append, List.nil_append, b2i_0, b2i_1, b2i_a, a_00, a_11, ai_n, si_n, nI_1, q_rl_bit, mr_up_at, Nat.reduceLeDiff, Nat.reduceLT, Nat.reduceEqDiff, Nat.reduceAdd, if_true, if_false, Bool.true_eq_false, Bool.false_eq_true, Bool.true_and, Bool.false_and, Bool.and_true, Bool.and_false, i_10, i_01, i_00, not_true_eq_false, not_false_eq_true, q_rl_isChoice, decide_eq_true hw, q_ne_has (St_1 st) (St_2 st) (show a < 12 by omega) (show b < 32 by omega), St_1 st, NE, hh, c22 st]
          rcases hw with rfl | rfl
          · simp only [i_00, i_01, if_false, if_true, not_true_eq_false] at kk0 ⊢
            refine q_cg_isSpare st ha hb hab hh ?_
            simp only [S_rl_loss_0, S_rl_loss_1, SEL, PF, mr_gf_O, mr_rc_O, Option.toList_some, Option.toList_none, List.cons_append, List.nil_append, b2i_0, b2i_1, b2i_a, a_00, a_11, ai_n, si_n, nI_1, q_rl_bit, mr_up_at, Nat.reduceLeDiff, Nat.reduceLT, Nat.reduceEqDiff, Nat.reduceAdd, if_true, if_false, Bool.true_eq_false, Bool.false_eq_true, Bool.true_and, Bool.false_and, Bool.and_true, Bool.and_false, i_10, i_01, i_00, not_true_eq_false, not_false_eq_true]
            cases b2 : rr (fl E a b) n a b <;> simpa [b2, b2i] using kk0
          · simp only [S_rl_loss_0, S_rl_loss_1, St_0 st, RLO, c22 st, (St_D st).1, RE, SEL, PF, mr_gf_O, mr_rc_O, Option.toList_some, Option.toList_none, List.cons_append, List.nil_append, b2i_0, b2i_1, b2i_a, a_00, a_11, ai_n, si_n, nI_1, q_rl_bit, mr_up_at, Nat.reduceLeDiff, Nat.reduceLT, Nat.reduceEqDiff, Nat.reduceAdd, if_true, if_false, Bool.true_eq_false, Bool.false_eq_true, Bool.true_and, Bool.false_and, Bool.and_true, Bool.and_false, i_10, i_01, i_00, not_true_eq_false, not_false_eq_true, q_re_pairCount st]
            refine q_cg_pairsWithout st ha hb hh ?_
            intro h2 f2 s2
            simp only [S_rl_loss_0, S_rl_loss_1, SEL, PF, mr_gf_O, mr_rc_O, Option.toList_some, Option.toList_none, List.cons_append, List.nil_append, b2i_0, b2i_1, b2i_a, a_00, a_11, ai_n, si_n, nI_1, q_rl_bit, mr_up_at, Nat.reduceLeDiff, Nat.reduceLT, Nat.reduceEqDiff, Nat.reduceAdd, if_true, if_false, Bool.true_eq_false, Bool.false_eq_true, Bool.true_and, Bool.false_and, Bool.and_true, Bool.and_false, i_10, i_01, i_00, not_true_eq_false, not_false_eq_true, nI_sub hle.1]
            have := kk h2 s2 f2.1
            rw [if_pos rfl] at this
            exact this
        · intro h Q st kk
          obtain ⟨th, tt, tk, pl, va, fa, dn, dr, uf, e74⟩ := id st.2.2.2.2.2.2
          rw [r_mo_loss]
          simp only [S_mo_loss_0, S_mo_loss_1, e74, MO, SEL, PF, mr_gf_O, mr_rc_O, Option.toList_some, Option.toList_none, List.cons_append, List.nil_append, b2i_0, b2i_1, b2i_a, a_00, a_11, ai_n, si_n, nI_1, q_rl_bit, mr_up_at, Nat.reduceLeDiff, Nat.reduceLT, Nat.reduceEqDiff, Nat.reduceAdd, if_true, if_false, Bool.true_eq_false, Bool.false_eq_true, Bool.true_and, Bool.false_and, Bool.and_true, Bool.and_false, i_10, i_01, i_00, not_true_eq_false, not_false_eq_true]
          refine St_th (k := fun hh => mr_run 144 [.ref 74, .int (nI a), .int (nI b)] hh _) st (fun h2 s2 e2 => ?_) e74 rfl
          obtain ⟨th, tt, tk, pl, va, fa, dn, dr, uf, g74⟩ := id s2.2.2.2.2.2.2
          obtain ⟨S, e77, hS⟩ := St_77 s2
          simp only [S_mo_loss_0, S_mo_loss_1, q_mo_isTwo hn h1n (St_M s2), huv, SEL, PF, mr_gf_O, mr_rc_O, Option.toList_some, Option.toList_none, List.cons_append, List.nil_append, b2i_0, b2i_1, b2i_a, a_00, a_11, ai_n, si_n, nI_1, q_rl_bit, mr_up_at, Nat.reduceLeDiff, Nat.reduceLT, Nat.reduceEqDiff, Nat.reduceAdd, if_true, if_false, Bool.true_eq_false, Bool.false_eq_true, Bool.true_and, Bool.false_and, Bool.and_true, Bool.and_false, i_10, i_01, i_00, not_true_eq_false, not_false_eq_true, g74, MO, q_mo_in, ch_in, decide_eq_true hw, e77, z_add, show a < 24 by omega, (hS a ha).1, q_mo_has (show b < 32 by omega), hh]
          refine q_mo_pairsNow s2 ?_
          intro h3 A f3 s3 e85 hA
          obtain ⟨th, tt, tk, pl, va, fa, dn, dr, uf, k74⟩ := id s3.2.2.2.2.2.2
          simp only [S_mo_loss_0, S_mo_loss_1, k74, MO, SEL, PF, mr_gf_O, mr_rc_O, Option.toList_some, Option.toList_none, List.cons_append, List.nil_append, b2i_0, b2i_1, b2i_a, a_00, a_11, ai_n, si_n, nI_1, q_rl_bit, mr_up_at, Nat.reduceLeDiff, Nat.reduceLT, Nat.reduceEqDiff, Nat.reduceAdd, if_true, if_false, Bool.true_eq_false, Bool.false_eq_true, Bool.true_and, Bool.false_and, Bool.and_true, Bool.and_false, i_10, i_01, i_00, not_true_eq_false, not_false_eq_true]
          refine q_mo_pairsWith s3 ha hb ?_
          intro h4 A f4 s4 e86 hA
          have kk0 := kk h4 s4 (f4.1.trans (f3.1.trans e2))
          simp only [S_mo_loss_0, S_mo_loss_1, SEL, PF, mr_gf_O, mr_rc_O, Option.toList_some, Option.toList_none, List.cons_append, List.nil_append, b2i_0, b2i_1, b2i_a, a_00, a_11, ai_n, si_n, nI_1, q_rl_bit, mr_up_at, Nat.reduceLeDiff, Nat.reduceLT, Nat.reduceEqDiff, Nat.reduceAdd, if_true, if_false, Bool.true_eq_false, Bool.false_eq_true, Bool.true_and, Bool.false_and, Bool.and_true, Bool.and_false, i_10, i_01, i_00, not_true_eq_false, not_false_eq_true, nI_sub hle.1]
          rcases hw with rfl | rfl
          · simp only [i_01, if_false, not_false_eq_true, if_true] at kk0 ⊢
            have hp1 := pN_le (RR E n) hn
            have e0 : (nI (pN (RR E n) n - pN (RR (fl E a b) n) n) = 0) ↔ rr (fl E a b) n a b = true := by
              rw [show (0 : Int32) = nI 0 from rfl, nI_eq (by omega) (by decide), ← hle.2]
              omega
            simp only [e0]
            cases b2 : rr (fl E a b) n a b <;> simpa [b2, b2i] using kk0
          · simpa only [SEL, PF, mr_gf_O, mr_rc_O, Option.toList_some, Option.toList_none, List.cons_append, List.nil_append, b2i_0, b2i_1, b2i_a, a_00, a_11, ai_n, si_n, nI_1, q_rl_bit, mr_up_at, Nat.reduceLeDiff, Nat.reduceLT, Nat.reduceEqDiff, Nat.reduceAdd, if_true, if_false, Bool.true_eq_false, Bool.false_eq_true, Bool.true_and, Bool.false_and, Bool.and_true, Bool.and_false, i_10, i_01, i_00, not_true_eq_false, not_false_eq_true] using kk0
    · refine both_ro st (-1) ?_ ?_
      · intro h Q st kk
        rw [r_rl_loss]
        simp only [S_rl_loss_0, S_rl_loss_1, St_0 st, RLO, q_rl_areTwoNodes (St_0 st) (St_1 st), huv, SEL, PF, mr_gf_O, mr_rc_O, Option.toList_some, Option.toList_none, List.cons_append, List.nil_append, b2i_0, b2i_1, b2i_a, a_00, a_11, ai_n, si_n, nI_1, q_rl_bit, mr_up_at, Nat.reduceLeDiff, Nat.reduceLT, Nat.reduceEqDiff, Nat.reduceAdd, if_true, if_false, Bool.true_eq_false, Bool.false_eq_true, Bool.true_and, Bool.false_and, Bool.and_true, Bool.and_false, i_10, i_01, i_00, not_true_eq_false, not_false_eq_true, q_rl_isChoice, decide_eq_false hw]
        exact kk h st rfl
      · intro h Q st kk
        obtain ⟨th, tt, tk, pl, va, fa, dn, dr, uf, e74⟩ := id st.2.2.2.2.2.2
        rw [r_mo_loss]
        simp only [S_mo_loss_0, S_mo_loss_1, e74, MO, SEL, PF, mr_gf_O, mr_rc_O, Option.toList_some, Option.toList_none, List.cons_append, List.nil_append, b2i_0, b2i_1, b2i_a, a_00, a_11, ai_n, si_n, nI_1, q_rl_bit, mr_up_at, Nat.reduceLeDiff, Nat.reduceLT, Nat.reduceEqDiff, Nat.reduceAdd, if_true, if_false, Bool.true_eq_false, Bool.false_eq_true, Bool.true_and, Bool.false_and, Bool.and_true, Bool.and_false, i_10, i_01, i_00, not_true_eq_false, not_false_eq_true]
        refine St_th (k := fun hh => mr_run 144 [.ref 74, .int u, .int v] hh _) st (fun h2 s2 e2 => ?_) e74 rfl
        obtain ⟨th, tt, tk, pl, va, fa, dn, dr, uf, g74⟩ := id s2.2.2.2.2.2.2
        simp only [S_mo_loss_0, S_mo_loss_1, q_mo_isTwo hn h1n (St_M s2), huv, SEL, PF, mr_gf_O, mr_rc_O, Option.toList_some, Option.toList_none, List.cons_append, List.nil_append, b2i_0, b2i_1, b2i_a, a_00, a_11, ai_n, si_n, nI_1, q_rl_bit, mr_up_at, Nat.reduceLeDiff, Nat.reduceLT, Nat.reduceEqDiff, Nat.reduceAdd, if_true, if_false, Bool.true_eq_false, Bool.false_eq_true, Bool.true_and, Bool.false_and, Bool.and_true, Bool.and_false, i_10, i_01, i_00, not_true_eq_false, not_false_eq_true, g74, MO, q_mo_in, ch_in, decide_eq_false hw]
        exact kk h2 s2 e2
end LOSS
