/-! now -/
def lo1 (E : Nat → Int32) (n c : Nat) : Bool := ns E n c && decide (Bh E n c = Rg E n c)
def lo2 (E : Nat → Int32) (n c : Nat) : Bool := ns E n c && decide (RR E n c = Rg E n c)
def lonN (E : Nat → Int32) (n : Nat) : Nat := if ct (Ns E n) = 1 then 0 else if fb_ct (lo1 E n) n < fb_ct (lo2 E n) n then fb_ct (lo2 E n) n else fb_ct (lo1 E n) n
section NOW
variable {h : mr_h} {Q : Option Value → mr_h → Prop} {n len us m : Nat} {E K A : Nat → Int32}
theorem q_re_ringCount (st : St h n len us m E K) : mr_run 51 [.ref 9] h Q = Q (some (.int (nI (ct (Ns E n))))) h := by
  rw [r_re_ringCount]
  simp only [S_re_ringCount, (St_D st).1, RE, SEL, PF, mr_gf_O, mr_rc_O, Option.toList_some, Option.toList_none, List.cons_append, List.nil_append, b2i_0, b2i_1, b2i_a, a_00, a_11, ai_n, si_n, nI_1, q_rl_bit, mr_up_at, Nat.reduceLeDiff, Nat.reduceLT, Nat.reduceEqDiff, Nat.reduceAdd, if_true, if_false, Bool.true_eq_false, Bool.false_eq_true, Bool.true_and, Bool.false_and, Bool.and_true, Bool.and_false, i_10, i_01, i_00, not_true_eq_false, not_false_eq_true, q_bitCount (Ns_sm (St_E st))]
theorem l_re_lone (st : St h n len us m E K) : ∀ (d k : Nat), k + d = n → mr_wp 58 16 [.ref 9, .int (nI (fb_ct (lo1 E n) k)), .int (nI (fb_ct (lo2 E n) k)), .int (nI k)] [] h Q = Q (some (.int (nI (if fb_ct (lo1 E n) n < fb_ct (lo2 E n) n then fb_ct (lo2 E n) n else fb_ct (lo1 E n) n)))) h := by
  have hE := St_E st
  have hn := hE.1
  obtain ⟨e9, A, B, C, I, O, R, L, e10, e11, e12, e13, e14, e15, e16, hA, hB, hC, hI, hO, hR, hL⟩ := St_D st
  intro d
  induction d with
  | zero =>
    intro k hk
    have : k = n := by omega
    subst this
    have h1 := fb_ct_le (lo1 E k) k
    have h2 := fb_ct_le (lo2 E k) k
    rw [s_re_lone_16]
    simp only [S_re_lone_0, S_re_lone_1, e9, RE, SEL, PF, mr_gf_O, mr_rc_O, Option.toList_some, Option.toList_none, List.cons_append, List.nil_append, b2i_0, b2i_1, b2i_a, a_00, a_11, ai_n, si_n, nI_1, q_rl_bit, mr_up_at, Nat.reduceLeDiff, Nat.reduceLT, Nat.reduceEqDiff, Nat.reduceAdd, if_true, if_false, Bool.true_eq_false, Bool.false_eq_true, Bool.true_and, Bool.false_and, Bool.and_true, Bool.and_false, i_10, i_01, i_00, not_true_eq_false, not_false_eq_true, if_pos (nI_le (Nat.le_refl k) (show k < 2 ^ 31 by omega)), nI_max (show fb_ct (lo1 E k) k < 2 ^ 31 by omega) (show fb_ct (lo2 E k) k < 2 ^ 31 by omega)]
  | succ d ih =>
    intro k hk
    have hkn : k < n := by omega
    have c1 : ¬ nI n ≤ nI k := nI_ge (by omega) (by omega)
    have hns : bt (Ns E n) k = ns E n k := rfl
    rw [s_re_lone_16]
    simp only [S_re_lone_0, S_re_lone_1, e9, RE, SEL, PF, mr_gf_O, mr_rc_O, Option.toList_some, Option.toList_none, List.cons_append, List.nil_append, b2i_0, b2i_1, b2i_a, a_00, a_11, ai_n, si_n, nI_1, q_rl_bit, mr_up_at, Nat.reduceLeDiff, Nat.reduceLT, Nat.reduceEqDiff, Nat.reduceAdd, if_true, if_false, Bool.true_eq_false, Bool.false_eq_true, Bool.true_and, Bool.false_and, Bool.and_true, Bool.and_false, i_10, i_01, i_00, not_true_eq_false, not_false_eq_true, if_neg c1, q_rl_holds (show k < 32 by omega), hns, e11, e10, show k < 12 by omega, hB k hkn, hA k hkn, q_re_ringOf (show k < 12 by omega) e9 e10 e11, ring_and2 hE hkn]
    have := ih (k + 1) (by omega)
    cases b1 : ns E n k with
    | false =>
      rw [ct_n (p := lo1 E n) (by unfold lo1; rw [b1]; rfl), ct_n (p := lo2 E n) (by unfold lo2; rw [b1]; rfl)] at this
      simp only [if_true]
      exact this
    | true =>
      simp only [Bool.true_eq_false, if_false]
      by_cases b2 : Bh E n k = Rg E n k
      · rw [ct_y (p := lo1 E n) (by unfold lo1; rw [b1]; simp [b2])] at this
        rw [if_neg (by simpa using b2)]
        by_cases b3 : RR E n k = Rg E n k
        · rw [ct_y (p := lo2 E n) (by unfold lo2; rw [b1]; simp [b3])] at this
          rw [if_neg (by simpa using b3)]
          exact this
        · rw [ct_n (p := lo2 E n) (by unfold lo2; rw [b1]; simp [b3])] at this
          rw [if_pos b3, Int32.add_zero]
          exact this
      · rw [ct_n (p := lo1 E n) (by unfold lo1; rw [b1]; simp [b2])] at this
        rw [if_pos b2, Int32.add_zero]
        by_cases b3 : RR E n k = Rg E n k
        · rw [ct_y (p := lo2 E n) (by unfold lo2; rw [b1]; simp [b3])] at this
          rw [if_neg (by simpa using b3)]
          exact this
        · rw [ct_n (p := lo2 E n) (by unfold lo2; rw [b1]; simp [b3])] at this
          rw [if_pos b3, Int32.add_zero]
          exact this
theorem q_re_lone (st : St h n len us m E K) : mr_run 58 [.ref 9] h Q = Q (some (.int (nI (lonN E n)))) h := by
  have hc := ct_le (Ns E n)
  rw [r_re_lone]
  simp only [S_re_lone_0, S_re_lone_1, (St_D st).1, RE, SEL, PF, mr_gf_O, mr_rc_O, Option.toList_some, Option.toList_none, List.cons_append, List.nil_append, b2i_0, b2i_1, b2i_a, a_00, a_11, ai_n, si_n, nI_1, q_rl_bit, mr_up_at, Nat.reduceLeDiff, Nat.reduceLT, Nat.reduceEqDiff, Nat.reduceAdd, if_true, if_false, Bool.true_eq_false, Bool.false_eq_true, Bool.true_and, Bool.false_and, Bool.and_true, Bool.and_false, i_10, i_01, i_00, not_true_eq_false, not_false_eq_true, q_re_ringCount st]
  have := l_re_lone (Q := Q) st n 0 (by omega)
  rw [show fb_ct (lo1 E n) 0 = 0 from rfl, show fb_ct (lo2 E n) 0 = 0 from rfl, nI_0] at this
  unfold lonN
  by_cases b1 : ct (Ns E n) = 1
  · rw [if_neg (by rw [b1]; decide), if_pos b1]
    rfl
  · rw [if_pos (show ¬ nI (ct (Ns E n)) = 1 from fun z => b1 ((nI_eq (b := 1) (by omega) (by decide)).mp z)), if_neg b1]
    exact this
theorem l_mo_lone (hE : nt E n) (hm : MN h n) (e85 : h.1 85 = mr_I 12 A) (hA : ∀ j, j < n → A j = RR E n j) : ∀ (d k : Nat), k + d = n → mr_wp 154 12 [.ref 74, .int (Ns E n), .int (nI (fb_ct (lo1 E n) k)), .int (nI (fb_ct (lo2 E n) k)), .int (nI k)] [] h Q = Q (some (.int (nI (lonN E n)))) h := by
  have hn := hE.1
  obtain ⟨th, ty, tt, tk, pl, va, fa, dn, dr, um, sn, uf, e74⟩ := id hm
  intro d
  induction d with
  | zero =>
    intro k hk
    have : k = n := by omega
    subst this
    have h1 := fb_ct_le (lo1 E k) k
    have h2 := fb_ct_le (lo2 E k) k
    have hc := ct_le (Ns E k)
    rw [s_mo_lone_12]
    simp only [S_mo_lone_0, S_mo_lone_1, e74, MO, SEL, PF, mr_gf_O, mr_rc_O, Option.toList_some, Option.toList_none, List.cons_append, List.nil_append, b2i_0, b2i_1, b2i_a, a_00, a_11, ai_n, si_n, nI_1, q_rl_bit, mr_up_at, Nat.reduceLeDiff, Nat.reduceLT, Nat.reduceEqDiff, Nat.reduceAdd, if_true, if_false, Bool.true_eq_false, Bool.false_eq_true, Bool.true_and, Bool.false_and, Bool.and_true, Bool.and_false, i_10, i_01, i_00, not_true_eq_false, not_false_eq_true, if_pos (nI_le (Nat.le_refl k) (show k < 2 ^ 31 by omega)), q_mo_ones (Ns_sm hE)]
    unfold lonN
    by_cases b1 : ct (Ns E k) = 1
    · rw [if_neg (by rw [b1]; decide), if_pos b1]
      rfl
    · rw [if_pos (show ¬ nI (ct (Ns E k)) = 1 from fun z => b1 ((nI_eq (b := 1) (by omega) (by decide)).mp z)), if_neg b1]
      by_cases b2 : fb_ct (lo1 E k) k ≤ fb_ct (lo2 E k) k
      · rw [if_pos (nI_le b2 (by omega))]
        by_cases b3 : fb_ct (lo1 E k) k < fb_ct (lo2 E k) k
        · rw [if_pos b3]
        · rw [if_neg b3, show fb_ct (lo2 E k) k = fb_ct (lo1 E k) k by omega]
      · rw [if_neg (nI_ge (by omega) (by omega)), if_neg (by omega)]
  | succ d ih =>
    intro k hk
    have hkn : k < n := by omega
    have c1 : ¬ nI n ≤ nI k := nI_ge (by omega) (by omega)
    have hns : bt (Ns E n) k = ns E n k := rfl
    rw [s_mo_lone_12]
    simp only [S_mo_lone_0, S_mo_lone_1, e74, MO, SEL, PF, mr_gf_O, mr_rc_O, Option.toList_some, Option.toList_none, List.cons_append, List.nil_append, b2i_0, b2i_1, b2i_a, a_00, a_11, ai_n, si_n, nI_1, q_rl_bit, mr_up_at, Nat.reduceLeDiff, Nat.reduceLT, Nat.reduceEqDiff, Nat.reduceAdd, if_true, if_false, Bool.true_eq_false, Bool.false_eq_true, Bool.true_and, Bool.false_and, Bool.and_true, Bool.and_false, i_10, i_01, i_00, not_true_eq_false, not_false_eq_true, if_neg c1, q_mo_has (show k < 32 by omega), hns, e85, show k < 12 by omega, q_mo_behind hE hA hkn hm e85, q_mo_ring hE hA hkn hm e85, hA k hkn]
    have := ih (k + 1) (by omega)
    cases b1 : ns E n k with
    | false =>
      rw [ct_n (p := lo1 E n) (by unfold lo1; rw [b1]; rfl), ct_n (p := lo2 E n) (by unfold lo2; rw [b1]; rfl)] at this
      simp only [if_true, Int32.add_zero]
      exact this
    | true =>
      simp only [Bool.true_eq_false, if_false]
      by_cases b2 : Bh E n k = Rg E n k
      · rw [ct_y (p := lo1 E n) (by unfold lo1; rw [b1]; simp [b2])] at this
        rw [if_neg (by simpa using b2)]
        by_cases b3 : RR E n k = Rg E n k
        · rw [ct_y (p := lo2 E n) (by unfold lo2; rw [b1]; simp [b3])] at this
          rw [if_neg (by simpa using b3)]
          exact this
        · rw [ct_n (p := lo2 E n) (by unfold lo2; rw [b1]; simp [b3])] at this
          rw [if_pos b3, Int32.add_zero]
          exact this
      · rw [ct_n (p := lo1 E n) (by unfold lo1; rw [b1]; simp [b2])] at this
        rw [if_pos b2, Int32.add_zero]
        by_cases b3 : RR E n k = Rg E n k
        · rw [ct_y (p := lo2 E n) (by unfold lo2; rw [b1]; simp [b3])] at this
          rw [if_neg (by simpa using b3)]
          exact this
        · rw [ct_n (p := lo2 E n) (by unfold lo2; rw [b1]; simp [b3])] at this
          rw [if_pos b3, Int32.add_zero]
          exact this
theorem q_mo_lone (hE : nt E n) (hm : MN h n) (e85 : h.1 85 = mr_I 12 A) (hA : ∀ j, j < n → A j = RR E n j) : mr_run 154 [.ref 74] h Q = Q (some (.int (nI (lonN E n)))) h := by
  obtain ⟨th, ty, tt, tk, pl, va, fa, dn, dr, um, sn, uf, e74⟩ := id hm
  rw [r_mo_lone]
  simp only [S_mo_lone_0, S_mo_lone_1, e74, MO, SEL, PF, mr_gf_O, mr_rc_O, Option.toList_some, Option.toList_none, List.cons_append, List.nil_append, b2i_0, b2i_1, b2i_a, a_00, a_11, ai_n, si_n, nI_1, q_rl_bit, mr_up_at, Nat.reduceLeDiff, Nat.reduceLT, Nat.reduceEqDiff, Nat.reduceAdd, if_true, if_false, Bool.true_eq_false, Bool.false_eq_true, Bool.true_and, Bool.false_and, Bool.and_true, Bool.and_false, i_10, i_01, i_00, not_true_eq_false, not_false_eq_true, q_mo_names hE hA hm e85]
  have := l_mo_lone (Q := Q) hE hm e85 hA n 0 (by omega)
  rw [show fb_ct (lo1 E n) 0 = 0 from rfl, show fb_ct (lo2 E n) 0 = 0 from rfl, nI_0] at this
  exact this
def nowV (E K : Nat → Int32) (n us : Nat) (w : Int32) : Int32 := if w = 0 then esI E n else if w = 1 then nI (ct (Ns E n)) else if w = 2 then Lc E K n n else if w = 3 then nI (pN (RR E n) n) else if w = 4 then nI (spc E n n) else if w = 5 then nI (lonN E n) else if w = 6 then nI (ML E n) else nI us
theorem b_now (hi : Inv h) (w : Int32) : Both 48 145 [.int w] h := by
  obtain ⟨n, len, us, m, E, K, st⟩ := hi
  have hE := St_E st
  have hn := hE.1
  by_cases hw : ¬ w < 0 ∧ ¬ (7 : Int32) < w
  · refine both_ro st (nowV E K n us w) ?_ ?_
    · intro h Q st kk
      obtain ⟨D, e81, hpc⟩ := gP_c.mp st.2.2.2.2.1
      have kk0 := kk h st rfl
      unfold nowV at kk kk0
      rw [r_rl_now]
      simp only [S_rl_now, s_rl_now_1, St_0 st, RLO, SEL, PF, mr_gf_O, mr_rc_O, Option.toList_some, Option.toList_none, List.cons_append, List.nil_append, b2i_0, b2i_1, b2i_a, a_00, a_11, ai_n, si_n, nI_1, q_rl_bit, mr_up_at, Nat.reduceLeDiff, Nat.reduceLT, Nat.reduceEqDiff, Nat.reduceAdd, if_true, if_false, Bool.true_eq_false, Bool.false_eq_true, Bool.true_and, Bool.false_and, Bool.and_true, Bool.and_false, i_10, i_01, i_00, not_true_eq_false, not_false_eq_true, St_1 st, NE, (St_D st).1, RE, q_ne_edgeCount hE (St_1 st) (St_2 st), q_re_ringCount st, q_re_labelCount hE (St_D st), q_re_pairCount st, c22 st, hpc.2.1, q_re_lone st]
      by_cases h0 : w = 0
      · simp only [h0, if_true] at kk0 ⊢
        exact kk0
      · by_cases h1 : w = 1
        · simp only [h0, h1, i_10, if_true, if_false] at kk0 ⊢
          exact kk0
        · by_cases h2 : w = 2
          · simp only [h0, h1, if_pos h2, if_false] at kk0 ⊢
            exact kk0
          · by_cases h3 : w = 3
            · simp only [h0, h1, h2, if_pos h3, if_false] at kk0 ⊢
              exact kk0
            · by_cases h4 : w = 4
              · simp only [h0, h1, h2, h3, if_pos h4, if_false] at kk0 ⊢
                refine q_cg_spareCount st ?_
                simp only [S_rl_now, SEL, PF, mr_gf_O, mr_rc_O, Option.toList_some, Option.toList_none, List.cons_append, List.nil_append, b2i_0, b2i_1, b2i_a, a_00, a_11, ai_n, si_n, nI_1, q_rl_bit, mr_up_at, Nat.reduceLeDiff, Nat.reduceLT, Nat.reduceEqDiff, Nat.reduceAdd, if_true, if_false, Bool.true_eq_false, Bool.false_eq_true, Bool.true_and, Bool.false_and, Bool.and_true, Bool.and_false, i_10, i_01, i_00, not_true_eq_false, not_false_eq_true]
                exact kk0
              · by_cases h5 : w = 5
                · simp only [h0, h1, h2, h3, h4, if_pos h5, if_false] at kk0 ⊢
                  exact kk0
                · by_cases h6 : w = 6
                  · simp only [h0, h1, h2, h3, h4, h5, if_pos h6, if_false] at kk ⊢
                    refine q_re_chain st ?_
                    intro h2 f2 s2
                    simp only [S_rl_now, SEL, PF, mr_gf_O, mr_rc_O, Option.toList_some, Option.toList_none, List.cons_append, List.nil_append, b2i_0, b2i_1, b2i_a, a_00, a_11, ai_n, si_n, nI_1, q_rl_bit, mr_up_at, Nat.reduceLeDiff, Nat.reduceLT, Nat.reduceEqDiff, Nat.reduceAdd, if_true, if_false, Bool.true_eq_false, Bool.false_eq_true, Bool.true_and, Bool.false_and, Bool.and_true, Bool.and_false, i_10, i_01, i_00, not_true_eq_false, not_false_eq_true]
                    exact kk h2 s2 f2.1
                  · have h7 : w = 7 := by
                      obtain ⟨j, hj, rfl⟩ := in_lt (b := 7) (by decide) hw
                      have e : ∀ k, k ≤ 7 → nI k = nI k := fun _ _ => rfl
                      have : j = 0 ∨ j = 1 ∨ j = 2 ∨ j = 3 ∨ j = 4 ∨ j = 5 ∨ j = 6 ∨ j = 7 := by omega
                      rcases this with rfl | rfl | rfl | rfl | rfl | rfl | rfl | rfl
                      · exact absurd rfl h0
                      · exact absurd rfl h1
                      · exact absurd rfl h2
                      · exact absurd rfl h3
                      · exact absurd rfl h4
                      · exact absurd rfl h5
                      · exact absurd rfl h6
                      · rfl
                    simp only [h0, h1, h2, h3, h4, h5, h6, if_pos h7, if_false] at kk0 ⊢
                    exact kk0
    · intro h Q st kk
      obtain ⟨th, tt, tk, pl, va, fa, dn, dr, uf, e74⟩ := id st.2.2.2.2.2.2
      rw [r_mo_now]
      simp only [S_mo_now_0, S_mo_now_1, e74, MO, SEL, PF, mr_gf_O, mr_rc_O, Option.toList_some, Option.toList_none, List.cons_append, List.nil_append, b2i_0, b2i_1, b2i_a, a_00, a_11, ai_n, si_n, nI_1, q_rl_bit, mr_up_at, Nat.reduceLeDiff, Nat.reduceLT, Nat.reduceEqDiff, Nat.reduceAdd, if_true, if_false, Bool.true_eq_false, Bool.false_eq_true, Bool.true_and, Bool.false_and, Bool.and_true, Bool.and_false, i_10, i_01, i_00, not_true_eq_false, not_false_eq_true, q_mo_in, decide_eq_true hw]
      refine St_th (k := fun hh => mr_run 133 [.ref 74, .ref 77, .ref 85] hh _) st (fun h2 s2 e2 => ?_) e74 rfl
      refine st_comesBy s2 (fun h3 A s3 e3 e85 hA => ?_)
      obtain ⟨th, tt, tk, pl, va, fa, dn, dr, uf, k74⟩ := id s3.2.2.2.2.2.2
      obtain ⟨S, e77, hS⟩ := St_77 s3
      have h99 := St_99 s3 hS
      have kk0 := kk h3 s3 (e3.trans e2)
      unfold nowV at kk kk0
      have ec := fun Q => q_mo_edges (Q := Q) (f := S) (nt_cong hE (fun u hu => (hS u hu).1)) (St_M s3) e77
      rw [esI_cong (fun k hk => (hS k hk).1)] at ec
      have pc := fun Q => q_mo_pairsOf (Q := Q) (n := n) (F := A) hn (fun j hj => sm_of (hA j hj) (RR_sm hE hj)) (St_M s3) e85
      rw [psI_cong hA, psI_nat (fun k hk => RR_pos hE hk)] at pc
      simp only [S_mo_now_0, S_mo_now_1, k74, MO, SEL, PF, mr_gf_O, mr_rc_O, Option.toList_some, Option.toList_none, List.cons_append, List.nil_append, b2i_0, b2i_1, b2i_a, a_00, a_11, ai_n, si_n, nI_1, q_rl_bit, mr_up_at, Nat.reduceLeDiff, Nat.reduceLT, Nat.reduceEqDiff, Nat.reduceAdd, if_true, if_false, Bool.true_eq_false, Bool.false_eq_true, Bool.true_and, Bool.false_and, Bool.and_true, Bool.and_false, i_10, i_01, i_00, not_true_eq_false, not_false_eq_true, ec, pc, q_mo_names hE hA (St_M s3) e85, q_mo_ones (Ns_sm hE), q_mo_lone hE (St_M s3) e85 hA]
      obtain ⟨j, hj, rfl⟩ := in_lt (b := 7) (by decide) hw
      have hj8 : j = 0 ∨ j = 1 ∨ j = 2 ∨ j = 3 ∨ j = 4 ∨ j = 5 ∨ j = 6 ∨ j = 7 := by omega
      rcases hj8 with rfl | rfl | rfl | rfl | rfl | rfl | rfl | rfl
      · simp (decide := true) only [show (nI 0 : Int32) = 0 from rfl, if_true, if_false] at kk0 ⊢
        exact kk0
      · simp (decide := true) only [show (nI 1 : Int32) = 1 from rfl, if_true, if_false] at kk0 ⊢
        exact kk0
      · simp (decide := true) only [show (nI 2 : Int32) = 2 from rfl, if_true, if_false] at kk ⊢
        refine q_mo_labels2 (g := A) hE hS h99 (St_M s3) e85 e77 ?_
        intro h4 A4 f4 g85 hA4
        simp only [S_mo_now_0, S_mo_now_1, SEL, PF, mr_gf_O, mr_rc_O, Option.toList_some, Option.toList_none, List.cons_append, List.nil_append, b2i_0, b2i_1, b2i_a, a_00, a_11, ai_n, si_n, nI_1, q_rl_bit, mr_up_at, Nat.reduceLeDiff, Nat.reduceLT, Nat.reduceEqDiff, Nat.reduceAdd, if_true, if_false, Bool.true_eq_false, Bool.false_eq_true, Bool.true_and, Bool.false_and, Bool.and_true, Bool.and_false, i_10, i_01, i_00, not_true_eq_false, not_false_eq_true]
        exact kk h4 (St_one s3 f4 (by decide) (shp_12 g85 (by decide))) (f4.1.trans (e3.trans e2))
      · simp (decide := true) only [show (nI 3 : Int32) = 3 from rfl, if_true, if_false] at kk0 ⊢
        exact kk0
      · simp (decide := true) only [show (nI 4 : Int32) = 4 from rfl, if_true, if_false] at kk ⊢
        refine q_mo_spares s3 ?_
        intro h4 e4 s4
        simp only [S_mo_now_0, S_mo_now_1, SEL, PF, mr_gf_O, mr_rc_O, Option.toList_some, Option.toList_none, List.cons_append, List.nil_append, b2i_0, b2i_1, b2i_a, a_00, a_11, ai_n, si_n, nI_1, q_rl_bit, mr_up_at, Nat.reduceLeDiff, Nat.reduceLT, Nat.reduceEqDiff, Nat.reduceAdd, if_true, if_false, Bool.true_eq_false, Bool.false_eq_true, Bool.true_and, Bool.false_and, Bool.and_true, Bool.and_false, i_10, i_01, i_00, not_true_eq_false, not_false_eq_true]
        exact kk h4 s4 (e4.trans (e3.trans e2))
      · simp (decide := true) only [show (nI 5 : Int32) = 5 from rfl, if_true, if_false] at kk0 ⊢
        exact kk0
      · simp (decide := true) only [show (nI 6 : Int32) = 6 from rfl, if_true, if_false] at kk ⊢
        refine q_mo_chain s3 e85 hA ?_
        intro h4 e4 s4
        simp only [S_mo_now_0, S_mo_now_1, SEL, PF, mr_gf_O, mr_rc_O, Option.toList_some, Option.toList_none, List.cons_append, List.nil_append, b2i_0, b2i_1, b2i_a, a_00, a_11, ai_n, si_n, nI_1, q_rl_bit, mr_up_at, Nat.reduceLeDiff, Nat.reduceLT, Nat.reduceEqDiff, Nat.reduceAdd, if_true, if_false, Bool.true_eq_false, Bool.false_eq_true, Bool.true_and, Bool.false_and, Bool.and_true, Bool.and_false, i_10, i_01, i_00, not_true_eq_false, not_false_eq_true]
        exact kk h4 s4 (e4.trans (e3.trans e2))
      · simp (decide := true) only [show (nI 7 : Int32) = 7 from rfl, if_true, if_false] at kk0 ⊢
        exact kk0
  · refine both_ro st (-1) ?_ ?_
    · intro h Q st kk
      have := kk h st rfl
      have no : ∀ j, j ≤ 7 → w ≠ nI j := by
        rintro j hj rfl
        exact hw ⟨nI_pos (by omega), nI_nlt (b := j) (a := 7) hj (by decide)⟩
      rw [r_rl_now]
      simp only [S_rl_now, s_rl_now_1, SEL, PF, mr_gf_O, mr_rc_O, Option.toList_some, Option.toList_none, List.cons_append, List.nil_append, b2i_0, b2i_1, b2i_a, a_00, a_11, ai_n, si_n, nI_1, q_rl_bit, mr_up_at, Nat.reduceLeDiff, Nat.reduceLT, Nat.reduceEqDiff, Nat.reduceAdd, if_true, if_false, Bool.true_eq_false, Bool.false_eq_true, Bool.true_and, Bool.false_and, Bool.and_true, Bool.and_false, i_10, i_01, i_00, not_true_eq_false, not_false_eq_true, show ¬ w = 0 from no 0 (by decide), show ¬ w = 1 from no 1 (by decide), show ¬ w = 2 from no 2 (by decide), show ¬ w = 3 from no 3 (by decide), show ¬ w = 4 from no 4 (by decide), show ¬ w = 5 from no 5 (by decide), show ¬ w = 6 from no 6 (by decide), show ¬ w = 7 from no 7 (by decide)]
      exact this
    · intro h Q st kk
      obtain ⟨th, tt, tk, pl, va, fa, dn, dr, uf, e74⟩ := id st.2.2.2.2.2.2
      rw [r_mo_now]
      simp only [S_mo_now_0, S_mo_now_1, e74, MO, SEL, PF, mr_gf_O, mr_rc_O, Option.toList_some, Option.toList_none, List.cons_append, List.nil_append, b2i_0, b2i_1, b2i_a, a_00, a_11, ai_n, si_n, nI_1, q_rl_bit, mr_up_at, Nat.reduceLeDiff, Nat.reduceLT, Nat.reduceEqDiff, Nat.reduceAdd, if_true, if_false, Bool.true_eq_false, Bool.false_eq_true, Bool.true_and, Bool.false_and, Bool.and_true, Bool.and_false, i_10, i_01, i_00, not_true_eq_false, not_false_eq_true, q_mo_in, decide_eq_false hw]
      exact kk _ (St_mo st (fr_up _ (fr_rf _ _) (by decide)) ⟨_, _, _, _, _, _, _, _, _, up_eq _ _ _⟩) rfl
end NOW
