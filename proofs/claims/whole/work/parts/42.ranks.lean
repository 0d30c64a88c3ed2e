/-! ranks told anew -/
theorem ct_y {p : Nat → Bool} {k : Nat} (h : p k = true) : fb_ct p (k + 1) = fb_ct p k + 1 := by rw [fb_ct_succ, if_pos h]
theorem ct_n {p : Nat → Bool} {k : Nat} (h : p k = false) : fb_ct p (k + 1) = fb_ct p k := by rw [fb_ct_succ, h]; rfl
def eic (E : Nat → Int32) (n u : Nat) : Nat := fb_ct (fun k => bt (E k) u) n
def wt (E : Nat → Int32) (n u : Nat) : Int32 := nI (ct (E u) + 1) * nI (eic E n u + 1)
def hmp (W : Nat → Int32) (u v : Nat) : Bool := decide (W u < W v) || (decide (W v = W u) && decide (v < u))
def hm (W : Nat → Int32) (n u : Nat) : Nat := fb_ct (hmp W u) n
theorem hm_lt {W : Nat → Int32} {n u : Nat} (hu : u < n) : hm W n u < n := by
  have h1 : hm W n u ≤ n := fb_ct_le _ n
  rcases Nat.lt_or_ge (hm W n u) n with h | h
  · exact h
  · have e : fb_ct (hmp W u) n = n := by unfold hm at *; omega
    have := fb_ct_all.mp e u hu
    unfold hmp at this
    simp [fa_lt] at this
theorem hm_cong {W V : Nat → Int32} {n u : Nat} (hu : u < n) (h : ∀ k, k < n → W k = V k) : hm W n u = hm V n u := fb_ct_cong fun k hk => by
  unfold hmp
  rw [h u hu, h k hk]
section RANKS
variable {h : mr_h} {Q : Option Value → mr_h → Prop} {n us : Nat} {E K S W : Nat → Int32}
theorem l_ne_edgesInto (hE : nt E n) {u : Nat} (hu : u < n) (e1 : h.1 1 = NE 1 n) (e2 : h.1 2 = mr_I 12 E) : ∀ (d k : Nat), k + d = n → mr_wp 70 4 [.ref 1, .int (nI u), .int (nI (eic E k u)), .int (nI k)] [] h Q = Q (some (.int (nI (eic E n u)))) h := by
  have hn := hE.1
  intro d
  induction d with
  | zero =>
    intro k hk
    have : k = n := by omega
    subst this
    rw [s_ne_edgesInto_4]
    simp only [S_ne_edgesInto, e1, NE, SEL, PF, mr_gf_O, mr_rc_O, Option.toList_some, Option.toList_none, List.cons_append, List.nil_append, b2i_0, b2i_1, b2i_a, a_00, a_11, ai_n, si_n, nI_1, q_rl_bit, mr_up_at, Nat.reduceLeDiff, Nat.reduceLT, Nat.reduceEqDiff, Nat.reduceAdd, if_true, if_false, if_pos (nI_le (Nat.le_refl k) (by omega))]
  | succ d ih =>
    intro k hk
    have c1 : ¬ nI n ≤ nI k := nI_ge (by omega) (by omega)
    have hk12 : k < 12 := by omega
    rw [s_ne_edgesInto_4]
    simp only [S_ne_edgesInto, e1, NE, SEL, PF, mr_gf_O, mr_rc_O, Option.toList_some, Option.toList_none, List.cons_append, List.nil_append, b2i_0, b2i_1, b2i_a, a_00, a_11, ai_n, si_n, nI_1, q_rl_bit, mr_up_at, Nat.reduceLeDiff, Nat.reduceLT, Nat.reduceEqDiff, Nat.reduceAdd, if_true, if_false, if_neg c1, q_ne_has (show h.1 1 = NE 1 n from e1) e2 hk12 (show u < 32 by omega)]
    have := ih (k + 1) (by omega)
    cases b1 : bt (E k) u with
    | true =>
      rw [show eic E (k + 1) u = eic E k u + 1 from ct_y b1] at this
      simp only [Bool.true_eq_false, if_false]
      exact this
    | false =>
      rw [show eic E (k + 1) u = eic E k u from ct_n b1] at this
      simp only [if_true]
      exact this
theorem q_ne_edgesInto (hE : nt E n) {u : Nat} (hu : u < n) (e1 : h.1 1 = NE 1 n) (e2 : h.1 2 = mr_I 12 E) : mr_run 70 [.ref 1, .int (nI u)] h Q = Q (some (.int (nI (eic E n u)))) h := by
  rw [r_ne_edgesInto]
  simp only [S_ne_edgesInto]
  have := l_ne_edgesInto (Q := Q) hE hu e1 e2 n 0 (by omega)
  rw [nI_0] at this
  exact this
theorem l_ra_how (hn : n ≤ 12) {u : Nat} (hu : u < n) (e18 : h.1 18 = mr_O 5 [.ref 19]) (e19 : h.1 19 = mr_I 12 W) : ∀ (d k : Nat), k + d = n → mr_wp 71 5 [.ref 18, .int (nI u), .int (nI n), .int (nI (hm W k u)), .int (nI k)] [] h Q = Q (some (.int (nI (hm W n u)))) h := by
  intro d
  have hu12 : u < 12 := by omega
  induction d with
  | zero =>
    intro k hk
    have : k = n := by omega
    subst this
    rw [s_ra_howManyAheadOf_5]
    simp only [S_ra_howManyAheadOf, SEL, PF, mr_gf_O, mr_rc_O, Option.toList_some, Option.toList_none, List.cons_append, List.nil_append, b2i_0, b2i_1, b2i_a, a_00, a_11, ai_n, si_n, nI_1, q_rl_bit, mr_up_at, Nat.reduceLeDiff, Nat.reduceLT, Nat.reduceEqDiff, Nat.reduceAdd, if_true, if_false, if_pos (nI_le (Nat.le_refl k) (by omega))]
  | succ d ih =>
    intro k hk
    have c1 : ¬ nI n ≤ nI k := nI_ge (by omega) (by omega)
    have hk12 : k < 12 := by omega
    rw [s_ra_howManyAheadOf_5]
    simp only [S_ra_howManyAheadOf, e18, e19, SEL, PF, mr_gf_O, mr_rc_O, Option.toList_some, Option.toList_none, List.cons_append, List.nil_append, b2i_0, b2i_1, b2i_a, a_00, a_11, ai_n, si_n, nI_1, q_rl_bit, mr_up_at, Nat.reduceLeDiff, Nat.reduceLT, Nat.reduceEqDiff, Nat.reduceAdd, if_true, if_false, if_neg c1, hk12, hu12]
    have := ih (k + 1) (by omega)
    by_cases b1 : W u < W k
    · rw [show hm W (k + 1) u = hm W k u + 1 from ct_y (by simp [hmp, b1])] at this
      rw [if_pos b1]
      exact this
    · by_cases b2 : W k = W u
      · by_cases b3 : k < u
        · rw [show hm W (k + 1) u = hm W k u + 1 from ct_y (by simp [hmp, b2, b3])] at this
          rw [if_neg b1, if_neg (by simpa using b2), if_neg (nI_ge b3 (by omega))]
          exact this
        · rw [show hm W (k + 1) u = hm W k u from ct_n (by simp [hmp, b2, b3, fa_lt])] at this
          rw [if_neg b1, if_neg (by simpa using b2), if_pos (nI_le (by omega) (by omega))]
          exact this
      · rw [show hm W (k + 1) u = hm W k u from ct_n (by simp [hmp, b1, b2])] at this
        rw [if_neg b1, if_pos b2]
        exact this
theorem q_ra_how (hn : n ≤ 12) {u : Nat} (hu : u < n) (e18 : h.1 18 = mr_O 5 [.ref 19]) (e19 : h.1 19 = mr_I 12 W) : mr_run 71 [.ref 18, .int (nI u), .int (nI n)] h Q = Q (some (.int (nI (hm W n u)))) h := by
  rw [r_ra_howManyAheadOf]
  simp only [S_ra_howManyAheadOf]
  have := l_ra_how (Q := Q) hn hu e18 e19 n 0 (by omega)
  rw [nI_0] at this
  exact this
theorem l_ra_1 (hE : nt E n) (e18 : h.1 18 = mr_O 5 [.ref 19]) (e1 : h.1 1 = NE 1 n) (e2 : h.1 2 = mr_I 12 E) (kk : ∀ h2, mr_fr h h2 [19] → h2.1 19 = mr_I 12 (fk (wt E n) W n) → mr_wp 69 41 [.ref 18, .ref 1, .int (nI n)] [] h2 Q) : ∀ (d k : Nat) (h1 : mr_h), k + d = n → h1.1 19 = mr_I 12 (fk (wt E n) W k) → mr_fr h h1 [19] → mr_wp 69 2 [.ref 18, .ref 1, .int (nI k)] [] h1 Q := by
  have hn := hE.1
  intro d
  induction d with
  | zero =>
    intro k h1 hk e19 f
    have : k = n := by omega
    subst this
    have g1 := fr_at f (by decide) e1
    have := kk h1 f e19
    rw [s_ra_rank_2]
    simp only [S_ra_rank_0, S_ra_rank_1, g1, NE, SEL, PF, mr_gf_O, mr_rc_O, Option.toList_some, Option.toList_none, List.cons_append, List.nil_append, b2i_0, b2i_1, b2i_a, a_00, a_11, ai_n, si_n, nI_1, q_rl_bit, mr_up_at, Nat.reduceLeDiff, Nat.reduceLT, Nat.reduceEqDiff, Nat.reduceAdd, if_true, if_false, if_pos (nI_le (Nat.le_refl k) (by omega))] at this ⊢
    exact this
  | succ d ih =>
    intro k h1 hk e19 f
    have c1 : ¬ nI n ≤ nI k := nI_ge (by omega) (by omega)
    have hk12 : k < 12 := by omega
    have hkn : k < n := by omega
    have g1 := fr_at f (by decide) e1
    have g2 := fr_at f (by decide) e2
    have g18 := fr_at f (by decide) e18
    rw [s_ra_rank_2]
    simp only [S_ra_rank_0, S_ra_rank_1, g1, NE, SEL, PF, mr_gf_O, mr_rc_O, Option.toList_some, Option.toList_none, List.cons_append, List.nil_append, b2i_0, b2i_1, b2i_a, a_00, a_11, ai_n, si_n, nI_1, q_rl_bit, mr_up_at, Nat.reduceLeDiff, Nat.reduceLT, Nat.reduceEqDiff, Nat.reduceAdd, if_true, if_false, if_neg c1, g18, g2, hk12, q_bitCount (nt_sm hE hkn), q_ne_edgesInto hE hkn (show h1.1 1 = NE 1 n from g1) g2, e19]
    refine ih (k + 1) _ (by omega) ?_ (fr_up _ f (by decide))
    rw [up_eq, ← fk_s]
    rfl
theorem l_ra_2 (hn : n ≤ 12) (e18 : h.1 18 = mr_O 5 [.ref 19]) (e1 : h.1 1 = NE 1 n) (e19 : h.1 19 = mr_I 12 W) (kk : ∀ h2, mr_fr h h2 [3] → h2.1 3 = mr_I 12 (nf (hm W n) K n) → Q none h2) : ∀ (d k : Nat) (h1 : mr_h), k + d = n → h1.1 3 = mr_I 12 (nf (hm W n) K k) → mr_fr h h1 [3] → mr_wp 69 43 [.ref 18, .ref 1, .int (nI k)] [] h1 Q := by
  intro d
  induction d with
  | zero =>
    intro k h1 hk e3 f
    have : k = n := by omega
    subst this
    have g1 := fr_at f (by decide) e1
    rw [s_ra_rank_43]
    simp only [S_ra_rank_0, S_ra_rank_1, g1, NE, SEL, PF, mr_gf_O, mr_rc_O, Option.toList_some, Option.toList_none, List.cons_append, List.nil_append, b2i_0, b2i_1, b2i_a, a_00, a_11, ai_n, si_n, nI_1, q_rl_bit, mr_up_at, Nat.reduceLeDiff, Nat.reduceLT, Nat.reduceEqDiff, Nat.reduceAdd, if_true, if_false, if_pos (nI_le (Nat.le_refl k) (by omega))]
    exact kk h1 f e3
  | succ d ih =>
    intro k h1 hk e3 f
    have c1 : ¬ nI n ≤ nI k := nI_ge (by omega) (by omega)
    have hk12 : k < 12 := by omega
    have hkn : k < n := by omega
    have g1 := fr_at f (by decide) e1
    have g18 := fr_at f (by decide) e18
    have g19 := fr_at f (by decide) e19
    rw [s_ra_rank_43]
    simp only [S_ra_rank_0, S_ra_rank_1, g1, NE, SEL, PF, mr_gf_O, mr_rc_O, Option.toList_some, Option.toList_none, List.cons_append, List.nil_append, b2i_0, b2i_1, b2i_a, a_00, a_11, ai_n, si_n, nI_1, q_rl_bit, mr_up_at, Nat.reduceLeDiff, Nat.reduceLT, Nat.reduceEqDiff, Nat.reduceAdd, if_true, if_false, if_neg c1, g18, q_ra_how hn hkn g18 g19, hk12, e3, nf_s]
    exact ih (k + 1) _ (by omega) (up_eq _ _ _) (fr_up _ f (by decide))
theorem q_ra_rank (hE : nt E n) (e18 : h.1 18 = mr_O 5 [.ref 19]) (e1 : h.1 1 = NE 1 n) (e2 : h.1 2 = mr_I 12 E) (e3 : h.1 3 = mr_I 12 K) (e19 : h.1 19 = mr_I 12 W) (kk : ∀ h2 K', mr_fr h h2 [3, 19] → (∃ V, h2.1 19 = mr_I 12 V) → h2.1 3 = mr_I 12 K' → (∀ u, u < n → K' u = nI (hm (wt E n) n u)) → Q none h2) : mr_run 69 [.ref 18, .ref 1] h Q := by
  have hn := hE.1
  rw [r_ra_rank]
  simp only [S_ra_rank_0, S_ra_rank_1]
  rw [← nI_0]
  refine l_ra_1 (W := W) hE e18 e1 e2 ?_ n 0 h (by omega) (by rw [fk_0]; exact e19) (fr_rf _ _)
  intro h2 f2 g19
  simp only [S_ra_rank_0, S_ra_rank_1]
  rw [← nI_0]
  refine l_ra_2 (K := K) hn (fr_at f2 (by decide) e18) (fr_at f2 (by decide) e1) g19 ?_ n 0 h2 (by omega) ?_ (fr_rf _ _)
  · intro h3 f3 k3
    refine kk h3 _ (fr_tr (fr_wk f2 (by decide)) f3 (by decide)) ⟨_, fr_at f3 (by decide) g19⟩ k3 (fun u hu => ?_)
    unfold nf
    rw [if_pos hu, hm_cong hu (fun k hk => fk_in hk)]
  · rw [fr_at f2 (by decide) e3]
    rfl
theorem l_mo_weight (hE : nt E n) (hS : ∀ u, u < n → S u = E u) {u : Nat} (hu : u < n) (hm : MN h n) (e77 : h.1 77 = mr_I 24 S) : ∀ (d k : Nat), k + d = n → mr_wp 160 4 [.ref 74, .int (nI u), .int (nI (eic E k u)), .int (nI k)] [] h Q = Q (some (.int (wt E n u))) h := by
  have hn := hE.1
  obtain ⟨th, ty, tt, tk, pl, va, fa, dn, dr, um, sn, uf, e74⟩ := id hm
  intro d
  induction d with
  | zero =>
    intro k hk
    have : k = n := by omega
    subst this
    rw [s_mo_weight_4]
    simp only [S_mo_weight, e74, MO, SEL, PF, mr_gf_O, mr_rc_O, Option.toList_some, Option.toList_none, List.cons_append, List.nil_append, b2i_0, b2i_1, b2i_a, a_00, a_11, ai_n, si_n, nI_1, q_rl_bit, mr_up_at, Nat.reduceLeDiff, Nat.reduceLT, Nat.reduceEqDiff, Nat.reduceAdd, if_true, if_false, if_pos (nI_le (Nat.le_refl k) (by omega)), e77, z_add, show u < 24 by omega, hS u hu, q_mo_ones (nt_sm hE hu)]
    rfl
  | succ d ih =>
    intro k hk
    have c1 : ¬ nI n ≤ nI k := nI_ge (by omega) (by omega)
    rw [s_mo_weight_4]
    simp only [S_mo_weight, e74, MO, SEL, PF, mr_gf_O, mr_rc_O, Option.toList_some, Option.toList_none, List.cons_append, List.nil_append, b2i_0, b2i_1, b2i_a, a_00, a_11, ai_n, si_n, nI_1, q_rl_bit, mr_up_at, Nat.reduceLeDiff, Nat.reduceLT, Nat.reduceEqDiff, Nat.reduceAdd, if_true, if_false, if_neg c1, e77, z_add, show k < 24 by omega, hS k (by omega), shr1 (show u < 32 by omega)]
    have := ih (k + 1) (by omega)
    cases b1 : bt (E k) u with
    | true =>
      rw [show eic E (k + 1) u = eic E k u + 1 from ct_y b1] at this
      rw [b2i_t, nI_1]
      exact this
    | false =>
      rw [show eic E (k + 1) u = eic E k u from ct_n b1] at this
      rw [b2i_f, Int32.add_zero]
      exact this
theorem q_mo_weight (hE : nt E n) (hS : ∀ u, u < n → S u = E u) {u : Nat} (hu : u < n) (hm : MN h n) (e77 : h.1 77 = mr_I 24 S) : mr_run 160 [.ref 74, .int (nI u)] h Q = Q (some (.int (wt E n u))) h := by
  rw [r_mo_weight]
  simp only [S_mo_weight]
  have := l_mo_weight (Q := Q) hE hS hu hm e77 n 0 (by omega)
  rw [nI_0] at this
  exact this
theorem l_mo_ranks2 (hE : nt E n) (hS : ∀ u, u < n → S u = E u) {u : Nat} (hu : u < n) (hmn : MN h n) (e77 : h.1 77 = mr_I 24 S) (kk : mr_wp 159 76 [.ref 74, .int (nI u), .int (nI (hm (wt E n) n u)), .int (nI n)] [] h Q) : ∀ (d k : Nat), k + d = n → mr_wp 159 23 [.ref 74, .int (nI u), .int (nI (hm (wt E n) k u)), .int (nI k)] [] h Q := by
  have hn := hE.1
  obtain ⟨th, ty, tt, tk, pl, va, fa, dn, dr, um, sn, uf, e74⟩ := id hmn
  generalize hW : wt E n = W at *
  intro d
  induction d with
  | zero =>
    intro k hk
    have : k = n := by omega
    subst this
    rw [s_mo_ranks_23]
    simp only [S_mo_ranks_0, S_mo_ranks_1, e74, MO, SEL, PF, mr_gf_O, mr_rc_O, Option.toList_some, Option.toList_none, List.cons_append, List.nil_append, b2i_0, b2i_1, b2i_a, a_00, a_11, ai_n, si_n, nI_1, q_rl_bit, mr_up_at, Nat.reduceLeDiff, Nat.reduceLT, Nat.reduceEqDiff, Nat.reduceAdd, if_true, if_false, if_pos (nI_le (Nat.le_refl k) (by omega))] at kk ⊢
    exact kk
  | succ d ih =>
    intro k hk
    have c1 : ¬ nI n ≤ nI k := nI_ge (by omega) (by omega)
    have hkn : k < n := by omega
    rw [s_mo_ranks_23]
    simp only [S_mo_ranks_0, S_mo_ranks_1, e74, MO, SEL, PF, mr_gf_O, mr_rc_O, Option.toList_some, Option.toList_none, List.cons_append, List.nil_append, b2i_0, b2i_1, b2i_a, a_00, a_11, ai_n, si_n, nI_1, q_rl_bit, mr_up_at, Nat.reduceLeDiff, Nat.reduceLT, Nat.reduceEqDiff, Nat.reduceAdd, if_true, if_false, if_neg c1, q_mo_weight hE hS hkn hmn e77, q_mo_weight hE hS hu hmn e77, hW]
    have := ih (k + 1) (by omega)
    by_cases b1 : W u < W k
    · rw [show hm W (k + 1) u = hm W k u + 1 from ct_y (by simp [hmp, b1])] at this
      rw [if_pos b1]
      exact this
    · by_cases b2 : W k = W u
      · by_cases b3 : k < u
        · rw [show hm W (k + 1) u = hm W k u + 1 from ct_y (by simp [hmp, b2, b3])] at this
          rw [if_neg b1, if_neg (by simpa using b2), if_neg (nI_ge b3 (by omega))]
          exact this
        · rw [show hm W (k + 1) u = hm W k u from ct_n (by simp [hmp, b2, b3, fa_lt])] at this
          rw [if_neg b1, if_neg (by simpa using b2), if_pos (nI_le (by omega) (by omega)), Int32.add_zero]
          exact this
      · rw [show hm W (k + 1) u = hm W k u from ct_n (by simp [hmp, b1, b2])] at this
        rw [if_neg b1, if_pos b2, Int32.add_zero]
        exact this
theorem l_mo_ranks1 (hE : nt E n) (hS : ∀ u, u < n → S u = E u) (hmn : MN h n) {v2 v3 : Value} (kk : ∀ h2 v2 v3, mr_fr h h2 [77] → h2.1 77 = mr_I 24 (fb_put S (fun u => nI (hm (wt E n) n u)) 12 n) → mr_wp 159 92 [.ref 74, .int (nI n), v2, v3] [] h2 Q) : ∀ (d k : Nat) (h1 : mr_h) (v2 v3 : Value), k + d = n → h1.1 77 = mr_I 24 (fb_put S (fun u => nI (hm (wt E n) n u)) 12 k) → mr_fr h h1 [77] → mr_wp 159 11 [.ref 74, .int (nI k), v2, v3] [] h1 Q := by
  have hn := hE.1
  intro d
  induction d with
  | zero =>
    intro k h1 v2 v3 hk e77 f
    have : k = n := by omega
    subst this
    obtain ⟨th, ty, tt, tk, pl, va, fa, dn, dr, um, sn, uf, e74⟩ := MN_fr hmn f (by decide)
    have := kk h1 v2 v3 f e77
    rw [s_mo_ranks_11]
    simp only [S_mo_ranks_0, S_mo_ranks_1, e74, MO, SEL, PF, mr_gf_O, mr_rc_O, Option.toList_some, Option.toList_none, List.cons_append, List.nil_append, b2i_0, b2i_1, b2i_a, a_00, a_11, ai_n, si_n, nI_1, q_rl_bit, mr_up_at, Nat.reduceLeDiff, Nat.reduceLT, Nat.reduceEqDiff, Nat.reduceAdd, if_true, if_false, if_pos (nI_le (Nat.le_refl k) (by omega))] at this ⊢
    exact this
  | succ d ih =>
    intro k h1 v2 v3 hk e77 f
    have m1 := MN_fr hmn f (by decide)
    obtain ⟨th, ty, tt, tk, pl, va, fa, dn, dr, um, sn, uf, e74⟩ := id m1
    have c1 : ¬ nI n ≤ nI k := nI_ge (by omega) (by omega)
    have hkn : k < n := by omega
    rw [s_mo_ranks_11]
    simp only [S_mo_ranks_0, S_mo_ranks_1, e74, MO, SEL, PF, mr_gf_O, mr_rc_O, Option.toList_some, Option.toList_none, List.cons_append, List.nil_append, b2i_0, b2i_1, b2i_a, a_00, a_11, ai_n, si_n, nI_1, q_rl_bit, mr_up_at, Nat.reduceLeDiff, Nat.reduceLT, Nat.reduceEqDiff, Nat.reduceAdd, if_true, if_false, if_neg c1]
    rw [← nI_0]
    refine l_mo_ranks2 (S := fb_put S (fun u => nI (hm (wt E n) n u)) 12 k) hE (fun u hu => by rw [fb_put_out (by omega)]; exact hS u hu) hkn m1 e77 ?_ n 0 (by omega)
    have e1 := fb_put_succ S (fun u => nI (hm (wt E n) n u)) 12 k
    simp only [S_mo_ranks_0, S_mo_ranks_1, e74, MO, SEL, PF, mr_gf_O, mr_rc_O, Option.toList_some, Option.toList_none, List.cons_append, List.nil_append, b2i_0, b2i_1, b2i_a, a_00, a_11, ai_n, si_n, nI_1, q_rl_bit, mr_up_at, Nat.reduceLeDiff, Nat.reduceLT, Nat.reduceEqDiff, Nat.reduceAdd, if_true, if_false, e77, t_12, show 12 + k < 24 by omega, e1]
    exact ih (k + 1) _ _ _ (by omega) (up_eq _ _ _) (fr_up _ f (by decide))
theorem c18 {h : mr_h} (gs : gS h) : h.1 18 = mr_O 5 [.ref 19] := by
  have := gs 18 (by decide)
  simpa [shp] using this
theorem c19 {h : mr_h} (gs : gS h) : ∃ A, h.1 19 = mr_I 12 A := by
  have := gs 19 (by decide)
  simpa [shp, isI] using this
theorem b_ranks (hi : Inv h) : Both 68 159 [] h := by
  obtain ⟨n, len, us, m, E, K, st⟩ := hi
  have hE := St_E st
  have hn := hE.1
  have h1n := St_n st
  obtain ⟨D, e81, hpc⟩ := gP_c.mp st.2.2.2.2.1
  obtain ⟨S, e77, hS⟩ := St_77 st
  unfold Both
  rw [r_rl_ranks]
  simp only [S_rl_ranks, St_0 st, RLO, SEL, PF, mr_gf_O, mr_rc_O, Option.toList_some, Option.toList_none, List.cons_append, List.nil_append, b2i_0, b2i_1, b2i_a, a_00, a_11, ai_n, si_n, nI_1, q_rl_bit, mr_up_at, Nat.reduceLeDiff, Nat.reduceLT, Nat.reduceEqDiff, Nat.reduceAdd, if_true, if_false, Bool.true_eq_false, Bool.false_eq_true, Bool.true_and, Bool.false_and, Bool.and_true, Bool.and_false, i_10, i_01, i_00, not_true_eq_false, not_false_eq_true, St_1 st, NE, hpc.2.1]
  refine q_pa_remember hpc hE (St_R st) (St_1 st) (St_2 st) (St_3 st) ?_
  intro h1 L f1 hL p1
  have F1 : mr_fr h h1 LC := fr_wk f1 (fun a ha => LC_p (hL a ha))
  have off : ∀ a, ¬ (33 ≤ a ∧ a ≤ 64) → a ∉ L := fun a ha hm => ha (hL a hm)
  have g0 := fr_at f1 (off 0 (by decide)) (St_0 st)
  have g1 := fr_at f1 (off 1 (by decide)) (St_1 st)
  have g2 := fr_at f1 (off 2 (by decide)) (St_2 st)
  have g3 := fr_at f1 (off 3 (by decide)) (St_3 st)
  have g18 := fr_at f1 (off 18 (by decide)) (c18 st.1)
  obtain ⟨W, e19⟩ := c19 st.1
  have g19 := fr_at f1 (off 19 (by decide)) e19
  have gd := DS_fr (DV_DS (St_D st)) f1 (fun a ha => off a (by revert a; decide))
  simp only [S_rl_ranks, g0, RLO, SEL, PF, mr_gf_O, mr_rc_O, Option.toList_some, Option.toList_none, List.cons_append, List.nil_append, b2i_0, b2i_1, b2i_a, a_00, a_11, ai_n, si_n, nI_1, q_rl_bit, mr_up_at, Nat.reduceLeDiff, Nat.reduceLT, Nat.reduceEqDiff, Nat.reduceAdd, if_true, if_false, Bool.true_eq_false, Bool.false_eq_true, Bool.true_and, Bool.false_and, Bool.and_true, Bool.and_false, i_10, i_01, i_00, not_true_eq_false, not_false_eq_true, g18]
  refine q_ra_rank hE g18 g1 g2 g3 g19 ?_
  intro h2 K' f2 k19 k3 hK'
  have k0 := fr_at f2 (by decide) g0
  have k1 := fr_at f2 (by decide) g1
  have k2 := fr_at f2 (by decide) g2
  simp only [S_rl_ranks, k0, RLO, SEL, PF, mr_gf_O, mr_rc_O, Option.toList_some, Option.toList_none, List.cons_append, List.nil_append, b2i_0, b2i_1, b2i_a, a_00, a_11, ai_n, si_n, nI_1, q_rl_bit, mr_up_at, Nat.reduceLeDiff, Nat.reduceLT, Nat.reduceEqDiff, Nat.reduceAdd, if_true, if_false, Bool.true_eq_false, Bool.false_eq_true, Bool.true_and, Bool.false_and, Bool.and_true, Bool.and_false, i_10, i_01, i_00, not_true_eq_false, not_false_eq_true]
  refine q_rl_labelsThen hE k0 k1 k2 k3 (DS_fr gd f2 (by decide)) ?_
  intro h3 f3 d3
  have F3 : mr_fr h h3 LC := fr_tr (fr_tr F1 f2 (by decide)) f3 (by decide)
  have F13 : mr_fr h1 h3 [3, 9, 10, 11, 12, 13, 14, 15, 16, 19] := fr_tr (fr_wk f2 (by decide)) f3 (by decide)
  have rk : rkok K' n := fun u hu => ⟨hm (wt E n) n u, by have := hm_lt (W := wt E n) hu; omega, hK' u hu⟩
  have cn : CN h3 E K' n (us1 us + 1) (pu us (fun i u => D (24 * i + u)) E) (pu us (fun i u => D (24 * i + 12 + u)) K) := ⟨fr_at F13 (by decide) g1, fr_at F13 (by decide) g2, fr_at f3 (by decide) k3, d3, gPc_fr p1 F13 (by decide)⟩
  have gs3 : gS h3 := gS_fr st.1 F3 (fun k hk hk2 => by
    have : k = 19 := by revert hk hk2; revert k; decide
    subst this
    obtain ⟨V, e⟩ := k19
    exact shp_12 (fr_at f3 (by decide) e) (by decide))
  obtain ⟨th, tt, tk, pl, va, fa, dn, dr, uf, e74⟩ := gM_fr st.2.2.2.2.2.2 F3 (by decide)
  have j77 := fr_at F3 (by decide) e77
  have j81 := fr_at F3 (by decide) e81
  obtain ⟨G, j85⟩ := gS_85 gs3
  simp only [S_rl_ranks, SEL, PF, mr_gf_O, mr_rc_O, Option.toList_some, Option.toList_none, List.cons_append, List.nil_append, b2i_0, b2i_1, b2i_a, a_00, a_11, ai_n, si_n, nI_1, q_rl_bit, mr_up_at, Nat.reduceLeDiff, Nat.reduceLT, Nat.reduceEqDiff, Nat.reduceAdd, if_true, if_false, Bool.true_eq_false, Bool.false_eq_true, Bool.true_and, Bool.false_and, Bool.and_true, Bool.and_false, i_10, i_01, i_00, not_true_eq_false, not_false_eq_true]
  rw [r_mo_ranks]
  simp only [S_mo_ranks_0, S_mo_ranks_1, e74, MO, SEL, PF, mr_gf_O, mr_rc_O, Option.toList_some, Option.toList_none, List.cons_append, List.nil_append, b2i_0, b2i_1, b2i_a, a_00, a_11, ai_n, si_n, nI_1, q_rl_bit, mr_up_at, Nat.reduceLeDiff, Nat.reduceLT, Nat.reduceEqDiff, Nat.reduceAdd, if_true, if_false, Bool.true_eq_false, Bool.false_eq_true, Bool.true_and, Bool.false_and, Bool.and_true, Bool.and_false, i_10, i_01, i_00, not_true_eq_false, not_false_eq_true]
  have f4 : mr_fr h3 (mr_up h3 74 (MO 0 (nI len) tt tk pl va fa (nI n) dn dr (nI us) (nI m) uf)) [74] := fr_up _ (fr_rf _ _) (by decide)
  refine q_mo_notes (us := us) (S := S) (D := D) hpc.1 (show (mr_up h3 74 (MO 0 (nI len) tt tk pl va fa (nI n) dn dr (nI us) (nI m) uf)).1 74 = _ from up_eq _ _ _) (fr_at f4 (by decide) j77) (fr_at f4 (by decide) j81) ?_
  intro h4 D' f5 n74 n81 hD'
  have n77 := fr_at f5 (by decide) (fr_at f4 (by decide) j77)
  simp only [S_mo_ranks_0, S_mo_ranks_1, n74, MO, SEL, PF, mr_gf_O, mr_rc_O, Option.toList_some, Option.toList_none, List.cons_append, List.nil_append, b2i_0, b2i_1, b2i_a, a_00, a_11, ai_n, si_n, nI_1, q_rl_bit, mr_up_at, Nat.reduceLeDiff, Nat.reduceLT, Nat.reduceEqDiff, Nat.reduceAdd, if_true, if_false, Bool.true_eq_false, Bool.false_eq_true, Bool.true_and, Bool.false_and, Bool.and_true, Bool.and_false, i_10, i_01, i_00, not_true_eq_false, not_false_eq_true]
  rw [← nI_0]
  refine l_mo_ranks1 (S := S) hE (fun u hu => (hS u hu).1) ⟨_, _, _, _, _, _, _, _, _, _, _, _, n74⟩ (v2 := .int 0) (v3 := .int 0) ?_ n 0 h4 _ _ (by omega) (by rw [fb_put_0]; exact n77) (fr_rf _ _)
  intro h5 v2 v3 f6 q77
  have q74 := fr_at f6 (by decide) n74
  simp only [S_mo_ranks_0, S_mo_ranks_1, q74, MO, SEL, PF, mr_gf_O, mr_rc_O, Option.toList_some, Option.toList_none, List.cons_append, List.nil_append, b2i_0, b2i_1, b2i_a, a_00, a_11, ai_n, si_n, nI_1, q_rl_bit, mr_up_at, Nat.reduceLeDiff, Nat.reduceLT, Nat.reduceEqDiff, Nat.reduceAdd, if_true, if_false, Bool.true_eq_false, Bool.false_eq_true, Bool.true_and, Bool.false_and, Bool.and_true, Bool.and_false, i_10, i_01, i_00, not_true_eq_false, not_false_eq_true]
  have hS' : ∀ w, w < n → fb_put S (fun u => nI (hm (wt E n) n u)) 12 n w = E w ∧ fb_put S (fun u => nI (hm (wt E n) n u)) 12 n (12 + w) = K' w := fun w hw => by
    rw [fb_put_out (by omega), fb_put_in (by omega) (by omega), hK' w hw, show 12 + w - 12 = w by omega]
    exact ⟨(hS w hw).1, rfl⟩
  refine q_mo_labels2 (g := G) hE hS' (fun w hw => ?_) ⟨_, _, _, _, _, _, _, _, _, _, _, _, q74⟩ (fr_at f6 (by decide) (fr_at f5 (by decide) (fr_at f4 (by decide) j85))) q77 ?_
  · obtain ⟨j, hj, e⟩ := rk w hw
    rw [(hS' w hw).2, e]
    exact nI_le (b := 99) (by omega) (by decide)
  · intro h6 A f7 r85 hA
    simp only [S_mo_ranks_0, S_mo_ranks_1, SEL, PF, mr_gf_O, mr_rc_O, Option.toList_some, Option.toList_none, List.cons_append, List.nil_append, b2i_0, b2i_1, b2i_a, a_00, a_11, ai_n, si_n, nI_1, q_rl_bit, mr_up_at, Nat.reduceLeDiff, Nat.reduceLT, Nat.reduceEqDiff, Nat.reduceAdd, if_true, if_false, Bool.true_eq_false, Bool.false_eq_true, Bool.true_and, Bool.false_and, Bool.and_true, Bool.and_false, i_10, i_01, i_00, not_true_eq_false, not_false_eq_true]
    have FM : mr_fr h3 h6 LM := fr_tr (fr_tr (fr_tr (fr_wk f4 (by decide)) f5 (by decide)) f6 (by decide)) f7 (by decide)
    refine ⟨⟨_, rfl, rfl⟩, ⟨_, _, _, _, _, _, push_end st e81 hS F3 gs3 cn hE ⟨rk, St_ns st⟩ FM ⟨_, r85⟩ ⟨_, _, _, _, _, _, _, _, _, fr_at f7 (by decide) q74⟩ (fr_at f7 (by decide) q77) hS' (fr_at f7 (by decide) (fr_at f6 (by decide) n81)) hD'⟩, FM.1.trans F3.1⟩
end RANKS
