/-! comes, hub, edge, node, count -/
theorem nz_iff {x : Int32} : ¬ x = 0 ↔ ∃ i, i < 32 ∧ bt x i = true := by
  constructor
  · intro h
    by_cases hx : ∃ i, i < 32 ∧ bt x i = true
    · exact hx
    · refine absurd (b_ext fun i hi => ?_) h
      rw [b_0]
      cases e : bt x i with
      | false => rfl
      | true => exact absurd ⟨i, hi, e⟩ hx
  · rintro ⟨i, hi, e⟩ rfl
    rw [b_0] at e
    exact absurd e (by decide)
theorem in_lt {x : Int32} {b : Nat} (hb : b < 2 ^ 31) (h : ¬ x < 0 ∧ ¬ nI b < x) : ∃ j, j ≤ b ∧ x = nI j := by
  obtain ⟨j, h1, rfl⟩ := nI_of h.1
  refine ⟨j, ?_, rfl⟩
  rcases Nat.lt_or_ge b j with z | z
  · exact absurd (nI_lt z h1) h.2
  · exact z
theorem cover {E K : Nat → Int32} {n u v : Nat} (hE : nt E n) (hu : u < n) (hv : v < n) : (¬ Ot E K n u &&& In E K n v = 0) ↔ rr E n u v = true := by
  have hn := hE.1
  rw [nz_iff]
  constructor
  · rintro ⟨i, hi, e⟩
    rw [b_and, show bt (Ot E K n u) i = _ from mk_bt (by omega) i, show bt (In E K n v) i = _ from mk_bt (by omega) i] at e
    unfold otb inb at e
    simp only [Bool.and_eq_true, decide_eq_true_eq] at e
    exact rr_tr e.1.1 e.1.2.2.1 e.2.2.2.1
  · intro h
    obtain ⟨w, hw, hmin, -⟩ := fb_low (fun w => if rr E n u w && rr E n w v then (K w).toInt else 2147483648) (show 0 < n by omega)
    have hu1 : rr E n u w = true ∧ rr E n w v = true := by
      have h1 := hmin u hu
      simp only [rr_refl hE hu, h, Bool.and_self, if_true] at h1
      by_cases e : (rr E n u w && rr E n w v) = true
      · simpa using e
      · simp only [e, if_false] at h1
        have := (fb_rng (K u)).2
        simp only [Bool.false_eq_true, if_false] at h1
        omega
    have low : ∀ j, j < n → rr E n u j = true → rr E n j v = true → K w ≤ K j := by
      intro j hj h1 h2
      have h3 := hmin j hj
      simp only [hu1.1, hu1.2, h1, h2, Bool.and_self, if_true] at h3
      exact (fa_le _ _).mpr h3
    have hN := Nm_lt hE hw
    have hr := Nm_rg hE hw
    have hr2 : rr E n w (Nm E n w) = true ∧ rr E n (Nm E n w) w = true := by
      unfold rg at hr
      simpa using hr
    have hk : rkk E K n (Nm E n w) ≤ K w := rkk_le hw (by rw [rg_symm]; exact hr)
    refine ⟨Nm E n w, by omega, ?_⟩
    rw [b_and, show bt (Ot E K n u) (Nm E n w) = _ from mk_bt (by omega) _, show bt (In E K n v) (Nm E n w) = _ from mk_bt (by omega) _]
    unfold otb inb
    have lele : ∀ {a b c : Int32}, a ≤ b → b ≤ c → a ≤ c := fun {a b c} h1 h2 => by
      rw [fa_le] at *
      omega
    simp only [Bool.and_eq_true, decide_eq_true_eq]
    refine ⟨⟨hN, ns_Nm hE hw, rr_tr hw hu1.1 hr2.1, ?_⟩, hN, ns_Nm hE hw, rr_tr hw hr2.2 hu1.2, ?_⟩
    · rw [z_mask hE]
      rintro j hj ⟨h1, h2, h3⟩
      exact h3 (lele hk (low j hj h1 (rr_tr hw (rr_tr hN h2 hr2.2) hu1.2)))
    · rw [z_mask hE]
      rintro j hj ⟨h1, h2, h3⟩
      exact h3 (lele hk (low j hj (rr_tr hw hu1.1 (rr_tr hN hr2.1 h1)) h2))
/-- the lowest ranked of some: the first of these -/
def lrO (p : Nat → Bool) (R : Nat → Int32) : Nat → Option Nat
  | 0 => none
  | k + 1 => match lrO p R k with
    | none => if p k then some k else none
    | some j => if p k ∧ ¬ R j ≤ R k then some k else some j
theorem lrO_lt (p : Nat → Bool) (R : Nat → Int32) : ∀ k j, lrO p R k = some j → j < k
  | 0, j, h => by simp [lrO] at h
  | k + 1, j, h => by
    unfold lrO at h
    have ih := lrO_lt p R k
    cases e : lrO p R k with
    | none =>
      rw [e] at h
      dsimp only at h
      split at h
      · cases h; omega
      · cases h
    | some i =>
      rw [e] at h
      dsimp only at h
      have := ih i e
      split at h
      · cases h; omega
      · cases h; omega
theorem lrO_cong {p q : Nat → Bool} {R L : Nat → Int32} : ∀ {k : Nat}, (∀ j, j < k → p j = q j) → (∀ j, j < k → R j = L j) → lrO p R k = lrO q L k
  | 0, _, _ => rfl
  | k + 1, h1, h2 => by
    have ih := lrO_cong (k := k) (fun j hj => h1 j (by omega)) (fun j hj => h2 j (by omega))
    unfold lrO
    rw [ih, h1 k (by omega), h2 k (by omega)]
    cases e : lrO q L k with
    | none => rfl
    | some i => 
      have := lrO_lt q L k i e
      dsimp only
      rw [h2 i (by omega)]
def oI : Option Nat → Int32
  | none => -9
  | some j => nI j
theorem oI_s (j : Nat) : oI (some j) = nI j := rfl
theorem oI_n : oI none = -9 := rfl
theorem nI_m9 {j : Nat} (h : j < 12) : ¬ nI j = -9 := by
  revert j; decide +kernel
section READS
variable {h : mr_h} {Q : Option Value → mr_h → Prop} {n len us m : Nat} {E K : Nat → Int32}
theorem l_re_lowestRanked (hn : n ≤ 12) {nm x : Int32} {R : Nat → Int32} (e9 : h.1 9 = RE n nm) (e15 : h.1 15 = mr_I 12 R) : ∀ (d k : Nat), k + d = n → mr_wp 76 5 [.ref 9, .int x, .int (oI (lrO (bt x) R k)), .int (nI k)] [] h Q = Q (some (.int (oI (lrO (bt x) R n)))) h := by
  intro d
  induction d with
  | zero =>
    intro k hk
    have : k = n := by omega
    subst this
    rw [s_re_lowestRanked_5]
    simp only [S_re_lowestRanked, e9, RE, SEL, PF, mr_gf_O, mr_rc_O, Option.toList_some, Option.toList_none, List.cons_append, List.nil_append, b2i_0, b2i_1, b2i_a, a_00, a_11, ai_n, si_n, nI_1, q_rl_bit, mr_up_at, Nat.reduceLeDiff, Nat.reduceLT, Nat.reduceEqDiff, Nat.reduceAdd, if_true, if_false, if_pos (nI_le (Nat.le_refl k) (by omega))]
  | succ d ih =>
    intro k hk
    have c1 : ¬ nI n ≤ nI k := nI_ge (by omega) (by omega)
    have hk12 : k < 12 := by omega
    rw [s_re_lowestRanked_5]
    simp only [S_re_lowestRanked, e9, RE, SEL, PF, mr_gf_O, mr_rc_O, Option.toList_some, Option.toList_none, List.cons_append, List.nil_append, b2i_0, b2i_1, b2i_a, a_00, a_11, ai_n, si_n, nI_1, q_rl_bit, mr_up_at, Nat.reduceLeDiff, Nat.reduceLT, Nat.reduceEqDiff, Nat.reduceAdd, if_true, if_false, if_neg c1, q_rl_holds (show k < 32 by omega)]
    have e1 : lrO (bt x) R (k + 1) = match lrO (bt x) R k with
      | none => if bt x k then some k else none
      | some j => if bt x k ∧ ¬ R j ≤ R k then some k else some j := rfl
    cases b1 : bt x k with
    | false =>
      have e2 : lrO (bt x) R (k + 1) = lrO (bt x) R k := by
        rw [e1]
        cases e3 : lrO (bt x) R k <;> simp [b1]
      simp only [if_true]
      rw [← e2]
      exact ih (k + 1) (by omega)
    | true =>
      cases e3 : lrO (bt x) R k with
      | none =>
        rw [e3] at e1
        simp only [b1, if_true] at e1
        simp only [oI_s, oI_n, Bool.true_eq_false, if_false, if_true]
        have := ih (k + 1) (by omega)
        rw [e1] at this
        exact this
      | some j =>
        have hj := lrO_lt _ _ _ _ e3
        have hj12 : j < 12 := by omega
        rw [e3] at e1
        simp only [b1, true_and] at e1
        simp only [oI_s, oI_n, Bool.true_eq_false, if_false, nI_m9 hj12, e15, ai_n hj12 (show 12 ≤ 1000 by decide), ai_n hk12 (show 12 ≤ 1000 by decide)]
        have := ih (k + 1) (by omega)
        by_cases c2 : R j ≤ R k
        · rw [e1, if_neg (by simpa using c2)] at this
          rw [if_pos c2]
          exact this
        · rw [e1, if_pos c2] at this
          rw [if_neg c2]
          exact this
theorem q_re_lowestRanked (hn : n ≤ 12) {nm x : Int32} {R : Nat → Int32} (e9 : h.1 9 = RE n nm) (e15 : h.1 15 = mr_I 12 R) : mr_run 76 [.ref 9, .int x] h Q = Q (some (.int (oI (lrO (bt x) R n)))) h := by
  rw [r_re_lowestRanked]
  simp only [S_re_lowestRanked]
  have := l_re_lowestRanked (x := x) (Q := Q) hn e9 e15 n 0 (by omega)
  rw [nI_0] at this
  exact this
theorem l_mo_hub (hE : nt E n) {A f : Nat → Int32} (hA : ∀ j, j < n → A j = RR E n j) (hm : MN h n) (e85 : h.1 85 = mr_I 12 A) (e77 : h.1 77 = mr_I 24 f) (hK : ∀ u, u < n → f (12 + u) ≤ 99) {v1 v2 v3 : Value} {x : Int32} : ∀ (d k : Nat), k + d = n → mr_wp 163 62 [.ref 74, v1, v2, v3, .int x, .int (oI (lrO (bt x) (rkk E (fun k => f (12 + k)) n) k)), .int (nI k)] [] h Q = Q (some (.int (oI (lrO (bt x) (rkk E (fun k => f (12 + k)) n) n)))) h := by
  obtain ⟨th, ty, tt, tk, pl, va, fa, dn, dr, um, sn, uf, e74⟩ := id hm
  have hn := hE.1
  generalize hR : rkk E (fun k => f (12 + k)) n = R
  intro d
  induction d with
  | zero =>
    intro k hk
    have : k = n := by omega
    subst this
    rw [s_mo_hub_62]
    simp only [S_mo_hub_0, S_mo_hub_1, e74, MO, SEL, PF, mr_gf_O, mr_rc_O, Option.toList_some, Option.toList_none, List.cons_append, List.nil_append, b2i_0, b2i_1, b2i_a, a_00, a_11, ai_n, si_n, nI_1, q_rl_bit, mr_up_at, Nat.reduceLeDiff, Nat.reduceLT, Nat.reduceEqDiff, Nat.reduceAdd, if_true, if_false, if_pos (nI_le (Nat.le_refl k) (by omega))]
  | succ d ih =>
    intro k hk
    have c1 : ¬ nI n ≤ nI k := nI_ge (by omega) (by omega)
    have hk12 : k < 12 := by omega
    rw [s_mo_hub_62]
    simp only [S_mo_hub_0, S_mo_hub_1, e74, MO, SEL, PF, mr_gf_O, mr_rc_O, Option.toList_some, Option.toList_none, List.cons_append, List.nil_append, b2i_0, b2i_1, b2i_a, a_00, a_11, ai_n, si_n, nI_1, q_rl_bit, mr_up_at, Nat.reduceLeDiff, Nat.reduceLT, Nat.reduceEqDiff, Nat.reduceAdd, if_true, if_false, if_neg c1, q_mo_has (show k < 32 by omega)]
    have e1 : lrO (bt x) R (k + 1) = match lrO (bt x) R k with
      | none => if bt x k then some k else none
      | some j => if bt x k ∧ ¬ R j ≤ R k then some k else some j := rfl
    cases b1 : bt x k with
    | false =>
      have e2 : lrO (bt x) R (k + 1) = lrO (bt x) R k := by
        rw [e1]
        cases e3 : lrO (bt x) R k <;> simp [b1]
      simp only [if_true]
      rw [← e2]
      exact ih (k + 1) (by omega)
    | true =>
      cases e3 : lrO (bt x) R k with
      | none =>
        rw [e3] at e1
        simp only [b1, if_true] at e1
        simp only [oI_s, oI_n, Bool.true_eq_false, if_false, if_true]
        have := ih (k + 1) (by omega)
        rw [e1] at this
        exact this
      | some j =>
        have hj := lrO_lt _ _ _ _ e3
        have hj12 : j < 12 := by omega
        rw [e3] at e1
        simp only [b1, true_and] at e1
        simp only [S_mo_hub_0, S_mo_hub_1, e74, MO, SEL, PF, mr_gf_O, mr_rc_O, Option.toList_some, Option.toList_none, List.cons_append, List.nil_append, b2i_0, b2i_1, b2i_a, a_00, a_11, ai_n, si_n, nI_1, q_rl_bit, mr_up_at, Nat.reduceLeDiff, Nat.reduceLT, Nat.reduceEqDiff, Nat.reduceAdd, if_true, if_false, oI_s, Bool.true_eq_false, nI_m9 hj12, q_mo_ringRank hE hA (show j < n by omega) hm e85 e77 hK, q_mo_ringRank hE hA (show k < n by omega) hm e85 e77 hK, hR]
        have := ih (k + 1) (by omega)
        by_cases c2 : R j ≤ R k
        · rw [e1, if_neg (by simpa using c2)] at this
          rw [if_pos c2]
          exact this
        · rw [e1, if_pos c2] at this
          rw [if_neg c2]
          exact this
theorem b_comes (hi : Inv h) (u v : Int32) : Both 74 162 [.int u, .int v] h := by
  obtain ⟨n, len, us, m, E, K, st⟩ := hi
  have hE := St_E st
  have hn := hE.1
  cases hu : inN u n with
  | false =>
    refine both_ro st (-1) ?_ ?_
    · intro h Q st kk
      rw [r_rl_comes]
      simp only [S_rl_comes, St_0 st, RLO, q_rl_areNodes (St_0 st) (St_1 st), hu, SEL, PF, mr_gf_O, mr_rc_O, Option.toList_some, Option.toList_none, List.cons_append, List.nil_append, b2i_0, b2i_1, b2i_a, a_00, a_11, ai_n, si_n, nI_1, q_rl_bit, mr_up_at, Nat.reduceLeDiff, Nat.reduceLT, Nat.reduceEqDiff, Nat.reduceAdd, if_true, if_false, Bool.false_and]
      exact kk h st rfl
    · intro h Q st kk
      obtain ⟨th, tt, tk, pl, va, fa, dn, dr, uf, e74⟩ := id st.2.2.2.2.2.2
      rw [r_mo_comes]
      simp only [S_mo_comes, e74, MO, SEL, PF, mr_gf_O, mr_rc_O, Option.toList_some, Option.toList_none, List.cons_append, List.nil_append, b2i_0, b2i_1, b2i_a, a_00, a_11, ai_n, si_n, nI_1, q_rl_bit, mr_up_at, Nat.reduceLeDiff, Nat.reduceLT, Nat.reduceEqDiff, Nat.reduceAdd, if_true, if_false]
      refine St_th (k := fun hh => mr_run 132 [.ref 74, .int u] hh _) st (fun h2 s2 e2 => ?_) e74 rfl
      simp only [S_mo_comes, q_mo_isNode hn (St_n st) (St_M s2), hu, SEL, PF, mr_gf_O, mr_rc_O, Option.toList_some, Option.toList_none, List.cons_append, List.nil_append, b2i_0, b2i_1, b2i_a, a_00, a_11, ai_n, si_n, nI_1, q_rl_bit, mr_up_at, Nat.reduceLeDiff, Nat.reduceLT, Nat.reduceEqDiff, Nat.reduceAdd, if_true, if_false]
      exact kk h2 s2 e2
  | true =>
    cases hv : inN v n with
    | false =>
      refine both_ro st (-1) ?_ ?_
      · intro h Q st kk
        rw [r_rl_comes]
        simp only [S_rl_comes, St_0 st, RLO, q_rl_areNodes (St_0 st) (St_1 st), hu, hv, SEL, PF, mr_gf_O, mr_rc_O, Option.toList_some, Option.toList_none, List.cons_append, List.nil_append, b2i_0, b2i_1, b2i_a, a_00, a_11, ai_n, si_n, nI_1, q_rl_bit, mr_up_at, Nat.reduceLeDiff, Nat.reduceLT, Nat.reduceEqDiff, Nat.reduceAdd, if_true, if_false, Bool.true_and]
        exact kk h st rfl
      · intro h Q st kk
        obtain ⟨th, tt, tk, pl, va, fa, dn, dr, uf, e74⟩ := id st.2.2.2.2.2.2
        rw [r_mo_comes]
        simp only [S_mo_comes, e74, MO, SEL, PF, mr_gf_O, mr_rc_O, Option.toList_some, Option.toList_none, List.cons_append, List.nil_append, b2i_0, b2i_1, b2i_a, a_00, a_11, ai_n, si_n, nI_1, q_rl_bit, mr_up_at, Nat.reduceLeDiff, Nat.reduceLT, Nat.reduceEqDiff, Nat.reduceAdd, if_true, if_false]
        refine St_th (k := fun hh => mr_run 132 [.ref 74, .int u] hh _) st (fun h2 s2 e2 => ?_) e74 rfl
        obtain ⟨th, tt, tk, pl, va, fa, dn, dr, uf, g74⟩ := id s2.2.2.2.2.2.2
        simp only [S_mo_comes, q_mo_isNode hn (St_n st) (St_M s2), hu, hv, SEL, PF, mr_gf_O, mr_rc_O, Option.toList_some, Option.toList_none, List.cons_append, List.nil_append, b2i_0, b2i_1, b2i_a, a_00, a_11, ai_n, si_n, nI_1, q_rl_bit, mr_up_at, Nat.reduceLeDiff, Nat.reduceLT, Nat.reduceEqDiff, Nat.reduceAdd, if_true, if_false, Bool.true_eq_false, Bool.false_eq_true, Bool.true_and, Bool.false_and, Bool.and_true, Bool.and_false, i_10, i_01, i_00, not_true_eq_false, not_false_eq_true, g74, MO]
        exact kk h2 s2 e2
    | true =>
      obtain ⟨a, ha, rfl⟩ := inN_yes hn hu
      obtain ⟨b, hb, rfl⟩ := inN_yes hn hv
      have ha12 : a < 12 := by omega
      have hb12 : b < 12 := by omega
      refine both_ro st (b2i (rr E n a b)) ?_ ?_
      · intro h Q st kk
        obtain ⟨e9, A, B, C, I, O, R, L, e10, e11, e12, e13, e14, e15, e16, hA, hB, hC, hI, hO, hR, hL⟩ := St_D st
        rw [r_rl_comes]
        simp only [S_rl_comes, St_0 st, RLO, q_rl_areNodes (St_0 st) (St_1 st), hu, hv, SEL, PF, mr_gf_O, mr_rc_O, Option.toList_some, Option.toList_none, List.cons_append, List.nil_append, b2i_0, b2i_1, b2i_a, a_00, a_11, ai_n, si_n, nI_1, q_rl_bit, mr_up_at, Nat.reduceLeDiff, Nat.reduceLT, Nat.reduceEqDiff, Nat.reduceAdd, if_true, if_false, Bool.true_and, Bool.true_eq_false, e9, RE, e13, e14, ha12, hb12, hI b hb, hO a ha]
        by_cases c : Ot E K n a &&& In E K n b = 0
        · have : rr E n a b = false := by
            cases e : rr E n a b with
            | false => rfl
            | true => exact absurd c ((cover hE ha hb).mpr e)
          simp only [c, if_true]
          have := kk h st rfl
          simp only [*] at this
          exact this
        · have := (cover hE ha hb).mp c
          simp only [c, if_false]
          have := kk h st rfl
          simp only [*] at this
          exact this
      · intro h Q st kk
        obtain ⟨th, tt, tk, pl, va, fa, dn, dr, uf, e74⟩ := id st.2.2.2.2.2.2
        rw [r_mo_comes]
        simp only [S_mo_comes, e74, MO, SEL, PF, mr_gf_O, mr_rc_O, Option.toList_some, Option.toList_none, List.cons_append, List.nil_append, b2i_0, b2i_1, b2i_a, a_00, a_11, ai_n, si_n, nI_1, q_rl_bit, mr_up_at, Nat.reduceLeDiff, Nat.reduceLT, Nat.reduceEqDiff, Nat.reduceAdd, if_true, if_false]
        refine St_th (k := fun hh => mr_run 132 [.ref 74, .int (nI a)] hh _) st (fun h2 s2 e2 => ?_) e74 rfl
        obtain ⟨th, tt, tk, pl, va, fa, dn, dr, uf, g74⟩ := id s2.2.2.2.2.2.2
        simp only [S_mo_comes, q_mo_isNode hn (St_n st) (St_M s2), hu, hv, SEL, PF, mr_gf_O, mr_rc_O, Option.toList_some, Option.toList_none, List.cons_append, List.nil_append, b2i_0, b2i_1, b2i_a, a_00, a_11, ai_n, si_n, nI_1, q_rl_bit, mr_up_at, Nat.reduceLeDiff, Nat.reduceLT, Nat.reduceEqDiff, Nat.reduceAdd, if_true, if_false, Bool.true_eq_false, g74, MO]
        refine st_comesBy s2 (fun h3 A s3 e3 e85 hA => ?_)
        obtain ⟨th, tt, tk, pl, va, fa, dn, dr, uf, k74⟩ := id s3.2.2.2.2.2.2
        simp only [S_mo_comes, k74, MO, SEL, PF, mr_gf_O, mr_rc_O, Option.toList_some, Option.toList_none, List.cons_append, List.nil_append, b2i_0, b2i_1, b2i_a, a_00, a_11, ai_n, si_n, nI_1, q_rl_bit, mr_up_at, Nat.reduceLeDiff, Nat.reduceLT, Nat.reduceEqDiff, Nat.reduceAdd, if_true, if_false, e85, ha12, hA a ha, shr1 (show b < 32 by omega)]
        exact kk h3 s3 (e3.trans e2)
theorem b_hub (hi : Inv h) (u v : Int32) : Both 75 163 [.int u, .int v] h := by
  obtain ⟨n, len, us, m, E, K, st⟩ := hi
  have hE := St_E st
  have hn := hE.1
  by_cases huv : (inN u n && inN v n) = true
  · have hu : inN u n = true := by revert huv; cases inN u n <;> simp
    have hv : inN v n = true := by revert huv; cases inN v n <;> simp
    obtain ⟨a, ha, rfl⟩ := inN_yes hn hu
    obtain ⟨b, hb, rfl⟩ := inN_yes hn hv
    have ha12 : a < 12 := by omega
    have hb12 : b < 12 := by omega
    refine both_ro st (oI (lrO (bt (Ot E K n a &&& In E K n b)) (rkk E K n) n)) ?_ ?_
    · intro h Q st kk
      obtain ⟨e9, A, B, C, I, O, R, L, e10, e11, e12, e13, e14, e15, e16, hA, hB, hC, hI, hO, hR, hL⟩ := St_D st
      rw [r_rl_hub]
      simp only [S_rl_hub, St_0 st, RLO, q_rl_areNodes (St_0 st) (St_1 st), hu, hv, SEL, PF, mr_gf_O, mr_rc_O, Option.toList_some, Option.toList_none, List.cons_append, List.nil_append, b2i_0, b2i_1, b2i_a, a_00, a_11, ai_n, si_n, nI_1, q_rl_bit, mr_up_at, Nat.reduceLeDiff, Nat.reduceLT, Nat.reduceEqDiff, Nat.reduceAdd, if_true, if_false, Bool.true_eq_false, Bool.false_eq_true, Bool.true_and, Bool.false_and, Bool.and_true, Bool.and_false, i_10, i_01, i_00, not_true_eq_false, not_false_eq_true, e9, RE, e13, e14, ha12, hb12, hI b hb, hO a ha]
      rw [q_re_lowestRanked hn e9 e15, lrO_cong (fun _ _ => rfl) hR]
      simp only [S_rl_hub, SEL, PF, mr_gf_O, mr_rc_O, Option.toList_some, Option.toList_none, List.cons_append, List.nil_append, b2i_0, b2i_1, b2i_a, a_00, a_11, ai_n, si_n, nI_1, q_rl_bit, mr_up_at, Nat.reduceLeDiff, Nat.reduceLT, Nat.reduceEqDiff, Nat.reduceAdd, if_true, if_false, Bool.true_eq_false, Bool.false_eq_true, Bool.true_and, Bool.false_and, Bool.and_true, Bool.and_false, i_10, i_01, i_00, not_true_eq_false, not_false_eq_true]
      exact kk h st rfl
    · intro h Q st kk
      obtain ⟨th, tt, tk, pl, va, fa, dn, dr, uf, e74⟩ := id st.2.2.2.2.2.2
      rw [r_mo_hub]
      simp only [S_mo_hub_0, S_mo_hub_1, e74, MO, SEL, PF, mr_gf_O, mr_rc_O, Option.toList_some, Option.toList_none, List.cons_append, List.nil_append, b2i_0, b2i_1, b2i_a, a_00, a_11, ai_n, si_n, nI_1, q_rl_bit, mr_up_at, Nat.reduceLeDiff, Nat.reduceLT, Nat.reduceEqDiff, Nat.reduceAdd, if_true, if_false, Bool.true_eq_false, Bool.false_eq_true, Bool.true_and, Bool.false_and, Bool.and_true, Bool.and_false, i_10, i_01, i_00, not_true_eq_false, not_false_eq_true]
      refine St_th (k := fun hh => mr_run 132 [.ref 74, .int (nI a)] hh _) st (fun h2 s2 e2 => ?_) e74 rfl
      obtain ⟨th, tt, tk, pl, va, fa, dn, dr, uf, g74⟩ := id s2.2.2.2.2.2.2
      simp only [S_mo_hub_0, S_mo_hub_1, q_mo_isNode hn (St_n st) (St_M s2), hu, hv, SEL, PF, mr_gf_O, mr_rc_O, Option.toList_some, Option.toList_none, List.cons_append, List.nil_append, b2i_0, b2i_1, b2i_a, a_00, a_11, ai_n, si_n, nI_1, q_rl_bit, mr_up_at, Nat.reduceLeDiff, Nat.reduceLT, Nat.reduceEqDiff, Nat.reduceAdd, if_true, if_false, Bool.true_eq_false, Bool.false_eq_true, Bool.true_and, Bool.false_and, Bool.and_true, Bool.and_false, i_10, i_01, i_00, not_true_eq_false, not_false_eq_true, g74, MO]
      refine st_comesBy s2 (fun h3 A s3 e3 e85 hA => ?_)
      obtain ⟨th, tt, tk, pl, va, fa, dn, dr, uf, k74⟩ := id s3.2.2.2.2.2.2
      obtain ⟨S, e77, hS⟩ := St_77 s3
      have h99 := St_99 s3 hS
      have hK : ∀ k, k < n → (fun k => S (12 + k)) k = K k := fun k hk => (hS k hk).2
      simp only [S_mo_hub_0, S_mo_hub_1, k74, MO, SEL, PF, mr_gf_O, mr_rc_O, Option.toList_some, Option.toList_none, List.cons_append, List.nil_append, b2i_0, b2i_1, b2i_a, a_00, a_11, ai_n, si_n, nI_1, q_rl_bit, mr_up_at, Nat.reduceLeDiff, Nat.reduceLT, Nat.reduceEqDiff, Nat.reduceAdd, if_true, if_false, Bool.true_eq_false, Bool.false_eq_true, Bool.true_and, Bool.false_and, Bool.and_true, Bool.and_false, i_10, i_01, i_00, not_true_eq_false, not_false_eq_true, q_mo_names hE hA (St_M s3) e85, q_mo_outOf hE hA ha (St_M s3) e85 e77 h99, q_mo_inOf hE hA hb (St_M s3) e85 e77 h99, In_cong hK, Ot_cong hK]
      have := l_mo_hub (Q := Q) hE hA (St_M s3) e85 e77 h99 (v1 := .int (nI a)) (v2 := .int (nI b)) (v3 := .int (Ns E n)) (x := Ot E K n a &&& In E K n b) n 0 (by omega)
      rw [nI_0] at this
      refine this.mpr ?_
      rw [lrO_cong (fun _ _ => rfl) (fun j hj => rkk_cong hK hj)]
      exact kk h3 s3 (e3.trans e2)
  · have huv' : (inN u n && inN v n) = false := by simpa using huv
    refine both_ro st (-1) ?_ ?_
    · intro h Q st kk
      rw [r_rl_hub]
      simp only [S_rl_hub, St_0 st, RLO, q_rl_areNodes (St_0 st) (St_1 st), huv', SEL, PF, mr_gf_O, mr_rc_O, Option.toList_some, Option.toList_none, List.cons_append, List.nil_append, b2i_0, b2i_1, b2i_a, a_00, a_11, ai_n, si_n, nI_1, q_rl_bit, mr_up_at, Nat.reduceLeDiff, Nat.reduceLT, Nat.reduceEqDiff, Nat.reduceAdd, if_true, if_false, Bool.true_eq_false, Bool.false_eq_true, Bool.true_and, Bool.false_and, Bool.and_true, Bool.and_false, i_10, i_01, i_00, not_true_eq_false, not_false_eq_true]
      exact kk h st rfl
    · intro h Q st kk
      obtain ⟨th, tt, tk, pl, va, fa, dn, dr, uf, e74⟩ := id st.2.2.2.2.2.2
      rw [r_mo_hub]
      simp only [S_mo_hub_0, S_mo_hub_1, e74, MO, SEL, PF, mr_gf_O, mr_rc_O, Option.toList_some, Option.toList_none, List.cons_append, List.nil_append, b2i_0, b2i_1, b2i_a, a_00, a_11, ai_n, si_n, nI_1, q_rl_bit, mr_up_at, Nat.reduceLeDiff, Nat.reduceLT, Nat.reduceEqDiff, Nat.reduceAdd, if_true, if_false, Bool.true_eq_false, Bool.false_eq_true, Bool.true_and, Bool.false_and, Bool.and_true, Bool.and_false, i_10, i_01, i_00, not_true_eq_false, not_false_eq_true]
      refine St_th (k := fun hh => mr_run 132 [.ref 74, .int u] hh _) st (fun h2 s2 e2 => ?_) e74 rfl
      obtain ⟨th, tt, tk, pl, va, fa, dn, dr, uf, g74⟩ := id s2.2.2.2.2.2.2
      simp only [S_mo_hub_0, S_mo_hub_1, q_mo_isNode hn (St_n st) (St_M s2), SEL, PF, mr_gf_O, mr_rc_O, Option.toList_some, Option.toList_none, List.cons_append, List.nil_append, b2i_0, b2i_1, b2i_a, a_00, a_11, ai_n, si_n, nI_1, q_rl_bit, mr_up_at, Nat.reduceLeDiff, Nat.reduceLT, Nat.reduceEqDiff, Nat.reduceAdd, if_true, if_false, Bool.true_eq_false, Bool.false_eq_true, Bool.true_and, Bool.false_and, Bool.and_true, Bool.and_false, i_10, i_01, i_00, not_true_eq_false, not_false_eq_true, g74, MO]
      have := kk h2 s2 e2
      cases hu : inN u n with
      | false => simpa only [hu, SEL, PF, mr_gf_O, mr_rc_O, Option.toList_some, Option.toList_none, List.cons_append, List.nil_append, b2i_0, b2i_1, b2i_a, a_00, a_11, ai_n, si_n, nI_1, q_rl_bit, mr_up_at, Nat.reduceLeDiff, Nat.reduceLT, Nat.reduceEqDiff, Nat.reduceAdd, if_true, if_false, Bool.true_eq_false, Bool.false_eq_true, Bool.true_and, Bool.false_and, Bool.and_true, Bool.and_false, i_10, i_01, i_00, not_true_eq_false, not_false_eq_true] using this
      | true =>
        have hv : inN v n = false := by simpa [hu] using huv'
        simpa only [hu, hv, SEL, PF, mr_gf_O, mr_rc_O, Option.toList_some, Option.toList_none, List.cons_append, List.nil_append, b2i_0, b2i_1, b2i_a, a_00, a_11, ai_n, si_n, nI_1, q_rl_bit, mr_up_at, Nat.reduceLeDiff, Nat.reduceLT, Nat.reduceEqDiff, Nat.reduceAdd, if_true, if_false, Bool.true_eq_false, Bool.false_eq_true, Bool.true_and, Bool.false_and, Bool.and_true, Bool.and_false, i_10, i_01, i_00, not_true_eq_false, not_false_eq_true] using this
theorem b_edge (hi : Inv h) (u v : Int32) : Both 45 143 [.int u, .int v] h := by
  obtain ⟨n, len, us, m, E, K, st⟩ := hi
  have hE := St_E st
  have hn := hE.1
  cases huv : (inN u n && inN v n && !decide (u = v)) with
  | true =>
    have hu : inN u n = true := by revert huv; cases inN u n <;> simp
    have hv : inN v n = true := by revert huv; cases inN v n <;> simp
    obtain ⟨a, ha, rfl⟩ := inN_yes hn hu
    obtain ⟨b, hb, rfl⟩ := inN_yes hn hv
    have ha12 : a < 12 := by omega
    have hb32 : b < 32 := by omega
    have ha24 : a < 24 := by omega
    refine both_ro st (b2i (bt (E a) b)) ?_ ?_
    · intro h Q st kk
      rw [r_rl_edge]
      simp only [S_rl_edge, St_0 st, RLO, q_rl_areTwoNodes (St_0 st) (St_1 st), huv, SEL, PF, mr_gf_O, mr_rc_O, Option.toList_some, Option.toList_none, List.cons_append, List.nil_append, b2i_0, b2i_1, b2i_a, a_00, a_11, ai_n, si_n, nI_1, q_rl_bit, mr_up_at, Nat.reduceLeDiff, Nat.reduceLT, Nat.reduceEqDiff, Nat.reduceAdd, if_true, if_false, Bool.true_eq_false, Bool.false_eq_true, Bool.true_and, Bool.false_and, Bool.and_true, Bool.and_false, i_10, i_01, i_00, not_true_eq_false, not_false_eq_true, q_ne_has (St_1 st) (St_2 st) ha12 hb32, St_1 st, NE]
      have := kk h st rfl
      cases e : bt (E a) b <;> simpa [e, b2i] using this
    · intro h Q st kk
      obtain ⟨th, tt, tk, pl, va, fa, dn, dr, uf, e74⟩ := id st.2.2.2.2.2.2
      rw [r_mo_edge]
      simp only [S_mo_edge, e74, MO, SEL, PF, mr_gf_O, mr_rc_O, Option.toList_some, Option.toList_none, List.cons_append, List.nil_append, b2i_0, b2i_1, b2i_a, a_00, a_11, ai_n, si_n, nI_1, q_rl_bit, mr_up_at, Nat.reduceLeDiff, Nat.reduceLT, Nat.reduceEqDiff, Nat.reduceAdd, if_true, if_false, Bool.true_eq_false, Bool.false_eq_true, Bool.true_and, Bool.false_and, Bool.and_true, Bool.and_false, i_10, i_01, i_00, not_true_eq_false, not_false_eq_true]
      refine St_th (k := fun hh => mr_run 144 [.ref 74, .int (nI a), .int (nI b)] hh _) st (fun h2 s2 e2 => ?_) e74 rfl
      obtain ⟨th, tt, tk, pl, va, fa, dn, dr, uf, g74⟩ := id s2.2.2.2.2.2.2
      obtain ⟨S, e77, hS⟩ := St_77 s2
      simp only [S_mo_edge, q_mo_isTwo hn (St_n st) (St_M s2), huv, SEL, PF, mr_gf_O, mr_rc_O, Option.toList_some, Option.toList_none, List.cons_append, List.nil_append, b2i_0, b2i_1, b2i_a, a_00, a_11, ai_n, si_n, nI_1, q_rl_bit, mr_up_at, Nat.reduceLeDiff, Nat.reduceLT, Nat.reduceEqDiff, Nat.reduceAdd, if_true, if_false, Bool.true_eq_false, Bool.false_eq_true, Bool.true_and, Bool.false_and, Bool.and_true, Bool.and_false, i_10, i_01, i_00, not_true_eq_false, not_false_eq_true, g74, MO, e77, z_add, ha24, (hS a ha).1, shr1 hb32]
      exact kk h2 s2 e2
  | false =>
    refine both_ro st (-1) ?_ ?_
    · intro h Q st kk
      rw [r_rl_edge]
      simp only [S_rl_edge, St_0 st, RLO, q_rl_areTwoNodes (St_0 st) (St_1 st), huv, SEL, PF, mr_gf_O, mr_rc_O, Option.toList_some, Option.toList_none, List.cons_append, List.nil_append, b2i_0, b2i_1, b2i_a, a_00, a_11, ai_n, si_n, nI_1, q_rl_bit, mr_up_at, Nat.reduceLeDiff, Nat.reduceLT, Nat.reduceEqDiff, Nat.reduceAdd, if_true, if_false, Bool.true_eq_false, Bool.false_eq_true, Bool.true_and, Bool.false_and, Bool.and_true, Bool.and_false, i_10, i_01, i_00, not_true_eq_false, not_false_eq_true]
      exact kk h st rfl
    · intro h Q st kk
      obtain ⟨th, tt, tk, pl, va, fa, dn, dr, uf, e74⟩ := id st.2.2.2.2.2.2
      rw [r_mo_edge]
      simp only [S_mo_edge, e74, MO, SEL, PF, mr_gf_O, mr_rc_O, Option.toList_some, Option.toList_none, List.cons_append, List.nil_append, b2i_0, b2i_1, b2i_a, a_00, a_11, ai_n, si_n, nI_1, q_rl_bit, mr_up_at, Nat.reduceLeDiff, Nat.reduceLT, Nat.reduceEqDiff, Nat.reduceAdd, if_true, if_false, Bool.true_eq_false, Bool.false_eq_true, Bool.true_and, Bool.false_and, Bool.and_true, Bool.and_false, i_10, i_01, i_00, not_true_eq_false, not_false_eq_true]
      refine St_th (k := fun hh => mr_run 144 [.ref 74, .int u, .int v] hh _) st (fun h2 s2 e2 => ?_) e74 rfl
      obtain ⟨th, tt, tk, pl, va, fa, dn, dr, uf, g74⟩ := id s2.2.2.2.2.2.2
      simp only [S_mo_edge, q_mo_isTwo hn (St_n st) (St_M s2), huv, SEL, PF, mr_gf_O, mr_rc_O, Option.toList_some, Option.toList_none, List.cons_append, List.nil_append, b2i_0, b2i_1, b2i_a, a_00, a_11, ai_n, si_n, nI_1, q_rl_bit, mr_up_at, Nat.reduceLeDiff, Nat.reduceLT, Nat.reduceEqDiff, Nat.reduceAdd, if_true, if_false, Bool.true_eq_false, Bool.false_eq_true, Bool.true_and, Bool.false_and, Bool.and_true, Bool.and_false, i_10, i_01, i_00, not_true_eq_false, not_false_eq_true, g74, MO]
      exact kk h2 s2 e2
end READS
