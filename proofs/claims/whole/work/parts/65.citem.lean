/-! an item, and a whole text: pure facts; the class -/
def prs (L : Nat → Int32) : Nat → Nat → Nat → Nat → (Nat → Int32) → (Nat → Int32) → Nat → Nat ⊕ (Nat × PS)
  | 0, i, a, dn, D, R, rk => .inr (i, a, dn, D, R, rk)
  | f + 1, i, a, dn, D, R, rk => if tT L a = -2 then .inr (i, a, dn, D, R, rk) else
    match itm L (decide (i = 0)) a dn D R rk with
    | .inl q => .inl q
    | .inr (a', dn', D', R', rk') => prs L f (i + 1) a' dn' D' R' rk'
def gd (len i a dn : Nat) (D R : Nat → Int32) (rk : Nat) : Prop := a ≤ len ∧ i ≤ a ∧ 1 ≤ dn ∧ dn ≤ 12 ∧ (∀ u v, u < 12 → bt (D u) v = true → u < dn ∧ v < dn ∧ v ≠ u) ∧ (∀ u, u < 12 → R u = -1 ∨ (u < dn ∧ ∃ j, j < rk ∧ R u = nI j)) ∧ fb_ct (fun u => !decide (R u = -1)) 12 = rk ∧ (i = 0 → ∀ u, u < 12 → D u = 0 ∧ R u = -1)
section ITEM
variable {T : Nat → Int32} {len i a dn rk : Nat} {D R : Nat → Int32} {f : Bool}
/-- what an item but for its stop comes to -/
theorem itB_gd (hl : len ≤ 120) (hb : ∀ j, j < len → ¬ T j < 0) (g : gd len i a dn D R rk) (ht : ¬ tT (lx T len) a = -2) {a' dn' rk' : Nat} {D' R' : Nat → Int32} (h : itB (lx T len) (decide (i = 0)) a dn D R rk = .inr (a', dn', D', R', rk')) : gd len (i + 1) a' dn' D' R' rk' ∧ a < a' := by
  obtain ⟨g1, g2, g3, g4, g5, g6, g7, g8⟩ := g
  have s0 := tS_in (T := T) hl g1
  have t0 := tE_in (T := T) hl g1 hb
  have t00 := t0.2.2 ht
  have s1 := tS_in (T := T) hl t0.2.1
  have t1 := tE_in (T := T) hl t0.2.1 hb
  have s2 := tS_in (T := T) hl t1.2.1
  have t2 := tE_in (T := T) hl t1.2.1 hb
  have ha1 : a < tE (lx T len) a := by omega
  have ha2 : tE (lx T len) a ≤ tE (lx T len) (tE (lx T len) a) := by omega
  have ha3 : tE (lx T len) (tE (lx T len) a) ≤ tE (lx T len) (tE (lx T len) (tE (lx T len) a)) := by omega
  have hrk : rk ≤ 12 := by rw [← g7]; exact fb_ct_le _ 12
  have n1 : ∀ lo hi, nmb (lx T len) (tE (lx T len) a) lo hi = true → lo ≤ tV (lx T len) (tE (lx T len) a) ∧ tV (lx T len) (tE (lx T len) a) ≤ hi := fun _ _ h => (nmb_yes h).2
  have n2 : ∀ lo hi, nmb (lx T len) (tE (lx T len) (tE (lx T len) a)) lo hi = true → lo ≤ tV (lx T len) (tE (lx T len) (tE (lx T len) a)) ∧ tV (lx T len) (tE (lx T len) (tE (lx T len) a)) ≤ hi := fun _ _ h => (nmb_yes h).2
  unfold itB at h
  generalize tE (lx T len) a = a1 at *
  generalize tV (lx T len) a1 = v1 at *
  generalize tE (lx T len) a1 = a2 at *
  generalize tV (lx T len) a2 = v2 at *
  generalize tE (lx T len) a2 = a3 at *
  split at h
  · split at h
    · rename_i hi0
      have hi : i = 0 := by simpa using hi0
      split at h
      · rename_i hn
        have hy := n1 _ _ hn
        cases h
        have g8' := g8 hi
        refine ⟨⟨t1.2.1, by omega, hy.1, hy.2, fun u v hu hv => ?_, fun u hu => Or.inl (g8' u hu).2, g7, fun z => absurd z (by omega)⟩, by omega⟩
        rw [(g8' u hu).1, b_0] at hv
        exact absurd hv (by decide)
      · cases h
    · cases h
  · split at h
    · split at h
      · rename_i hn
        have hy := n1 _ _ hn
        split at h
        · rename_i hn2
          simp only [Bool.and_eq_true] at hn2
          have hy2 := n2 _ _ hn2.1
          have hne : ¬ v2 = v1 := by simpa using hn2.2.1
          cases h
          refine ⟨⟨t2.2.1, by omega, g3, g4, fun u v hu hv => ?_, g6, g7, fun z => absurd z (by omega)⟩, by omega⟩
          by_cases e : u = v1
          · subst e
            rw [upd_at, b_or, nb_bt (by omega)] at hv
            simp only [Bool.or_eq_true, decide_eq_true_eq] at hv
            rcases hv with hv | hv
            · exact g5 _ v hu hv
            · subst hv
              exact ⟨by omega, by omega, hne⟩
          · rw [upd_ne _ _ e] at hv
            exact g5 u v hu hv
        · cases h
      · cases h
    · split at h
      · split at h
        · rename_i hn
          simp only [Bool.and_eq_true, decide_eq_true_eq] at hn
          have hy := n1 _ _ hn.1
          cases h
          have hct := fb_ct_upd (fun u => !decide (R u = -1)) true (i := v1) (n := 12) (by omega)
          simp only [hn.2, decide_true, Bool.not_true, Bool.false_eq_true, if_false, if_true, Nat.add_zero] at hct
          have hc2 : fb_ct (fun u => !decide (upd R (v1) (nI rk) u = -1)) 12 = fb_ct (fun k => if k = v1 then true else !decide (R k = -1)) 12 := fb_ct_cong fun k _ => by
            by_cases e : k = v1
            · rw [e, upd_at, if_pos rfl, decide_eq_false (nI_m1 (show rk < 13 by omega))]
              rfl
            · rw [upd_ne _ _ e, if_neg e]
          refine ⟨⟨t1.2.1, by omega, g3, g4, g5, fun u hu => ?_, by rw [hc2]; omega, fun z => absurd z (by omega)⟩, by omega⟩
          by_cases e : u = v1
          · rw [e, upd_at]
            exact Or.inr ⟨by omega, rk, by omega, rfl⟩
          · rw [upd_ne _ _ e]
            rcases g6 u hu with z | ⟨z1, j, z2, z3⟩
            · exact Or.inl z
            · exact Or.inr ⟨z1, j, by omega, z3⟩
        · cases h
      · cases h
theorem itm_gd (hl : len ≤ 120) (hb : ∀ j, j < len → ¬ T j < 0) (g : gd len i a dn D R rk) (ht : ¬ tT (lx T len) a = -2) {a' dn' rk' : Nat} {D' R' : Nat → Int32} (h : itm (lx T len) (decide (i = 0)) a dn D R rk = .inr (a', dn', D', R', rk')) : gd len (i + 1) a' dn' D' R' rk' ∧ a < a' := by
  unfold itm at h
  split at h
  · cases h
  · rename_i a1 p hB
    obtain ⟨dn1, D1, R1, rk1⟩ := p
    have ⟨g1, g2⟩ := itB_gd hl hb g ht hB
    split at h
    · rename_i hs
      obtain ⟨k1, k2, k3, k4, k5, k6, k7, k8⟩ := g1
      have s1 := tS_in (T := T) hl k1
      have t1 := tE_in (T := T) hl k1 hb
      generalize tE (lx T len) a1 = a2 at *
      cases h
      exact ⟨⟨t1.2.1, by omega, k3, k4, k5, k6, k7, k8⟩, by omega⟩
    · cases h
theorem prs_gd (hl : len ≤ 120) (hb : ∀ j, j < len → ¬ T j < 0) : ∀ (f i a dn : Nat) (D R : Nat → Int32) (rk : Nat) {i' : Nat} {a' dn' rk' : Nat} {D' R' : Nat → Int32}, gd len i a dn D R rk → prs (lx T len) f i a dn D R rk = .inr (i', a', dn', D', R', rk') → gd len i' a' dn' D' R' rk' := by
  intro f
  induction f with
  | zero =>
    intro i a dn D R rk i' a' dn' rk' D' R' g h
    cases h
    exact g
  | succ f ih =>
    intro i a dn D R rk i' a' dn' rk' D' R' g h
    unfold prs at h
    split at h
    · cases h
      exact g
    · rename_i ht
      split at h
      · cases h
      · rename_i a1 dn1 D1 R1 rk1 hB
        exact ih _ _ _ _ _ _ (itm_gd hl hb g ht hB).1 h
theorem prs_lt (hl : len ≤ 120) (hb : ∀ j, j < len → ¬ T j < 0) : ∀ (f i a dn : Nat) (D R : Nat → Int32) (rk : Nat) {q : Nat}, gd len i a dn D R rk → prs (lx T len) f i a dn D R rk = .inl q → q ≤ 120 := by
  intro f
  induction f with
  | zero =>
    intro i a dn D R rk q g h
    cases h
  | succ f ih =>
    intro i a dn D R rk q g h
    unfold prs at h
    split at h
    · cases h
    · rename_i ht
      split at h
      · rename_i q1 hB
        cases h
        have s0 := tS_in (T := T) hl g.1
        have t0 := tE_in (T := T) hl g.1 hb
        have s1 := tS_in (T := T) hl t0.2.1
        have t1 := tE_in (T := T) hl t0.2.1 hb
        have s2 := tS_in (T := T) hl t1.2.1
        unfold itm at hB
        split at hB
        · rename_i q2 hC
          cases hB
          unfold itB at hC
          repeat' split at hC
          all_goals first | (have hq := Sum.inl.inj hC; omega) | (cases hC)
        · rename_i a1 p hC
          obtain ⟨dn1, D1, R1, rk1⟩ := p
          split at hB
          · cases hB
          · have hq := Sum.inl.inj hB
            have k := (itB_gd hl hb g ht hC).1
            have s3 := tS_in (T := T) hl k.1
            omega
      · rename_i a1 dn1 D1 R1 rk1 hB
        exact ih _ _ _ _ _ _ (itm_gd hl hb g ht hB).1 h
end ITEM
section CITEM
variable {h0 h : mr_h} {Q : Option Value → mr_h → Prop} {T : Nat → Int32} {len a dn rk : Nat} {D R : Nat → Int32}
theorem l_item_end (hl : len ≤ 120) (e8 : h0.1 8 = mr_I 120 T) (ha : a ≤ len) (hb : ∀ j, j < len → ¬ T j < 0) {v2 : Value} (c : CG h0 h len a dn D R rk)
    (k0 : ¬ tT (lx T len) a = 59 → ∀ h2, CF h0 h2 len (tS (lx T len) a) → Q (some (.int 0)) h2)
    (k1 : tT (lx T len) a = 59 → ∀ h2, CG h0 h2 len (tE (lx T len) a) dn D R rk → Q (some (.int 1)) h2) : mr_wp 34 81 [.ref 7, .ref 4, v2, .int 1] [] h Q := by
  obtain ⟨y, z, w, e7⟩ := c.2.1
  simp only [S_sc_readItem, SEL, PF, mr_gf_O, mr_rc_O, Option.toList_some, Option.toList_none, List.cons_append, List.nil_append, b2i_0, b2i_1, b2i_a, a_00, a_11, ai_n, si_n, nI_1, q_rl_bit, mr_up_at, Nat.reduceLeDiff, Nat.reduceLT, Nat.reduceEqDiff, Nat.reduceAdd, if_true, if_false, Bool.true_eq_false, Bool.false_eq_true, Bool.true_and, Bool.false_and, Bool.and_true, Bool.and_false, i_10, i_01, i_00, not_true_eq_false, not_false_eq_true, e7, SC]
  refine st_token hl e8 ha hb c ?_
  intro h2 va cr
  have g7 := cr.2.1
  simp only [S_sc_readItem, SEL, PF, mr_gf_O, mr_rc_O, Option.toList_some, Option.toList_none, List.cons_append, List.nil_append, b2i_0, b2i_1, b2i_a, a_00, a_11, ai_n, si_n, nI_1, q_rl_bit, mr_up_at, Nat.reduceLeDiff, Nat.reduceLT, Nat.reduceEqDiff, Nat.reduceAdd, if_true, if_false, Bool.true_eq_false, Bool.false_eq_true, Bool.true_and, Bool.false_and, Bool.and_true, Bool.and_false, i_10, i_01, i_00, not_true_eq_false, not_false_eq_true, g7, SC]
  by_cases c1 : tT (lx T len) a = 59
  · simp only [c1, S_sc_readItem, SEL, PF, mr_gf_O, mr_rc_O, Option.toList_some, Option.toList_none, List.cons_append, List.nil_append, b2i_0, b2i_1, b2i_a, a_00, a_11, ai_n, si_n, nI_1, q_rl_bit, mr_up_at, Nat.reduceLeDiff, Nat.reduceLT, Nat.reduceEqDiff, Nat.reduceAdd, if_true, if_false, Bool.true_eq_false, Bool.false_eq_true, Bool.true_and, Bool.false_and, Bool.and_true, Bool.and_false, i_10, i_01, i_00, not_true_eq_false, not_false_eq_true]
    exact k1 c1 h2 (CR_CG cr)
  · simp only [if_pos c1, S_sc_readItem, SEL, PF, mr_gf_O, mr_rc_O, Option.toList_some, Option.toList_none, List.cons_append, List.nil_append, b2i_0, b2i_1, b2i_a, a_00, a_11, ai_n, si_n, nI_1, q_rl_bit, mr_up_at, Nat.reduceLeDiff, Nat.reduceLT, Nat.reduceEqDiff, Nat.reduceAdd, if_true, if_false, Bool.true_eq_false, Bool.false_eq_true, Bool.true_and, Bool.false_and, Bool.and_true, Bool.and_false, i_10, i_01, i_00, not_true_eq_false, not_false_eq_true]
    exact k0 c1 h2 (CR_CF cr)
theorem st_item (hl : len ≤ 120) (e8 : h0.1 8 = mr_I 120 T) (ha : a ≤ len) (hb : ∀ j, j < len → ¬ T j < 0) (hd1 : 1 ≤ dn) (hd : dn ≤ 12) {fb : Bool} {va : Int32} (c : CR h0 h (lx T len) len a dn D R rk va)
    (k0 : ∀ q h2, itm (lx T len) fb a dn D R rk = .inl q → CF h0 h2 len q → Q (some (.int 0)) h2)
    (k1 : ∀ a' dn' D' R' rk' h2, itm (lx T len) fb a dn D R rk = .inr (a', dn', D', R', rk') → CG h0 h2 len a' dn' D' R' rk' → Q (some (.int 1)) h2) : mr_run 34 [.ref 7, .ref 4, .int (b2i fb)] h Q := by
  have t0 := tE_in (T := T) hl ha hb
  have t1 := tE_in (T := T) hl t0.2.1 hb
  have t2 := tE_in (T := T) hl t1.2.1 hb
  have bad : ∀ q h2, itB (lx T len) fb a dn D R rk = .inl q → CF h0 h2 len q → Q (some (.int 0)) h2 := fun q h2 e cf => k0 q h2 (by unfold itm; rw [e]) cf
  have good : ∀ a' dn' D' R' rk' h2 v2, itB (lx T len) fb a dn D R rk = .inr (a', dn', D', R', rk') → a' ≤ len → CG h0 h2 len a' dn' D' R' rk' → mr_wp 34 81 [.ref 7, .ref 4, v2, .int 1] [] h2 Q := fun a' dn' D' R' rk' h2 v2 e hle cg =>
    l_item_end hl e8 hle hb cg (fun z h3 cf => k0 _ h3 (by unfold itm; rw [e]; exact if_neg z) cf) (fun z h3 cg => k1 _ _ _ _ _ h3 (by unfold itm; rw [e]; exact if_pos z) cg)
  have hB : itB (lx T len) fb a dn D R rk = if tT (lx T len) a = 110 then
    if fb then (if nmb (lx T len) (tE (lx T len) a) 1 12 then .inr (tE (lx T len) (tE (lx T len) a), tV (lx T len) (tE (lx T len) a), D, R, rk) else .inl (tS (lx T len) (tE (lx T len) a))) else .inl (tS (lx T len) a)
    else if tT (lx T len) a = 101 then
    if nmb (lx T len) (tE (lx T len) a) 0 (dn - 1) then
      if nmb (lx T len) (tE (lx T len) (tE (lx T len) a)) 0 (dn - 1) && (!decide (tV (lx T len) (tE (lx T len) (tE (lx T len) a)) = tV (lx T len) (tE (lx T len) a)) && !bt (D (tV (lx T len) (tE (lx T len) a))) (tV (lx T len) (tE (lx T len) (tE (lx T len) a)))) then .inr (tE (lx T len) (tE (lx T len) (tE (lx T len) a)), dn, upd D (tV (lx T len) (tE (lx T len) a)) (D (tV (lx T len) (tE (lx T len) a)) ||| nb (tV (lx T len) (tE (lx T len) (tE (lx T len) a)))), R, rk)
      else .inl (tS (lx T len) (tE (lx T len) (tE (lx T len) a)))
    else .inl (tS (lx T len) (tE (lx T len) a))
    else if tT (lx T len) a = 114 then
    if nmb (lx T len) (tE (lx T len) a) 0 (dn - 1) && decide (R (tV (lx T len) (tE (lx T len) a)) = -1) then .inr (tE (lx T len) (tE (lx T len) a), dn, D, upd R (tV (lx T len) (tE (lx T len) a)) (nI rk), rk + 1) else .inl (tS (lx T len) (tE (lx T len) a))
    else .inl (tS (lx T len) a) := rfl
  have g7 := c.2.1
  rw [r_sc_readItem]
  simp only [S_sc_readItem, g7, SC, SEL, PF, mr_gf_O, mr_rc_O, Option.toList_some, Option.toList_none, List.cons_append, List.nil_append, b2i_0, b2i_1, b2i_a, a_00, a_11, ai_n, si_n, nI_1, q_rl_bit, mr_up_at, Nat.reduceLeDiff, Nat.reduceLT, Nat.reduceEqDiff, Nat.reduceAdd, if_true, if_false, Bool.true_eq_false, Bool.false_eq_true, Bool.true_and, Bool.false_and, Bool.and_true, Bool.and_false, i_10, i_01, i_00, not_true_eq_false, not_false_eq_true, s_sc_readItem_4]
  by_cases c1 : tT (lx T len) a = 110
  · rw [if_pos c1] at hB
    simp only [c1, if_neg (show ¬ (110 : Int32) = 101 by decide), if_true, S_sc_readItem, SEL, PF, mr_gf_O, mr_rc_O, Option.toList_some, Option.toList_none, List.cons_append, List.nil_append, b2i_0, b2i_1, b2i_a, a_00, a_11, ai_n, si_n, nI_1, q_rl_bit, mr_up_at, Nat.reduceLeDiff, Nat.reduceLT, Nat.reduceEqDiff, Nat.reduceAdd, if_true, if_false, Bool.true_eq_false, Bool.false_eq_true, Bool.true_and, Bool.false_and, Bool.and_true, Bool.and_false, i_10, i_01, i_00, not_true_eq_false, not_false_eq_true]
    cases fb with
    | false =>
      simp only [S_sc_readItem, SEL, PF, mr_gf_O, mr_rc_O, Option.toList_some, Option.toList_none, List.cons_append, List.nil_append, b2i_0, b2i_1, b2i_a, a_00, a_11, ai_n, si_n, nI_1, q_rl_bit, mr_up_at, Nat.reduceLeDiff, Nat.reduceLT, Nat.reduceEqDiff, Nat.reduceAdd, if_true, if_false, Bool.true_eq_false, Bool.false_eq_true, Bool.true_and, Bool.false_and, Bool.and_true, Bool.and_false, i_10, i_01, i_00, not_true_eq_false, not_false_eq_true]
      exact bad _ h hB (CR_CF c)
    | true =>
      rw [if_pos rfl] at hB
      simp only [S_sc_readItem, SEL, PF, mr_gf_O, mr_rc_O, Option.toList_some, Option.toList_none, List.cons_append, List.nil_append, b2i_0, b2i_1, b2i_a, a_00, a_11, ai_n, si_n, nI_1, q_rl_bit, mr_up_at, Nat.reduceLeDiff, Nat.reduceLT, Nat.reduceEqDiff, Nat.reduceAdd, if_true, if_false, Bool.true_eq_false, Bool.false_eq_true, Bool.true_and, Bool.false_and, Bool.and_true, Bool.and_false, i_10, i_01, i_00, not_true_eq_false, not_false_eq_true, g7, SC]
      refine st_nodes hl e8 t0.2.1 hb (CR_CG c) (fun z h2 cf => ?_) (fun z h2 cg => ?_)
      · simp only [S_sc_readItem, SEL, PF, mr_gf_O, mr_rc_O, Option.toList_some, Option.toList_none, List.cons_append, List.nil_append, b2i_0, b2i_1, b2i_a, a_00, a_11, ai_n, si_n, nI_1, q_rl_bit, mr_up_at, Nat.reduceLeDiff, Nat.reduceLT, Nat.reduceEqDiff, Nat.reduceAdd, if_true, if_false, Bool.true_eq_false, Bool.false_eq_true, Bool.true_and, Bool.false_and, Bool.and_true, Bool.and_false, i_10, i_01, i_00, not_true_eq_false, not_false_eq_true]
        exact bad _ h2 (by rw [hB, z]; rfl) cf
      · have := good _ _ _ _ _ h2 (.int 1) (by rw [hB, if_pos z]) t1.2.1 cg
        simp only [S_sc_readItem, SEL, PF, mr_gf_O, mr_rc_O, Option.toList_some, Option.toList_none, List.cons_append, List.nil_append, b2i_0, b2i_1, b2i_a, a_00, a_11, ai_n, si_n, nI_1, q_rl_bit, mr_up_at, Nat.reduceLeDiff, Nat.reduceLT, Nat.reduceEqDiff, Nat.reduceAdd, if_true, if_false, Bool.true_eq_false, Bool.false_eq_true, Bool.true_and, Bool.false_and, Bool.and_true, Bool.and_false, i_10, i_01, i_00, not_true_eq_false, not_false_eq_true] at this ⊢
        exact this
  · rw [if_neg c1] at hB
    by_cases c2 : tT (lx T len) a = 101
    · rw [if_pos c2] at hB
      simp only [c2, if_true, S_sc_readItem, SEL, PF, mr_gf_O, mr_rc_O, Option.toList_some, Option.toList_none, List.cons_append, List.nil_append, b2i_0, b2i_1, b2i_a, a_00, a_11, ai_n, si_n, nI_1, q_rl_bit, mr_up_at, Nat.reduceLeDiff, Nat.reduceLT, Nat.reduceEqDiff, Nat.reduceAdd, if_true, if_false, Bool.true_eq_false, Bool.false_eq_true, Bool.true_and, Bool.false_and, Bool.and_true, Bool.and_false, i_10, i_01, i_00, not_true_eq_false, not_false_eq_true, g7, SC]
      refine st_edge hl e8 t0.2.1 hb hd1 hd (CR_CG c) (fun z h2 cf => ?_) (fun z1 z2 h2 cf => ?_) (fun z1 z2 h2 cg => ?_)
      · simp only [S_sc_readItem, SEL, PF, mr_gf_O, mr_rc_O, Option.toList_some, Option.toList_none, List.cons_append, List.nil_append, b2i_0, b2i_1, b2i_a, a_00, a_11, ai_n, si_n, nI_1, q_rl_bit, mr_up_at, Nat.reduceLeDiff, Nat.reduceLT, Nat.reduceEqDiff, Nat.reduceAdd, if_true, if_false, Bool.true_eq_false, Bool.false_eq_true, Bool.true_and, Bool.false_and, Bool.and_true, Bool.and_false, i_10, i_01, i_00, not_true_eq_false, not_false_eq_true]
        exact bad _ h2 (by rw [hB, z]; rfl) cf
      · simp only [S_sc_readItem, SEL, PF, mr_gf_O, mr_rc_O, Option.toList_some, Option.toList_none, List.cons_append, List.nil_append, b2i_0, b2i_1, b2i_a, a_00, a_11, ai_n, si_n, nI_1, q_rl_bit, mr_up_at, Nat.reduceLeDiff, Nat.reduceLT, Nat.reduceEqDiff, Nat.reduceAdd, if_true, if_false, Bool.true_eq_false, Bool.false_eq_true, Bool.true_and, Bool.false_and, Bool.and_true, Bool.and_false, i_10, i_01, i_00, not_true_eq_false, not_false_eq_true]
        exact bad _ h2 (by rw [hB, if_pos z1, z2]; rfl) cf
      · have := good _ _ _ _ _ h2 (.int (b2i fb)) (by rw [hB, if_pos z1, if_pos z2]) t2.2.1 cg
        simp only [S_sc_readItem, SEL, PF, mr_gf_O, mr_rc_O, Option.toList_some, Option.toList_none, List.cons_append, List.nil_append, b2i_0, b2i_1, b2i_a, a_00, a_11, ai_n, si_n, nI_1, q_rl_bit, mr_up_at, Nat.reduceLeDiff, Nat.reduceLT, Nat.reduceEqDiff, Nat.reduceAdd, if_true, if_false, Bool.true_eq_false, Bool.false_eq_true, Bool.true_and, Bool.false_and, Bool.and_true, Bool.and_false, i_10, i_01, i_00, not_true_eq_false, not_false_eq_true] at this ⊢
        exact this
    · rw [if_neg c2] at hB
      by_cases c3 : tT (lx T len) a = 114
      · rw [if_pos c3] at hB
        simp only [c3, if_neg (show ¬ (114 : Int32) = 101 by decide), if_neg (show ¬ (114 : Int32) = 110 by decide), if_true, S_sc_readItem, SEL, PF, mr_gf_O, mr_rc_O, Option.toList_some, Option.toList_none, List.cons_append, List.nil_append, b2i_0, b2i_1, b2i_a, a_00, a_11, ai_n, si_n, nI_1, q_rl_bit, mr_up_at, Nat.reduceLeDiff, Nat.reduceLT, Nat.reduceEqDiff, Nat.reduceAdd, if_true, if_false, Bool.true_eq_false, Bool.false_eq_true, Bool.true_and, Bool.false_and, Bool.and_true, Bool.and_false, i_10, i_01, i_00, not_true_eq_false, not_false_eq_true, g7, SC]
        refine st_ranked hl e8 t0.2.1 hb hd1 hd (CR_CG c) (fun z h2 cf => ?_) (fun z h2 cg => ?_)
        · simp only [S_sc_readItem, SEL, PF, mr_gf_O, mr_rc_O, Option.toList_some, Option.toList_none, List.cons_append, List.nil_append, b2i_0, b2i_1, b2i_a, a_00, a_11, ai_n, si_n, nI_1, q_rl_bit, mr_up_at, Nat.reduceLeDiff, Nat.reduceLT, Nat.reduceEqDiff, Nat.reduceAdd, if_true, if_false, Bool.true_eq_false, Bool.false_eq_true, Bool.true_and, Bool.false_and, Bool.and_true, Bool.and_false, i_10, i_01, i_00, not_true_eq_false, not_false_eq_true]
          exact bad _ h2 (by rw [hB, z]; rfl) cf
        · have := good _ _ _ _ _ h2 (.int (b2i fb)) (by rw [hB, if_pos z]) t1.2.1 cg
          simp only [S_sc_readItem, SEL, PF, mr_gf_O, mr_rc_O, Option.toList_some, Option.toList_none, List.cons_append, List.nil_append, b2i_0, b2i_1, b2i_a, a_00, a_11, ai_n, si_n, nI_1, q_rl_bit, mr_up_at, Nat.reduceLeDiff, Nat.reduceLT, Nat.reduceEqDiff, Nat.reduceAdd, if_true, if_false, Bool.true_eq_false, Bool.false_eq_true, Bool.true_and, Bool.false_and, Bool.and_true, Bool.and_false, i_10, i_01, i_00, not_true_eq_false, not_false_eq_true] at this ⊢
          exact this
      · rw [if_neg c3] at hB
        simp only [if_neg c1, if_neg c2, if_neg c3, S_sc_readItem, SEL, PF, mr_gf_O, mr_rc_O, Option.toList_some, Option.toList_none, List.cons_append, List.nil_append, b2i_0, b2i_1, b2i_a, a_00, a_11, ai_n, si_n, nI_1, q_rl_bit, mr_up_at, Nat.reduceLeDiff, Nat.reduceLT, Nat.reduceEqDiff, Nat.reduceAdd, if_true, if_false, Bool.true_eq_false, Bool.false_eq_true, Bool.true_and, Bool.false_and, Bool.and_true, Bool.and_false, i_10, i_01, i_00, not_true_eq_false, not_false_eq_true]
        exact bad _ h hB (CR_CF c)
/-- the class's loop over items -/
theorem l_text (hl : len ≤ 120) (e8 : h0.1 8 = mr_I 120 T) (hb : ∀ j, j < len → ¬ T j < 0) : ∀ (f i a dn : Nat) (D R : Nat → Int32) (rk : Nat) (va : Int32) (h : mr_h), len < a + f → gd len i a dn D R rk → CR h0 h (lx T len) len a dn D R rk va →
    (∀ q h2, prs (lx T len) f i a dn D R rk = .inl q → CF h0 h2 len q → Q (some (.int (-10 - nI q))) h2) →
    (∀ i' a' dn' D' R' rk' va' h2, prs (lx T len) f i a dn D R rk = .inr (i', a', dn', D', R', rk') → CR h0 h2 (lx T len) len a' dn' D' R' rk' va' → mr_wp 30 70 [.ref 7, .ref 4, .int (nI i')] [] h2 Q) → mr_wp 30 20 [.ref 7, .ref 4, .int (nI i)] [] h Q := by
  intro f
  induction f with
  | zero =>
    intro i a dn D R rk va h hf g
    have := g.1
    omega
  | succ f ih =>
    intro i a dn D R rk va h hf g c k0 k1
    have g7 := c.2.1
    have hp : prs (lx T len) (f + 1) i a dn D R rk = if tT (lx T len) a = -2 then .inr (i, a, dn, D, R, rk) else
      match itm (lx T len) (decide (i = 0)) a dn D R rk with
      | .inl q => .inl q
      | .inr (a', dn', D', R', rk') => prs (lx T len) f (i + 1) a' dn' D' R' rk' := rfl
    rw [s_sc_readInto_20]
    by_cases c1 : tT (lx T len) a = -2
    · rw [if_pos c1] at hp
      have := k1 _ _ _ _ _ _ _ h hp c
      simp only [S_sc_readInto_0, S_sc_readInto_1, g7, SC, SEL, PF, mr_gf_O, mr_rc_O, Option.toList_some, Option.toList_none, List.cons_append, List.nil_append, b2i_0, b2i_1, b2i_a, a_00, a_11, ai_n, si_n, nI_1, q_rl_bit, mr_up_at, Nat.reduceLeDiff, Nat.reduceLT, Nat.reduceEqDiff, Nat.reduceAdd, if_true, if_false, Bool.true_eq_false, Bool.false_eq_true, Bool.true_and, Bool.false_and, Bool.and_true, Bool.and_false, i_10, i_01, i_00, not_true_eq_false, not_false_eq_true, c1] at this ⊢
      exact this
    · rw [if_neg c1] at hp
      have s0 := tS_in (T := T) hl g.1
      have t0 := (tE_in (T := T) hl g.1 hb).2.2 c1
      have t1 := (tE_in (T := T) hl g.1 hb).2.1
      have hia := g.2.1
      have hcond : (if ¬ nI i = 0 then (0 : Int32) else 1) = b2i (decide (i = 0)) := by
        by_cases z : i = 0
        · subst z; decide
        · rw [if_pos (nI_ne0 (by omega) (by omega)), decide_eq_false z]
          rfl
      have step : mr_run 34 [.ref 7, .ref 4, .int (b2i (decide (i = 0)))] h (fun v h' => mr_wp 30 49 [.ref 7, .ref 4, .int (nI i)] (v.toList ++ []) h' Q) := by
        refine st_item hl e8 g.1 hb g.2.2.1 g.2.2.2.1 c (fun q h2 e cf => ?_) (fun a' dn' D' R' rk' h2 e cg => ?_)
        · obtain ⟨-, ⟨x, z, w, r, j7⟩, -⟩ := id cf
          simp only [S_sc_readInto_0, S_sc_readInto_1, SEL, PF, mr_gf_O, mr_rc_O, Option.toList_some, Option.toList_none, List.cons_append, List.nil_append, b2i_0, b2i_1, b2i_a, a_00, a_11, ai_n, si_n, nI_1, q_rl_bit, mr_up_at, Nat.reduceLeDiff, Nat.reduceLT, Nat.reduceEqDiff, Nat.reduceAdd, if_true, if_false, Bool.true_eq_false, Bool.false_eq_true, Bool.true_and, Bool.false_and, Bool.and_true, Bool.and_false, i_10, i_01, i_00, not_true_eq_false, not_false_eq_true, j7, SC]
          exact k0 q h2 (by rw [hp, e]) cf
        · obtain ⟨g', hlt⟩ := itm_gd hl hb g c1 e
          obtain ⟨x, z, w, j7⟩ := cg.2.1
          simp only [S_sc_readInto_0, S_sc_readInto_1, SEL, PF, mr_gf_O, mr_rc_O, Option.toList_some, Option.toList_none, List.cons_append, List.nil_append, b2i_0, b2i_1, b2i_a, a_00, a_11, ai_n, si_n, nI_1, q_rl_bit, mr_up_at, Nat.reduceLeDiff, Nat.reduceLT, Nat.reduceEqDiff, Nat.reduceAdd, if_true, if_false, Bool.true_eq_false, Bool.false_eq_true, Bool.true_and, Bool.false_and, Bool.and_true, Bool.and_false, i_10, i_01, i_00, not_true_eq_false, not_false_eq_true, j7, SC]
          refine st_token hl e8 g'.1 hb cg ?_
          intro h3 va3 cr
          simp only [S_sc_readInto_0, S_sc_readInto_1, SEL, PF, mr_gf_O, mr_rc_O, Option.toList_some, Option.toList_none, List.cons_append, List.nil_append, b2i_0, b2i_1, b2i_a, a_00, a_11, ai_n, si_n, nI_1, q_rl_bit, mr_up_at, Nat.reduceLeDiff, Nat.reduceLT, Nat.reduceEqDiff, Nat.reduceAdd, if_true, if_false, Bool.true_eq_false, Bool.false_eq_true, Bool.true_and, Bool.false_and, Bool.and_true, Bool.and_false, i_10, i_01, i_00, not_true_eq_false, not_false_eq_true]
          refine ih (i + 1) a' dn' D' R' rk' va3 h3 (by omega) g' cr (fun q h4 e4 cf => k0 q h4 ?_ cf) (fun i' a'' dn'' D'' R'' rk'' va'' h4 e4 cr => k1 i' a'' dn'' D'' R'' rk'' va'' h4 ?_ cr)
          · rw [hp, e]; exact e4
          · rw [hp, e]; exact e4
      by_cases z : i = 0
      · subst z
        have e0 : nI 0 = (0 : Int32) := rfl
        simp only [S_sc_readInto_0, S_sc_readInto_1, g7, SC, SEL, PF, mr_gf_O, mr_rc_O, Option.toList_some, Option.toList_none, List.cons_append, List.nil_append, b2i_0, b2i_1, b2i_a, a_00, a_11, ai_n, si_n, nI_1, q_rl_bit, mr_up_at, Nat.reduceLeDiff, Nat.reduceLT, Nat.reduceEqDiff, Nat.reduceAdd, if_true, if_false, Bool.true_eq_false, Bool.false_eq_true, Bool.true_and, Bool.false_and, Bool.and_true, Bool.and_false, i_10, i_01, i_00, not_true_eq_false, not_false_eq_true, if_neg c1, e0, if_neg (show ¬ (120 : Int32) ≤ 0 by decide)]
        simp only [e0, decide_true, b2i_t] at step
        exact step
      · have zi := nI_ne0 (n := i) (by omega) (by omega)
        simp only [S_sc_readInto_0, S_sc_readInto_1, g7, SC, SEL, PF, mr_gf_O, mr_rc_O, Option.toList_some, Option.toList_none, List.cons_append, List.nil_append, b2i_0, b2i_1, b2i_a, a_00, a_11, ai_n, si_n, nI_1, q_rl_bit, mr_up_at, Nat.reduceLeDiff, Nat.reduceLT, Nat.reduceEqDiff, Nat.reduceAdd, if_true, if_false, Bool.true_eq_false, Bool.false_eq_true, Bool.true_and, Bool.false_and, Bool.and_true, Bool.and_false, i_10, i_01, i_00, not_true_eq_false, not_false_eq_true, if_neg c1, if_neg (show ¬ (120 : Int32) ≤ nI i from nI_ge (b := 120) (by omega) (by decide)), if_pos zi]
        rw [decide_eq_false z, b2i_f] at step
        exact step
end CITEM
