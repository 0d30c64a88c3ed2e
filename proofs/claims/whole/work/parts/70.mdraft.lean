/-! the reference's draft: begun, ranked, settled -/
section MDRAFT
variable {h : mr_h} {Q : Option Value → mr_h → Prop} {W W0 S : Nat → Int32} {n rk : Nat} {th ty tt tk pl va fa nn dn dr um sn uf : Int32}
def wB (W0 : Nat → Int32) (k j : Nat) : Int32 := if j < 12 then (if j < k then 0 else W0 j) else if j < 12 + k then -1 else W0 j
theorem wB_s {k : Nat} (hk : k < 12) : upd (upd (wB W0 k) k 0) (12 + k) (-1) = wB W0 (k + 1) := by
  funext j
  unfold upd wB
  by_cases e1 : j = 12 + k
  · subst e1
    rw [if_pos rfl, if_neg (by omega), if_pos (by omega)]
  · rw [if_neg e1]
    by_cases e2 : j = k
    · subst e2
      rw [if_pos rfl, if_pos hk, if_pos (by omega)]
    · rw [if_neg e2]
      by_cases e3 : j < 12
      · rw [if_pos e3, if_pos e3]
        simp only [lt_s_ne e2]
      · rw [if_neg e3, if_neg e3]
        by_cases e4 : j < 12 + k
        · rw [if_pos e4, if_pos (by omega)]
        · rw [if_neg e4, if_neg (by omega)]
theorem l_begins (kk : ∀ h2 W, mr_fr h h2 [74, 76] → h2.1 74 = MO th ty tt tk pl va fa nn (nI 4) (nI 0) um sn uf → h2.1 76 = mr_I 24 W → (∀ u, u < 12 → W u = 0 ∧ W (12 + u) = -1) → Q none h2) : ∀ (d k : Nat) (h1 : mr_h), k + d = 12 → mr_fr h h1 [74, 76] → h1.1 74 = MO th ty tt tk pl va fa nn (nI 4) (nI 0) um sn uf → h1.1 76 = mr_I 24 (wB W0 k) → mr_wp 117 12 [.ref 74, .int (nI k)] [] h1 Q := by
  intro d
  induction d with
  | zero =>
    intro k h1 hk f e74 e76
    have : k = 12 := by omega
    subst this
    rw [s_mo_begins_12]
    simp only [S_mo_begins, SEL, PF, mr_gf_O, mr_rc_O, Option.toList_some, Option.toList_none, List.cons_append, List.nil_append, b2i_0, b2i_1, b2i_a, a_00, a_11, ai_n, si_n, nI_1, q_rl_bit, mr_up_at, Nat.reduceLeDiff, Nat.reduceLT, Nat.reduceEqDiff, Nat.reduceAdd, if_true, if_false, Bool.true_eq_false, Bool.false_eq_true, Bool.true_and, Bool.false_and, Bool.and_true, Bool.and_false, i_10, i_01, i_00, not_true_eq_false, not_false_eq_true, if_pos (show (12 : Int32) ≤ nI 12 by decide)]
    refine kk h1 _ f e74 e76 (fun u hu => ⟨?_, ?_⟩)
    · unfold wB; rw [if_pos hu, if_pos hu]
    · unfold wB; rw [if_neg (by omega), if_pos (by omega)]
  | succ d ih =>
    intro k h1 hk f e74 e76
    have e74' := e74
    simp only [MO] at e74'
    have e12 : (12 : Int32) = nI 12 := rfl
    rw [s_mo_begins_12]
    simp only [S_mo_begins, SEL, PF, mr_gf_O, mr_rc_O, Option.toList_some, Option.toList_none, List.cons_append, List.nil_append, b2i_0, b2i_1, b2i_a, a_00, a_11, ai_n, si_n, nI_1, q_rl_bit, mr_up_at, Nat.reduceLeDiff, Nat.reduceLT, Nat.reduceEqDiff, Nat.reduceAdd, if_true, if_false, Bool.true_eq_false, Bool.false_eq_true, Bool.true_and, Bool.false_and, Bool.and_true, Bool.and_false, i_10, i_01, i_00, not_true_eq_false, not_false_eq_true, if_neg (show ¬ (12 : Int32) ≤ nI k from nI_ge (b := 12) (by omega) (by decide)), e74', e76, z_add, show k < 24 by omega]
    rw [e12]
    simp only [nI_add, SEL, PF, mr_gf_O, mr_rc_O, Option.toList_some, Option.toList_none, List.cons_append, List.nil_append, b2i_0, b2i_1, b2i_a, a_00, a_11, ai_n, si_n, nI_1, q_rl_bit, mr_up_at, Nat.reduceLeDiff, Nat.reduceLT, Nat.reduceEqDiff, Nat.reduceAdd, if_true, if_false, Bool.true_eq_false, Bool.false_eq_true, Bool.true_and, Bool.false_and, Bool.and_true, Bool.and_false, i_10, i_01, i_00, not_true_eq_false, not_false_eq_true, show 12 + k < 24 by omega]
    refine ih (k + 1) _ (by omega) (fr_up _ (fr_up _ f (by decide)) (by decide)) (by simp only [mr_up_at, Nat.reduceEqDiff, if_false]; exact e74) ?_
    rw [up_eq, wB_s (by omega)]
theorem q_mo_begins (e74 : h.1 74 = MO th ty tt tk pl va fa nn dn dr um sn uf) (e76 : h.1 76 = mr_I 24 W0) (kk : ∀ h2 W, mr_fr h h2 [74, 76] → h2.1 74 = MO th ty tt tk pl va fa nn (nI 4) (nI 0) um sn uf → h2.1 76 = mr_I 24 W → (∀ u, u < 12 → W u = 0 ∧ W (12 + u) = -1) → Q none h2) : mr_run 117 [.ref 74] h Q := by
  simp only [MO] at e74
  rw [r_mo_begins]
  simp only [S_mo_begins, SEL, PF, mr_gf_O, mr_rc_O, Option.toList_some, Option.toList_none, List.cons_append, List.nil_append, b2i_0, b2i_1, b2i_a, a_00, a_11, ai_n, si_n, nI_1, q_rl_bit, mr_up_at, Nat.reduceLeDiff, Nat.reduceLT, Nat.reduceEqDiff, Nat.reduceAdd, if_true, if_false, Bool.true_eq_false, Bool.false_eq_true, Bool.true_and, Bool.false_and, Bool.and_true, Bool.and_false, i_10, i_01, i_00, not_true_eq_false, not_false_eq_true, e74]
  rw [← nI_0]
  refine l_begins (h := h) (W0 := W0) kk 12 0 _ (by decide) (fr_up _ (fr_up _ (fr_rf _ _) (by decide)) (by decide)) (up_eq _ _ _) ?_
  simp only [mr_up_at, Nat.reduceEqDiff, if_false]
  rw [e76]
  refine congrArg (mr_I 24) (funext fun j => ?_)
  unfold wB
  by_cases e : j < 12
  · rw [if_pos e, if_neg (by omega)]
  · rw [if_neg e, if_neg (by omega)]
def wR (W : Nat → Int32) (rk k j : Nat) : Int32 := if 12 ≤ j ∧ j < 12 + k then rkv (fun u => W (12 + u)) rk (j - 12) else W j
theorem l_mranks (hR : ∀ u, u < 12 → W (12 + u) = -1 ∨ ∃ j, j < 100 ∧ W (12 + u) = nI j) (kk : ∀ h2 W' dr, mr_fr h h2 [74, 76] → h2.1 74 = MO th ty tt tk pl va fa nn dn dr um sn uf → h2.1 76 = mr_I 24 W' → (∀ u, u < 12 → W' u = W u ∧ W' (12 + u) = rkv (fun u => W (12 + u)) rk u) → Q none h2) : ∀ (d k : Nat) (h1 : mr_h), k + d = 12 → mr_fr h h1 [74, 76] → h1.1 74 = MO th ty tt tk pl va fa nn dn (nI (rk + fb_ct (fun j => decide (W (12 + j) = -1)) k)) um sn uf → h1.1 76 = mr_I 24 (wR W rk k) → mr_wp 118 2 [.ref 74, .int (nI k)] [] h1 Q := by
  intro d
  induction d with
  | zero =>
    intro k h1 hk f e74 e76
    have : k = 12 := by omega
    subst this
    rw [s_mo_ranksRest_2]
    simp only [S_mo_ranksRest, SEL, PF, mr_gf_O, mr_rc_O, Option.toList_some, Option.toList_none, List.cons_append, List.nil_append, b2i_0, b2i_1, b2i_a, a_00, a_11, ai_n, si_n, nI_1, q_rl_bit, mr_up_at, Nat.reduceLeDiff, Nat.reduceLT, Nat.reduceEqDiff, Nat.reduceAdd, if_true, if_false, Bool.true_eq_false, Bool.false_eq_true, Bool.true_and, Bool.false_and, Bool.and_true, Bool.and_false, i_10, i_01, i_00, not_true_eq_false, not_false_eq_true, if_pos (show (12 : Int32) ≤ nI 12 by decide)]
    refine kk h1 _ _ f e74 e76 (fun u hu => ⟨?_, ?_⟩)
    · unfold wR; rw [if_neg (by omega)]
    · unfold wR; rw [if_pos (by omega), show 12 + u - 12 = u by omega]
  | succ d ih =>
    intro k h1 hk f e74 e76
    have e74' := e74
    simp only [MO] at e74'
    have e12 : (12 : Int32) = nI 12 := rfl
    have ew : wR W rk k (12 + k) = W (12 + k) := by unfold wR; rw [if_neg (by omega)]
    have nx := ih (k + 1)
    rw [s_mo_ranksRest_2]
    simp only [S_mo_ranksRest, SEL, PF, mr_gf_O, mr_rc_O, Option.toList_some, Option.toList_none, List.cons_append, List.nil_append, b2i_0, b2i_1, b2i_a, a_00, a_11, ai_n, si_n, nI_1, q_rl_bit, mr_up_at, Nat.reduceLeDiff, Nat.reduceLT, Nat.reduceEqDiff, Nat.reduceAdd, if_true, if_false, Bool.true_eq_false, Bool.false_eq_true, Bool.true_and, Bool.false_and, Bool.and_true, Bool.and_false, i_10, i_01, i_00, not_true_eq_false, not_false_eq_true, if_neg (show ¬ (12 : Int32) ≤ nI k from nI_ge (b := 12) (by omega) (by decide)), e74', e76]
    rw [e12]
    simp only [nI_add, SEL, PF, mr_gf_O, mr_rc_O, Option.toList_some, Option.toList_none, List.cons_append, List.nil_append, b2i_0, b2i_1, b2i_a, a_00, a_11, ai_n, si_n, nI_1, q_rl_bit, mr_up_at, Nat.reduceLeDiff, Nat.reduceLT, Nat.reduceEqDiff, Nat.reduceAdd, if_true, if_false, Bool.true_eq_false, Bool.false_eq_true, Bool.true_and, Bool.false_and, Bool.and_true, Bool.and_false, i_10, i_01, i_00, not_true_eq_false, not_false_eq_true, show 12 + k < 24 by omega, ew]
    by_cases z : W (12 + k) = -1
    · rw [fb_ct_succ, decide_eq_true z, if_pos rfl, ← Nat.add_assoc] at nx
      simp only [z, if_neg (show ¬ (0 : Int32) ≤ -1 by decide), S_mo_ranksRest, SEL, PF, mr_gf_O, mr_rc_O, Option.toList_some, Option.toList_none, List.cons_append, List.nil_append, b2i_0, b2i_1, b2i_a, a_00, a_11, ai_n, si_n, nI_1, q_rl_bit, mr_up_at, Nat.reduceLeDiff, Nat.reduceLT, Nat.reduceEqDiff, Nat.reduceAdd, if_true, if_false, Bool.true_eq_false, Bool.false_eq_true, Bool.true_and, Bool.false_and, Bool.and_true, Bool.and_false, i_10, i_01, i_00, not_true_eq_false, not_false_eq_true, e74', e76, nI_add, show 12 + k < 24 by omega]
      refine nx _ (by omega) (fr_up _ (fr_up _ f (by decide)) (by decide)) (up_eq _ _ _) ?_
      simp only [mr_up_at, Nat.reduceEqDiff, if_false, if_true]
      refine congrArg (mr_I 24) (upd_ext ?_ (fun j e => ?_))
      · unfold wR rkv
        rw [if_pos (by omega), show 12 + k - 12 = k by omega, if_pos z]
      · unfold wR
        by_cases e2 : 12 ≤ j ∧ j < 12 + k
        · rw [if_pos e2, if_pos (by omega)]
        · rw [if_neg e2, if_neg (by omega)]
    · obtain ⟨j, hj, ej⟩ := (hR k (by omega)).resolve_left z
      rw [fb_ct_succ, decide_eq_false z, if_neg (by decide), Nat.add_zero] at nx
      simp only [ej, if_pos (show (0 : Int32) ≤ nI j from nI_pos' (by omega)), S_mo_ranksRest, SEL, PF, mr_gf_O, mr_rc_O, Option.toList_some, Option.toList_none, List.cons_append, List.nil_append, b2i_0, b2i_1, b2i_a, a_00, a_11, ai_n, si_n, nI_1, q_rl_bit, mr_up_at, Nat.reduceLeDiff, Nat.reduceLT, Nat.reduceEqDiff, Nat.reduceAdd, if_true, if_false, Bool.true_eq_false, Bool.false_eq_true, Bool.true_and, Bool.false_and, Bool.and_true, Bool.and_false, i_10, i_01, i_00, not_true_eq_false, not_false_eq_true]
      refine nx _ (by omega) f e74 ?_
      rw [e76]
      refine congrArg (mr_I 24) (funext fun i => ?_)
      unfold wR
      by_cases e : i = 12 + k
      · subst e
        rw [if_neg (by omega), if_pos (by omega)]
        unfold rkv
        rw [show 12 + k - 12 = k by omega, if_neg z]
      · by_cases e2 : 12 ≤ i ∧ i < 12 + k
        · rw [if_pos e2, if_pos (by omega)]
        · rw [if_neg e2, if_neg (by omega)]
theorem q_mo_ranksRest (hR : ∀ u, u < 12 → W (12 + u) = -1 ∨ ∃ j, j < 100 ∧ W (12 + u) = nI j) (e74 : h.1 74 = MO th ty tt tk pl va fa nn dn (nI rk) um sn uf) (e76 : h.1 76 = mr_I 24 W) (kk : ∀ h2 W' dr, mr_fr h h2 [74, 76] → h2.1 74 = MO th ty tt tk pl va fa nn dn dr um sn uf → h2.1 76 = mr_I 24 W' → (∀ u, u < 12 → W' u = W u ∧ W' (12 + u) = rkv (fun u => W (12 + u)) rk u) → Q none h2) : mr_run 118 [.ref 74] h Q := by
  rw [r_mo_ranksRest]
  simp only [S_mo_ranksRest, SEL, PF, mr_gf_O, mr_rc_O, Option.toList_some, Option.toList_none, List.cons_append, List.nil_append, b2i_0, b2i_1, b2i_a, a_00, a_11, ai_n, si_n, nI_1, q_rl_bit, mr_up_at, Nat.reduceLeDiff, Nat.reduceLT, Nat.reduceEqDiff, Nat.reduceAdd, if_true, if_false, Bool.true_eq_false, Bool.false_eq_true, Bool.true_and, Bool.false_and, Bool.and_true, Bool.and_false, i_10, i_01, i_00, not_true_eq_false, not_false_eq_true]
  rw [← nI_0]
  refine l_mranks (h := h) hR kk 12 0 h (by decide) (fr_rf _ _) (by rw [show fb_ct (fun j => decide (W (12 + j) = -1)) 0 = 0 from rfl, Nat.add_zero]; exact e74) ?_
  rw [e76]
  refine congrArg (mr_I 24) (funext fun j => ?_)
  unfold wR
  rw [if_neg (by omega)]
theorem l_settles {Z : Nat → Int32} (e76 : h.1 76 = mr_I 24 W) (e74 : h.1 74 = MO th ty tt tk pl va fa dn dn dr um sn uf) (e80 : h.1 80 = mr_Z 2 Z) (kk : ∀ h2 S' Z', mr_fr h h2 [74, 77, 80] → h2.1 74 = MO th (nI 0) tt tk pl va fa dn dn dr (nI 0) (nI 0) uf → h2.1 77 = mr_I 24 S' → (∀ j, j < 24 → S' j = W j) → h2.1 80 = mr_Z 2 Z' → (∀ i, i < 2 → Z' i = 0) → Q none h2) : ∀ (d k : Nat) (h1 : mr_h), k + d = 24 → mr_fr h h1 [77] → h1.1 77 = mr_I 24 (fb_put S W 0 k) → mr_wp 119 10 [.ref 74, .int (nI k)] [] h1 Q := by
  intro d
  induction d with
  | zero =>
    intro k h1 hk f e77
    have : k = 24 := by omega
    subst this
    have g74 := fr_at f (by decide) e74
    have g80 := fr_at f (by decide) e80
    have z0 : ∀ (f : Nat → Int32) (x : Int32) (K : mr_c → Prop), mr_sz (mr_Z 2 f) 0 x K = K (mr_Z 2 (upd f 0 (x &&& 1))) := fun f x K => sz_n (k := 0) (by decide) (by decide)
    have z1 : ∀ (f : Nat → Int32) (x : Int32) (K : mr_c → Prop), mr_sz (mr_Z 2 f) 1 x K = K (mr_Z 2 (upd f 1 (x &&& 1))) := fun f x K => sz_n (k := 1) (by decide) (by decide)
    simp only [MO] at g74
    rw [s_mo_settles_10]
    simp only [S_mo_settles, SEL, PF, mr_gf_O, mr_rc_O, Option.toList_some, Option.toList_none, List.cons_append, List.nil_append, b2i_0, b2i_1, b2i_a, a_00, a_11, ai_n, si_n, nI_1, q_rl_bit, mr_up_at, Nat.reduceLeDiff, Nat.reduceLT, Nat.reduceEqDiff, Nat.reduceAdd, if_true, if_false, Bool.true_eq_false, Bool.false_eq_true, Bool.true_and, Bool.false_and, Bool.and_true, Bool.and_false, i_10, i_01, i_00, not_true_eq_false, not_false_eq_true, if_pos (show (24 : Int32) ≤ nI 24 by decide), g74, g80, z0, z1]
    refine kk _ _ _ (fr_up _ (fr_up _ (fr_up _ (fr_up _ (fr_up _ (fr_wk f (by decide)) (by decide)) (by decide)) (by decide)) (by decide)) (by decide)) (by simp only [mr_up_at, Nat.reduceEqDiff, if_false, if_true]; rfl) (by simp only [mr_up_at, Nat.reduceEqDiff, if_false]; exact e77) (fun j hj => by rw [fb_put_in (by omega) (by omega)]; rfl) (by rw [up_eq]) (fun i hi => ?_)
    have : i = 0 ∨ i = 1 := by omega
    rcases this with rfl | rfl
    · rw [upd_ne _ _ (by decide), upd_at]
    · rw [upd_at]
  | succ d ih =>
    intro k h1 hk f e77
    have g74 := fr_at f (by decide) e74
    have g76 := fr_at f (by decide) e76
    have e1 := fb_put_succ S W 0 k
    rw [Nat.zero_add] at e1
    simp only [MO] at g74
    rw [s_mo_settles_10]
    simp only [S_mo_settles, SEL, PF, mr_gf_O, mr_rc_O, Option.toList_some, Option.toList_none, List.cons_append, List.nil_append, b2i_0, b2i_1, b2i_a, a_00, a_11, ai_n, si_n, nI_1, q_rl_bit, mr_up_at, Nat.reduceLeDiff, Nat.reduceLT, Nat.reduceEqDiff, Nat.reduceAdd, if_true, if_false, Bool.true_eq_false, Bool.false_eq_true, Bool.true_and, Bool.false_and, Bool.and_true, Bool.and_false, i_10, i_01, i_00, not_true_eq_false, not_false_eq_true, if_neg (show ¬ (24 : Int32) ≤ nI k from nI_ge (b := 24) (by omega) (by decide)), g74, g76, e77, show k < 24 by omega, e1]
    exact ih (k + 1) _ (by omega) (fr_up _ f (by decide)) (up_eq _ _ _)
theorem q_mo_settles {Z : Nat → Int32} (e76 : h.1 76 = mr_I 24 W) (e77 : h.1 77 = mr_I 24 S) (e74 : h.1 74 = MO th ty tt tk pl va fa nn dn dr um sn uf) (e80 : h.1 80 = mr_Z 2 Z) (kk : ∀ h2 S' Z', mr_fr h h2 [74, 77, 80] → h2.1 74 = MO th (nI 0) tt tk pl va fa dn dn dr (nI 0) (nI 0) uf → h2.1 77 = mr_I 24 S' → (∀ j, j < 24 → S' j = W j) → h2.1 80 = mr_Z 2 Z' → (∀ i, i < 2 → Z' i = 0) → Q none h2) : mr_run 119 [.ref 74] h Q := by
  simp only [MO] at e74
  rw [r_mo_settles]
  simp only [S_mo_settles, SEL, PF, mr_gf_O, mr_rc_O, Option.toList_some, Option.toList_none, List.cons_append, List.nil_append, b2i_0, b2i_1, b2i_a, a_00, a_11, ai_n, si_n, nI_1, q_rl_bit, mr_up_at, Nat.reduceLeDiff, Nat.reduceLT, Nat.reduceEqDiff, Nat.reduceAdd, if_true, if_false, Bool.true_eq_false, Bool.false_eq_true, Bool.true_and, Bool.false_and, Bool.and_true, Bool.and_false, i_10, i_01, i_00, not_true_eq_false, not_false_eq_true, e74]
  rw [← nI_0]
  have f1 : mr_fr h (mr_up h 74 (MO th ty tt tk pl va fa dn dn dr um sn uf)) [74] := fr_up _ (fr_rf _ _) (by decide)
  refine l_settles (h := mr_up h 74 (MO th ty tt tk pl va fa dn dn dr um sn uf)) (S := S) (fr_at f1 (by decide) e76) (up_eq _ _ _) (fr_at f1 (by decide) e80) (fun h2 S' Z' f2 => kk h2 S' Z' (fr_tr (fr_wk f1 (by decide)) f2 (by decide))) 24 0 _ (by decide) (fr_rf _ _) ?_
  rw [fb_put_0]
  exact fr_at f1 (by decide) e77
end MDRAFT
