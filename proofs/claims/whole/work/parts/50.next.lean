/-! next -/
theorem t_12m (k : Nat) : (12 : Int32) * nI k = nI (12 * k) := (Int32.ofNat_mul 12 k).symm
theorem grp_max2 {all y : Nat} (h : y ≤ all) (hb : all ≤ 144) : (if nI y ≤ nI all - nI y then nI all - nI y else nI y) = nI (grp all y) := by
  rw [nI_sub h]
  unfold grp
  by_cases z : y < all - y
  · rw [if_pos z, if_pos (nI_le (by omega) (by omega))]
  · rw [if_neg z]
    by_cases z2 : y = all - y
    · rw [if_pos (nI_le (by omega) (by omega)), ← z2]
    · rw [if_neg (nI_ge (by omega) (by omega))]
section NEXT
variable {h : mr_h} {Q : Option Value → mr_h → Prop} {n len us m : Nat} {E K C : Nat → Int32} {c : Nat → Nat → Bool}
theorem zb_yb {u v : Nat} (hu : u < n) (hv : v < 12) : fc (zb E n c (12 * u + v)) n n = fc (yb E n c u v) n n := by
  unfold fc
  refine fb_sm_cong fun p _ => fb_ct_cong fun q _ => ?_
  unfold zb yb
  rw [show (12 * u + v) / 12 = u by omega, show (12 * u + v) % 12 = v by omega]
  simp [hu]
theorem l_mnext2 (hn : n ≤ 12) {u : Nat} (hu : u < n) (hm : MN h n) (e89 : h.1 89 = mr_I 144 C) (hC : ∀ j, j < 144 → C j = nI (fc (zb E n c j) n n)) {s0 : Option (Nat × Nat)} (kk : ∀ v6 v7, mr_wp 177 112 [.ref 74, .int (nI (fc c n n)), .int (fI (ns2 (gq E n c) s0 u n)), .int (lI (gq E n c) 999 (ns2 (gq E n c) s0 u n)), .int (nI u), .int (nI n), v6, v7] [] h Q) : ∀ (d k : Nat) (v6 v7 : Value), k + d = n → mr_wp 177 37 [.ref 74, .int (nI (fc c n n)), .int (fI (ns2 (gq E n c) s0 u k)), .int (lI (gq E n c) 999 (ns2 (gq E n c) s0 u k)), .int (nI u), .int (nI k), v6, v7] [] h Q := by
  obtain ⟨th, ty, tt, tk, pl, va, fa, dn, dr, um, sn, uf, e74⟩ := id hm
  have hall := fc_le c hn
  intro d
  induction d with
  | zero =>
    intro k v6 v7 hk
    have : k = n := by omega
    subst this
    have := kk v6 v7
    rw [s_mo_next_37]
    simp only [S_mo_next_0, S_mo_next_1, e74, MO, SEL, PF, mr_gf_O, mr_rc_O, Option.toList_some, Option.toList_none, List.cons_append, List.nil_append, b2i_0, b2i_1, b2i_a, a_00, a_11, ai_n, si_n, nI_1, q_rl_bit, mr_up_at, Nat.reduceLeDiff, Nat.reduceLT, Nat.reduceEqDiff, Nat.reduceAdd, if_true, if_false, Bool.true_eq_false, Bool.false_eq_true, Bool.true_and, Bool.false_and, Bool.and_true, Bool.and_false, i_10, i_01, i_00, not_true_eq_false, not_false_eq_true, if_pos (nI_le (Nat.le_refl k) (show k < 2 ^ 31 by omega))] at this ⊢
    exact this
  | succ d ih =>
    intro k v6 v7 hk
    have hkn : k < n := by omega
    have c1 : ¬ nI n ≤ nI k := nI_ge (by omega) (by omega)
    have e1 : ns2 (gq E n c) s0 u (k + 1) = nstep (gq E n c) (ns2 (gq E n c) s0 u k) u k := rfl
    have hy := yb_le E n c u k
    have hg : grp (fc c n n) (fc (yb E n c u k) n n) = gq E n c u k := rfl
    have hgl := gq_le E n c u k
    have hlt : 12 * u + k < 144 := by omega
    rw [s_mo_next_37]
    simp only [S_mo_next_0, S_mo_next_1, e74, MO, SEL, PF, mr_gf_O, mr_rc_O, Option.toList_some, Option.toList_none, List.cons_append, List.nil_append, b2i_0, b2i_1, b2i_a, a_00, a_11, ai_n, si_n, nI_1, q_rl_bit, mr_up_at, Nat.reduceLeDiff, Nat.reduceLT, Nat.reduceEqDiff, Nat.reduceAdd, if_true, if_false, Bool.true_eq_false, Bool.false_eq_true, Bool.true_and, Bool.false_and, Bool.and_true, Bool.and_false, i_10, i_01, i_00, not_true_eq_false, not_false_eq_true, if_neg c1, e89, t_12m, nI_add, hlt, hC _ hlt, zb_yb hu (show k < 12 by omega)]
    have eg := grp_max2 hy hall
    rw [hg] at eg
    have sp : ∀ (P : Int32 → Prop), P (nI (gq E n c u k)) → (if nI (fc (yb E n c u k) n n) ≤ nI (fc c n n) - nI (fc (yb E n c u k) n n) then P (nI (fc c n n) - nI (fc (yb E n c u k) n n)) else P (nI (fc (yb E n c u k) n n))) := fun P hp => by
      rw [← eg] at hp
      split
      · rename_i z; rwa [if_pos z] at hp
      · rename_i z; rwa [if_neg z] at hp
    have := fun v6 v7 => ih (k + 1) v6 v7 (by omega)
    have key : ∀ (x : Int32), x = nI (gq E n c u k) → mr_wp 177 79 [.ref 74, .int (nI (fc c n n)), .int (fI (ns2 (gq E n c) s0 u k)), .int (lI (gq E n c) 999 (ns2 (gq E n c) s0 u k)), .int (nI u), .int (nI k), .int (nI (fc (yb E n c u k) n n)), v7] [.int x] h Q := by
      intro x hx
      subst hx
      simp only [S_mo_next_0, S_mo_next_1, SEL, PF, mr_gf_O, mr_rc_O, Option.toList_some, Option.toList_none, List.cons_append, List.nil_append, b2i_0, b2i_1, b2i_a, a_00, a_11, ai_n, si_n, nI_1, q_rl_bit, mr_up_at, Nat.reduceLeDiff, Nat.reduceLT, Nat.reduceEqDiff, Nat.reduceAdd, if_true, if_false, Bool.true_eq_false, Bool.false_eq_true, Bool.true_and, Bool.false_and, Bool.and_true, Bool.and_false, i_10, i_01, i_00, not_true_eq_false, not_false_eq_true, t_16, nI_eq (show u < 2 ^ 31 by omega) (show k < 2 ^ 31 by omega)]
      by_cases huk : u = k
      · have e2 : ns2 (gq E n c) s0 u (k + 1) = ns2 (gq E n c) s0 u k := by
          rw [e1]
          unfold nstep
          rw [if_pos huk]
        rw [if_pos huk]
        rw [e2] at this
        exact this _ _
      · rw [if_neg huk]
        rw [e1] at this
        unfold nstep at this
        simp only [if_neg huk] at this
        cases es : ns2 (gq E n c) s0 u k with
        | none =>
          rw [es] at this
          rw [if_neg (show ¬ lI (gq E n c) 999 none ≤ nI (gq E n c u k) from nI_ge (b := 999) (by omega) (by decide))]
          exact this _ _
        | some p =>
          rw [es] at this
          dsimp only at this
          have hgp := gq_le E n c p.1 p.2
          by_cases b2 : gq E n c u k < gq E n c p.1 p.2
          · simp only [b2, if_true] at this
            rw [if_neg (show ¬ lI (gq E n c) 999 (some p) ≤ nI (gq E n c u k) from nI_ge b2 (by omega))]
            exact this _ _
          · simp only [b2, if_false] at this
            rw [if_pos (show lI (gq E n c) 999 (some p) ≤ nI (gq E n c u k) from nI_le (by omega) (by omega))]
            exact this _ _
    have := sp (fun x => mr_wp 177 79 [.ref 74, .int (nI (fc c n n)), .int (fI (ns2 (gq E n c) s0 u k)), .int (lI (gq E n c) 999 (ns2 (gq E n c) s0 u k)), .int (nI u), .int (nI k), .int (nI (fc (yb E n c u k) n n)), v7] [.int x] h Q) (key _ rfl)
    simp only [S_mo_next_0, S_mo_next_1, SEL, PF, mr_gf_O, mr_rc_O, Option.toList_some, Option.toList_none, List.cons_append, List.nil_append, b2i_0, b2i_1, b2i_a, a_00, a_11, ai_n, si_n, nI_1, q_rl_bit, mr_up_at, Nat.reduceLeDiff, Nat.reduceLT, Nat.reduceEqDiff, Nat.reduceAdd, if_true, if_false, Bool.true_eq_false, Bool.false_eq_true, Bool.true_and, Bool.false_and, Bool.and_true, Bool.and_false, i_10, i_01, i_00, not_true_eq_false, not_false_eq_true, t_12m, nI_add, t_16] at this ⊢
    exact this
theorem l_mnext1 (hn : n ≤ 12) (hm : MN h n) (h1 : ¬ fc c n n ≤ 1) (e89 : h.1 89 = mr_I 144 C) (hC : ∀ j, j < 144 → C j = nI (fc (zb E n c j) n n)) (kk : Q (some (.int (fI (ns1 (gq E n c) n n)))) h) : ∀ (d k : Nat) (v5 v6 v7 : Value), k + d = n → mr_wp 177 20 [.ref 74, .int (nI (fc c n n)), .int (fI (ns1 (gq E n c) n k)), .int (lI (gq E n c) 999 (ns1 (gq E n c) n k)), .int (nI k), v5, v6, v7] [] h Q := by
  obtain ⟨th, ty, tt, tk, pl, va, fa, dn, dr, um, sn, uf, e74⟩ := id hm
  have hall := fc_le c hn
  intro d
  induction d with
  | zero =>
    intro k v5 v6 v7 hk
    have : k = n := by omega
    subst this
    rw [s_mo_next_20]
    simp only [S_mo_next_0, S_mo_next_1, e74, MO, SEL, PF, mr_gf_O, mr_rc_O, Option.toList_some, Option.toList_none, List.cons_append, List.nil_append, b2i_0, b2i_1, b2i_a, a_00, a_11, ai_n, si_n, nI_1, q_rl_bit, mr_up_at, Nat.reduceLeDiff, Nat.reduceLT, Nat.reduceEqDiff, Nat.reduceAdd, if_true, if_false, Bool.true_eq_false, Bool.false_eq_true, Bool.true_and, Bool.false_and, Bool.and_true, Bool.and_false, i_10, i_01, i_00, not_true_eq_false, not_false_eq_true, if_pos (nI_le (Nat.le_refl k) (show k < 2 ^ 31 by omega))]
    exact kk
  | succ d ih =>
    intro k v5 v6 v7 hk
    have c1 : ¬ nI n ≤ nI k := nI_ge (by omega) (by omega)
    rw [s_mo_next_20]
    simp only [S_mo_next_0, S_mo_next_1, e74, MO, SEL, PF, mr_gf_O, mr_rc_O, Option.toList_some, Option.toList_none, List.cons_append, List.nil_append, b2i_0, b2i_1, b2i_a, a_00, a_11, ai_n, si_n, nI_1, q_rl_bit, mr_up_at, Nat.reduceLeDiff, Nat.reduceLT, Nat.reduceEqDiff, Nat.reduceAdd, if_true, if_false, Bool.true_eq_false, Bool.false_eq_true, Bool.true_and, Bool.false_and, Bool.and_true, Bool.and_false, i_10, i_01, i_00, not_true_eq_false, not_false_eq_true, if_neg c1, if_neg (show ¬ nI (fc c n n) ≤ 1 from nI_ge (a := 1) (by omega) (by omega))]
    rw [← nI_0]
    refine l_mnext2 hn (show k < n by omega) hm e89 hC (s0 := ns1 (gq E n c) n k) ?_ n 0 v6 v7 (by omega)
    intro v6 v7
    simp only [S_mo_next_0, S_mo_next_1, SEL, PF, mr_gf_O, mr_rc_O, Option.toList_some, Option.toList_none, List.cons_append, List.nil_append, b2i_0, b2i_1, b2i_a, a_00, a_11, ai_n, si_n, nI_1, q_rl_bit, mr_up_at, Nat.reduceLeDiff, Nat.reduceLT, Nat.reduceEqDiff, Nat.reduceAdd, if_true, if_false, Bool.true_eq_false, Bool.false_eq_true, Bool.true_and, Bool.false_and, Bool.and_true, Bool.and_false, i_10, i_01, i_00, not_true_eq_false, not_false_eq_true]
    exact ih (k + 1) _ v6 v7 (by omega)
theorem b_next (hi : Inv h) : Both 108 177 [] h := by
  obtain ⟨n, len, us, m, E, K, st⟩ := hi
  have hE := St_E st
  have hn := hE.1
  have h1n := St_n st
  obtain ⟨sf, sg, cm, sv⟩ := gV_SV hn st.2.2.2.1
  obtain ⟨h0, ⟨x, e28⟩, -⟩ := id sv
  unfold Both
  rw [r_rl_next]
  simp only [S_rl_next, SEL, PF, mr_gf_O, mr_rc_O, Option.toList_some, Option.toList_none, List.cons_append, List.nil_append, b2i_0, b2i_1, b2i_a, a_00, a_11, ai_n, si_n, nI_1, q_rl_bit, mr_up_at, Nat.reduceLeDiff, Nat.reduceLT, Nat.reduceEqDiff, Nat.reduceAdd, if_true, if_false, Bool.true_eq_false, Bool.false_eq_true, Bool.true_and, Bool.false_and, Bool.and_true, Bool.and_false, i_10, i_01, i_00, not_true_eq_false, not_false_eq_true, St_0 st, RLO, e28]
  refine q_si_sift st sv ?_
  intro h2 F e2 s2 sv2 g28 g32 hF
  simp only [S_rl_next, SEL, PF, mr_gf_O, mr_rc_O, Option.toList_some, Option.toList_none, List.cons_append, List.nil_append, b2i_0, b2i_1, b2i_a, a_00, a_11, ai_n, si_n, nI_1, q_rl_bit, mr_up_at, Nat.reduceLeDiff, Nat.reduceLT, Nat.reduceEqDiff, Nat.reduceAdd, if_true, if_false, Bool.true_eq_false, Bool.false_eq_true, Bool.true_and, Bool.false_and, Bool.and_true, Bool.and_false, i_10, i_01, i_00, not_true_eq_false, not_false_eq_true, St_0 s2, RLO, g28]
  refine q_si_bestQuestion s2 g28 g32 hF ?_
  simp only [S_rl_next, SEL, PF, mr_gf_O, mr_rc_O, Option.toList_some, Option.toList_none, List.cons_append, List.nil_append, b2i_0, b2i_1, b2i_a, a_00, a_11, ai_n, si_n, nI_1, q_rl_bit, mr_up_at, Nat.reduceLeDiff, Nat.reduceLT, Nat.reduceEqDiff, Nat.reduceAdd, if_true, if_false, Bool.true_eq_false, Bool.false_eq_true, Bool.true_and, Bool.false_and, Bool.and_true, Bool.and_false, i_10, i_01, i_00, not_true_eq_false, not_false_eq_true]
  obtain ⟨th, tt, tk, pl, va, fa, dn, dr, uf, g74⟩ := id s2.2.2.2.2.2.2
  rw [r_mo_next]
  simp only [S_mo_next_0, S_mo_next_1, g74, MO, SEL, PF, mr_gf_O, mr_rc_O, Option.toList_some, Option.toList_none, List.cons_append, List.nil_append, b2i_0, b2i_1, b2i_a, a_00, a_11, ai_n, si_n, nI_1, q_rl_bit, mr_up_at, Nat.reduceLeDiff, Nat.reduceLT, Nat.reduceEqDiff, Nat.reduceAdd, if_true, if_false, Bool.true_eq_false, Bool.false_eq_true, Bool.true_and, Bool.false_and, Bool.and_true, Bool.and_false, i_10, i_01, i_00, not_true_eq_false, not_false_eq_true]
  have f3 : mr_fr h2 (mr_up h2 74 (MO 0 (nI len) tt tk pl va fa (nI n) dn dr (nI us) (nI m) uf)) [74] := fr_up _ (fr_rf _ _) (by decide)
  refine q_mo_unseenMany (St_mo s2 f3 ⟨_, _, _, _, _, _, _, _, _, up_eq _ _ _⟩) (SV_fr sv2 f3 (by decide)) ?_
  intro h4 C th tt tk pl va fa dn dr e4 s4 k74 k89 hC
  simp only [S_mo_next_0, S_mo_next_1, SEL, PF, mr_gf_O, mr_rc_O, Option.toList_some, Option.toList_none, List.cons_append, List.nil_append, b2i_0, b2i_1, b2i_a, a_00, a_11, ai_n, si_n, nI_1, q_rl_bit, mr_up_at, Nat.reduceLeDiff, Nat.reduceLT, Nat.reduceEqDiff, Nat.reduceAdd, if_true, if_false, Bool.true_eq_false, Bool.false_eq_true, Bool.true_and, Bool.false_and, Bool.and_true, Bool.and_false, i_10, i_01, i_00, not_true_eq_false, not_false_eq_true]
  rw [← nI_0]
  by_cases h1 : fc (cand E n m sf sg cm) n n ≤ 1
  · rw [s_mo_next_20]
    simp only [S_mo_next_0, S_mo_next_1, k74, MO, SEL, PF, mr_gf_O, mr_rc_O, Option.toList_some, Option.toList_none, List.cons_append, List.nil_append, b2i_0, b2i_1, b2i_a, a_00, a_11, ai_n, si_n, nI_1, q_rl_bit, mr_up_at, Nat.reduceLeDiff, Nat.reduceLT, Nat.reduceEqDiff, Nat.reduceAdd, if_true, if_false, Bool.true_eq_false, Bool.false_eq_true, Bool.true_and, Bool.false_and, Bool.and_true, Bool.and_false, i_10, i_01, i_00, not_true_eq_false, not_false_eq_true, if_neg (show ¬ nI n ≤ nI 0 from nI_ge (by omega) (by omega)), if_pos (show nI (fc (cand E n m sf sg cm) n n) ≤ 1 from nI_le (b := 1) h1 (by decide)), if_pos h1]
    exact ⟨⟨_, rfl, rfl⟩, ⟨_, _, _, _, _, _, s4⟩, e4.trans e2⟩
  · refine l_mnext1 (c := cand E n m sf sg cm) (E := E) hn (St_M s4) h1 k89 hC ?_ n 0 _ _ _ (by omega)
    rw [if_neg h1]
    exact ⟨⟨_, rfl, rfl⟩, ⟨_, _, _, _, _, _, s4⟩, e4.trans e2⟩
end NEXT
