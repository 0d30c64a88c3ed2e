/-! back, ranks -/
section BACK
variable {h : mr_h} {Q : Option Value → mr_h → Prop} {n us : Nat} {th ty tt tk pl va fa dn dr sn uf : Int32} {E K S D : Nat → Int32}
theorem l_mo_back {i : Nat} (hi : i < 2) (e74 : h.1 74 = MO th ty tt tk pl va fa (nI n) dn dr (nI us) sn uf) (e79 : h.1 79 = mr_I 48 D) (kk : ∀ h2, mr_fr h h2 [77] → h2.1 77 = mr_I 24 (fb_put S (fun j => D (24 * i + j)) 0 24) → mr_wp 179 59 [.ref 74, .int (nI i), .int (nI 24)] [] h2 Q) : ∀ (d k : Nat) (h1 : mr_h), k + d = 24 → h1.1 77 = mr_I 24 (fb_put S (fun j => D (24 * i + j)) 0 k) → mr_fr h h1 [77] → mr_wp 179 30 [.ref 74, .int (nI i), .int (nI k)] [] h1 Q := by
  intro d
  induction d with
  | zero =>
    intro k h1 hk e77 f
    have : k = 24 := by omega
    subst this
    have g74 := fr_at f (by decide) e74
    have := kk h1 f e77
    rw [s_mo_back_30]
    simp only [S_mo_back_0, S_mo_back_1, g74, MO, SEL, PF, mr_gf_O, mr_rc_O, Option.toList_some, Option.toList_none, List.cons_append, List.nil_append, b2i_0, b2i_1, b2i_a, a_00, a_11, ai_n, si_n, nI_1, q_rl_bit, mr_up_at, Nat.reduceLeDiff, Nat.reduceLT, Nat.reduceEqDiff, Nat.reduceAdd, if_true, if_false, if_pos (show (24 : Int32) ≤ nI 24 by decide)] at this ⊢
    exact this
  | succ d ih =>
    intro k h1 hk e77 f
    have g74 := fr_at f (by decide) e74
    have g79 := fr_at f (by decide) e79
    have h1k : k < 24 := by omega
    have h2k : 24 * i + k < 48 := by omega
    have e1 := fb_put_succ S (fun j => D (24 * i + j)) 0 k
    rw [Nat.zero_add] at e1
    rw [s_mo_back_30]
    simp only [S_mo_back_0, S_mo_back_1, g74, MO, SEL, PF, mr_gf_O, mr_rc_O, Option.toList_some, Option.toList_none, List.cons_append, List.nil_append, b2i_0, b2i_1, b2i_a, a_00, a_11, ai_n, si_n, nI_1, q_rl_bit, mr_up_at, Nat.reduceLeDiff, Nat.reduceLT, Nat.reduceEqDiff, Nat.reduceAdd, if_true, if_false, if_neg (show ¬ (24 : Int32) ≤ nI k from nI_ge (b := 24) (by omega) (by decide)), g79, e77, t_24, nI_add, h1k, h2k, e1]
    exact ih (k + 1) _ (by omega) (up_eq _ _ _) (fr_up _ f (by decide))
theorem b_back (hi : Inv h) (x : Int32) : Both 113 179 [.int x] h := by
  by_cases hx : ¬ x < 0 ∧ x < 2
  · obtain ⟨n, len, us, m, E, K, st⟩ := hi
    obtain ⟨x1, x2⟩ := id hx
    obtain ⟨i, hi, rfl⟩ := im_in x1 x2
    have hE := St_E st
    have hn := hE.1
    have hin : decide (¬ nI i < 0 ∧ ¬ (1 : Int32) < nI i) = true := decide_eq_true ⟨x1, nI_nlt (b := i) (a := 1) (by omega) (by decide)⟩
    obtain ⟨Z, Z2, D, e67, e80, e79, hk⟩ := id st.2.2.2.2.2.1
    obtain ⟨q1, q2, -, q4⟩ := hk i hi
    by_cases hz : Z i = 0
    · have e65 := c65 st.1
      unfold Both
      rw [r_rl_back]
      simp only [S_rl_back, St_0 st, RLO, SEL, PF, mr_gf_O, mr_rc_O, Option.toList_some, Option.toList_none, List.cons_append, List.nil_append, b2i_0, b2i_1, b2i_a, a_00, a_11, ai_n, si_n, nI_1, q_rl_bit, mr_up_at, Nat.reduceLeDiff, Nat.reduceLT, Nat.reduceEqDiff, Nat.reduceAdd, if_true, if_false, Bool.true_eq_false, Bool.false_eq_true, Bool.true_and, Bool.false_and, Bool.and_true, Bool.and_false, i_10, i_01, i_00, not_true_eq_false, not_false_eq_true, if_neg x1, if_pos x2, e65]
      rw [r_al_show]
      simp only [S_al_show, e65, SEL, PF, mr_gf_O, mr_rc_O, Option.toList_some, Option.toList_none, List.cons_append, List.nil_append, b2i_0, b2i_1, b2i_a, a_00, a_11, ai_n, si_n, nI_1, q_rl_bit, mr_up_at, Nat.reduceLeDiff, Nat.reduceLT, Nat.reduceEqDiff, Nat.reduceAdd, if_true, if_false, Bool.true_eq_false, Bool.false_eq_true, Bool.true_and, Bool.false_and, Bool.and_true, Bool.and_false, i_10, i_01, i_00, not_true_eq_false, not_false_eq_true, e67, az_n hi (show 2 ≤ 1000 by decide), hz, S_rl_back]
      obtain ⟨th, tt, tk, pl, va, fa, dn, dr, uf, e74⟩ := id st.2.2.2.2.2.2
      rw [r_mo_back]
      simp only [S_mo_back_0, S_mo_back_1, e74, MO, SEL, PF, mr_gf_O, mr_rc_O, Option.toList_some, Option.toList_none, List.cons_append, List.nil_append, b2i_0, b2i_1, b2i_a, a_00, a_11, ai_n, si_n, nI_1, q_rl_bit, mr_up_at, Nat.reduceLeDiff, Nat.reduceLT, Nat.reduceEqDiff, Nat.reduceAdd, if_true, if_false, Bool.true_eq_false, Bool.false_eq_true, Bool.true_and, Bool.false_and, Bool.and_true, Bool.and_false, i_10, i_01, i_00, not_true_eq_false, not_false_eq_true, q_mo_in, hin, e80, az_n hi (show 2 ≤ 1000 by decide), ← q1, hz]
      exact ⟨⟨_, rfl, rfl⟩, ⟨_, _, _, _, _, _, St_mo st (fr_up _ (fr_rf _ _) (by decide)) ⟨_, _, _, _, _, _, _, _, _, up_eq _ _ _⟩⟩, rfl⟩
    · have hz1 : Z i = 1 := q2.resolve_left hz
      obtain ⟨m1, E1, K1, m2, m3, hE1, hK1, hD⟩ := q4 hz1
      obtain ⟨F, e66, hF⟩ := F66 st.1
      obtain ⟨S, e77, hS⟩ := St_77 st
      obtain ⟨DU, e81, hpc⟩ := gP_c.mp st.2.2.2.2.1
      have e65 := c65 st.1
      unfold Both
      rw [r_rl_back]
      simp only [S_rl_back, St_0 st, RLO, SEL, PF, mr_gf_O, mr_rc_O, Option.toList_some, Option.toList_none, List.cons_append, List.nil_append, b2i_0, b2i_1, b2i_a, a_00, a_11, ai_n, si_n, nI_1, q_rl_bit, mr_up_at, Nat.reduceLeDiff, Nat.reduceLT, Nat.reduceEqDiff, Nat.reduceAdd, if_true, if_false, Bool.true_eq_false, Bool.false_eq_true, Bool.true_and, Bool.false_and, Bool.and_true, Bool.and_false, i_10, i_01, i_00, not_true_eq_false, not_false_eq_true, if_neg x1, if_pos x2, e65]
      rw [r_al_show]
      simp only [S_al_show, e65, SEL, PF, mr_gf_O, mr_rc_O, Option.toList_some, Option.toList_none, List.cons_append, List.nil_append, b2i_0, b2i_1, b2i_a, a_00, a_11, ai_n, si_n, nI_1, q_rl_bit, mr_up_at, Nat.reduceLeDiff, Nat.reduceLT, Nat.reduceEqDiff, Nat.reduceAdd, if_true, if_false, Bool.true_eq_false, Bool.false_eq_true, Bool.true_and, Bool.false_and, Bool.and_true, Bool.and_false, i_10, i_01, i_00, not_true_eq_false, not_false_eq_true, e67, az_n hi (show 2 ≤ 1000 by decide), hz1, e66, aq_n hi (show 2 ≤ 1000 by decide) (hF i hi), St_1 st, NE]
      refine q_ne_become (x := nI n) (E0 := E) (K0 := K) (by omega) (St_1 st) (St_2 st) (St_3 st) m1 m2 m3 ?_
      intro h1 E' K' f1 g1 g2 g3 hc
      have g0 := fr_at f1 (by decide) (St_0 st)
      obtain ⟨p0, p33, P, F2, p34, pF, pi, ps, pk⟩ := gPc_fr hpc f1 (by decide)
      simp only [S_al_show, SEL, PF, mr_gf_O, mr_rc_O, Option.toList_some, Option.toList_none, List.cons_append, List.nil_append, b2i_0, b2i_1, b2i_a, a_00, a_11, ai_n, si_n, nI_1, q_rl_bit, mr_up_at, Nat.reduceLeDiff, Nat.reduceLT, Nat.reduceEqDiff, Nat.reduceAdd, if_true, if_false, Bool.true_eq_false, Bool.false_eq_true, Bool.true_and, Bool.false_and, Bool.and_true, Bool.and_false, i_10, i_01, i_00, not_true_eq_false, not_false_eq_true, S_rl_back, g0, RLO, p33]
      have f2 : mr_fr h1 (mr_up h1 33 (mr_O 4 [.int (nI 0), .ref 34])) [33] := fr_up _ (fr_rf _ _) (by decide)
      have hE' : nt E' n := nt_cong hE1 (fun u hu => (hc u (by omega)).1)
      have hK' : rks E' K' n := rks_cong hK1 (fun u hu => (hc u (by omega)).1) (fun u hu => (hc u (by omega)).2)
      have gd := DS_fr (DS_fr (DV_DS (St_D st)) f1 (by decide)) f2 (by decide)
      obtain ⟨n0, nm, A, B, C, I, O, R, L, g9, -⟩ := id (DS_fr (DV_DS (St_D st)) f1 (by decide))
      simp only [g9, RE, SEL, PF, mr_gf_O, mr_rc_O, Option.toList_some, Option.toList_none, List.cons_append, List.nil_append, b2i_0, b2i_1, b2i_a, a_00, a_11, ai_n, si_n, nI_1, q_rl_bit, mr_up_at, Nat.reduceLeDiff, Nat.reduceLT, Nat.reduceEqDiff, Nat.reduceAdd, if_true, if_false, Bool.true_eq_false, Bool.false_eq_true, Bool.true_and, Bool.false_and, Bool.and_true, Bool.and_false, i_10, i_01, i_00, not_true_eq_false, not_false_eq_true]
      refine q_re_derive hE' (fr_at f2 (by decide) g1) (fr_at f2 (by decide) g2) (fr_at f2 (by decide) g3) gd ?_
      intro h2 f3 d2
      have k1 := fr_at f3 (by decide) (fr_at f2 (by decide) g1)
      have k2 := fr_at f3 (by decide) (fr_at f2 (by decide) g2)
      have k3 := fr_at f3 (by decide) (fr_at f2 (by decide) g3)
      have k0 := fr_at f3 (by decide) (fr_at f2 (by decide) g0)
      simp only [S_rl_back, SEL, PF, mr_gf_O, mr_rc_O, Option.toList_some, Option.toList_none, List.cons_append, List.nil_append, b2i_0, b2i_1, b2i_a, a_00, a_11, ai_n, si_n, nI_1, q_rl_bit, mr_up_at, Nat.reduceLeDiff, Nat.reduceLT, Nat.reduceEqDiff, Nat.reduceAdd, if_true, if_false, Bool.true_eq_false, Bool.false_eq_true, Bool.true_and, Bool.false_and, Bool.and_true, Bool.and_false, i_10, i_01, i_00, not_true_eq_false, not_false_eq_true, k0, RLO, q_ne_edgeCount hE' k1 k2, k1, NE]
      have FC : mr_fr h h2 LC := fr_tr (fr_tr (fr_wk f1 (by decide)) f2 (by decide)) f3 (by decide)
      have cn : CN h2 E' K' n 0 (fun i u => DU (24 * i + u)) (fun i u => DU (24 * i + 12 + u)) := by
        refine ⟨k1, k2, k3, d2, by omega, fr_at f3 (by decide) (up_eq _ _ _), P, F2, fr_at f3 (by decide) (fr_at f2 (by decide) p34), pF, pi, fun j hj => ?_, fun j hj => absurd hj (Nat.not_lt_zero j)⟩
        exact nshp_fr (nshp_fr (ps j hj) f2 (by simp <;> omega) (by simp <;> omega) (by simp <;> omega)) f3 (by simp <;> omega) (by simp <;> omega) (by simp <;> omega)
      have gs2 : gS h2 := gS_off (gS_off (gS_off st.1 f1 (by decide)) f2 (by decide)) f3 (by decide)
      obtain ⟨th, tt, tk, pl, va, fa, dn, dr, uf, e74⟩ := gM_fr st.2.2.2.2.2.2 FC (by decide)
      have k77 := fr_at FC (by decide) e77
      have k79 := fr_at FC (by decide) e79
      have k80 := fr_at FC (by decide) e80
      have k81 := fr_at FC (by decide) e81
      rw [r_mo_back]
      simp only [S_mo_back_0, S_mo_back_1, e74, MO, SEL, PF, mr_gf_O, mr_rc_O, Option.toList_some, Option.toList_none, List.cons_append, List.nil_append, b2i_0, b2i_1, b2i_a, a_00, a_11, ai_n, si_n, nI_1, q_rl_bit, mr_up_at, Nat.reduceLeDiff, Nat.reduceLT, Nat.reduceEqDiff, Nat.reduceAdd, if_true, if_false, Bool.true_eq_false, Bool.false_eq_true, Bool.true_and, Bool.false_and, Bool.and_true, Bool.and_false, i_10, i_01, i_00, not_true_eq_false, not_false_eq_true, q_mo_in, hin, k80, az_n hi (show 2 ≤ 1000 by decide), ← q1, hz1]
      rw [← nI_0]
      have f4 : mr_fr h2 (mr_up h2 74 (MO 0 (nI len) tt tk pl va fa (nI n) dn dr (nI us) (nI m) uf)) [74] := fr_up _ (fr_rf _ _) (by decide)
      refine l_mo_back (S := S) (D := D) hi (show (mr_up h2 74 (MO 0 (nI len) tt tk pl va fa (nI n) dn dr (nI us) (nI m) uf)).1 74 = _ from up_eq _ _ _) (fr_at f4 (by decide) k79) ?_ 24 0 _ (by decide) (by rw [fb_put_0]; exact fr_at f4 (by decide) k77) (fr_rf _ _)
      intro h3 f5 j77
      have j74 := fr_at f5 (by decide) (up_eq h2 74 (MO 0 (nI len) tt tk pl va fa (nI n) dn dr (nI us) (nI m) uf))
      simp only [S_mo_back_0, S_mo_back_1, j74, MO, SEL, PF, mr_gf_O, mr_rc_O, Option.toList_some, Option.toList_none, List.cons_append, List.nil_append, b2i_0, b2i_1, b2i_a, a_00, a_11, ai_n, si_n, nI_1, q_rl_bit, mr_up_at, Nat.reduceLeDiff, Nat.reduceLT, Nat.reduceEqDiff, Nat.reduceAdd, if_true, if_false, Bool.true_eq_false, Bool.false_eq_true, Bool.true_and, Bool.false_and, Bool.and_true, Bool.and_false, i_10, i_01, i_00, not_true_eq_false, not_false_eq_true]
      have f6 : mr_fr h3 (mr_up h3 74 (MO 0 (nI len) tt tk pl va fa (nI n) dn dr (nI 0) (nI m) uf)) [74] := fr_up _ (fr_rf _ _) (by decide)
      have hS' : ∀ u, u < n → fb_put S (fun j => D (24 * i + j)) 0 24 u = E' u ∧ fb_put S (fun j => D (24 * i + j)) 0 24 (12 + u) = K' u := fun u hu => by
        rw [fb_put_in (by omega) (by omega), fb_put_in (by omega) (by omega), (hc u (by omega)).1, (hc u (by omega)).2, ← (hD u hu).1, ← (hD u hu).2, show 24 * i + (u - 0) = 24 * i + u by omega, show 24 * i + (12 + u - 0) = 24 * i + 12 + u by omega]
        exact ⟨rfl, rfl⟩
      have ec := fun Q => q_mo_edges (Q := Q) (f := fb_put S (fun j => D (24 * i + j)) 0 24) (nt_cong hE' (fun u hu => (hS' u hu).1)) ⟨_, _, _, _, _, _, _, _, _, _, _, _, up_eq h3 74 (MO 0 (nI len) tt tk pl va fa (nI n) dn dr (nI 0) (nI m) uf)⟩ (fr_at f6 (by decide) j77)
      rw [esI_cong (fun k hk => (hS' k hk).1)] at ec
      refine (ec _).mpr ?_
      simp only [S_mo_back_0, S_mo_back_1, SEL, PF, mr_gf_O, mr_rc_O, Option.toList_some, Option.toList_none, List.cons_append, List.nil_append, b2i_0, b2i_1, b2i_a, a_00, a_11, ai_n, si_n, nI_1, q_rl_bit, mr_up_at, Nat.reduceLeDiff, Nat.reduceLT, Nat.reduceEqDiff, Nat.reduceAdd, if_true, if_false, Bool.true_eq_false, Bool.false_eq_true, Bool.true_and, Bool.false_and, Bool.and_true, Bool.and_false, i_10, i_01, i_00, not_true_eq_false, not_false_eq_true]
      have FM : mr_fr h2 (mr_up h3 74 (MO 0 (nI len) tt tk pl va fa (nI n) dn dr (nI 0) (nI m) uf)) LM := fr_up _ (fr_tr (fr_wk f4 (by decide)) f5 (by decide)) (by decide)
      refine ⟨⟨_, rfl, rfl⟩, ⟨_, _, _, _, _, _, fin_push st FC cn hE' hK' FM (gS_fr gs2 FM (fun k hk hk2 => ?_)) ⟨_, _, _, _, _, _, _, _, _, up_eq _ _ _⟩ (fr_at f6 (by decide) j77) hS' (fr_at f6 (by decide) (fr_at f5 (by decide) (fr_at f4 (by decide) k81))) (fun j hj u hu => ⟨rfl, rfl⟩)⟩, FM.1.trans FC.1⟩
      have : k = 85 := by revert hk hk2; revert k; decide
      subst this
      rw [f6.2 85 (by decide), f5.2 85 (by decide), f4.2 85 (by decide)]
      exact gs2 85 (by decide)
  · refine im_bad hi hx (fun h Q c => ?_) (fun n len us m E K hd => ?_)
    · rw [r_rl_back]
      rcases c with c | ⟨c1, c2⟩
      · simp only [S_rl_back, if_pos c]
      · simp only [S_rl_back, if_neg c1, if_neg c2]
    · intro h Q st kk
      obtain ⟨th, tt, tk, pl, va, fa, dn, dr, uf, e74⟩ := id st.2.2.2.2.2.2
      rw [r_mo_back]
      simp only [S_mo_back_0, S_mo_back_1, e74, MO, SEL, PF, mr_gf_O, mr_rc_O, Option.toList_some, Option.toList_none, List.cons_append, List.nil_append, b2i_0, b2i_1, b2i_a, a_00, a_11, ai_n, si_n, nI_1, q_rl_bit, mr_up_at, Nat.reduceLeDiff, Nat.reduceLT, Nat.reduceEqDiff, Nat.reduceAdd, if_true, if_false, Bool.true_eq_false, Bool.false_eq_true, Bool.true_and, Bool.false_and, Bool.and_true, Bool.and_false, i_10, i_01, i_00, not_true_eq_false, not_false_eq_true, q_mo_in, hd]
      exact kk _ (St_mo st (fr_up _ (fr_rf _ _) (by decide)) ⟨_, _, _, _, _, _, _, _, _, up_eq _ _ _⟩) rfl
end BACK
