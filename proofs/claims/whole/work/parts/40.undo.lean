/-! undo, keep, back -/
section UNDO
variable {h : mr_h} {Q : Option Value → mr_h → Prop} {n us : Nat} {th ty tt tk pl va fa dn dr sn uf : Int32} {E K S D : Nat → Int32}
theorem l_mo_undo (hu : us < 10) (e74 : h.1 74 = MO th ty tt tk pl va fa (nI n) dn dr (nI us) sn uf) (e81 : h.1 81 = mr_I 240 D) (kk : ∀ h2, mr_fr h h2 [77] → h2.1 77 = mr_I 24 (fb_put S (fun j => D (24 * us + j)) 0 24) → Q (some (.int (nI us))) h2) : ∀ (d k : Nat) (h1 : mr_h), k + d = 24 → h1.1 77 = mr_I 24 (fb_put S (fun j => D (24 * us + j)) 0 k) → mr_fr h h1 [77] → mr_wp 161 27 [.ref 74, .int (nI k)] [] h1 Q := by
  intro d
  induction d with
  | zero =>
    intro k h1 hk e77 f
    have : k = 24 := by omega
    subst this
    have g74 := fr_at f (by decide) e74
    rw [s_mo_undo_27]
    simp only [S_mo_undo, g74, MO, SEL, PF, mr_gf_O, mr_rc_O, Option.toList_some, Option.toList_none, List.cons_append, List.nil_append, b2i_0, b2i_1, b2i_a, a_00, a_11, ai_n, si_n, nI_1, q_rl_bit, mr_up_at, Nat.reduceLeDiff, Nat.reduceLT, Nat.reduceEqDiff, Nat.reduceAdd, if_true, if_false, if_pos (show (24 : Int32) ≤ nI 24 by decide)]
    exact kk h1 f e77
  | succ d ih =>
    intro k h1 hk e77 f
    have g74 := fr_at f (by decide) e74
    have g81 := fr_at f (by decide) e81
    have h1k : k < 24 := by omega
    have h2k : 24 * us + k < 240 := by omega
    have e1 := fb_put_succ S (fun j => D (24 * us + j)) 0 k
    rw [Nat.zero_add] at e1
    rw [s_mo_undo_27]
    simp only [S_mo_undo, g74, MO, SEL, PF, mr_gf_O, mr_rc_O, Option.toList_some, Option.toList_none, List.cons_append, List.nil_append, b2i_0, b2i_1, b2i_a, a_00, a_11, ai_n, si_n, nI_1, q_rl_bit, mr_up_at, Nat.reduceLeDiff, Nat.reduceLT, Nat.reduceEqDiff, Nat.reduceAdd, if_true, if_false, if_neg (show ¬ (24 : Int32) ≤ nI k from nI_ge (b := 24) (by omega) (by decide)), g81, e77, t_24, nI_add, h1k, h2k, e1]
    exact ih (k + 1) _ (by omega) (up_eq _ _ _) (fr_up _ f (by decide))
theorem q_pa_restore {e k : Nat → Nat → Int32} (hp : gPc h n (us + 1) e k) (e1 : h.1 1 = NE 1 n) (e2 : h.1 2 = mr_I 12 E) (e3 : h.1 3 = mr_I 12 K)
    (kk : ∀ h2 E' K', mr_fr h h2 [1, 2, 3, 33] → h2.1 1 = NE 1 n → h2.1 2 = mr_I 12 E' → h2.1 3 = mr_I 12 K' → nt E' n → rks E' K' n → (∀ u, u < n → e us u = E' u ∧ k us u = K' u) → gPc h2 n us e k → Q (some (.int 1)) h2) : mr_run 73 [.ref 33, .ref 1] h Q := by
  obtain ⟨h0, e33, P, F, e34, hF, hi, hs, hk⟩ := id hp
  have hu : us < 10 := by omega
  obtain ⟨hP1, hP2⟩ := hF us hu
  obtain ⟨m1, E', K', m2, m3, hE', hK', hEK⟩ := hk us (by omega)
  rw [r_pa_restore]
  simp only [S_pa_restore, e33, SEL, PF, mr_gf_O, mr_rc_O, Option.toList_some, Option.toList_none, List.cons_append, List.nil_append, b2i_0, b2i_1, b2i_a, a_00, a_11, ai_n, si_n, nI_1, q_rl_bit, mr_up_at, Nat.reduceLeDiff, Nat.reduceLT, Nat.reduceEqDiff, Nat.reduceAdd, if_true, if_false, show ¬ nI (us + 1) = 0 from nI_ne0 (by omega) (by omega), not_false_eq_true, nI_pred, e34, aq_n hu (show 10 ≤ 1000 by decide) hP1, e1, NE]
  have f1 : mr_fr h (mr_up h 33 (mr_O 4 [.int (nI us), .ref 34])) [33] := fr_up _ (fr_rf _ _) (by decide)
  refine q_ne_become (x := nI n) (E0 := E) (K0 := K) (by omega) (fr_at f1 (by decide) e1) (fr_at f1 (by decide) e2) (fr_at f1 (by decide) e3) (fr_at f1 (by simp; omega) m1) (fr_at f1 (by simp; omega) m2) (fr_at f1 (by simp; omega) m3) ?_
  intro h2 E2 K2 f2 k1 k2 k3 hc
  simp only [S_pa_restore, SEL, PF, mr_gf_O, mr_rc_O, Option.toList_some, Option.toList_none, List.cons_append, List.nil_append, b2i_0, b2i_1, b2i_a, a_00, a_11, ai_n, si_n, nI_1, q_rl_bit, mr_up_at, Nat.reduceLeDiff, Nat.reduceLT, Nat.reduceEqDiff, Nat.reduceAdd, if_true, if_false]
  have F2 : mr_fr h h2 [1, 2, 3, 33] := fr_tr (fr_wk f1 (by decide)) f2 (by decide)
  have hn := hE'.1
  refine kk h2 E2 K2 F2 k1 k2 k3 (nt_cong hE' (fun u hu => (hc u (by omega)).1)) (rks_cong hK' (fun u hu => (hc u (by omega)).1) (fun u hu => (hc u (by omega)).2)) (fun u hu => ⟨(hEK u hu).1.trans (hc u (by omega)).1.symm, (hEK u hu).2.trans (hc u (by omega)).2.symm⟩) ?_
  refine ⟨by omega, fr_at f2 (by decide) (up_eq _ _ _), P, F, fr_at F2 (by decide) e34, hF, hi, fun i hi' => ?_, fun i hi' => ?_⟩
  · exact nshp_fr (hs i hi') F2 (by simp; omega) (by simp; omega) (by simp; omega)
  · have := (hF i (by omega)).2
    exact nkc_fr (hk i (by omega)) F2 (by simp; omega) (by simp; omega) (by simp; omega)
theorem b_undo (hi : Inv h) : Both 72 161 [] h := by
  obtain ⟨n, len, us, m, E, K, st⟩ := hi
  have hE := St_E st
  have hn := hE.1
  obtain ⟨D, e81, hpc⟩ := gP_c.mp st.2.2.2.2.1
  cases us with
  | zero =>
    refine both_ro st (-2) ?_ ?_
    · intro h Q st kk
      obtain ⟨D, e81, hpc⟩ := gP_c.mp st.2.2.2.2.1
      rw [r_rl_undo]
      simp only [S_rl_undo, St_0 st, RLO, SEL, PF, mr_gf_O, mr_rc_O, Option.toList_some, Option.toList_none, List.cons_append, List.nil_append, b2i_0, b2i_1, b2i_a, a_00, a_11, ai_n, si_n, nI_1, q_rl_bit, mr_up_at, Nat.reduceLeDiff, Nat.reduceLT, Nat.reduceEqDiff, Nat.reduceAdd, if_true, if_false, Bool.true_eq_false, Bool.false_eq_true, Bool.true_and, Bool.false_and, Bool.and_true, Bool.and_false, i_10, i_01, i_00, not_true_eq_false, not_false_eq_true, hpc.2.1]
      rw [r_pa_restore]
      simp only [S_pa_restore, S_rl_undo, hpc.2.1, SEL, PF, mr_gf_O, mr_rc_O, Option.toList_some, Option.toList_none, List.cons_append, List.nil_append, b2i_0, b2i_1, b2i_a, a_00, a_11, ai_n, si_n, nI_1, q_rl_bit, mr_up_at, Nat.reduceLeDiff, Nat.reduceLT, Nat.reduceEqDiff, Nat.reduceAdd, if_true, if_false, Bool.true_eq_false, Bool.false_eq_true, Bool.true_and, Bool.false_and, Bool.and_true, Bool.and_false, i_10, i_01, i_00, not_true_eq_false, not_false_eq_true, nI_0]
      exact kk h st rfl
    · intro h Q st kk
      obtain ⟨th, tt, tk, pl, va, fa, dn, dr, uf, e74⟩ := id st.2.2.2.2.2.2
      rw [r_mo_undo]
      simp only [S_mo_undo, e74, MO, SEL, PF, mr_gf_O, mr_rc_O, Option.toList_some, Option.toList_none, List.cons_append, List.nil_append, b2i_0, b2i_1, b2i_a, a_00, a_11, ai_n, si_n, nI_1, q_rl_bit, mr_up_at, Nat.reduceLeDiff, Nat.reduceLT, Nat.reduceEqDiff, Nat.reduceAdd, if_true, if_false, Bool.true_eq_false, Bool.false_eq_true, Bool.true_and, Bool.false_and, Bool.and_true, Bool.and_false, i_10, i_01, i_00, not_true_eq_false, not_false_eq_true, nI_0]
      exact kk _ (St_mo st (fr_up _ (fr_rf _ _) (by decide)) ⟨_, _, _, _, _, _, _, _, _, up_eq _ _ _⟩) rfl
  | succ us =>
    obtain ⟨S, e77, hS⟩ := St_77 st
    unfold Both
    rw [r_rl_undo]
    simp only [S_rl_undo, St_0 st, RLO, SEL, PF, mr_gf_O, mr_rc_O, Option.toList_some, Option.toList_none, List.cons_append, List.nil_append, b2i_0, b2i_1, b2i_a, a_00, a_11, ai_n, si_n, nI_1, q_rl_bit, mr_up_at, Nat.reduceLeDiff, Nat.reduceLT, Nat.reduceEqDiff, Nat.reduceAdd, if_true, if_false, Bool.true_eq_false, Bool.false_eq_true, Bool.true_and, Bool.false_and, Bool.and_true, Bool.and_false, i_10, i_01, i_00, not_true_eq_false, not_false_eq_true, hpc.2.1]
    refine q_pa_restore hpc (St_1 st) (St_2 st) (St_3 st) ?_
    intro h1 E' K' f1 g1 g2 g3 hE' hK' hEK p1
    have g0 := fr_at f1 (by decide) (St_0 st)
    have gd := DS_fr (DV_DS (St_D st)) f1 (by decide)
    obtain ⟨n0, nm, A, B, C, I, O, R, L, g9, -⟩ := id gd
    simp only [S_rl_undo, g0, RLO, SEL, PF, mr_gf_O, mr_rc_O, Option.toList_some, Option.toList_none, List.cons_append, List.nil_append, b2i_0, b2i_1, b2i_a, a_00, a_11, ai_n, si_n, nI_1, q_rl_bit, mr_up_at, Nat.reduceLeDiff, Nat.reduceLT, Nat.reduceEqDiff, Nat.reduceAdd, if_true, if_false, Bool.true_eq_false, Bool.false_eq_true, Bool.true_and, Bool.false_and, Bool.and_true, Bool.and_false, i_10, i_01, i_00, not_true_eq_false, not_false_eq_true, g9, RE]
    refine q_re_derive hE' g1 g2 g3 gd ?_
    intro h2 f2 d2
    have F2 : mr_fr h h2 LC := fr_tr (fr_wk f1 (by decide)) f2 (by decide)
    have p2 := gPc_fr p1 f2 (by decide)
    simp only [S_rl_undo, fr_at f2 (by decide) g0, RLO, SEL, PF, mr_gf_O, mr_rc_O, Option.toList_some, Option.toList_none, List.cons_append, List.nil_append, b2i_0, b2i_1, b2i_a, a_00, a_11, ai_n, si_n, nI_1, q_rl_bit, mr_up_at, Nat.reduceLeDiff, Nat.reduceLT, Nat.reduceEqDiff, Nat.reduceAdd, if_true, if_false, Bool.true_eq_false, Bool.false_eq_true, Bool.true_and, Bool.false_and, Bool.and_true, Bool.and_false, i_10, i_01, i_00, not_true_eq_false, not_false_eq_true, p2.2.1]
    have cn : CN h2 E' K' n us (fun i u => D (24 * i + u)) (fun i u => D (24 * i + 12 + u)) := ⟨fr_at f2 (by decide) g1, fr_at f2 (by decide) g2, fr_at f2 (by decide) g3, d2, p2⟩
    have gs2 : gS h2 := gS_off (gS_off st.1 f1 (by decide)) f2 (by decide)
    obtain ⟨th, tt, tk, pl, va, fa, dn, dr, uf, e74⟩ := gM_fr st.2.2.2.2.2.2 F2 (by decide)
    have k77 := fr_at F2 (by decide) e77
    have k81 := fr_at F2 (by decide) e81
    rw [r_mo_undo]
    simp only [S_mo_undo, e74, MO, SEL, PF, mr_gf_O, mr_rc_O, Option.toList_some, Option.toList_none, List.cons_append, List.nil_append, b2i_0, b2i_1, b2i_a, a_00, a_11, ai_n, si_n, nI_1, q_rl_bit, mr_up_at, Nat.reduceLeDiff, Nat.reduceLT, Nat.reduceEqDiff, Nat.reduceAdd, if_true, if_false, Bool.true_eq_false, Bool.false_eq_true, Bool.true_and, Bool.false_and, Bool.and_true, Bool.and_false, i_10, i_01, i_00, not_true_eq_false, not_false_eq_true, show ¬ nI (us + 1) = 0 from nI_ne0 (by omega) (by have := hpc.1; omega), nI_pred]
    rw [← nI_0]
    have f3 : mr_fr h2 (mr_up (mr_up h2 74 (MO 0 (nI len) tt tk pl va fa (nI n) dn dr (nI (us + 1)) (nI m) uf)) 74 (MO 0 (nI len) tt tk pl va fa (nI n) dn dr (nI us) (nI m) uf)) [74] := fr_up _ (fr_up _ (fr_rf _ _) (by decide)) (by decide)
    refine l_mo_undo (S := S) (D := D) (us := us) (by have := hpc.1; omega) (show (mr_up (mr_up h2 74 (MO 0 (nI len) tt tk pl va fa (nI n) dn dr (nI (us + 1)) (nI m) uf)) 74 (MO 0 (nI len) tt tk pl va fa (nI n) dn dr (nI us) (nI m) uf)).1 74 = _ from up_eq _ _ _) (fr_at f3 (by decide) k81) ?_ 24 0 _ (by decide) (by rw [fb_put_0]; exact fr_at f3 (by decide) k77) (fr_rf _ _)
    intro h3 f4 n77
    have FM : mr_fr h2 h3 LM := fr_tr (fr_wk f3 (by decide)) f4 (by decide)
    refine ⟨⟨_, rfl, rfl⟩, ⟨_, _, _, _, _, _, fin_push st F2 cn hE' hK' FM (gS_fr gs2 FM (fun k hk hk2 => ?_)) ⟨_, _, _, _, _, _, _, _, _, fr_at f4 (by decide) (up_eq _ _ _)⟩ n77 (fun u hu => ?_) (fr_at f4 (by decide) (fr_at f3 (by decide) k81)) (fun i hi u hu => ⟨rfl, rfl⟩)⟩, FM.1.trans F2.1⟩
    · have : k = 85 := by revert hk hk2; revert k; decide
      subst this
      rw [f4.2 85 (by decide), f3.2 85 (by decide)]
      exact gs2 85 (by decide)
    · rw [fb_put_in (by omega) (by omega), fb_put_in (by omega) (by omega)]
      exact ⟨(hEK u hu).1, by rw [← (hEK u hu).2]; show D _ = D _; rw [show 24 * us + (12 + u - 0) = 24 * us + 12 + u by omega]⟩
theorem l_mo_keep {i : Nat} (hi : i < 2) {v : Value} (e74 : h.1 74 = MO th ty tt tk pl va fa (nI n) dn dr (nI us) sn uf) (e77 : h.1 77 = mr_I 24 S) (kk : ∀ h2, mr_fr h h2 [79] → h2.1 79 = mr_I 48 (fb_put D S (24 * i) 24) → mr_wp 178 47 [.ref 74, .int (nI i), .int (nI 24)] [] h2 Q) : ∀ (d k : Nat) (h1 : mr_h), k + d = 24 → h1.1 79 = mr_I 48 (fb_put D S (24 * i) k) → mr_fr h h1 [79] → mr_wp 178 18 [.ref 74, .int (nI i), .int (nI k)] [] h1 Q := by
  intro d
  induction d with
  | zero =>
    intro k h1 hk e79 f
    have : k = 24 := by omega
    subst this
    have g74 := fr_at f (by decide) e74
    have := kk h1 f e79
    rw [s_mo_keep_18]
    simp only [S_mo_keep, g74, MO, SEL, PF, mr_gf_O, mr_rc_O, Option.toList_some, Option.toList_none, List.cons_append, List.nil_append, b2i_0, b2i_1, b2i_a, a_00, a_11, ai_n, si_n, nI_1, q_rl_bit, mr_up_at, Nat.reduceLeDiff, Nat.reduceLT, Nat.reduceEqDiff, Nat.reduceAdd, if_true, if_false, if_pos (show (24 : Int32) ≤ nI 24 by decide)] at this ⊢
    exact this
  | succ d ih =>
    intro k h1 hk e79 f
    have g74 := fr_at f (by decide) e74
    have g77 := fr_at f (by decide) e77
    have h1k : k < 24 := by omega
    have h2k : 24 * i + k < 48 := by omega
    rw [s_mo_keep_18]
    simp only [S_mo_keep, g74, MO, SEL, PF, mr_gf_O, mr_rc_O, Option.toList_some, Option.toList_none, List.cons_append, List.nil_append, b2i_0, b2i_1, b2i_a, a_00, a_11, ai_n, si_n, nI_1, q_rl_bit, mr_up_at, Nat.reduceLeDiff, Nat.reduceLT, Nat.reduceEqDiff, Nat.reduceAdd, if_true, if_false, if_neg (show ¬ (24 : Int32) ≤ nI k from nI_ge (b := 24) (by omega) (by decide)), g77, e79, t_24, nI_add, h1k, h2k, fb_put_succ]
    exact ih (k + 1) _ (by omega) (up_eq _ _ _) (fr_up _ f (by decide))
theorem F66 {h : mr_h} (gs : gS h) : ∃ F, h.1 66 = mr_A 2 F ∧ ∀ i, i < 2 → F i = some (68 + 3 * i) := by
  have := gs 66 (by decide)
  refine ⟨fun i => if i = 0 then some 68 else if i = 1 then some 71 else none, by simpa [shp] using this, ?_⟩
  intro i hi
  have : i = 0 ∨ i = 1 := by omega
  rcases this with rfl | rfl <;> rfl
theorem c65 {h : mr_h} (gs : gS h) : h.1 65 = mr_O 0 [.ref 66, .ref 67] := by
  have := gs 65 (by decide)
  simpa [shp] using this
theorem im_in {x : Int32} (h : ¬ x < 0) (h2 : x < 2) : ∃ i, i < 2 ∧ x = nI i := by
  obtain ⟨j, h1, rfl⟩ := nI_of h
  refine ⟨j, ?_, rfl⟩
  rcases Nat.lt_or_ge j 2 with z | z
  · exact z
  · exact absurd h2 (nI_nlt (b := 2) z h1)
theorem im_bad {c mm : Nat} {x : Int32} (hi : Inv h) (hx : ¬ (¬ x < 0 ∧ x < 2)) (hc : ∀ (h : mr_h) (Q : Option Value → mr_h → Prop), (x < 0 ∨ (¬ x < 0 ∧ ¬ x < 2)) → mr_run c [.ref 0, .int x] h Q = Q (some (.int (-1))) h) (hm : ∀ n len us m E K, decide (¬ x < 0 ∧ ¬ (1 : Int32) < x) = false → RO mm [.ref 74, .int x] n len us m E K (-1)) : Both c mm [.int x] h := by
  obtain ⟨n, len, us, m, E, K, st⟩ := hi
  refine both_ro st (-1) ?_ (hm _ _ _ _ _ _ ?_)
  · intro h Q st kk
    rw [hc]
    · exact kk h st rfl
    · by_cases z : x < 0
      · exact Or.inl z
      · exact Or.inr ⟨z, fun z2 => hx ⟨z, z2⟩⟩
  · apply decide_eq_false
    rintro ⟨z1, z2⟩
    refine hx ⟨z1, ?_⟩
    obtain ⟨j, h1, rfl⟩ := in_lt (b := 1) (by decide) ⟨z1, z2⟩
    exact nI_lt (b := 2) (by omega) (by decide)
theorem b_keep (hi : Inv h) (x : Int32) : Both 111 178 [.int x] h := by
  by_cases hx : ¬ x < 0 ∧ x < 2
  · obtain ⟨n, len, us, m, E, K, st⟩ := hi
    obtain ⟨x1, x2⟩ := id hx
    obtain ⟨i, hi, rfl⟩ := im_in x1 x2
    have hE := St_E st
    have hn := hE.1
    obtain ⟨Z, Z2, D, e67, e80, e79, hk⟩ := st.2.2.2.2.2.1
    obtain ⟨F, e66, hF⟩ := F66 st.1
    obtain ⟨S, e77, hS⟩ := St_77 st
    have e65 := c65 st.1
    obtain ⟨-, -, ⟨y, E0, K0, m1, m2, m3⟩, -⟩ := hk i hi
    unfold Both
    rw [r_rl_keep]
    simp only [S_rl_keep, St_0 st, RLO, SEL, PF, mr_gf_O, mr_rc_O, Option.toList_some, Option.toList_none, List.cons_append, List.nil_append, b2i_0, b2i_1, b2i_a, a_00, a_11, ai_n, si_n, nI_1, q_rl_bit, mr_up_at, Nat.reduceLeDiff, Nat.reduceLT, Nat.reduceEqDiff, Nat.reduceAdd, if_true, if_false, Bool.true_eq_false, Bool.false_eq_true, Bool.true_and, Bool.false_and, Bool.and_true, Bool.and_false, i_10, i_01, i_00, not_true_eq_false, not_false_eq_true, if_neg x1, if_pos x2, e65]
    rw [r_al_take]
    simp only [S_al_take, e65, SEL, PF, mr_gf_O, mr_rc_O, Option.toList_some, Option.toList_none, List.cons_append, List.nil_append, b2i_0, b2i_1, b2i_a, a_00, a_11, ai_n, si_n, nI_1, q_rl_bit, mr_up_at, Nat.reduceLeDiff, Nat.reduceLT, Nat.reduceEqDiff, Nat.reduceAdd, if_true, if_false, Bool.true_eq_false, Bool.false_eq_true, Bool.true_and, Bool.false_and, Bool.and_true, Bool.and_false, i_10, i_01, i_00, not_true_eq_false, not_false_eq_true, e66, aq_n hi (show 2 ≤ 1000 by decide) (hF i hi), m1]
    refine q_ne_become (by omega) m1 m2 m3 (St_1 st) (St_2 st) (St_3 st) ?_
    intro h1 E' K' f1 k1 k2 k3 hc
    have g65 := fr_at f1 (by simp <;> omega) e65
    have g67 := fr_at f1 (by simp <;> omega) e67
    have g0 := fr_at f1 (by simp <;> omega) (St_0 st)
    have g1 := fr_at f1 (by simp <;> omega) (St_1 st)
    simp only [S_al_take, g65, g67, SEL, PF, mr_gf_O, mr_rc_O, Option.toList_some, Option.toList_none, List.cons_append, List.nil_append, b2i_0, b2i_1, b2i_a, a_00, a_11, ai_n, si_n, nI_1, q_rl_bit, mr_up_at, Nat.reduceLeDiff, Nat.reduceLT, Nat.reduceEqDiff, Nat.reduceAdd, if_true, if_false, Bool.true_eq_false, Bool.false_eq_true, Bool.true_and, Bool.false_and, Bool.and_true, Bool.and_false, i_10, i_01, i_00, not_true_eq_false, not_false_eq_true, sz_n hi (show 2 ≤ 1000 by decide), S_rl_keep, g0, RLO, g1, NE]
    have f2 : mr_fr h1 (mr_up h1 67 (mr_Z 2 (upd Z i 1))) [67] := fr_up _ (fr_rf _ _) (by decide)
    have F2 : mr_fr h (mr_up h1 67 (mr_Z 2 (upd Z i 1))) [67, 68 + 3 * i, 68 + 3 * i + 1, 68 + 3 * i + 2] := fr_up _ (fr_wk f1 (by simp)) (by simp)
    have n1 := fr_at F2 (by simp <;> omega) (St_1 st)
    have n2 := fr_at F2 (by simp <;> omega) (St_2 st)
    simp only [q_ne_edgeCount hE n1 n2]
    simp only [S_rl_keep, SEL, PF, mr_gf_O, mr_rc_O, Option.toList_some, Option.toList_none, List.cons_append, List.nil_append, b2i_0, b2i_1, b2i_a, a_00, a_11, ai_n, si_n, nI_1, q_rl_bit, mr_up_at, Nat.reduceLeDiff, Nat.reduceLT, Nat.reduceEqDiff, Nat.reduceAdd, if_true, if_false, Bool.true_eq_false, Bool.false_eq_true, Bool.true_and, Bool.false_and, Bool.and_true, Bool.and_false, i_10, i_01, i_00, not_true_eq_false, not_false_eq_true]
    rw [r_mo_keep]
    obtain ⟨th, tt, tk, pl, va, fa, dn, dr, uf, e74⟩ := gM_fr st.2.2.2.2.2.2 F2 (by simp <;> omega)
    have n77 := fr_at F2 (by simp <;> omega) e77
    have n79 := fr_at F2 (by simp <;> omega) e79
    have n80 := fr_at F2 (by simp <;> omega) e80
    have hin : decide (¬ nI i < 0 ∧ ¬ (1 : Int32) < nI i) = true := decide_eq_true ⟨x1, nI_nlt (b := i) (a := 1) (by omega) (by decide)⟩
    simp only [mr_up_at, Nat.reduceEqDiff, if_false] at e74
    generalize hh : mr_up h1 67 (mr_Z 2 (upd Z i 1)) = h2 at *
    have e74' : h2.1 74 = MO th (nI len) tt tk pl va fa (nI n) dn dr (nI us) (nI m) uf := by
      subst hh
      simp only [mr_up_at, Nat.reduceEqDiff, if_false]
      exact e74
    simp only [S_mo_keep, e74', MO, SEL, PF, mr_gf_O, mr_rc_O, Option.toList_some, Option.toList_none, List.cons_append, List.nil_append, b2i_0, b2i_1, b2i_a, a_00, a_11, ai_n, si_n, nI_1, q_rl_bit, mr_up_at, Nat.reduceLeDiff, Nat.reduceLT, Nat.reduceEqDiff, Nat.reduceAdd, if_true, if_false, Bool.true_eq_false, Bool.false_eq_true, Bool.true_and, Bool.false_and, Bool.and_true, Bool.and_false, i_10, i_01, i_00, not_true_eq_false, not_false_eq_true, q_mo_in, hin]
    rw [← nI_0]
    have f3 : mr_fr h2 (mr_up h2 74 (MO 0 (nI len) tt tk pl va fa (nI n) dn dr (nI us) (nI m) uf)) [74] := fr_up _ (fr_rf _ _) (by decide)
    refine l_mo_keep (S := S) (D := D) hi (v := .int 0) (show (mr_up h2 74 (MO 0 (nI len) tt tk pl va fa (nI n) dn dr (nI us) (nI m) uf)).1 74 = _ from up_eq _ _ _) (fr_at f3 (by decide) n77) ?_ 24 0 _ (by decide) (by rw [fb_put_0]; exact fr_at f3 (by decide) n79) (fr_rf _ _)
    intro h3 f4 j79
    have j74 := fr_at f4 (by decide) (up_eq h2 74 (MO 0 (nI len) tt tk pl va fa (nI n) dn dr (nI us) (nI m) uf))
    have j80 := fr_at f4 (by decide) (fr_at f3 (by decide) n80)
    have j77 := fr_at f4 (by decide) (fr_at f3 (by decide) n77)
    simp only [S_mo_keep, j74, MO, SEL, PF, mr_gf_O, mr_rc_O, Option.toList_some, Option.toList_none, List.cons_append, List.nil_append, b2i_0, b2i_1, b2i_a, a_00, a_11, ai_n, si_n, nI_1, q_rl_bit, mr_up_at, Nat.reduceLeDiff, Nat.reduceLT, Nat.reduceEqDiff, Nat.reduceAdd, if_true, if_false, Bool.true_eq_false, Bool.false_eq_true, Bool.true_and, Bool.false_and, Bool.and_true, Bool.and_false, i_10, i_01, i_00, not_true_eq_false, not_false_eq_true, j80, sz_n hi (show 2 ≤ 1000 by decide)]
    have f5 : mr_fr h3 (mr_up h3 80 (mr_Z 2 (upd Z2 i 1))) [80] := fr_up _ (fr_rf _ _) (by decide)
    have l74 := fr_at f5 (by decide) j74
    rw [q_mo_edges (f := S) (nt_cong hE (fun u hu => (hS u hu).1)) ⟨_, _, _, _, _, _, _, _, _, _, _, _, l74⟩ (fr_at f5 (by decide) j77), esI_cong (fun k hk => (hS k hk).1)]
    simp only [S_mo_keep, SEL, PF, mr_gf_O, mr_rc_O, Option.toList_some, Option.toList_none, List.cons_append, List.nil_append, b2i_0, b2i_1, b2i_a, a_00, a_11, ai_n, si_n, nI_1, q_rl_bit, mr_up_at, Nat.reduceLeDiff, Nat.reduceLT, Nat.reduceEqDiff, Nat.reduceAdd, if_true, if_false, Bool.true_eq_false, Bool.false_eq_true, Bool.true_and, Bool.false_and, Bool.and_true, Bool.and_false, i_10, i_01, i_00, not_true_eq_false, not_false_eq_true]
    have FF : mr_fr h2 (mr_up h3 80 (mr_Z 2 (upd Z2 i 1))) [74, 79, 80] := fr_up _ (fr_tr (fr_wk f3 (by decide)) f4 (by decide)) (by decide)
    have FT : mr_fr h (mr_up h3 80 (mr_Z 2 (upd Z2 i 1))) [74, 79, 80, 67, 68 + 3 * i, 68 + 3 * i + 1, 68 + 3 * i + 2] := fr_tr (fr_wk F2 (by simp)) FF (by simp)
    have offi : ∀ a, a ∈ [74, 79, 80, 67, 68 + 3 * i, 68 + 3 * i + 1, 68 + 3 * i + 2] → 67 ≤ a ∧ a ≤ 74 ∨ a = 79 ∨ a = 80 := by
      intro a ha
      simp only [List.mem_cons, List.not_mem_nil, or_false] at ha
      omega
    refine ⟨⟨_, rfl, rfl⟩, ⟨n, len, us, m, E, K, gS_off st.1 FT (fun k hk => ?_), gN_fr st.2.1 FT (fun a ha hm => ?_), gT_fr st.2.2.1 FT (fun a ha hm => ?_), gV_fr st.2.2.2.1 FT (fun a ha hm => ?_), gP_fr st.2.2.2.2.1 FT (fun a ha => ?_), ?_, ⟨_, _, _, _, _, _, _, _, _, l74⟩⟩, FT.1⟩
    · have := offi k hk
      have h2 : k < 90 := by omega
      intro hk2
      clear hk
      have : ∀ k, k < 90 → k ∈ SLs → ¬ (67 ≤ k ∧ k ≤ 74 ∨ k = 79 ∨ k = 80) := by decide
      exact this k h2 hk2 (by assumption)
    · have := offi a hm
      have h2 : ∀ a ∈ [1, 2, 3, 9, 10, 11, 12, 13, 14, 15, 16, 77], ¬ (67 ≤ a ∧ a ≤ 74 ∨ a = 79 ∨ a = 80) := by decide
      exact h2 a ha this
    · have := offi a hm
      have h2 : ∀ a ∈ [7, 8, 75], ¬ (67 ≤ a ∧ a ≤ 74 ∨ a = 79 ∨ a = 80) := by decide
      exact h2 a ha this
    · have := offi a hm
      have h2 : ∀ a ∈ [28, 29, 30, 31, 82, 83, 84], ¬ (67 ≤ a ∧ a ≤ 74 ∨ a = 79 ∨ a = 80) := by decide
      exact h2 a ha this
    · have := offi a ha
      omega
    · refine ⟨upd Z i 1, upd Z2 i 1, fb_put D S (24 * i) 24, fr_at FF (by decide) (by subst hh; exact up_eq _ _ _), up_eq _ _ _, fr_at f5 (by decide) j79, fun j hj => ?_⟩
      by_cases ej : j = i
      · subst ej
        have w1 := fr_at FF (by simp <;> omega) (show h2.1 (68 + 3 * j) = NE (68 + 3 * j) n by subst hh; exact fr_at f2 (by simp <;> omega) k1)
        have w2 := fr_at FF (by simp <;> omega) (show h2.1 (68 + 3 * j + 1) = mr_I 12 E' by subst hh; exact fr_at f2 (by simp <;> omega) k2)
        have w3 := fr_at FF (by simp <;> omega) (show h2.1 (68 + 3 * j + 2) = mr_I 12 K' by subst hh; exact fr_at f2 (by simp <;> omega) k3)
        refine ⟨by rw [upd_at, upd_at], Or.inr (upd_at _ _ _), ⟨_, E', K', w1, w2, w3⟩, fun _ => ⟨w1, E', K', w2, w3, nt_cong hE (fun u hu => (hc u (by omega)).1), rks_cong (St_R st) (fun u hu => (hc u (by omega)).1) (fun u hu => (hc u (by omega)).2), fun u hu => ?_⟩⟩
        rw [fb_put_in (by omega) (by omega), fb_put_in (by omega) (by omega), (hc u (by omega)).1, (hc u (by omega)).2, ← (hS u hu).1, ← (hS u hu).2, show 24 * j + u - 24 * j = u by omega, show 24 * j + 12 + u - 24 * j = 12 + u by omega]
        exact ⟨rfl, rfl⟩
      · obtain ⟨q1, q2, q3, q4⟩ := hk j hj
        rw [upd_ne _ _ ej, upd_ne _ _ ej]
        refine ⟨q1, q2, nshp_fr q3 FT (by simp <;> omega) (by simp <;> omega) (by simp <;> omega), fun z => ?_⟩
        obtain ⟨v1, E2, K2, v2, v3, v4, v5, v6⟩ := nk_fr (q4 z) FT (by simp <;> omega) (by simp <;> omega) (by simp <;> omega)
        refine ⟨v1, E2, K2, v2, v3, v4, v5, fun u hu => ?_⟩
        rw [fb_put_out (by omega), fb_put_out (by omega)]
        exact v6 u hu
  · refine im_bad hi hx (fun h Q c => ?_) (fun n len us m E K hd => ?_)
    · rw [r_rl_keep]
      rcases c with c | ⟨c1, c2⟩
      · simp only [S_rl_keep, if_pos c]
      · simp only [S_rl_keep, if_neg c1, if_neg c2]
    · intro h Q st kk
      obtain ⟨th, tt, tk, pl, va, fa, dn, dr, uf, e74⟩ := id st.2.2.2.2.2.2
      rw [r_mo_keep]
      simp only [S_mo_keep, e74, MO, SEL, PF, mr_gf_O, mr_rc_O, Option.toList_some, Option.toList_none, List.cons_append, List.nil_append, b2i_0, b2i_1, b2i_a, a_00, a_11, ai_n, si_n, nI_1, q_rl_bit, mr_up_at, Nat.reduceLeDiff, Nat.reduceLT, Nat.reduceEqDiff, Nat.reduceAdd, if_true, if_false, Bool.true_eq_false, Bool.false_eq_true, Bool.true_and, Bool.false_and, Bool.and_true, Bool.and_false, i_10, i_01, i_00, not_true_eq_false, not_false_eq_true, q_mo_in, hd]
      exact kk _ (St_mo st (fr_up _ (fr_rf _ _) (by decide)) ⟨_, _, _, _, _, _, _, _, _, up_eq _ _ _⟩) rfl
end UNDO
