/-! the law: its loop, its start -/
theorem lw_c0 : ∀ L, L < 5 → (Int32.ofNat L - 5).toInt < 0 := by decide +kernel
theorem lw_cond {L i : Nat} (hL : L ≤ 2560) (hi : i ≤ 2600) : (Int32.ofNat L - 5 < nI i) = (L < i + 5) := by
  by_cases h5 : 5 ≤ L
  · rw [show Int32.ofNat L - 5 = nI (L - 5) from nI_sub (b := 5) h5]
    refine propext ((nI_ltI (by omega) (by omega)).trans ?_)
    omega
  · have h1 := lw_c0 L (by omega)
    have h2 : (nI i).toInt = (i : Int) := nI_toInt (by omega)
    exact propext ⟨fun _ => by omega, fun _ => Int32.lt_iff_toInt_lt.mpr (by omega)⟩
section LAW
variable {Q : Option Value → mr_h → Prop}
theorem l_law {h0 : mr_h} (h9 : 74 < h0.2.1) (hM : h0.2.2.2.1 ≤ 2560) (kk : ∀ h2 : mr_h, h2.2 = h0.2 → Q (some (.int 1)) h2) : ∀ (d i : Nat) (h : mr_h), h0.2.2.2.1 < i + 5 + 5 * d → i ≤ 2600 → Inv h → h.2 = h0.2 → mr_wp 181 18 [.retAddr 0, .ref 0, .ref 74, .int (nI i)] [] h Q := by
  have ex : ∀ (i : Nat) (h : mr_h), h0.2.2.2.1 < i + 5 → i ≤ 2600 → h.2 = h0.2 → mr_wp 181 18 [.retAddr 0, .ref 0, .ref 74, .int (nI i)] [] h Q := by
    intro i h hz hi e
    have hM2 : h.2.2.2.1 ≤ 2560 := by rw [e]; exact hM
    have cz : Int32.ofNat h.2.2.2.1 - 5 < nI i := by
      rw [lw_cond hM2 hi, e]
      exact hz
    rw [s_law_law_18]
    simp only [S_law_law_0, S_law_law_14, SEL, PF, mr_gf_O, mr_rc_O, Option.toList_some, Option.toList_none, List.cons_append, List.nil_append, b2i_0, b2i_1, b2i_a, a_00, a_11, ai_n, si_n, nI_1, q_rl_bit, mr_up_at, Nat.reduceLeDiff, Nat.reduceLT, Nat.reduceEqDiff, Nat.reduceAdd, if_true, if_false, Bool.true_eq_false, Bool.false_eq_true, Bool.true_and, Bool.false_and, Bool.and_true, Bool.and_false, i_10, i_01, i_00, not_true_eq_false, not_false_eq_true, if_pos cz]
    exact kk h e
  intro d
  induction d with
  | zero =>
    intro i h hd hi iv e
    exact ex i h (by omega) hi e
  | succ d ih =>
    intro i h hd hi iv e
    by_cases hz : h0.2.2.2.1 < i + 5
    · exact ex i h hz hi e
    · have nx : ∀ h2, Inv h2 → h2.2 = h.2 → mr_wp 181 18 [.retAddr 0, .ref 0, .ref 74, .int (nI (i + 5))] [] h2 Q := fun h2 iv2 e2 => ih (i + 5) h2 (by omega) (by omega) iv2 (e2.trans e)
      have g9 : 74 < h.2.1 := by rw [e]; exact h9
      have gL : i + 5 ≤ h.2.2.2.1 := by rw [e]; omega
      have gM : h.2.2.2.1 ≤ 2560 := by rw [e]; exact hM
      have r0 := lw_r gL gM 0 (by decide)
      rw [Nat.add_zero] at r0
      have cz : ¬ (Int32.ofNat h.2.2.2.1 - 5 < nI i) := by
        rw [lw_cond gM hi]
        omega
      rw [s_law_law_18]
      simp only [S_law_law_0, SEL, PF, mr_gf_O, mr_rc_O, Option.toList_some, Option.toList_none, List.cons_append, List.nil_append, b2i_0, b2i_1, b2i_a, a_00, a_11, ai_n, si_n, nI_1, q_rl_bit, mr_up_at, Nat.reduceLeDiff, Nat.reduceLT, Nat.reduceEqDiff, Nat.reduceAdd, if_true, if_false, Bool.true_eq_false, Bool.false_eq_true, Bool.true_and, Bool.false_and, Bool.and_true, Bool.and_false, i_10, i_01, i_00, not_true_eq_false, not_false_eq_true, if_neg cz, r0]
      generalize h.2.2.2.2 (nI i).toNatClampNeg &&& 31 = X
      rw [s_law_law_32]
      by_cases e0_ : X = 0
      · rw [if_pos e0_]
        exact lc_type iv g9 gL gM nx
      rw [if_neg e0_]
      by_cases e1_ : X = 1
      · rw [if_pos e1_]
        exact lc_clear iv g9 gL gM nx
      rw [if_neg e1_]
      by_cases e2_ : X = 2
      · rw [if_pos e2_]
        exact lc_graph iv g9 gL gM nx
      rw [if_neg e2_]
      by_cases e3_ : X = 3
      · rw [if_pos e3_]
        exact lc_node iv g9 gL gM nx
      rw [if_neg e3_]
      by_cases e4_ : X = 4
      · rw [if_pos e4_]
        exact lc_edge iv g9 gL gM nx
      rw [if_neg e4_]
      by_cases e5_ : X = 5
      · rw [if_pos e5_]
        exact lc_now iv g9 gL gM nx
      rw [if_neg e5_]
      by_cases e6_ : X = 6
      · rw [if_pos e6_]
        exact lc_adds iv g9 gL gM nx
      rw [if_neg e6_]
      by_cases e7_ : X = 7
      · rw [if_pos e7_]
        exact lc_cuts iv g9 gL gM nx
      rw [if_neg e7_]
      by_cases e8_ : X = 8
      · rw [if_pos e8_]
        exact lc_ranks iv g9 gL gM nx
      rw [if_neg e8_]
      by_cases e9_ : X = 9
      · rw [if_pos e9_]
        exact lc_undo iv g9 gL gM nx
      rw [if_neg e9_]
      by_cases e10_ : X = 10
      · rw [if_pos e10_]
        exact lc_comes iv g9 gL gM nx
      rw [if_neg e10_]
      by_cases e11_ : X = 11
      · rw [if_pos e11_]
        exact lc_hub iv g9 gL gM nx
      rw [if_neg e11_]
      by_cases e12_ : X = 12
      · rw [if_pos e12_]
        exact lc_way iv g9 gL gM nx
      rw [if_neg e12_]
      by_cases e13_ : X = 13
      · rw [if_pos e13_]
        exact lc_on iv g9 gL gM nx
      rw [if_neg e13_]
      by_cases e14_ : X = 14
      · rw [if_pos e14_]
        exact lc_loss iv g9 gL gM nx
      rw [if_neg e14_]
      by_cases e15_ : X = 15
      · rw [if_pos e15_]
        exact lc_gain iv g9 gL gM nx
      rw [if_neg e15_]
      by_cases e16_ : X = 16
      · rw [if_pos e16_]
        exact lc_best iv g9 gL gM nx
      rw [if_neg e16_]
      by_cases e17_ : X = 17
      · rw [if_pos e17_]
        exact lc_odds iv g9 gL gM nx
      rw [if_neg e17_]
      by_cases e18_ : X = 18
      · rw [if_pos e18_]
        exact lc_sees iv g9 gL gM nx
      rw [if_neg e18_]
      by_cases e19_ : X = 19
      · rw [if_pos e19_]
        exact lc_forget iv g9 gL gM nx
      rw [if_neg e19_]
      by_cases e20_ : X = 20
      · rw [if_pos e20_]
        exact lc_unseen iv g9 gL gM nx
      rw [if_neg e20_]
      by_cases e21_ : X = 21
      · rw [if_pos e21_]
        exact lc_next iv g9 gL gM nx
      rw [if_neg e21_]
      by_cases e22_ : X = 22
      · rw [if_pos e22_]
        exact lc_keep iv g9 gL gM nx
      rw [if_neg e22_]
      by_cases e23_ : X = 23
      · rw [if_pos e23_]
        exact lc_back iv g9 gL gM nx
      rw [if_neg e23_]
      by_cases e24_ : X = 24
      · rw [if_pos e24_]
        exact lc_count iv g9 gL gM nx
      rw [if_neg e24_]
      simp only [S_law_law_14, SEL, PF, mr_gf_O, mr_rc_O, Option.toList_some, Option.toList_none, List.cons_append, List.nil_append, b2i_0, b2i_1, b2i_a, a_00, a_11, ai_n, si_n, nI_1, q_rl_bit, mr_up_at, Nat.reduceLeDiff, Nat.reduceLT, Nat.reduceEqDiff, Nat.reduceAdd, if_true, if_false, Bool.true_eq_false, Bool.false_eq_true, Bool.true_and, Bool.false_and, Bool.and_true, Bool.and_false, i_10, i_01, i_00, not_true_eq_false, not_false_eq_true, nI_5]
      exact nx h iv rfl
theorem lw_start {h0 : mr_h} (hc : h0.2.1 = 0) (hM : h0.2.2.2.1 ≤ 2560) (kk : ∀ h2 : mr_h, h2.2.1 = 90 → h2.2.2.1 = h0.2.2.1 + 11 + 738 + 28 + 692 → Q (some (.int 1)) h2) : mr_wp 181 0 [.retAddr 0, .null, .null, .null] [] h0 Q := by
  simp only [S_law_law_0, SEL, PF, mr_gf_O, mr_rc_O, Option.toList_some, Option.toList_none, List.cons_append, List.nil_append, b2i_0, b2i_1, b2i_a, a_00, a_11, ai_n, si_n, nI_1, q_rl_bit, mr_up_at, Nat.reduceLeDiff, Nat.reduceLT, Nat.reduceEqDiff, Nat.reduceAdd, if_true, if_false, Bool.true_eq_false, Bool.false_eq_true, Bool.true_and, Bool.false_and, Bool.and_true, Bool.and_false, i_10, i_01, i_00, not_true_eq_false, not_false_eq_true, hc]
  refine q_rl_init (h := mr_add h0 11 (mr_O 10 (mr_dfs 10))) (by rw [ad_at, if_pos hc.symm]) (by rw [ad_n, hc]) ?_
  intro h1 E K F G c1 s1 t1 rs
  simp only [S_law_law_0, SEL, PF, mr_gf_O, mr_rc_O, Option.toList_some, Option.toList_none, List.cons_append, List.nil_append, b2i_0, b2i_1, b2i_a, a_00, a_11, ai_n, si_n, nI_1, q_rl_bit, mr_up_at, Nat.reduceLeDiff, Nat.reduceLT, Nat.reduceEqDiff, Nat.reduceAdd, if_true, if_false, Bool.true_eq_false, Bool.false_eq_true, Bool.true_and, Bool.false_and, Bool.and_true, Bool.and_false, i_10, i_01, i_00, not_true_eq_false, not_false_eq_true, c1]
  refine q_mo_init (h := mr_add h1 28 (mr_O 11 (mr_dfs 11))) (by rw [ad_at, if_pos c1.symm]) (by rw [ad_n, c1]) ?_
  intro h2 c2 s2 t2 ag ms
  simp only [S_law_law_0, SEL, PF, mr_gf_O, mr_rc_O, Option.toList_some, Option.toList_none, List.cons_append, List.nil_append, b2i_0, b2i_1, b2i_a, a_00, a_11, ai_n, si_n, nI_1, q_rl_bit, mr_up_at, Nat.reduceLeDiff, Nat.reduceLT, Nat.reduceEqDiff, Nat.reduceAdd, if_true, if_false, Bool.true_eq_false, Bool.false_eq_true, Bool.true_and, Bool.false_and, Bool.and_true, Bool.and_false, i_10, i_01, i_00, not_true_eq_false, not_false_eq_true]
  rw [← nI_0]
  have t3 : h2.2.2.2 = h0.2.2.2 := t2.trans t1
  have iv : Inv h2 := Inv_0 rs (fun x hx => (ag x hx).trans (by rw [ad_at, if_neg (by omega)])) ms
  refine l_law (h0 := h2) (by omega) (by rw [t3]; exact hM) (fun h3 e3 => kk h3 (by rw [e3]; exact c2) (by rw [e3, s2, ad_s, s1, ad_s])) 512 0 h2 (by rw [t3]; omega) (by decide) iv rfl
end LAW
theorem mr_law (L : Nat) (xs : Nat → Int32) (hL : L ≤ 2560) : ∃ n h', mr_ex n 181 0 [.retAddr 0, .null, .null, .null] [] (fun _ => .inl (99, []), 0, 0, L, xs) = some (some (.int 1), h') ∧ h'.2.1 ≤ 600000 ∧ h'.2.2.1 ≤ 7302250 := by
  have w : mr_wp 181 0 [.retAddr 0, .null, .null, .null] [] ((fun _ => .inl (99, []), 0, 0, L, xs) : mr_h) (fun r h' => r = some (.int 1) ∧ h'.2.1 ≤ 600000 ∧ h'.2.2.1 ≤ 7302250) := by
    refine lw_start rfl hL (fun h2 c s => ⟨rfl, by omega, ?_⟩)
    rw [s]
    show 0 + 11 + 738 + 28 + 692 ≤ 7302250
    omega
  obtain ⟨n, r, h', e, rfl, h1, h2⟩ := w
  exact ⟨n, h', e, h1, h2⟩
