/-! labels, counts, derive: the class -/
section LABEL
variable {h : mr_h} {Q : Option Value → mr_h → Prop} {n r : Nat} {E A B K L : Nat → Int32}
theorem l_label2 (hE : nt E n) {Ci Co : Nat → Int32} {c : Nat} (hcn : c < n) (hA : ∀ j, j < n → A j = RR E n j) (hB : ∀ j, j < n → B j = Bh E n j) (hL : ∀ j, j < n → L j = LRm E K n j) (e9 : h.1 9 = RE n (Ns E n)) (e10 : h.1 10 = mr_I 12 A) (e11 : h.1 11 = mr_I 12 B) (e16 : h.1 16 = mr_I 12 L) : ∀ (d k : Nat) (h1 : mr_h), k + d = n → h1.1 13 = mr_I 12 (upd Ci c (mk (inb E K n c) k)) → h1.1 14 = mr_I 12 (upd Co c (mk (otb E K n c) k)) → mr_fr h h1 [13, 14] →
    (∀ h2, mr_fr h h2 [13, 14] → h2.1 13 = mr_I 12 (upd Ci c (In E K n c)) → h2.1 14 = mr_I 12 (upd Co c (Ot E K n c)) → mr_wp 24 2 [.ref 9, .int (nI (c + 1)), .int (nI n)] [] h2 Q) → mr_wp 24 26 [.ref 9, .int (nI c), .int (nI k)] [] h1 Q := by
  have hn := hE.1
  intro d
  induction d with
  | zero =>
    intro k h1 hk h13 h14 hf kk
    have : k = n := by omega
    subst this
    have f9 := fr_at hf (by decide) e9
    rw [s_re_label_26]
    simp only [S_re_label_0, S_re_label_1, S_re_label_2, f9, RE, SEL, PF, mr_gf_O, mr_rc_O, Option.toList_some, Option.toList_none, List.cons_append, List.nil_append, b2i_0, b2i_1, b2i_a, a_00, a_11, ai_n, si_n, nI_1, q_rl_bit, mr_up_at, Nat.reduceLeDiff, Nat.reduceLT, Nat.reduceEqDiff, Nat.reduceAdd, if_true, if_false, if_pos (nI_le (Nat.le_refl k) (by omega))]
    exact kk h1 hf h13 h14
  | succ d ih =>
    intro k h1 hk h13 h14 hf kk
    have c1 : ¬ nI n ≤ nI k := nI_ge (by omega) (by omega)
    have f9 := fr_at hf (by decide) e9
    have f10 := fr_at hf (by decide) e10
    have f11 := fr_at hf (by decide) e11
    have f16 := fr_at hf (by decide) e16
    have hc12 : c < 12 := by omega
    have hk12 : k < 12 := by omega
    have hkn : k < n := by omega
    have hk32 : k < 32 := by omega
    have hc32 : c < 32 := by omega
    rw [s_re_label_26]
    simp only [S_re_label_0, S_re_label_1, S_re_label_2, f9, RE, SEL, PF, mr_gf_O, mr_rc_O, Option.toList_some, Option.toList_none, List.cons_append, List.nil_append, b2i_0, b2i_1, b2i_a, a_00, a_11, ai_n, si_n, nI_1, q_rl_bit, mr_up_at, Nat.reduceLeDiff, Nat.reduceLT, Nat.reduceEqDiff, Nat.reduceAdd, if_true, if_false, if_neg c1, q_rl_holds hk32]
    by_cases hN : bt (Ns E n) k = true
    · by_cases g1 : bt (RR E n k) c = true
      · by_cases z1 : RR E n k &&& Bh E n c &&& LRm E K n k = 0
        · have hin : inb E K n c k = true := by simp [inb, ns, rr, hN, g1, z1]
          simp only [hN, h13, h14, f10, f11, f16, hk12, hc12, hA k hkn, hA c hcn, hB k hkn, hB c hcn, hL k hkn, upd_at, upd_upd, q_re_leads (n := n) (nm := Ns E n) hk12 hc32 f9 f10, S_re_label_0, S_re_label_1, S_re_label_2, f9, RE, SEL, PF, mr_gf_O, mr_rc_O, Option.toList_some, Option.toList_none, List.cons_append, List.nil_append, b2i_0, b2i_1, b2i_a, a_00, a_11, ai_n, si_n, nI_1, q_rl_bit, mr_up_at, Nat.reduceLeDiff, Nat.reduceLT, Nat.reduceEqDiff, Nat.reduceAdd, if_true, if_false, Bool.true_eq_false, not_false_eq_true, not_true_eq_false, g1, z1, mk_yes (p := inb E K n c) hin]
          by_cases g2 : bt (RR E n c) k = true
          · by_cases z2 : RR E n c &&& Bh E n k &&& LRm E K n k = 0
            · have hot : otb E K n c k = true := by simp [otb, ns, rr, hN, g2, z2]
              simp only [hN, h13, h14, f10, f11, f16, hk12, hc12, hA k hkn, hA c hcn, hB k hkn, hB c hcn, hL k hkn, upd_at, upd_upd, q_re_leads (n := n) (nm := Ns E n) hk12 hc32 f9 f10, S_re_label_0, S_re_label_1, S_re_label_2, f9, RE, SEL, PF, mr_gf_O, mr_rc_O, Option.toList_some, Option.toList_none, List.cons_append, List.nil_append, b2i_0, b2i_1, b2i_a, a_00, a_11, ai_n, si_n, nI_1, q_rl_bit, mr_up_at, Nat.reduceLeDiff, Nat.reduceLT, Nat.reduceEqDiff, Nat.reduceAdd, if_true, if_false, Bool.true_eq_false, not_false_eq_true, not_true_eq_false, q_re_leads (n := n) (nm := Ns E n) (h := mr_up h1 13 (mr_I 12 (upd Ci c (mk (inb E K n c) (k + 1))))) hc12 hk32 (by rw [mr_up_at, if_neg (by decide)]; exact f9) (by rw [mr_up_at, if_neg (by decide)]; exact f10), g2, z2, mk_yes (p := otb E K n c) hot]
              exact ih (k + 1) _ (by omega) (by rw [mr_up_at, if_neg (by decide), up_eq]) (up_eq _ _ _) (fr_up _ (fr_up _ hf (by decide)) (by decide)) kk
            · have hot : otb E K n c k = false := by simp [otb, z2]
              simp only [hN, h13, h14, f10, f11, f16, hk12, hc12, hA k hkn, hA c hcn, hB k hkn, hB c hcn, hL k hkn, upd_at, upd_upd, q_re_leads (n := n) (nm := Ns E n) hk12 hc32 f9 f10, S_re_label_0, S_re_label_1, S_re_label_2, f9, RE, SEL, PF, mr_gf_O, mr_rc_O, Option.toList_some, Option.toList_none, List.cons_append, List.nil_append, b2i_0, b2i_1, b2i_a, a_00, a_11, ai_n, si_n, nI_1, q_rl_bit, mr_up_at, Nat.reduceLeDiff, Nat.reduceLT, Nat.reduceEqDiff, Nat.reduceAdd, if_true, if_false, Bool.true_eq_false, not_false_eq_true, not_true_eq_false, q_re_leads (n := n) (nm := Ns E n) (h := mr_up h1 13 (mr_I 12 (upd Ci c (mk (inb E K n c) (k + 1))))) hc12 hk32 (by rw [mr_up_at, if_neg (by decide)]; exact f9) (by rw [mr_up_at, if_neg (by decide)]; exact f10), g2, z2]
              exact ih (k + 1) _ (by omega) (up_eq _ _ _) (by rw [mr_up_at, if_neg (by decide), h14, mk_no (p := otb E K n c) hot]) (fr_up _ hf (by decide)) kk
          · have g2' : bt (RR E n c) k = false := by simpa using g2
            have hot : otb E K n c k = false := by simp [otb, rr, g2']
            simp only [hN, h13, h14, f10, f11, f16, hk12, hc12, hA k hkn, hA c hcn, hB k hkn, hB c hcn, hL k hkn, upd_at, upd_upd, q_re_leads (n := n) (nm := Ns E n) hk12 hc32 f9 f10, S_re_label_0, S_re_label_1, S_re_label_2, f9, RE, SEL, PF, mr_gf_O, mr_rc_O, Option.toList_some, Option.toList_none, List.cons_append, List.nil_append, b2i_0, b2i_1, b2i_a, a_00, a_11, ai_n, si_n, nI_1, q_rl_bit, mr_up_at, Nat.reduceLeDiff, Nat.reduceLT, Nat.reduceEqDiff, Nat.reduceAdd, if_true, if_false, Bool.true_eq_false, not_false_eq_true, not_true_eq_false, q_re_leads (n := n) (nm := Ns E n) (h := mr_up h1 13 (mr_I 12 (upd Ci c (mk (inb E K n c) (k + 1))))) hc12 hk32 (by rw [mr_up_at, if_neg (by decide)]; exact f9) (by rw [mr_up_at, if_neg (by decide)]; exact f10), g2']
            exact ih (k + 1) _ (by omega) (up_eq _ _ _) (by rw [mr_up_at, if_neg (by decide), h14, mk_no (p := otb E K n c) hot]) (fr_up _ hf (by decide)) kk
        · have hin : inb E K n c k = false := by simp [inb, z1]
          simp only [hN, h13, h14, f10, f11, f16, hk12, hc12, hA k hkn, hA c hcn, hB k hkn, hB c hcn, hL k hkn, upd_at, upd_upd, q_re_leads (n := n) (nm := Ns E n) hk12 hc32 f9 f10, S_re_label_0, S_re_label_1, S_re_label_2, f9, RE, SEL, PF, mr_gf_O, mr_rc_O, Option.toList_some, Option.toList_none, List.cons_append, List.nil_append, b2i_0, b2i_1, b2i_a, a_00, a_11, ai_n, si_n, nI_1, q_rl_bit, mr_up_at, Nat.reduceLeDiff, Nat.reduceLT, Nat.reduceEqDiff, Nat.reduceAdd, if_true, if_false, Bool.true_eq_false, not_false_eq_true, not_true_eq_false, g1, z1]
          by_cases g2 : bt (RR E n c) k = true
          · by_cases z2 : RR E n c &&& Bh E n k &&& LRm E K n k = 0
            · have hot : otb E K n c k = true := by simp [otb, ns, rr, hN, g2, z2]
              simp only [hN, h13, h14, f10, f11, f16, hk12, hc12, hA k hkn, hA c hcn, hB k hkn, hB c hcn, hL k hkn, upd_at, upd_upd, q_re_leads (n := n) (nm := Ns E n) hk12 hc32 f9 f10, S_re_label_0, S_re_label_1, S_re_label_2, f9, RE, SEL, PF, mr_gf_O, mr_rc_O, Option.toList_some, Option.toList_none, List.cons_append, List.nil_append, b2i_0, b2i_1, b2i_a, a_00, a_11, ai_n, si_n, nI_1, q_rl_bit, mr_up_at, Nat.reduceLeDiff, Nat.reduceLT, Nat.reduceEqDiff, Nat.reduceAdd, if_true, if_false, Bool.true_eq_false, not_false_eq_true, not_true_eq_false, q_re_leads (n := n) (nm := Ns E n) (h := h1) hc12 hk32 (f9) (f10), g2, z2, mk_yes (p := otb E K n c) hot]
              exact ih (k + 1) _ (by omega) (by rw [mr_up_at, if_neg (by decide), h13, mk_no (p := inb E K n c) hin]) (up_eq _ _ _) (fr_up _ hf (by decide)) kk
            · have hot : otb E K n c k = false := by simp [otb, z2]
              simp only [hN, h13, h14, f10, f11, f16, hk12, hc12, hA k hkn, hA c hcn, hB k hkn, hB c hcn, hL k hkn, upd_at, upd_upd, q_re_leads (n := n) (nm := Ns E n) hk12 hc32 f9 f10, S_re_label_0, S_re_label_1, S_re_label_2, f9, RE, SEL, PF, mr_gf_O, mr_rc_O, Option.toList_some, Option.toList_none, List.cons_append, List.nil_append, b2i_0, b2i_1, b2i_a, a_00, a_11, ai_n, si_n, nI_1, q_rl_bit, mr_up_at, Nat.reduceLeDiff, Nat.reduceLT, Nat.reduceEqDiff, Nat.reduceAdd, if_true, if_false, Bool.true_eq_false, not_false_eq_true, not_true_eq_false, q_re_leads (n := n) (nm := Ns E n) (h := h1) hc12 hk32 (f9) (f10), g2, z2]
              exact ih (k + 1) h1 (by omega) (by rw [h13, mk_no (p := inb E K n c) hin]) (by rw [h14, mk_no (p := otb E K n c) hot]) hf kk
          · have g2' : bt (RR E n c) k = false := by simpa using g2
            have hot : otb E K n c k = false := by simp [otb, rr, g2']
            simp only [hN, h13, h14, f10, f11, f16, hk12, hc12, hA k hkn, hA c hcn, hB k hkn, hB c hcn, hL k hkn, upd_at, upd_upd, q_re_leads (n := n) (nm := Ns E n) hk12 hc32 f9 f10, S_re_label_0, S_re_label_1, S_re_label_2, f9, RE, SEL, PF, mr_gf_O, mr_rc_O, Option.toList_some, Option.toList_none, List.cons_append, List.nil_append, b2i_0, b2i_1, b2i_a, a_00, a_11, ai_n, si_n, nI_1, q_rl_bit, mr_up_at, Nat.reduceLeDiff, Nat.reduceLT, Nat.reduceEqDiff, Nat.reduceAdd, if_true, if_false, Bool.true_eq_false, not_false_eq_true, not_true_eq_false, q_re_leads (n := n) (nm := Ns E n) (h := h1) hc12 hk32 (f9) (f10), g2']
            exact ih (k + 1) h1 (by omega) (by rw [h13, mk_no (p := inb E K n c) hin]) (by rw [h14, mk_no (p := otb E K n c) hot]) hf kk
      · have g1' : bt (RR E n k) c = false := by simpa using g1
        have hin : inb E K n c k = false := by simp [inb, rr, g1']
        simp only [hN, h13, h14, f10, f11, f16, hk12, hc12, hA k hkn, hA c hcn, hB k hkn, hB c hcn, hL k hkn, upd_at, upd_upd, q_re_leads (n := n) (nm := Ns E n) hk12 hc32 f9 f10, S_re_label_0, S_re_label_1, S_re_label_2, f9, RE, SEL, PF, mr_gf_O, mr_rc_O, Option.toList_some, Option.toList_none, List.cons_append, List.nil_append, b2i_0, b2i_1, b2i_a, a_00, a_11, ai_n, si_n, nI_1, q_rl_bit, mr_up_at, Nat.reduceLeDiff, Nat.reduceLT, Nat.reduceEqDiff, Nat.reduceAdd, if_true, if_false, Bool.true_eq_false, not_false_eq_true, not_true_eq_false, g1']
        by_cases g2 : bt (RR E n c) k = true
        · by_cases z2 : RR E n c &&& Bh E n k &&& LRm E K n k = 0
          · have hot : otb E K n c k = true := by simp [otb, ns, rr, hN, g2, z2]
            simp only [hN, h13, h14, f10, f11, f16, hk12, hc12, hA k hkn, hA c hcn, hB k hkn, hB c hcn, hL k hkn, upd_at, upd_upd, q_re_leads (n := n) (nm := Ns E n) hk12 hc32 f9 f10, S_re_label_0, S_re_label_1, S_re_label_2, f9, RE, SEL, PF, mr_gf_O, mr_rc_O, Option.toList_some, Option.toList_none, List.cons_append, List.nil_append, b2i_0, b2i_1, b2i_a, a_00, a_11, ai_n, si_n, nI_1, q_rl_bit, mr_up_at, Nat.reduceLeDiff, Nat.reduceLT, Nat.reduceEqDiff, Nat.reduceAdd, if_true, if_false, Bool.true_eq_false, not_false_eq_true, not_true_eq_false, q_re_leads (n := n) (nm := Ns E n) (h := h1) hc12 hk32 (f9) (f10), g2, z2, mk_yes (p := otb E K n c) hot]
            exact ih (k + 1) _ (by omega) (by rw [mr_up_at, if_neg (by decide), h13, mk_no (p := inb E K n c) hin]) (up_eq _ _ _) (fr_up _ hf (by decide)) kk
          · have hot : otb E K n c k = false := by simp [otb, z2]
            simp only [hN, h13, h14, f10, f11, f16, hk12, hc12, hA k hkn, hA c hcn, hB k hkn, hB c hcn, hL k hkn, upd_at, upd_upd, q_re_leads (n := n) (nm := Ns E n) hk12 hc32 f9 f10, S_re_label_0, S_re_label_1, S_re_label_2, f9, RE, SEL, PF, mr_gf_O, mr_rc_O, Option.toList_some, Option.toList_none, List.cons_append, List.nil_append, b2i_0, b2i_1, b2i_a, a_00, a_11, ai_n, si_n, nI_1, q_rl_bit, mr_up_at, Nat.reduceLeDiff, Nat.reduceLT, Nat.reduceEqDiff, Nat.reduceAdd, if_true, if_false, Bool.true_eq_false, not_false_eq_true, not_true_eq_false, q_re_leads (n := n) (nm := Ns E n) (h := h1) hc12 hk32 (f9) (f10), g2, z2]
            exact ih (k + 1) h1 (by omega) (by rw [h13, mk_no (p := inb E K n c) hin]) (by rw [h14, mk_no (p := otb E K n c) hot]) hf kk
        · have g2' : bt (RR E n c) k = false := by simpa using g2
          have hot : otb E K n c k = false := by simp [otb, rr, g2']
          simp only [hN, h13, h14, f10, f11, f16, hk12, hc12, hA k hkn, hA c hcn, hB k hkn, hB c hcn, hL k hkn, upd_at, upd_upd, q_re_leads (n := n) (nm := Ns E n) hk12 hc32 f9 f10, S_re_label_0, S_re_label_1, S_re_label_2, f9, RE, SEL, PF, mr_gf_O, mr_rc_O, Option.toList_some, Option.toList_none, List.cons_append, List.nil_append, b2i_0, b2i_1, b2i_a, a_00, a_11, ai_n, si_n, nI_1, q_rl_bit, mr_up_at, Nat.reduceLeDiff, Nat.reduceLT, Nat.reduceEqDiff, Nat.reduceAdd, if_true, if_false, Bool.true_eq_false, not_false_eq_true, not_true_eq_false, q_re_leads (n := n) (nm := Ns E n) (h := h1) hc12 hk32 (f9) (f10), g2']
          exact ih (k + 1) h1 (by omega) (by rw [h13, mk_no (p := inb E K n c) hin]) (by rw [h14, mk_no (p := otb E K n c) hot]) hf kk
    · have hN' : bt (Ns E n) k = false := by simpa using hN
      have hin : inb E K n c k = false := by simp [inb, ns, hN']
      have hot : otb E K n c k = false := by simp [otb, ns, hN']
      simp only [hN', if_true, if_false, not_true_eq_false, S_re_label_2, nI_1]
      exact ih (k + 1) h1 (by omega) (by rw [h13, mk_no (p := inb E K n c) hin]) (by rw [h14, mk_no (p := otb E K n c) hot]) hf kk
theorem l_label1 (hE : nt E n) {Ci Co : Nat → Int32} (hA : ∀ j, j < n → A j = RR E n j) (hB : ∀ j, j < n → B j = Bh E n j) (hL : ∀ j, j < n → L j = LRm E K n j) (e9 : h.1 9 = RE n (Ns E n)) (e10 : h.1 10 = mr_I 12 A) (e11 : h.1 11 = mr_I 12 B) (e16 : h.1 16 = mr_I 12 L) : ∀ (d k : Nat) (h1 : mr_h) (v2 : Value), k + d = n → h1.1 13 = mr_I 12 (fk (In E K n) Ci k) → h1.1 14 = mr_I 12 (fk (Ot E K n) Co k) → mr_fr h h1 [13, 14] →
    (∀ h2, mr_fr h h2 [13, 14] → h2.1 13 = mr_I 12 (fk (In E K n) Ci n) → h2.1 14 = mr_I 12 (fk (Ot E K n) Co n) → Q none h2) → mr_wp 24 2 [.ref 9, .int (nI k), v2] [] h1 Q := by
  have hn := hE.1
  intro d
  induction d with
  | zero =>
    intro k h1 v2 hk h13 h14 hf kk
    have : k = n := by omega
    subst this
    have f9 := fr_at hf (by decide) e9
    rw [s_re_label_2]
    simp only [S_re_label_0, S_re_label_1, S_re_label_2, f9, RE, SEL, PF, mr_gf_O, mr_rc_O, Option.toList_some, Option.toList_none, List.cons_append, List.nil_append, b2i_0, b2i_1, b2i_a, a_00, a_11, ai_n, si_n, nI_1, q_rl_bit, mr_up_at, Nat.reduceLeDiff, Nat.reduceLT, Nat.reduceEqDiff, Nat.reduceAdd, if_true, if_false, if_pos (nI_le (Nat.le_refl k) (by omega))]
    exact kk h1 hf h13 h14
  | succ d ih =>
    intro k h1 v2 hk h13 h14 hf kk
    have c1 : ¬ nI n ≤ nI k := nI_ge (by omega) (by omega)
    have f9 := fr_at hf (by decide) e9
    have f10 := fr_at hf (by decide) e10
    have f11 := fr_at hf (by decide) e11
    have f16 := fr_at hf (by decide) e16
    have hk12 : k < 12 := by omega
    rw [s_re_label_2]
    simp only [S_re_label_0, S_re_label_1, S_re_label_2, f9, RE, SEL, PF, mr_gf_O, mr_rc_O, Option.toList_some, Option.toList_none, List.cons_append, List.nil_append, b2i_0, b2i_1, b2i_a, a_00, a_11, ai_n, si_n, nI_1, q_rl_bit, mr_up_at, Nat.reduceLeDiff, Nat.reduceLT, Nat.reduceEqDiff, Nat.reduceAdd, if_true, if_false, if_neg c1, h13, h14, hk12]
    rw [← nI_0]
    refine l_label2 (h := mr_up (mr_up h1 13 (mr_I 12 (upd (fk (In E K n) Ci k) k (nI 0)))) 14 (mr_I 12 (upd (fk (Ot E K n) Co k) k (nI 0)))) (Ci := fk (In E K n) Ci k) (Co := fk (Ot E K n) Co k) hE (show k < n by omega) hA hB hL ?_ ?_ ?_ ?_ n 0 _ (by omega) ?_ ?_ (fr_rf _ _) ?_
    · simp only [mr_up_at]; exact f9
    · simp only [mr_up_at]; exact f10
    · simp only [mr_up_at]; exact f11
    · simp only [mr_up_at]; exact f16
    · rw [mr_up_at, if_neg (by decide), up_eq, nI_0]; rfl
    · rw [up_eq, nI_0]; rfl
    intro h2 f2 e13 e14
    exact ih (k + 1) h2 _ (by omega) (by rw [e13, fk_s]) (by rw [e14, fk_s]) (fr_tr (fr_up _ (fr_up _ hf (by decide)) (by decide)) f2 (by decide)) kk
theorem q_re_label (hE : nt E n) {Ci Co : Nat → Int32} (hA : ∀ j, j < n → A j = RR E n j) (hB : ∀ j, j < n → B j = Bh E n j) (hL : ∀ j, j < n → L j = LRm E K n j) (e9 : h.1 9 = RE n (Ns E n)) (e10 : h.1 10 = mr_I 12 A) (e11 : h.1 11 = mr_I 12 B) (e13 : h.1 13 = mr_I 12 Ci) (e14 : h.1 14 = mr_I 12 Co) (e16 : h.1 16 = mr_I 12 L)
    (kk : ∀ h2, mr_fr h h2 [13, 14] → h2.1 13 = mr_I 12 (fk (In E K n) Ci n) → h2.1 14 = mr_I 12 (fk (Ot E K n) Co n) → Q none h2) : mr_run 24 [.ref 9] h Q := by
  rw [r_re_label]
  simp only [S_re_label_0]
  rw [← nI_0]
  exact l_label1 hE hA hB hL e9 e10 e11 e16 n 0 h _ (by omega) (by rw [e13, fk_0]) (by rw [e14, fk_0]) (fr_rf _ _) kk
end LABEL
