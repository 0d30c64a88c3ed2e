/-! chains: the reference; now -/
section MCHAIN
variable {h : mr_h} {Q : Option Value → mr_h → Prop} {n len us m : Nat} {E K F G X A : Nat → Int32} {x : Nat → Nat}
theorem l_mch0 (hn : n ≤ 12) {x1 x2 : Int32} {v4 v5 v6 : Value} (hm : MN h n) (kk : ∀ h2, mr_fr h h2 [87] → h2.1 87 = mr_I 12 (fk (fun _ => 1) G n) → mr_wp 155 30 [.ref 74, .int x1, .int x2, .int (nI n), v4, v5, v6] [] h2 Q) : ∀ (d k : Nat) (h1 : mr_h), k + d = n → mr_fr h h1 [87] → h1.1 87 = mr_I 12 (fk (fun _ => 1) G k) → mr_wp 155 9 [.ref 74, .int x1, .int x2, .int (nI k), v4, v5, v6] [] h1 Q := by
  intro d
  induction d with
  | zero =>
    intro k h1 hk fr e87
    have : k = n := by omega
    subst this
    obtain ⟨th, ty, tt, tk, pl, va, fa, dn, dr, um, sn, uf, e74⟩ := MN_fr hm fr (by decide)
    have := kk h1 fr e87
    rw [s_mo_chain_9]
    simp only [S_mo_chain_0, S_mo_chain_1, S_mo_chain_2, e74, MO, SEL, PF, mr_gf_O, mr_rc_O, Option.toList_some, Option.toList_none, List.cons_append, List.nil_append, b2i_0, b2i_1, b2i_a, a_00, a_11, ai_n, si_n, nI_1, q_rl_bit, mr_up_at, Nat.reduceLeDiff, Nat.reduceLT, Nat.reduceEqDiff, Nat.reduceAdd, if_true, if_false, Bool.true_eq_false, Bool.false_eq_true, Bool.true_and, Bool.false_and, Bool.and_true, Bool.and_false, i_10, i_01, i_00, not_true_eq_false, not_false_eq_true, if_pos (nI_le (Nat.le_refl k) (show k < 2 ^ 31 by omega))] at this ⊢
    exact this
  | succ d ih =>
    intro k h1 hk fr e87
    have c1 : ¬ nI n ≤ nI k := nI_ge (by omega) (by omega)
    obtain ⟨th, ty, tt, tk, pl, va, fa, dn, dr, um, sn, uf, e74⟩ := MN_fr hm fr (by decide)
    have e1 := fk_s (fun _ => (1 : Int32)) G k
    rw [s_mo_chain_9]
    simp only [S_mo_chain_0, S_mo_chain_1, S_mo_chain_2, e74, MO, SEL, PF, mr_gf_O, mr_rc_O, Option.toList_some, Option.toList_none, List.cons_append, List.nil_append, b2i_0, b2i_1, b2i_a, a_00, a_11, ai_n, si_n, nI_1, q_rl_bit, mr_up_at, Nat.reduceLeDiff, Nat.reduceLT, Nat.reduceEqDiff, Nat.reduceAdd, if_true, if_false, Bool.true_eq_false, Bool.false_eq_true, Bool.true_and, Bool.false_and, Bool.and_true, Bool.and_false, i_10, i_01, i_00, not_true_eq_false, not_false_eq_true, if_neg c1, e87, show k < 12 by omega, e1]
    exact ih (k + 1) _ (by omega) (fr_up _ fr (by decide)) (up_eq _ _ _)
theorem l_mch3 (hE : nt E n) {u c0 : Nat} (hu : u < n) (hnu : ns E n u = true) {x2 x3 : Int32} (hm : MN h n) (e85 : h.1 85 = mr_I 12 A) (hA : ∀ j, j < n → A j = RR E n j) (hX : ∀ d, d < n → ns E n d = true → d ≠ u → X d = nI (x d) ∧ x d ≤ Lx E n d)
    (kk : ∀ h2 c x6, mr_fr h h2 [87] → h2.1 87 = mr_I 12 (upd X u (nI c)) → c0 ≤ c → c ≤ Lx E n u → (∀ d, d < n → ld E n u d = true → x d + 1 ≤ c) → mr_wp 155 167 [.ref 74, .int (Ns E n), .int x2, .int x3, .int (nI u), .int (nI n), x6] [] h2 Q) : ∀ (d k c : Nat) (h1 : mr_h) (x6 : Value), k + d = n → mr_fr h h1 [87] → h1.1 87 = mr_I 12 (upd X u (nI c)) → c0 ≤ c → c ≤ Lx E n u → (∀ d, d < k → ld E n u d = true → x d + 1 ≤ c) → mr_wp 155 55 [.ref 74, .int (Ns E n), .int x2, .int x3, .int (nI u), .int (nI k), x6] [] h1 Q := by
  have hn := hE.1
  have hLu := Lx_le hE hu
  intro d
  induction d with
  | zero =>
    intro k c h1 x6 hk fr e87 h2 h3 h4
    have : k = n := by omega
    subst this
    obtain ⟨th, ty, tt, tk, pl, va, fa, dn, dr, um, sn, uf, e74⟩ := MN_fr hm fr (by decide)
    have := kk h1 c x6 fr e87 h2 h3 h4
    rw [s_mo_chain_55]
    simp only [e74, MO, S_mo_chain_0, S_mo_chain_1, S_mo_chain_2, SEL, PF, mr_gf_O, mr_rc_O, Option.toList_some, Option.toList_none, List.cons_append, List.nil_append, b2i_0, b2i_1, b2i_a, a_00, a_11, ai_n, si_n, nI_1, q_rl_bit, mr_up_at, Nat.reduceLeDiff, Nat.reduceLT, Nat.reduceEqDiff, Nat.reduceAdd, if_true, if_false, Bool.true_eq_false, Bool.false_eq_true, Bool.true_and, Bool.false_and, Bool.and_true, Bool.and_false, i_10, i_01, i_00, not_true_eq_false, not_false_eq_true, if_pos (nI_le (Nat.le_refl k) (show k < 2 ^ 31 by omega))] at this ⊢
    exact this
  | succ d ih =>
    intro k c h1 x6 hk fr e87 h2 h3 h4
    have hkn : k < n := by omega
    have c1 : ¬ nI n ≤ nI k := nI_ge (by omega) (by omega)
    obtain ⟨th, ty, tt, tk, pl, va, fa, dn, dr, um, sn, uf, e74⟩ := MN_fr hm fr (by decide)
    have g85 := fr_at fr (by decide) e85
    have n1 : bt (Ns E n) u = true := hnu
    have n2 : bt (Ns E n) k = ns E n k := rfl
    have n3 : bt (RR E n u) k = rr E n u k := rfl
    have n4 : (nI u = nI k) = (u = k) := propext (nI_eq (by omega) (by omega))
    rw [s_mo_chain_55]
    simp only [S_mo_chain_0, S_mo_chain_1, S_mo_chain_2, e74, MO, SEL, PF, mr_gf_O, mr_rc_O, Option.toList_some, Option.toList_none, List.cons_append, List.nil_append, b2i_0, b2i_1, b2i_a, a_00, a_11, ai_n, si_n, nI_1, q_rl_bit, mr_up_at, Nat.reduceLeDiff, Nat.reduceLT, Nat.reduceEqDiff, Nat.reduceAdd, if_true, if_false, Bool.true_eq_false, Bool.false_eq_true, Bool.true_and, Bool.false_and, Bool.and_true, Bool.and_false, i_10, i_01, i_00, not_true_eq_false, not_false_eq_true, if_neg c1, q_mo_has (show u < 32 by omega), q_mo_has (show k < 32 by omega), n1, n2, n3, n4, g85, show u < 12 by omega, hA u hu, e87, upd_at, show k < 12 by omega]
    have f2 : mr_fr h1 (mr_up h1 87 (mr_I 12 (upd X u (nI c)))) [87] := fr_up _ (fr_rf _ _) (by decide)
    -- not led to: nothing changes
    have skip : ld E n u k = false → ∀ x6, mr_wp 155 55 [.ref 74, .int (Ns E n), .int x2, .int x3, .int (nI u), .int (nI (k + 1)), x6] [] (mr_up h1 87 (mr_I 12 (upd X u (nI c)))) Q := fun hl x6 => ih (k + 1) c _ x6 (by omega) (fr_tr fr f2 (by decide)) (up_eq _ _ _) h2 h3 (fun d hd hd2 => by
      by_cases e : d = k
      · subst e; rw [hl] at hd2; exact absurd hd2 (by decide)
      · exact h4 d (by omega) hd2)
    cases b1 : ns E n k with
    | false =>
      simp only [if_true, S_mo_chain_0, S_mo_chain_1, S_mo_chain_2, e74, MO, SEL, PF, mr_gf_O, mr_rc_O, Option.toList_some, Option.toList_none, List.cons_append, List.nil_append, b2i_0, b2i_1, b2i_a, a_00, a_11, ai_n, si_n, nI_1, q_rl_bit, mr_up_at, Nat.reduceLeDiff, Nat.reduceLT, Nat.reduceEqDiff, Nat.reduceAdd, if_true, if_false, Bool.true_eq_false, Bool.false_eq_true, Bool.true_and, Bool.false_and, Bool.and_true, Bool.and_false, i_10, i_01, i_00, not_true_eq_false, not_false_eq_true, e87, upd_at, show u < 12 by omega, upd_upd]
      exact skip (by unfold ld; rw [b1]; rfl) _
    | true =>
      simp only [Bool.true_eq_false, if_false]
      by_cases b2 : u = k
      · rw [if_pos b2]
        simp only [if_true, S_mo_chain_0, S_mo_chain_1, S_mo_chain_2, e74, MO, SEL, PF, mr_gf_O, mr_rc_O, Option.toList_some, Option.toList_none, List.cons_append, List.nil_append, b2i_0, b2i_1, b2i_a, a_00, a_11, ai_n, si_n, nI_1, q_rl_bit, mr_up_at, Nat.reduceLeDiff, Nat.reduceLT, Nat.reduceEqDiff, Nat.reduceAdd, if_true, if_false, Bool.true_eq_false, Bool.false_eq_true, Bool.true_and, Bool.false_and, Bool.and_true, Bool.and_false, i_10, i_01, i_00, not_true_eq_false, not_false_eq_true, e87, upd_at, show u < 12 by omega, upd_upd]
        exact skip (by unfold ld; simp [b2]) _
      · rw [if_neg b2]
        cases b3 : rr E n u k with
        | false =>
          simp only [if_true, S_mo_chain_0, S_mo_chain_1, S_mo_chain_2, e74, MO, SEL, PF, mr_gf_O, mr_rc_O, Option.toList_some, Option.toList_none, List.cons_append, List.nil_append, b2i_0, b2i_1, b2i_a, a_00, a_11, ai_n, si_n, nI_1, q_rl_bit, mr_up_at, Nat.reduceLeDiff, Nat.reduceLT, Nat.reduceEqDiff, Nat.reduceAdd, if_true, if_false, Bool.true_eq_false, Bool.false_eq_true, Bool.true_and, Bool.false_and, Bool.and_true, Bool.and_false, i_10, i_01, i_00, not_true_eq_false, not_false_eq_true, e87, upd_at, show u < 12 by omega, upd_upd]
          exact skip (by unfold ld; rw [b3]; simp) _
        | true =>
          have hl : ld E n u k = true := by unfold ld; rw [b1, b3]; simp [b2]
          have hLd := Lx_ld hE hnu hkn hl
          obtain ⟨q1, q2⟩ := hX k hkn b1 (Ne.symm b2)
          simp only [Bool.true_eq_false, if_false, S_mo_chain_0, S_mo_chain_1, S_mo_chain_2, e74, MO, SEL, PF, mr_gf_O, mr_rc_O, Option.toList_some, Option.toList_none, List.cons_append, List.nil_append, b2i_0, b2i_1, b2i_a, a_00, a_11, ai_n, si_n, nI_1, q_rl_bit, mr_up_at, Nat.reduceLeDiff, Nat.reduceLT, Nat.reduceEqDiff, Nat.reduceAdd, if_true, if_false, Bool.true_eq_false, Bool.false_eq_true, Bool.true_and, Bool.false_and, Bool.and_true, Bool.and_false, i_10, i_01, i_00, not_true_eq_false, not_false_eq_true, e87, upd_at, upd_ne X (nI c) (Ne.symm b2), show u < 12 by omega, show k < 12 by omega, q1]
          by_cases b4 : x k + 1 ≤ c
          · rw [if_pos (nI_le b4 (by omega))]
            simp only [upd_upd]
            refine ih (k + 1) c _ _ (by omega) (fr_tr fr f2 (by decide)) (up_eq _ _ _) h2 h3 (fun d hd hd2 => ?_)
            by_cases e : d = k
            · subst e; exact b4
            · exact h4 d (by omega) hd2
          · rw [if_neg (nI_ge (by omega) (by omega))]
            simp only [S_mo_chain_0, S_mo_chain_1, S_mo_chain_2, e74, MO, SEL, PF, mr_gf_O, mr_rc_O, Option.toList_some, Option.toList_none, List.cons_append, List.nil_append, b2i_0, b2i_1, b2i_a, a_00, a_11, ai_n, si_n, nI_1, q_rl_bit, mr_up_at, Nat.reduceLeDiff, Nat.reduceLT, Nat.reduceEqDiff, Nat.reduceAdd, if_true, if_false, Bool.true_eq_false, Bool.false_eq_true, Bool.true_and, Bool.false_and, Bool.and_true, Bool.and_false, i_10, i_01, i_00, not_true_eq_false, not_false_eq_true, e87, upd_at, upd_ne X (nI c) (Ne.symm b2), show u < 12 by omega, show k < 12 by omega, q1, upd_upd]
            refine ih (k + 1) (x k + 1) _ _ (by omega) (fr_up _ fr (by decide)) (up_eq _ _ _) (by omega) (by omega) (fun d hd hd2 => ?_)
            by_cases e : d = k
            · subst e; exact Nat.le_refl _
            · have := h4 d (by omega) hd2
              omega
theorem l_mch3n (hE : nt E n) {u : Nat} (hu : u < n) (hnu : ns E n u = false) {x2 x3 : Int32} (hm : MN h n)
    (kk : ∀ h2 x6, mr_fr h h2 [87] → h2.1 87 = mr_I 12 X → mr_wp 155 167 [.ref 74, .int (Ns E n), .int x2, .int x3, .int (nI u), .int (nI n), x6] [] h2 Q) : ∀ (d k : Nat) (h1 : mr_h) (x6 : Value), k + d = n → mr_fr h h1 [87] → h1.1 87 = mr_I 12 X → mr_wp 155 55 [.ref 74, .int (Ns E n), .int x2, .int x3, .int (nI u), .int (nI k), x6] [] h1 Q := by
  have hn := hE.1
  intro d
  induction d with
  | zero =>
    intro k h1 x6 hk fr e87
    have : k = n := by omega
    subst this
    obtain ⟨th, ty, tt, tk, pl, va, fa, dn, dr, um, sn, uf, e74⟩ := MN_fr hm fr (by decide)
    have := kk h1 x6 fr e87
    rw [s_mo_chain_55]
    simp only [e74, MO, S_mo_chain_0, S_mo_chain_1, S_mo_chain_2, SEL, PF, mr_gf_O, mr_rc_O, Option.toList_some, Option.toList_none, List.cons_append, List.nil_append, b2i_0, b2i_1, b2i_a, a_00, a_11, ai_n, si_n, nI_1, q_rl_bit, mr_up_at, Nat.reduceLeDiff, Nat.reduceLT, Nat.reduceEqDiff, Nat.reduceAdd, if_true, if_false, Bool.true_eq_false, Bool.false_eq_true, Bool.true_and, Bool.false_and, Bool.and_true, Bool.and_false, i_10, i_01, i_00, not_true_eq_false, not_false_eq_true, if_pos (nI_le (Nat.le_refl k) (show k < 2 ^ 31 by omega))] at this ⊢
    exact this
  | succ d ih =>
    intro k h1 x6 hk fr e87
    have c1 : ¬ nI n ≤ nI k := nI_ge (by omega) (by omega)
    obtain ⟨th, ty, tt, tk, pl, va, fa, dn, dr, um, sn, uf, e74⟩ := MN_fr hm fr (by decide)
    have n1 : bt (Ns E n) u = false := hnu
    have hsame : upd X u (X u) = X := fa_upd_same rfl
    rw [s_mo_chain_55]
    simp only [S_mo_chain_0, S_mo_chain_1, S_mo_chain_2, e74, MO, SEL, PF, mr_gf_O, mr_rc_O, Option.toList_some, Option.toList_none, List.cons_append, List.nil_append, b2i_0, b2i_1, b2i_a, a_00, a_11, ai_n, si_n, nI_1, q_rl_bit, mr_up_at, Nat.reduceLeDiff, Nat.reduceLT, Nat.reduceEqDiff, Nat.reduceAdd, if_true, if_false, Bool.true_eq_false, Bool.false_eq_true, Bool.true_and, Bool.false_and, Bool.and_true, Bool.and_false, i_10, i_01, i_00, not_true_eq_false, not_false_eq_true, if_neg c1, q_mo_has (show u < 32 by omega), n1, e87, show u < 12 by omega, hsame]
    exact ih (k + 1) _ _ (by omega) (fr_up _ fr (by decide)) (up_eq _ _ _)
/-- what holds in the reference's rounds -/
def CHI (E : Nat → Int32) (n k i : Nat) (X : Nat → Int32) (x : Nat → Nat) (y : Nat) : Prop := (∀ u, u < n → ns E n u = true → X u = nI (x u) ∧ 1 ≤ x u ∧ x u ≤ Lx E n u ∧ (u < i → (Lx E n u ≤ x u ∨ k + 2 ≤ x u) ∧ (Lx E n u ≤ y ∨ k + 2 ≤ y)) ∧ (i ≤ u → (Lx E n u ≤ x u ∨ k + 1 ≤ x u) ∧ (k = 0 ∨ Lx E n u ≤ y ∨ k + 1 ≤ y))) ∧ y ≤ ML E n
theorem l_mch2 (hE : nt E n) {k : Nat} (hm : MN h n) (e85 : h.1 85 = mr_I 12 A) (hA : ∀ j, j < n → A j = RR E n j)
    (kk : ∀ h2 X x y v4 v5 v6, mr_fr h h2 [87] → h2.1 87 = mr_I 12 X → CHI E n k n X x y → mr_wp 155 205 [.ref 74, .int (Ns E n), .int (nI y), .int (nI k), v4, v5, v6] [] h2 Q) : ∀ (d i : Nat) (h1 : mr_h) (X : Nat → Int32) (x : Nat → Nat) (y : Nat) (v5 v6 : Value), i + d = n → mr_fr h h1 [87] → h1.1 87 = mr_I 12 X → CHI E n k i X x y → mr_wp 155 43 [.ref 74, .int (Ns E n), .int (nI y), .int (nI k), .int (nI i), v5, v6] [] h1 Q := by
  have hn := hE.1
  intro d
  induction d with
  | zero =>
    intro i h1 X x y v5 v6 hi fr e87 hx
    have : i = n := by omega
    subst this
    obtain ⟨th, ty, tt, tk, pl, va, fa, dn, dr, um, sn, uf, e74⟩ := MN_fr hm fr (by decide)
    have := kk h1 X x y (.int (nI i)) v5 v6 fr e87 hx
    rw [s_mo_chain_43]
    simp only [e74, MO, S_mo_chain_0, S_mo_chain_1, S_mo_chain_2, SEL, PF, mr_gf_O, mr_rc_O, Option.toList_some, Option.toList_none, List.cons_append, List.nil_append, b2i_0, b2i_1, b2i_a, a_00, a_11, ai_n, si_n, nI_1, q_rl_bit, mr_up_at, Nat.reduceLeDiff, Nat.reduceLT, Nat.reduceEqDiff, Nat.reduceAdd, if_true, if_false, Bool.true_eq_false, Bool.false_eq_true, Bool.true_and, Bool.false_and, Bool.and_true, Bool.and_false, i_10, i_01, i_00, not_true_eq_false, not_false_eq_true, if_pos (nI_le (Nat.le_refl i) (show i < 2 ^ 31 by omega))] at this ⊢
    exact this
  | succ d ih =>
    intro i h1 X x y v5 v6 hi fr e87 hx
    have hin : i < n := by omega
    have c1 : ¬ nI n ≤ nI i := nI_ge (by omega) (by omega)
    have m1 := MN_fr hm fr (by decide)
    obtain ⟨th, ty, tt, tk, pl, va, fa, dn, dr, um, sn, uf, e74⟩ := id m1
    have hML : ML E n ≤ 12 := ML_le fun c hc _ => by have := Lx_le hE hc; omega
    rw [s_mo_chain_43]
    simp only [S_mo_chain_0, S_mo_chain_1, S_mo_chain_2, e74, MO, SEL, PF, mr_gf_O, mr_rc_O, Option.toList_some, Option.toList_none, List.cons_append, List.nil_append, b2i_0, b2i_1, b2i_a, a_00, a_11, ai_n, si_n, nI_1, q_rl_bit, mr_up_at, Nat.reduceLeDiff, Nat.reduceLT, Nat.reduceEqDiff, Nat.reduceAdd, if_true, if_false, Bool.true_eq_false, Bool.false_eq_true, Bool.true_and, Bool.false_and, Bool.and_true, Bool.and_false, i_10, i_01, i_00, not_true_eq_false, not_false_eq_true, if_neg c1]
    rw [← nI_0]
    have hns : bt (Ns E n) i = ns E n i := rfl
    cases b1 : ns E n i with
    | false =>
      refine l_mch3n (X := X) hE hin b1 m1 ?_ n 0 h1 _ (by omega) (fr_rf _ _) e87
      intro h2 x6 f2 g87
      obtain ⟨th, ty, tt, tk, pl, va, fa, dn, dr, um, sn, uf, g74⟩ := MN_fr m1 f2 (by decide)
      simp only [S_mo_chain_0, S_mo_chain_1, S_mo_chain_2, SEL, PF, mr_gf_O, mr_rc_O, Option.toList_some, Option.toList_none, List.cons_append, List.nil_append, b2i_0, b2i_1, b2i_a, a_00, a_11, ai_n, si_n, nI_1, q_rl_bit, mr_up_at, Nat.reduceLeDiff, Nat.reduceLT, Nat.reduceEqDiff, Nat.reduceAdd, if_true, if_false, Bool.true_eq_false, Bool.false_eq_true, Bool.true_and, Bool.false_and, Bool.and_true, Bool.and_false, i_10, i_01, i_00, not_true_eq_false, not_false_eq_true, q_mo_has (show i < 32 by omega), hns, b1]
      refine ih (i + 1) h2 X x y _ _ (by omega) (fr_tr fr f2 (by decide)) g87 ⟨fun u hu hnu => ?_, hx.2⟩
      obtain ⟨q1, q2, q3, q4, q5⟩ := hx.1 u hu hnu
      have : u ≠ i := fun z => by rw [z, b1] at hnu; exact absurd hnu (by decide)
      exact ⟨q1, q2, q3, fun _ => q4 (by omega), fun _ => q5 (by omega)⟩
    | true =>
      obtain ⟨q1, q2, q3, q4, q5⟩ := hx.1 i hin b1
      have hlt := Lx_le hE hin
      refine l_mch3 (X := X) (x := x) (c0 := x i) hE hin b1 m1 (fr_at fr (by decide) e85) hA (fun d hd hnd _ => ⟨(hx.1 d hd hnd).1, (hx.1 d hd hnd).2.2.1⟩) ?_ n 0 (x i) h1 _ (by omega) (fr_rf _ _) (by rw [← q1, fa_upd_same rfl]; exact e87) (Nat.le_refl _) q3 (fun d hd => absurd hd (Nat.not_lt_zero d))
      intro h2 c x6 f2 g87 hc1 hc2 hc3
      obtain ⟨th, ty, tt, tk, pl, va, fa, dn, dr, um, sn, uf, g74⟩ := MN_fr m1 f2 (by decide)
      simp only [S_mo_chain_0, S_mo_chain_1, S_mo_chain_2, SEL, PF, mr_gf_O, mr_rc_O, Option.toList_some, Option.toList_none, List.cons_append, List.nil_append, b2i_0, b2i_1, b2i_a, a_00, a_11, ai_n, si_n, nI_1, q_rl_bit, mr_up_at, Nat.reduceLeDiff, Nat.reduceLT, Nat.reduceEqDiff, Nat.reduceAdd, if_true, if_false, Bool.true_eq_false, Bool.false_eq_true, Bool.true_and, Bool.false_and, Bool.and_true, Bool.and_false, i_10, i_01, i_00, not_true_eq_false, not_false_eq_true, q_mo_has (show i < 32 by omega), hns, b1, g74, MO, g87, show i < 12 by omega, upd_at]
      -- what the new value is worth
      have hw : Lx E n i ≤ c ∨ k + 2 ≤ c := by
        have e := Lx_eq hE b1
        rcases mx_is (fun d => if ld E n i d then Lx E n d else 0) n with z | ⟨d, hd, z⟩
        · left; omega
        · cases z2 : ld E n i d with
          | false =>
            rw [z2] at z
            simp only [Bool.false_eq_true, if_false] at z
            left; omega
          | true =>
            rw [z2] at z
            simp only [if_true] at z
            have hnd : ns E n d = true := by
              unfold ld at z2
              simp only [Bool.and_eq_true] at z2
              exact z2.1
            obtain ⟨-, -, -, p4, p5⟩ := hx.1 d hd hnd
            have := hc3 d hd z2
            rcases Nat.lt_or_ge d i with w | w
            · rcases (p4 w).1 with v | v
              · left; omega
              · right; omega
            · rcases (p5 w).1 with v | v
              · left; omega
              · right; omega
      have fin : ∀ y', y ≤ y' → c ≤ y' → y' ≤ ML E n → mr_wp 155 43 [.ref 74, .int (Ns E n), .int (nI y'), .int (nI k), .int (nI (i + 1)), .int (nI n), x6] [] h2 Q := by
        intro y' hy1 hy2 hy3
        refine ih (i + 1) h2 (upd X i (nI c)) (fun j => if j = i then c else x j) y' _ _ (by omega) (fr_tr fr f2 (by decide)) g87 ⟨fun u hu hnu => ?_, hy3⟩
        by_cases e : u = i
        · subst e
          dsimp only
          rw [upd_at, if_pos rfl]
          exact ⟨rfl, by omega, hc2, fun _ => ⟨hw, by omega⟩, fun z => by omega⟩
        · obtain ⟨p1, p2, p3, p4, p5⟩ := hx.1 u hu hnu
          dsimp only
          rw [upd_ne _ _ e, if_neg e]
          refine ⟨p1, p2, p3, fun z => ?_, fun z => ?_⟩
          · have := p4 (by omega)
            exact ⟨this.1, by omega⟩
          · have := p5 (by omega)
            exact ⟨this.1, by omega⟩
      have hyM := hx.2
      have hLM := ML_ge hin b1
      by_cases b2 : c ≤ y
      · rw [if_pos (nI_le b2 (by omega))]
        exact fin y (Nat.le_refl y) b2 hyM
      · rw [if_neg (nI_ge (by omega) (by omega))]
        exact fin c (by omega) (Nat.le_refl c) (by omega)
theorem l_mch1 (hE : nt E n) (h1n : 1 ≤ n) (hm : MN h n) (e85 : h.1 85 = mr_I 12 A) (hA : ∀ j, j < n → A j = RR E n j)
    (kk : ∀ h2 X, mr_fr h h2 [87] → h2.1 87 = mr_I 12 X → Q (some (.int (nI (ML E n)))) h2) : ∀ (d k : Nat) (h1 : mr_h) (X : Nat → Int32) (x : Nat → Nat) (y : Nat) (v4 v5 v6 : Value), k + d = n → mr_fr h h1 [87] → h1.1 87 = mr_I 12 X → CHI E n k 0 X x y → mr_wp 155 32 [.ref 74, .int (Ns E n), .int (nI y), .int (nI k), v4, v5, v6] [] h1 Q := by
  have hn := hE.1
  intro d
  induction d with
  | zero =>
    intro k h1 X x y v4 v5 v6 hk fr e87 hx
    have : k = n := by omega
    subst this
    obtain ⟨th, ty, tt, tk, pl, va, fa, dn, dr, um, sn, uf, e74⟩ := MN_fr hm fr (by decide)
    have ey : y = ML E k := by
      refine Nat.le_antisymm hx.2 (ML_le fun c hc hnc => ?_)
      obtain ⟨-, -, -, -, p5⟩ := hx.1 c hc hnc
      have := (p5 (Nat.zero_le c)).2
      have := Lx_le hE hc
      omega
    rw [s_mo_chain_32]
    simp only [e74, MO, S_mo_chain_0, S_mo_chain_1, S_mo_chain_2, SEL, PF, mr_gf_O, mr_rc_O, Option.toList_some, Option.toList_none, List.cons_append, List.nil_append, b2i_0, b2i_1, b2i_a, a_00, a_11, ai_n, si_n, nI_1, q_rl_bit, mr_up_at, Nat.reduceLeDiff, Nat.reduceLT, Nat.reduceEqDiff, Nat.reduceAdd, if_true, if_false, Bool.true_eq_false, Bool.false_eq_true, Bool.true_and, Bool.false_and, Bool.and_true, Bool.and_false, i_10, i_01, i_00, not_true_eq_false, not_false_eq_true, if_pos (nI_le (Nat.le_refl k) (show k < 2 ^ 31 by omega))]
    rw [ey]
    exact kk h1 X fr e87
  | succ d ih =>
    intro k h1 X x y v4 v5 v6 hk fr e87 hx
    have c1 : ¬ nI n ≤ nI k := nI_ge (by omega) (by omega)
    have m1 := MN_fr hm fr (by decide)
    obtain ⟨th, ty, tt, tk, pl, va, fa, dn, dr, um, sn, uf, e74⟩ := id m1
    rw [s_mo_chain_32]
    simp only [S_mo_chain_0, S_mo_chain_1, S_mo_chain_2, e74, MO, SEL, PF, mr_gf_O, mr_rc_O, Option.toList_some, Option.toList_none, List.cons_append, List.nil_append, b2i_0, b2i_1, b2i_a, a_00, a_11, ai_n, si_n, nI_1, q_rl_bit, mr_up_at, Nat.reduceLeDiff, Nat.reduceLT, Nat.reduceEqDiff, Nat.reduceAdd, if_true, if_false, Bool.true_eq_false, Bool.false_eq_true, Bool.true_and, Bool.false_and, Bool.and_true, Bool.and_false, i_10, i_01, i_00, not_true_eq_false, not_false_eq_true, if_neg c1]
    rw [← nI_0]
    refine l_mch2 hE m1 (fr_at fr (by decide) e85) hA ?_ n 0 h1 X x y _ _ (by omega) (fr_rf _ _) e87 hx
    intro h2 X2 x2 y2 v4 v5 v6 f2 g87 hx2
    simp only [S_mo_chain_0, S_mo_chain_1, S_mo_chain_2, SEL, PF, mr_gf_O, mr_rc_O, Option.toList_some, Option.toList_none, List.cons_append, List.nil_append, b2i_0, b2i_1, b2i_a, a_00, a_11, ai_n, si_n, nI_1, q_rl_bit, mr_up_at, Nat.reduceLeDiff, Nat.reduceLT, Nat.reduceEqDiff, Nat.reduceAdd, if_true, if_false, Bool.true_eq_false, Bool.false_eq_true, Bool.true_and, Bool.false_and, Bool.and_true, Bool.and_false, i_10, i_01, i_00, not_true_eq_false, not_false_eq_true]
    refine ih (k + 1) h2 X2 x2 y2 _ _ _ (by omega) (fr_tr fr f2 (by decide)) g87 ⟨fun u hu hnu => ?_, hx2.2⟩
    obtain ⟨p1, p2, p3, p4, p5⟩ := hx2.1 u hu hnu
    exact ⟨p1, p2, p3, fun z => absurd z (Nat.not_lt_zero u), fun _ => ⟨(p4 hu).1, Or.inr (p4 hu).2⟩⟩
theorem c87 (st : St h n len us m E K) : ∃ A, h.1 87 = mr_I 12 A := by
  have := st.1 87 (by decide)
  simpa [shp, isI] using this
theorem q_mo_chain (st : St h n len us m E K) (e85 : h.1 85 = mr_I 12 A) (hA : ∀ j, j < n → A j = RR E n j) (kk : ∀ h2, h2.2 = h.2 → St h2 n len us m E K → Q (some (.int (nI (ML E n)))) h2) : mr_run 155 [.ref 74] h Q := by
  have hE := St_E st
  have hn := hE.1
  obtain ⟨G, e87⟩ := c87 st
  obtain ⟨th, ty, tt, tk, pl, va, fa, dn, dr, um, sn, uf, e74⟩ := St_M st
  rw [r_mo_chain]
  simp only [S_mo_chain_0, S_mo_chain_1, S_mo_chain_2, e74, MO, SEL, PF, mr_gf_O, mr_rc_O, Option.toList_some, Option.toList_none, List.cons_append, List.nil_append, b2i_0, b2i_1, b2i_a, a_00, a_11, ai_n, si_n, nI_1, q_rl_bit, mr_up_at, Nat.reduceLeDiff, Nat.reduceLT, Nat.reduceEqDiff, Nat.reduceAdd, if_true, if_false, Bool.true_eq_false, Bool.false_eq_true, Bool.true_and, Bool.false_and, Bool.and_true, Bool.and_false, i_10, i_01, i_00, not_true_eq_false, not_false_eq_true, q_mo_names hE hA (St_M st) e85]
  rw [← nI_0]
  refine l_mch0 (G := G) hn (St_M st) ?_ n 0 h (by omega) (fr_rf _ _) (by rw [fk_0]; exact e87)
  intro h2 f2 g87
  simp only [S_mo_chain_0, S_mo_chain_1, S_mo_chain_2, SEL, PF, mr_gf_O, mr_rc_O, Option.toList_some, Option.toList_none, List.cons_append, List.nil_append, b2i_0, b2i_1, b2i_a, a_00, a_11, ai_n, si_n, nI_1, q_rl_bit, mr_up_at, Nat.reduceLeDiff, Nat.reduceLT, Nat.reduceEqDiff, Nat.reduceAdd, if_true, if_false, Bool.true_eq_false, Bool.false_eq_true, Bool.true_and, Bool.false_and, Bool.and_true, Bool.and_false, i_10, i_01, i_00, not_true_eq_false, not_false_eq_true]
  refine l_mch1 (x := fun _ => 1) hE (St_n st) (MN_fr (St_M st) f2 (by decide)) (fr_at f2 (by decide) e85) hA (fun h3 X f3 k87 => kk h3 (f3.1.trans f2.1) (St_one st (fr_tr f2 f3 (by decide)) (by decide) (shp_12 k87 (by decide)))) n 0 h2 _ (y := 0) _ _ _ (by omega) (fr_rf _ _) g87 ⟨fun u hu hnu => ?_, Nat.zero_le _⟩
  rw [fk_in hu]
  have := Lx_pos hE hnu
  exact ⟨rfl, Nat.le_refl 1, this, fun z => absurd z (Nat.not_lt_zero u), fun _ => ⟨Or.inr (Nat.le_refl 1), Or.inl rfl⟩⟩
end MCHAIN
