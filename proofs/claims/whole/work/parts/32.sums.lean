/-! labels and sums of both sides -/
theorem In_sm {E K : Nat → Int32} {n u : Nat} (hE : nt E n) : sm (In E K n u) := mk_sm hE.1
theorem Ot_sm {E K : Nat → Int32} {n u : Nat} (hE : nt E n) : sm (Ot E K n u) := mk_sm hE.1
/-- pairs of closed rows; edges -/
def psI (f : Nat → Int32) : Nat → Int32
  | 0 => 0
  | k + 1 => psI f k + (nI (ct (f k)) - 1)
def esI (f : Nat → Int32) : Nat → Int32
  | 0 => 0
  | k + 1 => esI f k + nI (ct (f k))
theorem psI_cong {f g : Nat → Int32} : ∀ {n : Nat}, (∀ k, k < n → f k = g k) → psI f n = psI g n
  | 0, _ => rfl
  | n + 1, h => by
    show psI f n + (nI (ct (f n)) - 1) = psI g n + (nI (ct (g n)) - 1)
    rw [psI_cong (fun k hk => h k (by omega)), h n (by omega)]
theorem esI_cong {f g : Nat → Int32} : ∀ {n : Nat}, (∀ k, k < n → f k = g k) → esI f n = esI g n
  | 0, _ => rfl
  | n + 1, h => by
    show esI f n + nI (ct (f n)) = esI g n + nI (ct (g n))
    rw [esI_cong (fun k hk => h k (by omega)), h n (by omega)]
theorem nt_sm {E : Nat → Int32} {n u : Nat} (hE : nt E n) (hu : u < n) : sm (E u) := by
  intro i hi
  cases h : bt (E u) i with
  | false => rfl
  | true => have := hE.2 u hu i h; have := hE.1; omega
section SUMS
variable {h : mr_h} {Q : Option Value → mr_h → Prop} {n a : Nat} {E A f K : Nat → Int32}
theorem l_mo_inOf (hE : nt E n) (hA : ∀ j, j < n → A j = RR E n j) {u : Nat} (hu : u < n) (hm : MN h n) (e85 : h.1 85 = mr_I 12 A) (e77 : h.1 77 = mr_I 24 f) (hK : ∀ u, u < n → f (12 + u) ≤ 99) : ∀ (d k : Nat), k + d = n →
    mr_wp 139 12 [.ref 74, .int (nI u), .int (Ns E n), .int (nI (Nm E n u)), .int (mk (fun hh => ns E n hh && lb E (fun k => f (12 + k)) n hh hh (Nm E n u)) k), .int (nI k)] [] h Q = Q (some (.int (In E (fun k => f (12 + k)) n u))) h := by
  obtain ⟨th, ty, tt, tk, pl, va, fa, dn, dr, um, sn, uf, e74⟩ := id hm
  have hn := hE.1
  have hN := Nm_lt hE hu
  intro d
  induction d with
  | zero =>
    intro k hk
    have : k = n := by omega
    subst this
    rw [s_mo_inOf_12]
    simp only [S_mo_inOf, e74, MO, SEL, PF, mr_gf_O, mr_rc_O, Option.toList_some, Option.toList_none, List.cons_append, List.nil_append, b2i_0, b2i_1, b2i_a, a_00, a_11, ai_n, si_n, nI_1, q_rl_bit, mr_up_at, Nat.reduceLeDiff, Nat.reduceLT, Nat.reduceEqDiff, Nat.reduceAdd, if_true, if_false, if_pos (nI_le (Nat.le_refl k) (by omega)), in_eq hE hu]
  | succ d ih =>
    intro k hk
    have c1 : ¬ nI n ≤ nI k := nI_ge (by omega) (by omega)
    have hkn : k < n := by omega
    rw [s_mo_inOf_12]
    simp only [S_mo_inOf, e74, MO, SEL, PF, mr_gf_O, mr_rc_O, Option.toList_some, Option.toList_none, List.cons_append, List.nil_append, b2i_0, b2i_1, b2i_a, a_00, a_11, ai_n, si_n, nI_1, q_rl_bit, mr_up_at, Nat.reduceLeDiff, Nat.reduceLT, Nat.reduceEqDiff, Nat.reduceAdd, if_true, if_false, if_neg c1, q_mo_has (show k < 32 by omega), q_mo_isLabel hE hA hkn hkn hN hm e85 e77 hK, nb_def, or_0]
    by_cases b1 : bt (Ns E n) k = true
    · by_cases b2 : lb E (fun k => f (12 + k)) n k k (Nm E n u) = true
      · simp only [b1, b2, Bool.true_eq_false, if_false, mk_yes (k := k) (p := fun hh => ns E n hh && lb E (fun k => f (12 + k)) n hh hh (Nm E n u)) (by simp [ns, b1, b2])]
        exact ih (k + 1) (by omega)
      · have b2' : lb E (fun k => f (12 + k)) n k k (Nm E n u) = false := by simpa using b2
        simp only [b1, b2', Bool.true_eq_false, if_false, if_true]
        rw [mk_no (k := k) (p := fun hh => ns E n hh && lb E (fun k => f (12 + k)) n hh hh (Nm E n u)) (by simp [b2'])]
        exact ih (k + 1) (by omega)
    · have b1' : bt (Ns E n) k = false := by simpa using b1
      simp only [b1', if_true]
      rw [mk_no (k := k) (p := fun hh => ns E n hh && lb E (fun k => f (12 + k)) n hh hh (Nm E n u)) (by simp [ns, b1'])]
      exact ih (k + 1) (by omega)
theorem q_mo_inOf (hE : nt E n) (hA : ∀ j, j < n → A j = RR E n j) {u : Nat} (hu : u < n) (hm : MN h n) (e85 : h.1 85 = mr_I 12 A) (e77 : h.1 77 = mr_I 24 f) (hK : ∀ u, u < n → f (12 + u) ≤ 99) : mr_run 139 [.ref 74, .int (nI u), .int (Ns E n)] h Q = Q (some (.int (In E (fun k => f (12 + k)) n u))) h := by
  obtain ⟨th, ty, tt, tk, pl, va, fa, dn, dr, um, sn, uf, e74⟩ := id hm
  rw [r_mo_inOf]
  simp only [S_mo_inOf, e74, MO, SEL, PF, mr_gf_O, mr_rc_O, Option.toList_some, Option.toList_none, List.cons_append, List.nil_append, b2i_0, b2i_1, b2i_a, a_00, a_11, ai_n, si_n, nI_1, q_rl_bit, mr_up_at, Nat.reduceLeDiff, Nat.reduceLT, Nat.reduceEqDiff, Nat.reduceAdd, if_true, if_false, q_mo_nameOf hE hA hu hm e85]
  have := l_mo_inOf (Q := Q) hE hA hu hm e85 e77 hK n 0 (by omega)
  rw [nI_0] at this
  exact this
theorem l_mo_outOf (hE : nt E n) (hA : ∀ j, j < n → A j = RR E n j) {u : Nat} (hu : u < n) (hm : MN h n) (e85 : h.1 85 = mr_I 12 A) (e77 : h.1 77 = mr_I 24 f) (hK : ∀ u, u < n → f (12 + u) ≤ 99) : ∀ (d k : Nat), k + d = n →
    mr_wp 142 12 [.ref 74, .int (nI u), .int (Ns E n), .int (nI (Nm E n u)), .int (mk (fun hh => ns E n hh && lb E (fun k => f (12 + k)) n hh (Nm E n u) hh) k), .int (nI k)] [] h Q = Q (some (.int (Ot E (fun k => f (12 + k)) n u))) h := by
  obtain ⟨th, ty, tt, tk, pl, va, fa, dn, dr, um, sn, uf, e74⟩ := id hm
  have hn := hE.1
  have hN := Nm_lt hE hu
  intro d
  induction d with
  | zero =>
    intro k hk
    have : k = n := by omega
    subst this
    rw [s_mo_outOf_12]
    simp only [S_mo_outOf, e74, MO, SEL, PF, mr_gf_O, mr_rc_O, Option.toList_some, Option.toList_none, List.cons_append, List.nil_append, b2i_0, b2i_1, b2i_a, a_00, a_11, ai_n, si_n, nI_1, q_rl_bit, mr_up_at, Nat.reduceLeDiff, Nat.reduceLT, Nat.reduceEqDiff, Nat.reduceAdd, if_true, if_false, if_pos (nI_le (Nat.le_refl k) (by omega)), ot_eq hE hu]
  | succ d ih =>
    intro k hk
    have c1 : ¬ nI n ≤ nI k := nI_ge (by omega) (by omega)
    have hkn : k < n := by omega
    rw [s_mo_outOf_12]
    simp only [S_mo_outOf, e74, MO, SEL, PF, mr_gf_O, mr_rc_O, Option.toList_some, Option.toList_none, List.cons_append, List.nil_append, b2i_0, b2i_1, b2i_a, a_00, a_11, ai_n, si_n, nI_1, q_rl_bit, mr_up_at, Nat.reduceLeDiff, Nat.reduceLT, Nat.reduceEqDiff, Nat.reduceAdd, if_true, if_false, if_neg c1, q_mo_has (show k < 32 by omega), q_mo_isLabel hE hA hkn hN hkn hm e85 e77 hK, nb_def, or_0]
    by_cases b1 : bt (Ns E n) k = true
    · by_cases b2 : lb E (fun k => f (12 + k)) n k (Nm E n u) k = true
      · simp only [b1, b2, Bool.true_eq_false, if_false, mk_yes (k := k) (p := fun hh => ns E n hh && lb E (fun k => f (12 + k)) n hh (Nm E n u) hh) (by simp [ns, b1, b2])]
        exact ih (k + 1) (by omega)
      · have b2' : lb E (fun k => f (12 + k)) n k (Nm E n u) k = false := by simpa using b2
        simp only [b1, b2', Bool.true_eq_false, if_false, if_true]
        rw [mk_no (k := k) (p := fun hh => ns E n hh && lb E (fun k => f (12 + k)) n hh (Nm E n u) hh) (by simp [b2'])]
        exact ih (k + 1) (by omega)
    · have b1' : bt (Ns E n) k = false := by simpa using b1
      simp only [b1', if_true]
      rw [mk_no (k := k) (p := fun hh => ns E n hh && lb E (fun k => f (12 + k)) n hh (Nm E n u) hh) (by simp [ns, b1'])]
      exact ih (k + 1) (by omega)
theorem q_mo_outOf (hE : nt E n) (hA : ∀ j, j < n → A j = RR E n j) {u : Nat} (hu : u < n) (hm : MN h n) (e85 : h.1 85 = mr_I 12 A) (e77 : h.1 77 = mr_I 24 f) (hK : ∀ u, u < n → f (12 + u) ≤ 99) : mr_run 142 [.ref 74, .int (nI u), .int (Ns E n)] h Q = Q (some (.int (Ot E (fun k => f (12 + k)) n u))) h := by
  obtain ⟨th, ty, tt, tk, pl, va, fa, dn, dr, um, sn, uf, e74⟩ := id hm
  rw [r_mo_outOf]
  simp only [S_mo_outOf, e74, MO, SEL, PF, mr_gf_O, mr_rc_O, Option.toList_some, Option.toList_none, List.cons_append, List.nil_append, b2i_0, b2i_1, b2i_a, a_00, a_11, ai_n, si_n, nI_1, q_rl_bit, mr_up_at, Nat.reduceLeDiff, Nat.reduceLT, Nat.reduceEqDiff, Nat.reduceAdd, if_true, if_false, q_mo_nameOf hE hA hu hm e85]
  have := l_mo_outOf (Q := Q) hE hA hu hm e85 e77 hK n 0 (by omega)
  rw [nI_0] at this
  exact this
theorem l_mo_labels (hE : nt E n) (hA : ∀ j, j < n → A j = RR E n j) (hm : MN h n) (e85 : h.1 85 = mr_I 12 A) (e77 : h.1 77 = mr_I 24 f) (hK : ∀ u, u < n → f (12 + u) ≤ 99) : ∀ (d k : Nat), k + d = n →
    mr_wp 148 21 [.ref 74, .int (Ns E n), .int (Lc E (fun k => f (12 + k)) n k), .int (nI k)] [] h Q = Q (some (.int (Lc E (fun k => f (12 + k)) n n))) h := by
  obtain ⟨th, ty, tt, tk, pl, va, fa, dn, dr, um, sn, uf, e74⟩ := id hm
  have hn := hE.1
  intro d
  induction d with
  | zero =>
    intro k hk
    have : k = n := by omega
    subst this
    rw [s_mo_labels_21]
    simp only [S_mo_labels, e74, MO, SEL, PF, mr_gf_O, mr_rc_O, Option.toList_some, Option.toList_none, List.cons_append, List.nil_append, b2i_0, b2i_1, b2i_a, a_00, a_11, ai_n, si_n, nI_1, q_rl_bit, mr_up_at, Nat.reduceLeDiff, Nat.reduceLT, Nat.reduceEqDiff, Nat.reduceAdd, if_true, if_false, if_pos (nI_le (Nat.le_refl k) (by omega))]
  | succ d ih =>
    intro k hk
    have c1 : ¬ nI n ≤ nI k := nI_ge (by omega) (by omega)
    have hkn : k < n := by omega
    rw [s_mo_labels_21]
    simp only [S_mo_labels, e74, MO, SEL, PF, mr_gf_O, mr_rc_O, Option.toList_some, Option.toList_none, List.cons_append, List.nil_append, b2i_0, b2i_1, b2i_a, a_00, a_11, ai_n, si_n, nI_1, q_rl_bit, mr_up_at, Nat.reduceLeDiff, Nat.reduceLT, Nat.reduceEqDiff, Nat.reduceAdd, if_true, if_false, if_neg c1, q_mo_has (show k < 32 by omega), q_mo_inOf hE hA hkn hm e85 e77 hK, q_mo_outOf hE hA hkn hm e85 e77 hK, q_mo_ones (In_sm hE), q_mo_ones (Ot_sm hE)]
    have e1 : Lc E (fun k => f (12 + k)) n (k + 1) = if ns E n k then Lc E (fun k => f (12 + k)) n k + (nI (ct (In E (fun k => f (12 + k)) n k)) + nI (ct (Ot E (fun k => f (12 + k)) n k))) else Lc E (fun k => f (12 + k)) n k := rfl
    by_cases b1 : bt (Ns E n) k = true
    · rw [if_pos (show ns E n k = true from b1)] at e1
      simp only [b1, Bool.true_eq_false, if_false]
      rw [← e1]
      exact ih (k + 1) (by omega)
    · have b1' : bt (Ns E n) k = false := by simpa using b1
      rw [if_neg (show ¬ ns E n k = true from b1)] at e1
      simp only [b1', if_true, Int32.add_zero]
      rw [← e1]
      exact ih (k + 1) (by omega)
theorem q_mo_labels {g : Nat → Int32} (hE : nt f n) (hm : MN h n) (e85 : h.1 85 = mr_I 12 g) (e77 : h.1 77 = mr_I 24 f) (hK : ∀ u, u < n → f (12 + u) ≤ 99) (kk : ∀ h2 A, mr_fr h h2 [85] → h2.1 85 = mr_I 12 A → (∀ j, j < n → A j = RR f n j) → Q (some (.int (Lc f (fun k => f (12 + k)) n n))) h2) : mr_run 148 [.ref 74] h Q := by
  obtain ⟨th, ty, tt, tk, pl, va, fa, dn, dr, um, sn, uf, e74⟩ := id hm
  rw [r_mo_labels]
  simp only [S_mo_labels, e74, MO, SEL, PF, mr_gf_O, mr_rc_O, Option.toList_some, Option.toList_none, List.cons_append, List.nil_append, b2i_0, b2i_1, b2i_a, a_00, a_11, ai_n, si_n, nI_1, q_rl_bit, mr_up_at, Nat.reduceLeDiff, Nat.reduceLT, Nat.reduceEqDiff, Nat.reduceAdd, if_true, if_false]
  refine q_mo_comesBy hE.1 (by decide) (by decide) hm e77 e85 ?_
  intro h2 f2 g85
  have hA : ∀ j, j < n → (fun j => if j < n then RR f n j else g j) j = RR f n j := fun j hj => by
    show (if j < n then _ else _) = _
    rw [if_pos hj]
  have m2 := MN_fr hm f2 (by decide)
  have g77 := fr_at f2 (by decide) e77
  obtain ⟨th2, ty2, tt2, tk2, pl2, va2, fa2, dn2, dr2, um2, sn2, uf2, g74⟩ := id m2
  simp only [S_mo_labels, g74, MO, SEL, PF, mr_gf_O, mr_rc_O, Option.toList_some, Option.toList_none, List.cons_append, List.nil_append, b2i_0, b2i_1, b2i_a, a_00, a_11, ai_n, si_n, nI_1, q_rl_bit, mr_up_at, Nat.reduceLeDiff, Nat.reduceLT, Nat.reduceEqDiff, Nat.reduceAdd, if_true, if_false, q_mo_names hE hA m2 g85]
  have := l_mo_labels (Q := Q) hE hA m2 g85 g77 hK n 0 (by omega)
  rw [nI_0] at this
  rw [show (0 : Int32) = Lc f (fun k => f (12 + k)) n 0 from rfl] at *
  rw [show mr_wp 148 21 [.ref 74, .int (Ns f n), .int (Lc f (fun k => f (12 + k)) n 0), .int (Lc f (fun k => f (12 + k)) n 0)] [] h2 Q = _ from this]
  exact kk h2 _ f2 g85 hA
theorem l_re_labelCount (hE : nt E n) {I O : Nat → Int32} (hI : ∀ j, j < n → I j = In E K n j) (hO : ∀ j, j < n → O j = Ot E K n j) (e9 : h.1 9 = RE n (Ns E n)) (e13 : h.1 13 = mr_I 12 I) (e14 : h.1 14 = mr_I 12 O) : ∀ (d k : Nat), k + d = n →
    mr_wp 52 4 [.ref 9, .int (Lc E K n k), .int (nI k)] [] h Q = Q (some (.int (Lc E K n n))) h := by
  have hn := hE.1
  intro d
  induction d with
  | zero =>
    intro k hk
    have : k = n := by omega
    subst this
    rw [s_re_labelCount_4]
    simp only [S_re_labelCount, e9, RE, SEL, PF, mr_gf_O, mr_rc_O, Option.toList_some, Option.toList_none, List.cons_append, List.nil_append, b2i_0, b2i_1, b2i_a, a_00, a_11, ai_n, si_n, nI_1, q_rl_bit, mr_up_at, Nat.reduceLeDiff, Nat.reduceLT, Nat.reduceEqDiff, Nat.reduceAdd, if_true, if_false, if_pos (nI_le (Nat.le_refl k) (by omega))]
  | succ d ih =>
    intro k hk
    have c1 : ¬ nI n ≤ nI k := nI_ge (by omega) (by omega)
    have hkn : k < n := by omega
    have hk12 : k < 12 := by omega
    rw [s_re_labelCount_4]
    simp only [S_re_labelCount, e9, RE, SEL, PF, mr_gf_O, mr_rc_O, Option.toList_some, Option.toList_none, List.cons_append, List.nil_append, b2i_0, b2i_1, b2i_a, a_00, a_11, ai_n, si_n, nI_1, q_rl_bit, mr_up_at, Nat.reduceLeDiff, Nat.reduceLT, Nat.reduceEqDiff, Nat.reduceAdd, if_true, if_false, if_neg c1, q_rl_holds (show k < 32 by omega), e13, e14, hk12, hI k hkn, hO k hkn, q_bitCount (In_sm hE), q_bitCount (Ot_sm hE)]
    have e1 : Lc E K n (k + 1) = if ns E n k then Lc E K n k + (nI (ct (In E K n k)) + nI (ct (Ot E K n k))) else Lc E K n k := rfl
    by_cases b1 : bt (Ns E n) k = true
    · rw [if_pos (show ns E n k = true from b1)] at e1
      simp only [b1, Bool.true_eq_false, if_false]
      rw [← e1]
      exact ih (k + 1) (by omega)
    · have b1' : bt (Ns E n) k = false := by simpa using b1
      rw [if_neg (show ¬ ns E n k = true from b1)] at e1
      simp only [b1', if_true]
      rw [← e1]
      exact ih (k + 1) (by omega)
theorem q_re_labelCount (hE : nt E n) (hd : DV h E K n) : mr_run 52 [.ref 9] h Q = Q (some (.int (Lc E K n n))) h := by
  obtain ⟨e9, A, B, C, I, O, R, L, e10, e11, e12, e13, e14, e15, e16, hA, hB, hC, hI, hO, hR, hL⟩ := hd
  rw [r_re_labelCount]
  simp only [S_re_labelCount]
  have := l_re_labelCount (Q := Q) hE hI hO e9 e13 e14 n 0 (by omega)
  rw [nI_0] at this
  exact this
theorem l_rl_pairsOf {F : Nat → Int32} (hn : n ≤ 12) (hF : ∀ j, j < n → sm (F j)) (ea : h.1 a = mr_I 12 F) : ∀ (d k : Nat), k + d = n → mr_wp 54 4 [.ref a, .int (nI n), .int (psI F k), .int (nI k)] [] h Q = Q (some (.int (psI F n))) h := by
  intro d
  induction d with
  | zero =>
    intro k hk
    have : k = n := by omega
    subst this
    rw [s_rl_pairsOf_4]
    simp only [S_rl_pairsOf, SEL, PF, mr_gf_O, mr_rc_O, Option.toList_some, Option.toList_none, List.cons_append, List.nil_append, b2i_0, b2i_1, b2i_a, a_00, a_11, ai_n, si_n, nI_1, q_rl_bit, mr_up_at, Nat.reduceLeDiff, Nat.reduceLT, Nat.reduceEqDiff, Nat.reduceAdd, if_true, if_false, if_pos (nI_le (Nat.le_refl k) (by omega))]
  | succ d ih =>
    intro k hk
    have c1 : ¬ nI n ≤ nI k := nI_ge (by omega) (by omega)
    have hk12 : k < 12 := by omega
    rw [s_rl_pairsOf_4]
    simp only [S_rl_pairsOf, SEL, PF, mr_gf_O, mr_rc_O, Option.toList_some, Option.toList_none, List.cons_append, List.nil_append, b2i_0, b2i_1, b2i_a, a_00, a_11, ai_n, si_n, nI_1, q_rl_bit, mr_up_at, Nat.reduceLeDiff, Nat.reduceLT, Nat.reduceEqDiff, Nat.reduceAdd, if_true, if_false, if_neg c1, ea, hk12, q_bitCount (hF k (by omega))]
    exact ih (k + 1) (by omega)
theorem q_rl_pairsOf {F : Nat → Int32} (hn : n ≤ 12) (hF : ∀ j, j < n → sm (F j)) (ea : h.1 a = mr_I 12 F) : mr_run 54 [.ref a, .int (nI n)] h Q = Q (some (.int (psI F n))) h := by
  rw [r_rl_pairsOf]
  simp only [S_rl_pairsOf]
  have := l_rl_pairsOf (Q := Q) hn hF ea n 0 (by omega)
  rw [nI_0] at this
  exact this
theorem l_mo_pairsOf {F : Nat → Int32} (hn : n ≤ 12) (hF : ∀ j, j < n → sm (F j)) (hm : MN h n) (ea : h.1 a = mr_I 12 F) : ∀ (d k : Nat), k + d = n → mr_wp 149 4 [.ref 74, .ref a, .int (psI F k), .int (nI k)] [] h Q = Q (some (.int (psI F n))) h := by
  obtain ⟨th, ty, tt, tk, pl, va, fa, dn, dr, um, sn, uf, e74⟩ := id hm
  intro d
  induction d with
  | zero =>
    intro k hk
    have : k = n := by omega
    subst this
    rw [s_mo_pairsOf_4]
    simp only [S_mo_pairsOf, e74, MO, SEL, PF, mr_gf_O, mr_rc_O, Option.toList_some, Option.toList_none, List.cons_append, List.nil_append, b2i_0, b2i_1, b2i_a, a_00, a_11, ai_n, si_n, nI_1, q_rl_bit, mr_up_at, Nat.reduceLeDiff, Nat.reduceLT, Nat.reduceEqDiff, Nat.reduceAdd, if_true, if_false, if_pos (nI_le (Nat.le_refl k) (by omega))]
  | succ d ih =>
    intro k hk
    have c1 : ¬ nI n ≤ nI k := nI_ge (by omega) (by omega)
    have hk12 : k < 12 := by omega
    rw [s_mo_pairsOf_4]
    simp only [S_mo_pairsOf, e74, MO, SEL, PF, mr_gf_O, mr_rc_O, Option.toList_some, Option.toList_none, List.cons_append, List.nil_append, b2i_0, b2i_1, b2i_a, a_00, a_11, ai_n, si_n, nI_1, q_rl_bit, mr_up_at, Nat.reduceLeDiff, Nat.reduceLT, Nat.reduceEqDiff, Nat.reduceAdd, if_true, if_false, if_neg c1, ea, hk12, q_mo_ones (hF k (by omega))]
    exact ih (k + 1) (by omega)
theorem q_mo_pairsOf {F : Nat → Int32} (hn : n ≤ 12) (hF : ∀ j, j < n → sm (F j)) (hm : MN h n) (ea : h.1 a = mr_I 12 F) : mr_run 149 [.ref 74, .ref a] h Q = Q (some (.int (psI F n))) h := by
  rw [r_mo_pairsOf]
  simp only [S_mo_pairsOf]
  have := l_mo_pairsOf (Q := Q) hn hF hm ea n 0 (by omega)
  rw [nI_0] at this
  exact this
theorem l_mo_edges (hE : nt f n) (hm : MN h n) (ea : h.1 a = mr_I 24 f) : ∀ (d k : Nat), k + d = n → mr_wp 146 4 [.ref 74, .ref a, .int (esI f k), .int (nI k)] [] h Q = Q (some (.int (esI f n))) h := by
  obtain ⟨th, ty, tt, tk, pl, va, fa, dn, dr, um, sn, uf, e74⟩ := id hm
  have hn := hE.1
  intro d
  induction d with
  | zero =>
    intro k hk
    have : k = n := by omega
    subst this
    rw [s_mo_edges_4]
    simp only [S_mo_edges, e74, MO, SEL, PF, mr_gf_O, mr_rc_O, Option.toList_some, Option.toList_none, List.cons_append, List.nil_append, b2i_0, b2i_1, b2i_a, a_00, a_11, ai_n, si_n, nI_1, q_rl_bit, mr_up_at, Nat.reduceLeDiff, Nat.reduceLT, Nat.reduceEqDiff, Nat.reduceAdd, if_true, if_false, if_pos (nI_le (Nat.le_refl k) (by omega))]
  | succ d ih =>
    intro k hk
    have c1 : ¬ nI n ≤ nI k := nI_ge (by omega) (by omega)
    have hk24 : k < 24 := by omega
    rw [s_mo_edges_4]
    simp only [S_mo_edges, e74, MO, SEL, PF, mr_gf_O, mr_rc_O, Option.toList_some, Option.toList_none, List.cons_append, List.nil_append, b2i_0, b2i_1, b2i_a, a_00, a_11, ai_n, si_n, nI_1, q_rl_bit, mr_up_at, Nat.reduceLeDiff, Nat.reduceLT, Nat.reduceEqDiff, Nat.reduceAdd, if_true, if_false, if_neg c1, ea, hk24, z_add, q_mo_ones (nt_sm hE (show k < n by omega))]
    exact ih (k + 1) (by omega)
theorem q_mo_edges (hE : nt f n) (hm : MN h n) (ea : h.1 a = mr_I 24 f) : mr_run 146 [.ref 74, .ref a] h Q = Q (some (.int (esI f n))) h := by
  rw [r_mo_edges]
  simp only [S_mo_edges]
  have := l_mo_edges (Q := Q) hE hm ea n 0 (by omega)
  rw [nI_0] at this
  exact this
theorem l_ne_edgeCount (hE : nt E n) (ea : h.1 a = NE a n) (eb : h.1 (a + 1) = mr_I 12 E) : ∀ (d k : Nat), k + d = n → mr_wp 49 4 [.ref a, .int (esI E k), .int (nI k)] [] h Q = Q (some (.int (esI E n))) h := by
  have hn := hE.1
  intro d
  induction d with
  | zero =>
    intro k hk
    have : k = n := by omega
    subst this
    rw [s_ne_edgeCount_4]
    simp only [S_ne_edgeCount, ea, NE, SEL, PF, mr_gf_O, mr_rc_O, Option.toList_some, Option.toList_none, List.cons_append, List.nil_append, b2i_0, b2i_1, b2i_a, a_00, a_11, ai_n, si_n, nI_1, q_rl_bit, mr_up_at, Nat.reduceLeDiff, Nat.reduceLT, Nat.reduceEqDiff, Nat.reduceAdd, if_true, if_false, if_pos (nI_le (Nat.le_refl k) (by omega))]
  | succ d ih =>
    intro k hk
    have c1 : ¬ nI n ≤ nI k := nI_ge (by omega) (by omega)
    have hk12 : k < 12 := by omega
    rw [s_ne_edgeCount_4]
    simp only [S_ne_edgeCount, ea, NE, SEL, PF, mr_gf_O, mr_rc_O, Option.toList_some, Option.toList_none, List.cons_append, List.nil_append, b2i_0, b2i_1, b2i_a, a_00, a_11, ai_n, si_n, nI_1, q_rl_bit, mr_up_at, Nat.reduceLeDiff, Nat.reduceLT, Nat.reduceEqDiff, Nat.reduceAdd, if_true, if_false, if_neg c1, eb, hk12, q_bitCount (nt_sm hE (show k < n by omega))]
    exact ih (k + 1) (by omega)
theorem q_ne_edgeCount (hE : nt E n) (ea : h.1 a = NE a n) (eb : h.1 (a + 1) = mr_I 12 E) : mr_run 49 [.ref a] h Q = Q (some (.int (esI E n))) h := by
  rw [r_ne_edgeCount]
  simp only [S_ne_edgeCount]
  have := l_ne_edgeCount (Q := Q) hE ea eb n 0 (by omega)
  rw [nI_0] at this
  exact this
end SUMS
