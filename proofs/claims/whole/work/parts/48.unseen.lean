/-! which edge was added unseen: folds -/
/-- the first of pairs -/
def us2 (c : Nat → Nat → Bool) (s : Option (Nat × Nat)) (u : Nat) : Nat → Option (Nat × Nat)
  | 0 => s
  | k + 1 => match us2 c s u k with
    | some p => some p
    | none => if c u k then some (u, k) else none
def us1' (c : Nat → Nat → Bool) (n : Nat) : Nat → Option (Nat × Nat)
  | 0 => none
  | k + 1 => us2 c (us1' c n k) k n
theorem us2_some (c : Nat → Nat → Bool) (p : Nat × Nat) (u : Nat) : ∀ k, us2 c (some p) u k = some p
  | 0 => rfl
  | k + 1 => by
    show (match us2 c (some p) u k with
      | some p => some p
      | none => if c u k then some (u, k) else none) = _
    rw [us2_some c p u k]
theorem us2_none (c : Nat → Nat → Bool) (u : Nat) : ∀ k, us2 c none u k = if fa_first (c u) k < k then some (u, fa_first (c u) k) else none
  | 0 => rfl
  | k + 1 => by
    show (match us2 c none u k with
      | some p => some p
      | none => if c u k then some (u, k) else none) = _
    rw [us2_none c u k]
    by_cases h : fa_first (c u) k < k
    · have e : fa_first (c u) (k + 1) = fa_first (c u) k := first_eq (fa_first_no _ k) (fa_first_yes _ k h) (by omega)
      rw [e, if_pos h, if_pos (show fa_first (c u) k < k + 1 by omega)]
    · rw [if_neg h]
      dsimp only
      have hno : ∀ j, j < k → c u j = false := fun j hj => fa_first_no (c u) k j (by have := fa_first_le (c u) k; omega)
      by_cases hc : c u k = true
      · have e : fa_first (c u) (k + 1) = k := first_eq hno hc (by omega)
        rw [e, if_pos hc, if_pos (show k < k + 1 by omega)]
      · rw [if_neg hc, if_neg]
        intro z
        have y := fa_first_yes (c u) (k + 1) z
        by_cases e : fa_first (c u) (k + 1) = k
        · rw [e] at y; exact hc y
        · rw [hno _ (by omega)] at y; exact absurd y (by decide)
theorem us1_keep (c : Nat → Nat → Bool) (n : Nat) {k : Nat} {p : Nat × Nat} (h : us1' c n k = some p) : ∀ d, us1' c n (k + d) = some p
  | 0 => h
  | d + 1 => by
    show us2 c (us1' c n (k + d)) (k + d) n = some p
    rw [us1_keep c n h d, us2_some]
/-- the least, the first of these -/
def nstep (g : Nat → Nat → Nat) (s : Option (Nat × Nat)) (u v : Nat) : Option (Nat × Nat) := if u = v then s else match s with
  | none => some (u, v)
  | some p => if g u v < g p.1 p.2 then some (u, v) else some p
def ns2 (g : Nat → Nat → Nat) (s : Option (Nat × Nat)) (u : Nat) : Nat → Option (Nat × Nat)
  | 0 => s
  | k + 1 => nstep g (ns2 g s u k) u k
def ns1 (g : Nat → Nat → Nat) (n : Nat) : Nat → Option (Nat × Nat)
  | 0 => none
  | k + 1 => ns2 g (ns1 g n k) k n
def lI (g : Nat → Nat → Nat) (z : Int32) : Option (Nat × Nat) → Int32
  | none => z
  | some p => nI (g p.1 p.2)
def fc (c : Nat → Nat → Bool) (n : Nat) : Nat → Nat := fb_sm (fun p => fb_ct (c p) n)
theorem fc_le (c : Nat → Nat → Bool) {n : Nat} (hn : n ≤ 12) : fc c n n ≤ 144 := by
  have : fc c n n ≤ n * 12 := fb_sm_bound fun k _ => by have := fb_ct_le (c k) n; omega
  omega
theorem fc_sub {c d : Nat → Nat → Bool} {n : Nat} (h : ∀ p q, d p q = true → c p q = true) (k : Nat) : fc d n k ≤ fc c n k := fb_sm_le fun p _ => fb_ct_sub fun q _ => h p q
/-- the greater part -/
def grp (all y : Nat) : Nat := if y < all - y then all - y else y
section UNSEEN
variable {h : mr_h} {Q : Option Value → mr_h → Prop} {n len us m : Nat} {E K F : Nat → Int32} {c : Nat → Nat → Bool}
theorem l_fitting (hn : n ≤ 12) (e28 : h.1 28 = mr_O 8 [.int (nI m), .ref 29, .ref 30, .ref 31, .ref 32, .int (nI n)]) (e32 : h.1 32 = mr_I 12 F) (hF : ∀ p, p < n → F p = mk (c p) n) : ∀ (d k : Nat), k + d = n → mr_wp 106 4 [.ref 28, .int (nI (fc c n k)), .int (nI k)] [] h Q = Q (some (.int (nI (fc c n n)))) h := by
  intro d
  induction d with
  | zero =>
    intro k hk
    have : k = n := by omega
    subst this
    rw [s_si_fitting_4]
    simp only [S_si_fitting, e28, SEL, PF, mr_gf_O, mr_rc_O, Option.toList_some, Option.toList_none, List.cons_append, List.nil_append, b2i_0, b2i_1, b2i_a, a_00, a_11, ai_n, si_n, nI_1, q_rl_bit, mr_up_at, Nat.reduceLeDiff, Nat.reduceLT, Nat.reduceEqDiff, Nat.reduceAdd, if_true, if_false, if_pos (nI_le (Nat.le_refl k) (by omega))]
  | succ d ih =>
    intro k hk
    have c1 : ¬ nI n ≤ nI k := nI_ge (by omega) (by omega)
    rw [s_si_fitting_4]
    simp only [S_si_fitting, e28, SEL, PF, mr_gf_O, mr_rc_O, Option.toList_some, Option.toList_none, List.cons_append, List.nil_append, b2i_0, b2i_1, b2i_a, a_00, a_11, ai_n, si_n, nI_1, q_rl_bit, mr_up_at, Nat.reduceLeDiff, Nat.reduceLT, Nat.reduceEqDiff, Nat.reduceAdd, if_true, if_false, if_neg c1, e32, show k < 12 by omega, hF k (by omega), q_bitCount (mk_sm hn), ct_mk hn, nI_add]
    exact ih (k + 1) (by omega)
theorem q_si_fitting (hn : n ≤ 12) (e28 : h.1 28 = mr_O 8 [.int (nI m), .ref 29, .ref 30, .ref 31, .ref 32, .int (nI n)]) (e32 : h.1 32 = mr_I 12 F) (hF : ∀ p, p < n → F p = mk (c p) n) : mr_run 106 [.ref 28] h Q = Q (some (.int (nI (fc c n n)))) h := by
  rw [r_si_fitting]
  simp only [S_si_fitting]
  have := l_fitting (Q := Q) hn e28 e32 hF n 0 (by omega)
  rw [nI_0] at this
  exact this
theorem l_firstFitting (hn : n ≤ 12) (e28 : h.1 28 = mr_O 8 [.int (nI m), .ref 29, .ref 30, .ref 31, .ref 32, .int (nI n)]) (e32 : h.1 32 = mr_I 12 F) (hF : ∀ p, p < n → F p = mk (c p) n) : ∀ (d k : Nat), k + d = n → us1' c n k = none → mr_wp 107 2 [.ref 28, .int (nI k)] [] h Q = Q (some (.int (fI (us1' c n n)))) h := by
  intro d
  induction d with
  | zero =>
    intro k hk hs
    have : k = n := by omega
    subst this
    rw [s_si_firstFitting_2]
    simp only [S_si_firstFitting, e28, SEL, PF, mr_gf_O, mr_rc_O, Option.toList_some, Option.toList_none, List.cons_append, List.nil_append, b2i_0, b2i_1, b2i_a, a_00, a_11, ai_n, si_n, nI_1, q_rl_bit, mr_up_at, Nat.reduceLeDiff, Nat.reduceLT, Nat.reduceEqDiff, Nat.reduceAdd, if_true, if_false, if_pos (nI_le (Nat.le_refl k) (by omega)), hs]
    rfl
  | succ d ih =>
    intro k hk hs
    have hkn : k < n := by omega
    have c1 : ¬ nI n ≤ nI k := nI_ge (by omega) (by omega)
    have e1 : us1' c n (k + 1) = us2 c (us1' c n k) k n := rfl
    rw [hs, us2_none] at e1
    rw [s_si_firstFitting_2]
    simp only [S_si_firstFitting, e28, SEL, PF, mr_gf_O, mr_rc_O, Option.toList_some, Option.toList_none, List.cons_append, List.nil_append, b2i_0, b2i_1, b2i_a, a_00, a_11, ai_n, si_n, nI_1, q_rl_bit, mr_up_at, Nat.reduceLeDiff, Nat.reduceLT, Nat.reduceEqDiff, Nat.reduceAdd, if_true, if_false, if_neg c1, e32, show k < 12 by omega, hF k hkn]
    by_cases hz : fa_first (c k) n < n
    · rw [if_pos hz] at e1
      obtain ⟨l1, l2⟩ := lwz_mk (p := c k) hn hz
      have hnz : ¬ mk (c k) n = 0 := nz_iff.mpr ⟨fa_first (c k) n, by omega, by rw [mk_bt (by omega), fa_first_yes _ n hz]; simp [hz]⟩
      rw [if_neg hnz, q_rl_lowest, l1]
      simp only [S_si_firstFitting, SEL, PF, mr_gf_O, mr_rc_O, Option.toList_some, Option.toList_none, List.cons_append, List.nil_append, b2i_0, b2i_1, b2i_a, a_00, a_11, ai_n, si_n, nI_1, q_rl_bit, mr_up_at, Nat.reduceLeDiff, Nat.reduceLT, Nat.reduceEqDiff, Nat.reduceAdd, if_true, if_false, q_rl_edgeNumber, t_16]
      have := us1_keep c n e1 (n - (k + 1))
      rw [show k + 1 + (n - (k + 1)) = n by omega] at this
      rw [this]
      rfl
    · rw [if_neg hz] at e1
      have hno : ∀ j, j < n → c k j = false := fun j hj => fa_first_no (c k) n j (by have := fa_first_le (c k) n; omega)
      have hz0 : mk (c k) n = 0 := by
        apply b_ext
        intro i hi
        rw [mk_bt (by omega), b_0]
        by_cases e : i < n
        · rw [hno i e]; simp
        · simp [e]
      rw [if_pos hz0]
      exact ih (k + 1) (by omega) e1
theorem q_si_firstFitting (hn : n ≤ 12) (e28 : h.1 28 = mr_O 8 [.int (nI m), .ref 29, .ref 30, .ref 31, .ref 32, .int (nI n)]) (e32 : h.1 32 = mr_I 12 F) (hF : ∀ p, p < n → F p = mk (c p) n) : mr_run 107 [.ref 28] h Q = Q (some (.int (fI (us1' c n n)))) h := by
  rw [r_si_firstFitting]
  simp only [S_si_firstFitting]
  have := l_firstFitting (Q := Q) hn e28 e32 hF n 0 (by omega) rfl
  rw [nI_0] at this
  exact this
def yb (E : Nat → Int32) (n : Nat) (c : Nat → Nat → Bool) (u v p q : Nat) : Bool := c p q && rr (ad E p q) n u v
theorem l_fittingSo (st : St h n len us m E K) {u v : Nat} (hu : u < n) (hv : v < n) (e28 : h.1 28 = mr_O 8 [.int (nI m), .ref 29, .ref 30, .ref 31, .ref 32, .int (nI n)]) (e32 : h.1 32 = mr_I 12 F) (hF : ∀ p, p < n → F p = mk (c p) n) (kk : Q (some (.int (nI (fc (yb E n c u v) n n)))) h) : ∀ (d k : Nat), k + d = n → mr_wp 110 6 [.ref 28, .ref 9, .int (nI u), .int (nI v), .int (nI (fc (yb E n c u v) n k)), .int (nI k)] [] h Q := by
  have hn := (St_E st).1
  intro d
  induction d with
  | zero =>
    intro k hk
    have : k = n := by omega
    subst this
    rw [s_si_fittingSo_6]
    simp only [S_si_fittingSo, e28, SEL, PF, mr_gf_O, mr_rc_O, Option.toList_some, Option.toList_none, List.cons_append, List.nil_append, b2i_0, b2i_1, b2i_a, a_00, a_11, ai_n, si_n, nI_1, q_rl_bit, mr_up_at, Nat.reduceLeDiff, Nat.reduceLT, Nat.reduceEqDiff, Nat.reduceAdd, if_true, if_false, if_pos (nI_le (Nat.le_refl k) (by omega))]
    exact kk
  | succ d ih =>
    intro k hk
    have hkn : k < n := by omega
    have c1 : ¬ nI n ≤ nI k := nI_ge (by omega) (by omega)
    rw [s_si_fittingSo_6]
    simp only [S_si_fittingSo, e28, SEL, PF, mr_gf_O, mr_rc_O, Option.toList_some, Option.toList_none, List.cons_append, List.nil_append, b2i_0, b2i_1, b2i_a, a_00, a_11, ai_n, si_n, nI_1, q_rl_bit, mr_up_at, Nat.reduceLeDiff, Nat.reduceLT, Nat.reduceEqDiff, Nat.reduceAdd, if_true, if_false, if_neg c1, e32, show k < 12 by omega, hF k hkn]
    refine q_si_making st hkn hu hv ?_
    intro M hM
    have e : mk (c k) n &&& M = mk (yb E n c u v k) n := mk_and hn hM
    simp only [S_si_fittingSo, SEL, PF, mr_gf_O, mr_rc_O, Option.toList_some, Option.toList_none, List.cons_append, List.nil_append, b2i_0, b2i_1, b2i_a, a_00, a_11, ai_n, si_n, nI_1, q_rl_bit, mr_up_at, Nat.reduceLeDiff, Nat.reduceLT, Nat.reduceEqDiff, Nat.reduceAdd, if_true, if_false, e, q_bitCount (mk_sm hn), ct_mk hn, nI_add]
    exact ih (k + 1) (by omega)
theorem q_si_fittingSo (st : St h n len us m E K) {u v : Nat} (hu : u < n) (hv : v < n) (e28 : h.1 28 = mr_O 8 [.int (nI m), .ref 29, .ref 30, .ref 31, .ref 32, .int (nI n)]) (e32 : h.1 32 = mr_I 12 F) (hF : ∀ p, p < n → F p = mk (c p) n) (kk : Q (some (.int (nI (fc (yb E n c u v) n n)))) h) : mr_run 110 [.ref 28, .ref 9, .int (nI u), .int (nI v)] h Q := by
  rw [r_si_fittingSo]
  simp only [S_si_fittingSo]
  rw [← nI_0]
  exact l_fittingSo st hu hv e28 e32 hF kk n 0 (by omega)
def gq (E : Nat → Int32) (n : Nat) (c : Nat → Nat → Bool) (u v : Nat) : Nat := grp (fc c n n) (fc (yb E n c u v) n n)
theorem yb_le (E : Nat → Int32) (n : Nat) (c : Nat → Nat → Bool) (u v : Nat) : fc (yb E n c u v) n n ≤ fc c n n := fc_sub (fun p q hq => by
  unfold yb at hq
  simp only [Bool.and_eq_true] at hq
  exact hq.1) n
theorem gq_le (E : Nat → Int32) (n : Nat) (c : Nat → Nat → Bool) (u v : Nat) : gq E n c u v ≤ fc c n n := by
  have := yb_le E n c u v
  unfold gq grp
  split <;> omega
theorem grp_max {all y : Nat} (h : y ≤ all) (hb : all ≤ 144) : (if nI y < nI all - nI y then nI all - nI y else nI y) = nI (grp all y) := by
  rw [nI_sub h]
  unfold grp
  by_cases z : y < all - y
  · rw [if_pos z, if_pos (nI_lt z (by omega))]
  · rw [if_neg z, if_neg (nI_nlt (by omega) (by omega))]
theorem l_bq2 (st : St h n len us m E K) {u : Nat} (hu : u < n) (e28 : h.1 28 = mr_O 8 [.int (nI m), .ref 29, .ref 30, .ref 31, .ref 32, .int (nI n)]) (e32 : h.1 32 = mr_I 12 F) (hF : ∀ p, p < n → F p = mk (c p) n) {s0 : Option (Nat × Nat)} (kk : ∀ v7 v8, mr_wp 109 110 [.ref 28, .ref 9, .int (nI (fc c n n)), .int (fI (ns2 (gq E n c) s0 u n)), .int (lI (gq E n c) (nI (fc c n n + 1)) (ns2 (gq E n c) s0 u n)), .int (nI u), .int (nI n), v7, v8] [] h Q) : ∀ (d k : Nat) (v7 v8 : Value), k + d = n → mr_wp 109 36 [.ref 28, .ref 9, .int (nI (fc c n n)), .int (fI (ns2 (gq E n c) s0 u k)), .int (lI (gq E n c) (nI (fc c n n + 1)) (ns2 (gq E n c) s0 u k)), .int (nI u), .int (nI k), v7, v8] [] h Q := by
  have hn := (St_E st).1
  have hall := fc_le c hn
  intro d
  induction d with
  | zero =>
    intro k v7 v8 hk
    have : k = n := by omega
    subst this
    have := kk v7 v8
    rw [s_si_bestQuestion_36]
    simp only [S_si_bestQuestion_0, S_si_bestQuestion_1, e28, SEL, PF, mr_gf_O, mr_rc_O, Option.toList_some, Option.toList_none, List.cons_append, List.nil_append, b2i_0, b2i_1, b2i_a, a_00, a_11, ai_n, si_n, nI_1, q_rl_bit, mr_up_at, Nat.reduceLeDiff, Nat.reduceLT, Nat.reduceEqDiff, Nat.reduceAdd, if_true, if_false, if_pos (nI_le (Nat.le_refl k) (by omega))] at this ⊢
    exact this
  | succ d ih =>
    intro k v7 v8 hk
    have hkn : k < n := by omega
    have c1 : ¬ nI n ≤ nI k := nI_ge (by omega) (by omega)
    have e1 : ns2 (gq E n c) s0 u (k + 1) = nstep (gq E n c) (ns2 (gq E n c) s0 u k) u k := rfl
    rw [s_si_bestQuestion_36]
    simp only [S_si_bestQuestion_0, S_si_bestQuestion_1, e28, SEL, PF, mr_gf_O, mr_rc_O, Option.toList_some, Option.toList_none, List.cons_append, List.nil_append, b2i_0, b2i_1, b2i_a, a_00, a_11, ai_n, si_n, nI_1, q_rl_bit, mr_up_at, Nat.reduceLeDiff, Nat.reduceLT, Nat.reduceEqDiff, Nat.reduceAdd, if_true, if_false, if_neg c1, nI_eq (show u < 2 ^ 31 by omega) (show k < 2 ^ 31 by omega)]
    by_cases huk : u = k
    · have e2 : ns2 (gq E n c) s0 u (k + 1) = ns2 (gq E n c) s0 u k := by
        rw [e1]
        unfold nstep
        rw [if_pos huk]
      rw [if_neg (by simpa using huk)]
      simp only [if_pos huk]
      have := fun v7 v8 => ih (k + 1) v7 v8 (by omega)
      rw [e2] at this
      exact this _ _
    · rw [if_pos huk]
      refine q_si_fittingSo st hu hkn e28 e32 hF ?_
      have hy := yb_le E n c u k
      have hg : grp (fc c n n) (fc (yb E n c u k) n n) = gq E n c u k := rfl
      have hgl := gq_le E n c u k
      simp only [S_si_bestQuestion_0, S_si_bestQuestion_1, SEL, PF, mr_gf_O, mr_rc_O, Option.toList_some, Option.toList_none, List.cons_append, List.nil_append, b2i_0, b2i_1, b2i_a, a_00, a_11, ai_n, si_n, nI_1, q_rl_bit, mr_up_at, Nat.reduceLeDiff, Nat.reduceLT, Nat.reduceEqDiff, Nat.reduceAdd, if_true, if_false, grp_max hy hall, if_neg (show ¬ nI u = nI k from fun z => huk ((nI_eq (by omega) (by omega)).mp z)), hg, q_rl_edgeNumber, t_16]
      have := fun v7 v8 => ih (k + 1) v7 v8 (by omega)
      rw [e1] at this
      unfold nstep at this
      simp only [if_neg huk] at this
      cases es : ns2 (gq E n c) s0 u k with
      | none =>
        rw [es] at this
        rw [if_neg (show ¬ lI (gq E n c) (nI (fc c n n + 1)) none ≤ nI (gq E n c u k) from nI_ge (by omega) (by omega))]
        exact this _ _
      | some p =>
        rw [es] at this
        dsimp only at this
        have hgp := gq_le E n c p.1 p.2
        by_cases b2 : gq E n c u k < gq E n c p.1 p.2
        · simp only [b2, if_true] at this
          rw [if_neg (show ¬ lI (gq E n c) (nI (fc c n n + 1)) (some p) ≤ nI (gq E n c u k) from nI_ge b2 (by omega))]
          exact this _ _
        · simp only [b2, if_false] at this
          rw [if_pos (show lI (gq E n c) (nI (fc c n n + 1)) (some p) ≤ nI (gq E n c u k) from nI_le (by omega) (by omega))]
          exact this _ _
theorem l_bq1 (st : St h n len us m E K) (e28 : h.1 28 = mr_O 8 [.int (nI m), .ref 29, .ref 30, .ref 31, .ref 32, .int (nI n)]) (e32 : h.1 32 = mr_I 12 F) (hF : ∀ p, p < n → F p = mk (c p) n) (kk : Q (some (.int (fI (ns1 (gq E n c) n n)))) h) : ∀ (d k : Nat) (v6 v7 v8 : Value), k + d = n → mr_wp 109 24 [.ref 28, .ref 9, .int (nI (fc c n n)), .int (fI (ns1 (gq E n c) n k)), .int (lI (gq E n c) (nI (fc c n n + 1)) (ns1 (gq E n c) n k)), .int (nI k), v6, v7, v8] [] h Q := by
  have hn := (St_E st).1
  intro d
  induction d with
  | zero =>
    intro k v6 v7 v8 hk
    have : k = n := by omega
    subst this
    rw [s_si_bestQuestion_24]
    simp only [S_si_bestQuestion_0, S_si_bestQuestion_1, e28, SEL, PF, mr_gf_O, mr_rc_O, Option.toList_some, Option.toList_none, List.cons_append, List.nil_append, b2i_0, b2i_1, b2i_a, a_00, a_11, ai_n, si_n, nI_1, q_rl_bit, mr_up_at, Nat.reduceLeDiff, Nat.reduceLT, Nat.reduceEqDiff, Nat.reduceAdd, if_true, if_false, if_pos (nI_le (Nat.le_refl k) (by omega))]
    exact kk
  | succ d ih =>
    intro k v6 v7 v8 hk
    have c1 : ¬ nI n ≤ nI k := nI_ge (by omega) (by omega)
    rw [s_si_bestQuestion_24]
    simp only [S_si_bestQuestion_0, S_si_bestQuestion_1, e28, SEL, PF, mr_gf_O, mr_rc_O, Option.toList_some, Option.toList_none, List.cons_append, List.nil_append, b2i_0, b2i_1, b2i_a, a_00, a_11, ai_n, si_n, nI_1, q_rl_bit, mr_up_at, Nat.reduceLeDiff, Nat.reduceLT, Nat.reduceEqDiff, Nat.reduceAdd, if_true, if_false, if_neg c1]
    rw [← nI_0]
    refine l_bq2 (s0 := ns1 (gq E n c) n k) st (show k < n by omega) e28 e32 hF ?_ n 0 v7 v8 (by omega)
    intro v7 v8
    simp only [S_si_bestQuestion_0, S_si_bestQuestion_1, SEL, PF, mr_gf_O, mr_rc_O, Option.toList_some, Option.toList_none, List.cons_append, List.nil_append, b2i_0, b2i_1, b2i_a, a_00, a_11, ai_n, si_n, nI_1, q_rl_bit, mr_up_at, Nat.reduceLeDiff, Nat.reduceLT, Nat.reduceEqDiff, Nat.reduceAdd, if_true, if_false]
    exact ih (k + 1) _ v7 v8 (by omega)
theorem q_si_bestQuestion (st : St h n len us m E K) (e28 : h.1 28 = mr_O 8 [.int (nI m), .ref 29, .ref 30, .ref 31, .ref 32, .int (nI n)]) (e32 : h.1 32 = mr_I 12 F) (hF : ∀ p, p < n → F p = mk (c p) n) (kk : Q (some (.int (if fc c n n ≤ 1 then -9 else fI (ns1 (gq E n c) n n)))) h) : mr_run 109 [.ref 28, .ref 9] h Q := by
  have hn := (St_E st).1
  have hall := fc_le c hn
  rw [r_si_bestQuestion]
  simp only [S_si_bestQuestion_0, S_si_bestQuestion_1, e28, SEL, PF, mr_gf_O, mr_rc_O, Option.toList_some, Option.toList_none, List.cons_append, List.nil_append, b2i_0, b2i_1, b2i_a, a_00, a_11, ai_n, si_n, nI_1, q_rl_bit, mr_up_at, Nat.reduceLeDiff, Nat.reduceLT, Nat.reduceEqDiff, Nat.reduceAdd, if_true, if_false]
  rw [q_si_fitting hn e28 e32 hF]
  simp only [S_si_bestQuestion_0, S_si_bestQuestion_1, SEL, PF, mr_gf_O, mr_rc_O, Option.toList_some, Option.toList_none, List.cons_append, List.nil_append, b2i_0, b2i_1, b2i_a, a_00, a_11, ai_n, si_n, nI_1, q_rl_bit, mr_up_at, Nat.reduceLeDiff, Nat.reduceLT, Nat.reduceEqDiff, Nat.reduceAdd, if_true, if_false]
  by_cases h1 : fc c n n ≤ 1
  · rw [if_neg (show ¬ (1 : Int32) < nI (fc c n n) from nI_nlt (a := 1) h1 (by decide))]
    rw [if_pos h1] at kk
    exact kk
  · rw [if_pos (show (1 : Int32) < nI (fc c n n) from nI_lt (a := 1) (by omega) (by omega))]
    rw [if_neg h1] at kk
    rw [← nI_0]
    exact l_bq1 st e28 e32 hF kk n 0 _ _ _ (by omega)
end UNSEEN
