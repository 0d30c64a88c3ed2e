/-! gain, best -/
theorem t_16 (u v : Nat) : (16 : Int32) * nI u + nI v = nI (16 * u + v) := by
  rw [show (16 : Int32) * nI u = nI (16 * u) from (Int32.ofNat_mul 16 u).symm, nI_add]
theorem nI_nm1 {g : Nat} (hg : g < 2 ^ 31) : ¬ nI g ≤ -1 := by
  rw [fa_le, nI_toInt hg]
  show ¬ ((g : Int) ≤ -1)
  omega
theorem nI_nm9 {g : Nat} (hg : g < 2 ^ 31) : ¬ nI g ≤ -9 := by
  rw [fa_le, nI_toInt hg]
  show ¬ ((g : Int) ≤ -9)
  omega
def gnw (E : Nat → Int32) (n a b w : Nat) : Nat := if rr E n w a then ct (RR E n b &&& (RR E n w ^^^ -1)) else 0
def gn (E : Nat → Int32) (n a b : Nat) : Nat := fb_sm (gnw E n a b) n
theorem gn_le (E : Nat → Int32) {n : Nat} (hn : n ≤ 12) (a b : Nat) : gn E n a b ≤ 144 := by
  have : gn E n a b ≤ n * 12 := fb_sm_bound fun k _ => by
    unfold gnw
    split
    · exact ct_le _
    · omega
  omega
theorem ct_gain {x y z : Int32} (h : ∀ i, i < 12 → bt z i = (bt x i || bt y i)) : ct z = ct x + ct (y &&& (x ^^^ -1)) := by
  unfold ct
  rw [← fb_ct_or (fun k hk z => by
    rw [b_and, b_not x (by omega)] at z
    rw [z.1] at z
    simp at z)]
  refine fb_ct_cong fun k hk => ?_
  rw [h k hk, b_and, b_not x (by omega)]
  cases bt x k <;> cases bt y k <;> rfl
theorem pN_ad {E : Nat → Int32} {n a b : Nat} (hE : nt E n) (ha : a < n) (hb : b < n) : pN (RR (ad E a b) n) n = pN (RR E n) n + gn E n a b := by
  unfold pN gn
  rw [← fb_sm_add]
  refine fb_sm_cong fun w hw => ?_
  have p := RR_pos hE hw
  unfold gnw
  cases h : rr E n w a with
  | true =>
    have := ct_gain (x := RR E n w) (y := RR E n b) (z := RR (ad E a b) n w) (fun i _ => by
      have e : bt (RR (ad E a b) n w) i = _ := rr_ad hE ha hb (v := i) hw
      rw [e, h]
      rfl)
    simp only [if_true]
    omega
  | false =>
    have : RR (ad E a b) n w = RR E n w := b_ext fun i _ => by
      have e : bt (RR (ad E a b) n w) i = _ := rr_ad hE ha hb (v := i) hw
      rw [e, h]
      simp
      rfl
    rw [this]
    simp
def ms (E : Nat → Int32) (u v : Nat) : Bool := !decide (u = v) && !bt (E u) v
def bstep (E : Nat → Int32) (n : Nat) (s : Option (Nat × Nat)) (u v : Nat) : Option (Nat × Nat) := if ms E u v then (match s with
  | none => some (u, v)
  | some p => if gn E n p.1 p.2 < gn E n u v then some (u, v) else some p) else s
def bs2 (E : Nat → Int32) (n : Nat) (s : Option (Nat × Nat)) (u : Nat) : Nat → Option (Nat × Nat)
  | 0 => s
  | k + 1 => bstep E n (bs2 E n s u k) u k
def bs1 (E : Nat → Int32) (n : Nat) : Nat → Option (Nat × Nat)
  | 0 => none
  | k + 1 => bs2 E n (bs1 E n k) k n
def okp (n : Nat) (s : Option (Nat × Nat)) : Prop := ∀ p, s = some p → p.1 < n ∧ p.2 < n
theorem bstep_ok {E : Nat → Int32} {n u v : Nat} {s : Option (Nat × Nat)} (h : okp n s) (hu : u < n) (hv : v < n) : okp n (bstep E n s u v) := by
  intro p hp
  unfold bstep at hp
  split at hp
  · cases s with
    | none => cases hp; exact ⟨hu, hv⟩
    | some q =>
      dsimp only at hp
      split at hp
      · cases hp; exact ⟨hu, hv⟩
      · exact h p hp
  · exact h p hp
theorem bs2_ok {E : Nat → Int32} {n u : Nat} {s : Option (Nat × Nat)} (h : okp n s) (hu : u < n) : ∀ k, k ≤ n → okp n (bs2 E n s u k)
  | 0, _ => h
  | k + 1, hk => bstep_ok (bs2_ok h hu k (by omega)) hu (by omega)
theorem bs1_ok {E : Nat → Int32} {n : Nat} : ∀ k, k ≤ n → okp n (bs1 E n k)
  | 0, _ => fun p hp => by cases hp
  | k + 1, hk => bs2_ok (bs1_ok k (by omega)) (by omega) n (Nat.le_refl n)
def fI : Option (Nat × Nat) → Int32
  | none => -9
  | some p => nI (16 * p.1 + p.2)
def gI (E : Nat → Int32) (n : Nat) (z : Int32) : Option (Nat × Nat) → Int32
  | none => z
  | some p => nI (gn E n p.1 p.2)
theorem ev_bt : ∀ n, n ≤ 12 → ∀ i, i < 32 → bt (nb n - 1) i = decide (i < n) := by decide +kernel
section GAIN
variable {h : mr_h} {Q : Option Value → mr_h → Prop} {n len us m : Nat} {E K : Nat → Int32}
theorem l_gainOf (st : St h n len us m E K) {a b : Nat} (ha : a < n) (hb : b < n) {A B : Nat → Int32} (e10 : h.1 10 = mr_I 12 A) (e11 : h.1 11 = mr_I 12 B) (hA : ∀ j, j < n → A j = RR E n j) (hB : ∀ j, j < n → B j = Bh E n j) : ∀ (d k : Nat), k + d = 12 → mr_wp 87 6 [.ref 22, .ref 9, .int (nI a), .int (nI b), .int (nI (fb_sm (fun w => if w < n then gnw E n a b w else 0) k)), .int (nI k)] [] h Q = Q (some (.int (nI (fb_sm (fun w => if w < n then gnw E n a b w else 0) 12)))) h := by
  have hE := St_E st
  have hn := hE.1
  have e9 := (St_D st).1
  intro d
  induction d with
  | zero =>
    intro k hk
    have : k = 12 := by omega
    subst this
    rw [s_cg_gainOf_6]
    simp only [S_cg_gainOf, SEL, PF, mr_gf_O, mr_rc_O, Option.toList_some, Option.toList_none, List.cons_append, List.nil_append, b2i_0, b2i_1, b2i_a, a_00, a_11, ai_n, si_n, nI_1, q_rl_bit, mr_up_at, Nat.reduceLeDiff, Nat.reduceLT, Nat.reduceEqDiff, Nat.reduceAdd, if_true, if_false, if_pos (show (12 : Int32) ≤ nI 12 by decide)]
  | succ d ih =>
    intro k hk
    have c1 : ¬ (12 : Int32) ≤ nI k := nI_ge (b := 12) (by omega) (by decide)
    rw [s_cg_gainOf_6]
    have hb1 : bt (Bh E n a) k = (decide (k < n) && rr E n k a) := Bh_bt hn
    simp only [S_cg_gainOf, e9, RE, e10, e11, SEL, PF, mr_gf_O, mr_rc_O, Option.toList_some, Option.toList_none, List.cons_append, List.nil_append, b2i_0, b2i_1, b2i_a, a_00, a_11, ai_n, si_n, nI_1, q_rl_bit, mr_up_at, Nat.reduceLeDiff, Nat.reduceLT, Nat.reduceEqDiff, Nat.reduceAdd, if_true, if_false, if_neg c1, show a < 12 by omega, show b < 12 by omega, show k < 12 by omega, q_rl_holds (show k < 32 by omega), hB a ha, hA b hb, hb1]
    have := ih (k + 1) (by omega)
    rw [fb_sm_succ] at this
    by_cases hkn : k < n
    · simp only [hkn, if_true, gnw] at this
      simp only [hkn, decide_true, Bool.true_and]
      cases b1 : rr E n k a with
      | true =>
        rw [b1, if_pos rfl] at this
        simp only [Bool.true_eq_false, if_false, hA k hkn, q_bitCount (sm_and (RR_sm hE hb)), S_cg_gainOf, SEL, PF, mr_gf_O, mr_rc_O, Option.toList_some, Option.toList_none, List.cons_append, List.nil_append, b2i_0, b2i_1, b2i_a, a_00, a_11, ai_n, si_n, nI_1, q_rl_bit, mr_up_at, Nat.reduceLeDiff, Nat.reduceLT, Nat.reduceEqDiff, Nat.reduceAdd, if_true, if_false, nI_add]
        exact this
      | false =>
        rw [b1, if_neg (by decide), Nat.add_zero] at this
        simp only [if_true]
        exact this
    · simp only [hkn, if_false, Nat.add_zero] at this
      simp only [hkn, decide_false, Bool.false_and, if_true]
      exact this
theorem q_cg_gainOf (st : St h n len us m E K) {a b : Nat} (ha : a < n) (hb : b < n) : mr_run 87 [.ref 22, .ref 9, .int (nI a), .int (nI b)] h Q = Q (some (.int (nI (gn E n a b)))) h := by
  obtain ⟨e9, A, B, C, I, O, R, L, e10, e11, e12, e13, e14, e15, e16, hA, hB, hC, hI, hO, hR, hL⟩ := St_D st
  have hn := (St_E st).1
  rw [r_cg_gainOf]
  simp only [S_cg_gainOf]
  have := l_gainOf (Q := Q) st ha hb e10 e11 hA hB 12 0 (by omega)
  rw [nI_0] at this
  refine this.trans ?_
  have e : fb_sm (fun w => if w < n then gnw E n a b w else 0) 12 = gn E n a b := by
    have s := fb_sm_split (fun w => if w < n then gnw E n a b w else 0) n (12 - n)
    rw [show n + (12 - n) = 12 by omega] at s
    rw [s, fb_sm_cong (g := gnw E n a b) (fun k hk => by simp [hk]), fb_sm_cong (f := fun k => if n + k < n then gnw E n a b (n + k) else 0) (g := fun _ => 0) (fun k _ => if_neg (by omega)), fb_sm_const]
    simp [gn]
  rw [e]
theorem q_ne_missingFrom (hE : nt E n) {u : Nat} (hu : u < n) (e1 : h.1 1 = NE 1 n) (e2 : h.1 2 = mr_I 12 E) : mr_run 90 [.ref 1, .int (nI u)] h Q = Q (some (.int (mk (ms E u) n))) h := by
  have hn := hE.1
  rw [r_ne_missingFrom]
  simp only [S_ne_missingFrom, e1, NE, SEL, PF, mr_gf_O, mr_rc_O, Option.toList_some, Option.toList_none, List.cons_append, List.nil_append, b2i_0, b2i_1, b2i_a, a_00, a_11, ai_n, si_n, nI_1, q_rl_bit, mr_up_at, Nat.reduceLeDiff, Nat.reduceLT, Nat.reduceEqDiff, Nat.reduceAdd, if_true, if_false, Bool.true_eq_false, Bool.false_eq_true, Bool.true_and, Bool.false_and, Bool.and_true, Bool.and_false, i_10, i_01, i_00, not_true_eq_false, not_false_eq_true]
  rw [r_ne_everyNode]
  simp only [S_ne_everyNode, S_ne_missingFrom, e1, NE, SEL, PF, mr_gf_O, mr_rc_O, Option.toList_some, Option.toList_none, List.cons_append, List.nil_append, b2i_0, b2i_1, b2i_a, a_00, a_11, ai_n, si_n, nI_1, q_rl_bit, mr_up_at, Nat.reduceLeDiff, Nat.reduceLT, Nat.reduceEqDiff, Nat.reduceAdd, if_true, if_false, Bool.true_eq_false, Bool.false_eq_true, Bool.true_and, Bool.false_and, Bool.and_true, Bool.and_false, i_10, i_01, i_00, not_true_eq_false, not_false_eq_true, e2, show u < 12 by omega]
  have : (nb n - 1) &&& (E u ^^^ -1) &&& (nb u ^^^ -1) = mk (ms E u) n := by
    apply b_ext
    intro i hi
    rw [mk_bt (by omega), b_and, b_and, b_not _ hi, b_not _ hi, nb_bt (by omega), ev_bt n hn i hi]
    unfold ms
    have : decide (u = i) = decide (i = u) := by simp [eq_comm]
    rw [this]
    cases bt (E u) i <;> cases decide (i = u) <;> simp
  rw [this]
theorem l_best2 (st : St h n len us m E K) {u : Nat} (hu : u < n) {s0 : Option (Nat × Nat)} (h0 : okp n s0) {v7 : Value} (kk : ∀ v7, mr_wp 89 83 [.ref 22, .ref 1, .ref 9, .int (fI (bs2 E n s0 u n)), .int (gI E n (-1) (bs2 E n s0 u n)), .int (nI u), .int (nI n), v7] [] h Q) : ∀ (d k : Nat) (v7 : Value), k + d = n → mr_wp 89 21 [.ref 22, .ref 1, .ref 9, .int (fI (bs2 E n s0 u k)), .int (gI E n (-1) (bs2 E n s0 u k)), .int (nI u), .int (nI k), v7] [] h Q := by
  have hE := St_E st
  have hn := hE.1
  intro d
  induction d with
  | zero =>
    intro k v7 hk
    have : k = n := by omega
    subst this
    have := kk v7
    rw [s_cg_bestToAdd_21]
    simp only [S_cg_bestToAdd_0, S_cg_bestToAdd_1, St_1 st, NE, SEL, PF, mr_gf_O, mr_rc_O, Option.toList_some, Option.toList_none, List.cons_append, List.nil_append, b2i_0, b2i_1, b2i_a, a_00, a_11, ai_n, si_n, nI_1, q_rl_bit, mr_up_at, Nat.reduceLeDiff, Nat.reduceLT, Nat.reduceEqDiff, Nat.reduceAdd, if_true, if_false, if_pos (nI_le (Nat.le_refl k) (by omega))] at this ⊢
    exact this
  | succ d ih =>
    intro k v7 hk
    have c1 : ¬ nI n ≤ nI k := nI_ge (by omega) (by omega)
    have hkn : k < n := by omega
    have e : bs2 E n s0 u (k + 1) = bstep E n (bs2 E n s0 u k) u k := rfl
    have hmb : bt (mk (ms E u) n) k = ms E u k := by rw [mk_bt (by omega)]; simp [hkn]
    rw [s_cg_bestToAdd_21]
    simp only [S_cg_bestToAdd_0, S_cg_bestToAdd_1, St_1 st, NE, SEL, PF, mr_gf_O, mr_rc_O, Option.toList_some, Option.toList_none, List.cons_append, List.nil_append, b2i_0, b2i_1, b2i_a, a_00, a_11, ai_n, si_n, nI_1, q_rl_bit, mr_up_at, Nat.reduceLeDiff, Nat.reduceLT, Nat.reduceEqDiff, Nat.reduceAdd, if_true, if_false, Bool.true_eq_false, Bool.false_eq_true, Bool.true_and, Bool.false_and, Bool.and_true, Bool.and_false, i_10, i_01, i_00, not_true_eq_false, not_false_eq_true, if_neg c1, q_ne_missingFrom hE hu (St_1 st) (St_2 st), q_rl_holds (show k < 32 by omega), hmb]
    cases b1 : ms E u k with
    | false =>
      have := ih (k + 1) v7 (by omega)
      rw [e] at this
      simp only [bstep, b1, Bool.false_eq_true, if_false] at this
      simp only [not_true_eq_false, if_false]
      exact this
    | true =>
      simp only [Bool.true_eq_false, not_false_eq_true, if_true, c22 st, S_cg_bestToAdd_0, S_cg_bestToAdd_1, SEL, PF, mr_gf_O, mr_rc_O, Option.toList_some, Option.toList_none, List.cons_append, List.nil_append, b2i_0, b2i_1, b2i_a, a_00, a_11, ai_n, si_n, nI_1, q_rl_bit, mr_up_at, Nat.reduceLeDiff, Nat.reduceLT, Nat.reduceEqDiff, Nat.reduceAdd, if_true, if_false, Bool.true_eq_false, Bool.false_eq_true, Bool.true_and, Bool.false_and, Bool.and_true, Bool.and_false, i_10, i_01, i_00, not_true_eq_false, not_false_eq_true, q_cg_gainOf st hu hkn]
      have hg := gn_le E hn u k
      cases es : bs2 E n s0 u k with
      | none =>
        have := ih (k + 1) (.int (nI (gn E n u k))) (by omega)
        rw [e] at this
        simp only [bstep, b1, es, if_true] at this
        rw [if_neg (show ¬ nI (gn E n u k) ≤ gI E n (-1) none from nI_nm1 (by omega)), q_rl_edgeNumber, t_16]
        simp only [S_cg_bestToAdd_0, S_cg_bestToAdd_1, SEL, PF, mr_gf_O, mr_rc_O, Option.toList_some, Option.toList_none, List.cons_append, List.nil_append, b2i_0, b2i_1, b2i_a, a_00, a_11, ai_n, si_n, nI_1, q_rl_bit, mr_up_at, Nat.reduceLeDiff, Nat.reduceLT, Nat.reduceEqDiff, Nat.reduceAdd, if_true, if_false, Bool.true_eq_false, Bool.false_eq_true, Bool.true_and, Bool.false_and, Bool.and_true, Bool.and_false, i_10, i_01, i_00, not_true_eq_false, not_false_eq_true]
        exact this
      | some p =>
        have hg2 := gn_le E hn p.1 p.2
        have := ih (k + 1) (.int (nI (gn E n u k))) (by omega)
        rw [e] at this
        simp only [bstep, b1, es, if_true] at this
        by_cases b2 : gn E n p.1 p.2 < gn E n u k
        · simp only [b2, if_true] at this
          rw [if_neg (show ¬ nI (gn E n u k) ≤ gI E n (-1) (some p) from nI_ge b2 (by omega)), q_rl_edgeNumber, t_16]
          simp only [S_cg_bestToAdd_0, S_cg_bestToAdd_1, SEL, PF, mr_gf_O, mr_rc_O, Option.toList_some, Option.toList_none, List.cons_append, List.nil_append, b2i_0, b2i_1, b2i_a, a_00, a_11, ai_n, si_n, nI_1, q_rl_bit, mr_up_at, Nat.reduceLeDiff, Nat.reduceLT, Nat.reduceEqDiff, Nat.reduceAdd, if_true, if_false, Bool.true_eq_false, Bool.false_eq_true, Bool.true_and, Bool.false_and, Bool.and_true, Bool.and_false, i_10, i_01, i_00, not_true_eq_false, not_false_eq_true]
          exact this
        · simp only [b2, if_false] at this
          rw [if_pos (show nI (gn E n u k) ≤ gI E n (-1) (some p) from nI_le (by omega) (by omega))]
          exact this
theorem l_best1 (st : St h n len us m E K) (kk : Q (some (.int (fI (bs1 E n n)))) h) : ∀ (d k : Nat) (v6 v7 : Value), k + d = n → mr_wp 89 9 [.ref 22, .ref 1, .ref 9, .int (fI (bs1 E n k)), .int (gI E n (-1) (bs1 E n k)), .int (nI k), v6, v7] [] h Q := by
  have hE := St_E st
  have hn := hE.1
  intro d
  induction d with
  | zero =>
    intro k v6 v7 hk
    have : k = n := by omega
    subst this
    rw [s_cg_bestToAdd_9]
    simp only [S_cg_bestToAdd_0, S_cg_bestToAdd_1, St_1 st, NE, SEL, PF, mr_gf_O, mr_rc_O, Option.toList_some, Option.toList_none, List.cons_append, List.nil_append, b2i_0, b2i_1, b2i_a, a_00, a_11, ai_n, si_n, nI_1, q_rl_bit, mr_up_at, Nat.reduceLeDiff, Nat.reduceLT, Nat.reduceEqDiff, Nat.reduceAdd, if_true, if_false, if_pos (nI_le (Nat.le_refl k) (by omega))]
    exact kk
  | succ d ih =>
    intro k v6 v7 hk
    have c1 : ¬ nI n ≤ nI k := nI_ge (by omega) (by omega)
    have hkn : k < n := by omega
    rw [s_cg_bestToAdd_9]
    simp only [S_cg_bestToAdd_0, S_cg_bestToAdd_1, St_1 st, NE, SEL, PF, mr_gf_O, mr_rc_O, Option.toList_some, Option.toList_none, List.cons_append, List.nil_append, b2i_0, b2i_1, b2i_a, a_00, a_11, ai_n, si_n, nI_1, q_rl_bit, mr_up_at, Nat.reduceLeDiff, Nat.reduceLT, Nat.reduceEqDiff, Nat.reduceAdd, if_true, if_false, if_neg c1]
    rw [← nI_0]
    refine l_best2 st hkn (bs1_ok k (by omega)) (v7 := v7) ?_ n 0 v7 (by omega)
    intro v7
    simp only [S_cg_bestToAdd_0, S_cg_bestToAdd_1, SEL, PF, mr_gf_O, mr_rc_O, Option.toList_some, Option.toList_none, List.cons_append, List.nil_append, b2i_0, b2i_1, b2i_a, a_00, a_11, ai_n, si_n, nI_1, q_rl_bit, mr_up_at, Nat.reduceLeDiff, Nat.reduceLT, Nat.reduceEqDiff, Nat.reduceAdd, if_true, if_false]
    exact ih (k + 1) _ v7 (by omega)
theorem q_cg_bestToAdd (st : St h n len us m E K) (kk : Q (some (.int (fI (bs1 E n n)))) h) : mr_run 89 [.ref 22, .ref 1, .ref 9] h Q := by
  rw [r_cg_bestToAdd]
  simp only [S_cg_bestToAdd_0, S_cg_bestToAdd_1]
  rw [← nI_0]
  exact l_best1 st kk n 0 _ _ (by omega)
theorem gain_eq (hE : nt E n) {a b : Nat} (ha : a < n) (hb : b < n) (hh : bt (E a) b = false) : nI (pN (RR (fl E a b) n) n) - nI (pN (RR E n) n) = nI (gn E n a b) := by
  have hn := hE.1
  rw [fl_ad (by omega) hh, pN_ad hE ha hb, nI_sub (by omega), Nat.add_sub_cancel_left]
theorem l_mbest2 {u : Nat} {v1 : Value} (hu : u < n) {s0 : Option (Nat × Nat)} (kk : ∀ h2 v7, mr_fr h h2 [78, 86] → St h2 n len us m E K → mr_wp 169 130 [.ref 74, v1, .int (nI (pN (RR E n) n)), .int (fI (bs2 E n s0 u n)), .int (gI E n (-9) (bs2 E n s0 u n)), .int (nI u), .int (nI n), v7] [] h2 Q) : ∀ (d k : Nat) (v7 : Value) (h1 : mr_h), k + d = n → mr_fr h h1 [78, 86] → St h1 n len us m E K → mr_wp 169 43 [.ref 74, v1, .int (nI (pN (RR E n) n)), .int (fI (bs2 E n s0 u k)), .int (gI E n (-9) (bs2 E n s0 u k)), .int (nI u), .int (nI k), v7] [] h1 Q := by
  intro d
  induction d with
  | zero =>
    intro k v7 h1 hk f st
    have hn := (St_E st).1
    have : k = n := by omega
    subst this
    obtain ⟨th, ty, tt, tk, pl, va, fa, dn, dr, um, sn, uf, e74⟩ := St_M st
    have := kk h1 v7 f st
    rw [s_mo_best_43]
    simp only [S_mo_best_0, S_mo_best_1, e74, MO, SEL, PF, mr_gf_O, mr_rc_O, Option.toList_some, Option.toList_none, List.cons_append, List.nil_append, b2i_0, b2i_1, b2i_a, a_00, a_11, ai_n, si_n, nI_1, q_rl_bit, mr_up_at, Nat.reduceLeDiff, Nat.reduceLT, Nat.reduceEqDiff, Nat.reduceAdd, if_true, if_false, if_pos (nI_le (Nat.le_refl k) (by omega))] at this ⊢
    exact this
  | succ d ih =>
    intro k v7 h1 hk f st
    have hE := St_E st
    have hn := hE.1
    have c1 : ¬ nI n ≤ nI k := nI_ge (by omega) (by omega)
    have hkn : k < n := by omega
    have e : bs2 E n s0 u (k + 1) = bstep E n (bs2 E n s0 u k) u k := rfl
    obtain ⟨th, ty, tt, tk, pl, va, fa, dn, dr, um, sn, uf, e74⟩ := St_M st
    obtain ⟨S, e77, hS⟩ := St_77 st
    rw [s_mo_best_43]
    simp only [S_mo_best_0, S_mo_best_1, e74, MO, SEL, PF, mr_gf_O, mr_rc_O, Option.toList_some, Option.toList_none, List.cons_append, List.nil_append, b2i_0, b2i_1, b2i_a, a_00, a_11, ai_n, si_n, nI_1, q_rl_bit, mr_up_at, Nat.reduceLeDiff, Nat.reduceLT, Nat.reduceEqDiff, Nat.reduceAdd, if_true, if_false, Bool.true_eq_false, Bool.false_eq_true, Bool.true_and, Bool.false_and, Bool.and_true, Bool.and_false, i_10, i_01, i_00, not_true_eq_false, not_false_eq_true, if_neg c1, nI_eq (show u < 2 ^ 31 by omega) (show k < 2 ^ 31 by omega), e77, z_add, show u < 24 by omega, (hS u hu).1, q_mo_has (show k < 32 by omega)]
    by_cases huk : u = k
    · have b1 : ms E u k = false := by simp [ms, huk]
      have := ih (k + 1) v7 h1 (by omega) f st
      rw [e] at this
      simp only [bstep, b1, Bool.false_eq_true, if_false] at this
      rw [if_pos huk]
      exact this
    · cases hh : bt (E u) k with
      | true =>
        have b1 : ms E u k = false := by simp [ms, hh]
        have := ih (k + 1) v7 h1 (by omega) f st
        rw [e] at this
        simp only [bstep, b1, Bool.false_eq_true, if_false] at this
        rw [if_neg huk]
        simp only [SEL, PF, mr_gf_O, mr_rc_O, Option.toList_some, Option.toList_none, List.cons_append, List.nil_append, b2i_0, b2i_1, b2i_a, a_00, a_11, ai_n, si_n, nI_1, q_rl_bit, mr_up_at, Nat.reduceLeDiff, Nat.reduceLT, Nat.reduceEqDiff, Nat.reduceAdd, if_true, if_false, Bool.true_eq_false, Bool.false_eq_true, Bool.true_and, Bool.false_and, Bool.and_true, Bool.and_false, i_10, i_01, i_00, not_true_eq_false, not_false_eq_true]
        exact this
      | false =>
        have b1 : ms E u k = true := by simp [ms, hh, huk]
        rw [if_neg huk]
        simp only [SEL, PF, mr_gf_O, mr_rc_O, Option.toList_some, Option.toList_none, List.cons_append, List.nil_append, b2i_0, b2i_1, b2i_a, a_00, a_11, ai_n, si_n, nI_1, q_rl_bit, mr_up_at, Nat.reduceLeDiff, Nat.reduceLT, Nat.reduceEqDiff, Nat.reduceAdd, if_true, if_false, Bool.true_eq_false, Bool.false_eq_true, Bool.true_and, Bool.false_and, Bool.and_true, Bool.and_false, i_10, i_01, i_00, not_true_eq_false, not_false_eq_true]
        refine q_mo_pairsWith st hu hkn ?_
        intro h2 A f2 s2 e86 hA
        simp only [S_mo_best_0, S_mo_best_1, SEL, PF, mr_gf_O, mr_rc_O, Option.toList_some, Option.toList_none, List.cons_append, List.nil_append, b2i_0, b2i_1, b2i_a, a_00, a_11, ai_n, si_n, nI_1, q_rl_bit, mr_up_at, Nat.reduceLeDiff, Nat.reduceLT, Nat.reduceEqDiff, Nat.reduceAdd, if_true, if_false, Bool.true_eq_false, Bool.false_eq_true, Bool.true_and, Bool.false_and, Bool.and_true, Bool.and_false, i_10, i_01, i_00, not_true_eq_false, not_false_eq_true, gain_eq hE hu hkn hh]
        have hg := gn_le E hn u k
        have := ih (k + 1) (.int (nI (gn E n u k))) h2 (by omega) (fr_tr f f2 (by decide)) s2
        rw [e] at this
        cases es : bs2 E n s0 u k with
        | none =>
          simp only [bstep, b1, es, if_true] at this
          have c2 : ¬ nI (gn E n u k) ≤ gI E n (-9) none := nI_nm9 (by omega)
          simp only [if_neg c2, t_16]
          exact this
        | some p =>
          have hg2 := gn_le E hn p.1 p.2
          simp only [bstep, b1, es, if_true] at this
          by_cases b2 : gn E n p.1 p.2 < gn E n u k
          · simp only [b2, if_true] at this
            have c2 : ¬ nI (gn E n u k) ≤ gI E n (-9) (some p) := nI_ge b2 (by omega)
            simp only [if_neg c2, t_16]
            exact this
          · simp only [b2, if_false] at this
            have c2 : nI (gn E n u k) ≤ gI E n (-9) (some p) := nI_le (by omega) (by omega)
            simp only [if_pos c2]
            exact this
theorem l_mbest1 {v1 : Value} (kk : ∀ h2 v6 v7, mr_fr h h2 [78, 86] → St h2 n len us m E K → mr_wp 169 136 [.ref 74, v1, .int (nI (pN (RR E n) n)), .int (fI (bs1 E n n)), .int (gI E n (-9) (bs1 E n n)), .int (nI n), v6, v7] [] h2 Q) : ∀ (d k : Nat) (v6 v7 : Value) (h1 : mr_h), k + d = n → mr_fr h h1 [78, 86] → St h1 n len us m E K → mr_wp 169 31 [.ref 74, v1, .int (nI (pN (RR E n) n)), .int (fI (bs1 E n k)), .int (gI E n (-9) (bs1 E n k)), .int (nI k), v6, v7] [] h1 Q := by
  intro d
  induction d with
  | zero =>
    intro k v6 v7 h1 hk f st
    have hn := (St_E st).1
    have : k = n := by omega
    subst this
    obtain ⟨th, ty, tt, tk, pl, va, fa, dn, dr, um, sn, uf, e74⟩ := St_M st
    have := kk h1 v6 v7 f st
    rw [s_mo_best_31]
    simp only [e74, MO, SEL, PF, mr_gf_O, mr_rc_O, Option.toList_some, Option.toList_none, List.cons_append, List.nil_append, b2i_0, b2i_1, b2i_a, a_00, a_11, ai_n, si_n, nI_1, q_rl_bit, mr_up_at, Nat.reduceLeDiff, Nat.reduceLT, Nat.reduceEqDiff, Nat.reduceAdd, if_true, if_false, S_mo_best_0, S_mo_best_1, if_pos (nI_le (Nat.le_refl k) (by omega))] at this ⊢
    exact this
  | succ d ih =>
    intro k v6 v7 h1 hk f st
    have hn := (St_E st).1
    have c1 : ¬ nI n ≤ nI k := nI_ge (by omega) (by omega)
    obtain ⟨th, ty, tt, tk, pl, va, fa, dn, dr, um, sn, uf, e74⟩ := St_M st
    rw [s_mo_best_31]
    simp only [S_mo_best_0, S_mo_best_1, e74, MO, SEL, PF, mr_gf_O, mr_rc_O, Option.toList_some, Option.toList_none, List.cons_append, List.nil_append, b2i_0, b2i_1, b2i_a, a_00, a_11, ai_n, si_n, nI_1, q_rl_bit, mr_up_at, Nat.reduceLeDiff, Nat.reduceLT, Nat.reduceEqDiff, Nat.reduceAdd, if_true, if_false, if_neg c1]
    rw [← nI_0]
    refine l_mbest2 (s0 := bs1 E n k) (show k < n by omega) ?_ n 0 v7 h1 (by omega) (fr_rf _ _) st
    intro h2 v7 f2 s2
    simp only [S_mo_best_0, S_mo_best_1, SEL, PF, mr_gf_O, mr_rc_O, Option.toList_some, Option.toList_none, List.cons_append, List.nil_append, b2i_0, b2i_1, b2i_a, a_00, a_11, ai_n, si_n, nI_1, q_rl_bit, mr_up_at, Nat.reduceLeDiff, Nat.reduceLT, Nat.reduceEqDiff, Nat.reduceAdd, if_true, if_false]
    exact ih (k + 1) _ v7 h2 (by omega) (fr_tr f f2 (by decide)) s2
theorem b_gain (hi : Inv h) (u v : Int32) : Both 86 168 [.int u, .int v] h := by
  obtain ⟨n, len, us, m, E, K, st⟩ := hi
  have hE := St_E st
  have hn := hE.1
  have h1n := St_n st
  cases huv : (inN u n && inN v n && !decide (u = v)) with
  | false =>
    refine both_ro st (-1) ?_ ?_
    · intro h Q st kk
      rw [r_rl_gain]
      simp only [S_rl_gain, St_0 st, RLO, q_rl_areTwoNodes (St_0 st) (St_1 st), huv, SEL, PF, mr_gf_O, mr_rc_O, Option.toList_some, Option.toList_none, List.cons_append, List.nil_append, b2i_0, b2i_1, b2i_a, a_00, a_11, ai_n, si_n, nI_1, q_rl_bit, mr_up_at, Nat.reduceLeDiff, Nat.reduceLT, Nat.reduceEqDiff, Nat.reduceAdd, if_true, if_false, Bool.true_eq_false, Bool.false_eq_true, Bool.true_and, Bool.false_and, Bool.and_true, Bool.and_false, i_10, i_01, i_00, not_true_eq_false, not_false_eq_true]
      exact kk h st rfl
    · intro h Q st kk
      obtain ⟨th, tt, tk, pl, va, fa, dn, dr, uf, e74⟩ := id st.2.2.2.2.2.2
      rw [r_mo_gain]
      simp only [S_mo_gain, e74, MO, SEL, PF, mr_gf_O, mr_rc_O, Option.toList_some, Option.toList_none, List.cons_append, List.nil_append, b2i_0, b2i_1, b2i_a, a_00, a_11, ai_n, si_n, nI_1, q_rl_bit, mr_up_at, Nat.reduceLeDiff, Nat.reduceLT, Nat.reduceEqDiff, Nat.reduceAdd, if_true, if_false, Bool.true_eq_false, Bool.false_eq_true, Bool.true_and, Bool.false_and, Bool.and_true, Bool.and_false, i_10, i_01, i_00, not_true_eq_false, not_false_eq_true]
      refine St_th (k := fun hh => mr_run 144 [.ref 74, .int u, .int v] hh _) st (fun h2 s2 e2 => ?_) e74 rfl
      obtain ⟨th, tt, tk, pl, va, fa, dn, dr, uf, g74⟩ := id s2.2.2.2.2.2.2
      simp only [S_mo_gain, q_mo_isTwo hn h1n (St_M s2), huv, SEL, PF, mr_gf_O, mr_rc_O, Option.toList_some, Option.toList_none, List.cons_append, List.nil_append, b2i_0, b2i_1, b2i_a, a_00, a_11, ai_n, si_n, nI_1, q_rl_bit, mr_up_at, Nat.reduceLeDiff, Nat.reduceLT, Nat.reduceEqDiff, Nat.reduceAdd, if_true, if_false, Bool.true_eq_false, Bool.false_eq_true, Bool.true_and, Bool.false_and, Bool.and_true, Bool.and_false, i_10, i_01, i_00, not_true_eq_false, not_false_eq_true, g74, MO]
      exact kk h2 s2 e2
  | true =>
    have hu : inN u n = true := by revert huv; cases inN u n <;> simp
    have hv : inN v n = true := by revert huv; cases inN v n <;> simp
    obtain ⟨a, ha, rfl⟩ := inN_yes hn hu
    obtain ⟨b, hb, rfl⟩ := inN_yes hn hv
    cases hh : bt (E a) b with
    | true =>
      refine both_ro st (-2) ?_ ?_
      · intro h Q st kk
        rw [r_rl_gain]
        simp only [S_rl_gain, St_0 st, RLO, q_rl_areTwoNodes (St_0 st) (St_1 st), huv, SEL, PF, mr_gf_O, mr_rc_O, Option.toList_some, Option.toList_none, List.cons_append, List.nil_append, b2i_0, b2i_1, b2i_a, a_00, a_11, ai_n, si_n, nI_1, q_rl_bit, mr_up_at, Nat.reduceLeDiff, Nat.reduceLT, Nat.reduceEqDiff, Nat.reduceAdd, if_true, if_false, Bool.true_eq_false, Bool.false_eq_true, Bool.true_and, Bool.false_and, Bool.and_true, Bool.and_false, i_10, i_01, i_00, not_true_eq_false, not_false_eq_true, q_ne_has (St_1 st) (St_2 st) (show a < 12 by omega) (show b < 32 by omega), St_1 st, NE, hh]
        exact kk h st rfl
      · intro h Q st kk
        obtain ⟨th, tt, tk, pl, va, fa, dn, dr, uf, e74⟩ := id st.2.2.2.2.2.2
        rw [r_mo_gain]
        simp only [S_mo_gain, e74, MO, SEL, PF, mr_gf_O, mr_rc_O, Option.toList_some, Option.toList_none, List.cons_append, List.nil_append, b2i_0, b2i_1, b2i_a, a_00, a_11, ai_n, si_n, nI_1, q_rl_bit, mr_up_at, Nat.reduceLeDiff, Nat.reduceLT, Nat.reduceEqDiff, Nat.reduceAdd, if_true, if_false, Bool.true_eq_false, Bool.false_eq_true, Bool.true_and, Bool.false_and, Bool.and_true, Bool.and_false, i_10, i_01, i_00, not_true_eq_false, not_false_eq_true]
        refine St_th (k := fun hh => mr_run 144 [.ref 74, .int (nI a), .int (nI b)] hh _) st (fun h2 s2 e2 => ?_) e74 rfl
        obtain ⟨th, tt, tk, pl, va, fa, dn, dr, uf, g74⟩ := id s2.2.2.2.2.2.2
        obtain ⟨S, e77, hS⟩ := St_77 s2
        simp only [S_mo_gain, q_mo_isTwo hn h1n (St_M s2), huv, SEL, PF, mr_gf_O, mr_rc_O, Option.toList_some, Option.toList_none, List.cons_append, List.nil_append, b2i_0, b2i_1, b2i_a, a_00, a_11, ai_n, si_n, nI_1, q_rl_bit, mr_up_at, Nat.reduceLeDiff, Nat.reduceLT, Nat.reduceEqDiff, Nat.reduceAdd, if_true, if_false, Bool.true_eq_false, Bool.false_eq_true, Bool.true_and, Bool.false_and, Bool.and_true, Bool.and_false, i_10, i_01, i_00, not_true_eq_false, not_false_eq_true, g74, MO, e77, z_add, show a < 24 by omega, (hS a ha).1, q_mo_has (show b < 32 by omega), hh]
        exact kk h2 s2 e2
    | false =>
      refine both_ro st (nI (gn E n a b)) ?_ ?_
      · intro h Q st kk
        rw [r_rl_gain]
        simp only [S_rl_gain, St_0 st, RLO, q_rl_areTwoNodes (St_0 st) (St_1 st), huv, SEL, PF, mr_gf_O, mr_rc_O, Option.toList_some, Option.toList_none, List.cons_append, List.nil_append, b2i_0, b2i_1, b2i_a, a_00, a_11, ai_n, si_n, nI_1, q_rl_bit, mr_up_at, Nat.reduceLeDiff, Nat.reduceLT, Nat.reduceEqDiff, Nat.reduceAdd, if_true, if_false, Bool.true_eq_false, Bool.false_eq_true, Bool.true_and, Bool.false_and, Bool.and_true, Bool.and_false, i_10, i_01, i_00, not_true_eq_false, not_false_eq_true, q_ne_has (St_1 st) (St_2 st) (show a < 12 by omega) (show b < 32 by omega), St_1 st, NE, hh, c22 st, q_cg_gainOf st ha hb]
        exact kk h st rfl
      · intro h Q st kk
        obtain ⟨th, tt, tk, pl, va, fa, dn, dr, uf, e74⟩ := id st.2.2.2.2.2.2
        rw [r_mo_gain]
        simp only [S_mo_gain, e74, MO, SEL, PF, mr_gf_O, mr_rc_O, Option.toList_some, Option.toList_none, List.cons_append, List.nil_append, b2i_0, b2i_1, b2i_a, a_00, a_11, ai_n, si_n, nI_1, q_rl_bit, mr_up_at, Nat.reduceLeDiff, Nat.reduceLT, Nat.reduceEqDiff, Nat.reduceAdd, if_true, if_false, Bool.true_eq_false, Bool.false_eq_true, Bool.true_and, Bool.false_and, Bool.and_true, Bool.and_false, i_10, i_01, i_00, not_true_eq_false, not_false_eq_true]
        refine St_th (k := fun hh => mr_run 144 [.ref 74, .int (nI a), .int (nI b)] hh _) st (fun h2 s2 e2 => ?_) e74 rfl
        obtain ⟨th, tt, tk, pl, va, fa, dn, dr, uf, g74⟩ := id s2.2.2.2.2.2.2
        obtain ⟨S, e77, hS⟩ := St_77 s2
        simp only [S_mo_gain, q_mo_isTwo hn h1n (St_M s2), huv, SEL, PF, mr_gf_O, mr_rc_O, Option.toList_some, Option.toList_none, List.cons_append, List.nil_append, b2i_0, b2i_1, b2i_a, a_00, a_11, ai_n, si_n, nI_1, q_rl_bit, mr_up_at, Nat.reduceLeDiff, Nat.reduceLT, Nat.reduceEqDiff, Nat.reduceAdd, if_true, if_false, Bool.true_eq_false, Bool.false_eq_true, Bool.true_and, Bool.false_and, Bool.and_true, Bool.and_false, i_10, i_01, i_00, not_true_eq_false, not_false_eq_true, g74, MO, e77, z_add, show a < 24 by omega, (hS a ha).1, q_mo_has (show b < 32 by omega), hh]
        refine q_mo_pairsWith s2 ha hb ?_
        intro h3 A f3 s3 e86 hA
        obtain ⟨th, tt, tk, pl, va, fa, dn, dr, uf, k74⟩ := id s3.2.2.2.2.2.2
        simp only [S_mo_gain, SEL, PF, mr_gf_O, mr_rc_O, Option.toList_some, Option.toList_none, List.cons_append, List.nil_append, b2i_0, b2i_1, b2i_a, a_00, a_11, ai_n, si_n, nI_1, q_rl_bit, mr_up_at, Nat.reduceLeDiff, Nat.reduceLT, Nat.reduceEqDiff, Nat.reduceAdd, if_true, if_false, Bool.true_eq_false, Bool.false_eq_true, Bool.true_and, Bool.false_and, Bool.and_true, Bool.and_false, i_10, i_01, i_00, not_true_eq_false, not_false_eq_true, k74, MO]
        refine q_mo_pairsNow s3 ?_
        intro h4 A f4 s4 e85 hA
        simp only [S_mo_gain, SEL, PF, mr_gf_O, mr_rc_O, Option.toList_some, Option.toList_none, List.cons_append, List.nil_append, b2i_0, b2i_1, b2i_a, a_00, a_11, ai_n, si_n, nI_1, q_rl_bit, mr_up_at, Nat.reduceLeDiff, Nat.reduceLT, Nat.reduceEqDiff, Nat.reduceAdd, if_true, if_false, Bool.true_eq_false, Bool.false_eq_true, Bool.true_and, Bool.false_and, Bool.and_true, Bool.and_false, i_10, i_01, i_00, not_true_eq_false, not_false_eq_true, gain_eq hE ha hb hh]
        exact kk h4 s4 (f4.1.trans (f3.1.trans e2))
theorem b_best (hi : Inv h) (w : Int32) : Both 88 169 [.int w] h := by
  obtain ⟨n, len, us, m, E, K, st⟩ := hi
  have hE := St_E st
  have hn := hE.1
  by_cases hw : w = 0 ∨ w = 1
  · refine both_ro st (if w = 0 then fI (bs1 E n n) else gI E n (-9) (bs1 E n n)) ?_ ?_
    · intro h Q st kk
      have kk0 := kk h st rfl
      rw [r_rl_best]
      simp only [S_rl_best, q_rl_isChoice, decide_eq_true hw, SEL, PF, mr_gf_O, mr_rc_O, Option.toList_some, Option.toList_none, List.cons_append, List.nil_append, b2i_0, b2i_1, b2i_a, a_00, a_11, ai_n, si_n, nI_1, q_rl_bit, mr_up_at, Nat.reduceLeDiff, Nat.reduceLT, Nat.reduceEqDiff, Nat.reduceAdd, if_true, if_false, Bool.true_eq_false, Bool.false_eq_true, Bool.true_and, Bool.false_and, Bool.and_true, Bool.and_false, i_10, i_01, i_00, not_true_eq_false, not_false_eq_true, St_0 st, RLO, c22 st]
      refine q_cg_bestToAdd st ?_
      simp only [S_rl_best, SEL, PF, mr_gf_O, mr_rc_O, Option.toList_some, Option.toList_none, List.cons_append, List.nil_append, b2i_0, b2i_1, b2i_a, a_00, a_11, ai_n, si_n, nI_1, q_rl_bit, mr_up_at, Nat.reduceLeDiff, Nat.reduceLT, Nat.reduceEqDiff, Nat.reduceAdd, if_true, if_false, Bool.true_eq_false, Bool.false_eq_true, Bool.true_and, Bool.false_and, Bool.and_true, Bool.and_false, i_10, i_01, i_00, not_true_eq_false, not_false_eq_true]
      cases es : bs1 E n n with
      | none =>
        rw [es] at kk0
        rw [if_pos (show fI none = -9 from rfl)]
        have : (if w = 0 then fI none else gI E n (-9) none) = fI none := by split <;> rfl
        rw [this] at kk0
        exact kk0
      | some p =>
        obtain ⟨hp1, hp2⟩ := bs1_ok n (Nat.le_refl n) p es
        rw [es] at kk0
        have hne : ¬ fI (some p) = -9 := fun z => by
          have : (nI (16 * p.1 + p.2)).toInt = (-9 : Int32).toInt := congrArg Int32.toInt z
          rw [nI_toInt (by omega)] at this
          have e9 : (-9 : Int32).toInt = -9 := by decide
          omega
        rw [if_neg hne]
        rcases hw with rfl | rfl
        · simp only [SEL, PF, mr_gf_O, mr_rc_O, Option.toList_some, Option.toList_none, List.cons_append, List.nil_append, b2i_0, b2i_1, b2i_a, a_00, a_11, ai_n, si_n, nI_1, q_rl_bit, mr_up_at, Nat.reduceLeDiff, Nat.reduceLT, Nat.reduceEqDiff, Nat.reduceAdd, if_true, if_false, Bool.true_eq_false, Bool.false_eq_true, Bool.true_and, Bool.false_and, Bool.and_true, Bool.and_false, i_10, i_01, i_00, not_true_eq_false, not_false_eq_true] at kk0 ⊢
          exact kk0
        · have ed : fI (some p) / 16 = nI p.1 := by
            show nI (16 * p.1 + p.2) / nI 16 = nI p.1
            rw [pk_div (by omega) (by decide) (by decide)]
            congr 1
            omega
          have er : fI (some p) - nI p.1 * 16 = nI p.2 := by
            have := pk_rem (a := 16 * p.1 + p.2) (d := 16) (by omega) (by decide) (by decide)
            rw [pk_div (by omega) (by decide) (by decide), show (16 * p.1 + p.2) / 16 = p.1 by omega, show (16 * p.1 + p.2) % 16 = p.2 by omega] at this
            exact this
          simp only [S_rl_best, SEL, PF, mr_gf_O, mr_rc_O, Option.toList_some, Option.toList_none, List.cons_append, List.nil_append, b2i_0, b2i_1, b2i_a, a_00, a_11, ai_n, si_n, nI_1, q_rl_bit, mr_up_at, Nat.reduceLeDiff, Nat.reduceLT, Nat.reduceEqDiff, Nat.reduceAdd, if_true, if_false, Bool.true_eq_false, Bool.false_eq_true, Bool.true_and, Bool.false_and, Bool.and_true, Bool.and_false, i_10, i_01, i_00, not_true_eq_false, not_false_eq_true, show ¬ (16 : Int32) = 0 by decide, ed, er, St_0 st, RLO, c22 st, q_cg_gainOf st hp1 hp2] at kk0 ⊢
          exact kk0
    · intro h Q st kk
      obtain ⟨th, tt, tk, pl, va, fa, dn, dr, uf, e74⟩ := id st.2.2.2.2.2.2
      rw [r_mo_best]
      simp only [S_mo_best_0, S_mo_best_1, e74, MO, SEL, PF, mr_gf_O, mr_rc_O, Option.toList_some, Option.toList_none, List.cons_append, List.nil_append, b2i_0, b2i_1, b2i_a, a_00, a_11, ai_n, si_n, nI_1, q_rl_bit, mr_up_at, Nat.reduceLeDiff, Nat.reduceLT, Nat.reduceEqDiff, Nat.reduceAdd, if_true, if_false, Bool.true_eq_false, Bool.false_eq_true, Bool.true_and, Bool.false_and, Bool.and_true, Bool.and_false, i_10, i_01, i_00, not_true_eq_false, not_false_eq_true, q_mo_in, ch_in, decide_eq_true hw]
      refine St_th (k := fun hh => mr_run 151 [.ref 74] hh _) st (fun h2 s2 e2 => ?_) e74 rfl
      refine q_mo_pairsNow s2 ?_
      intro h3 A f3 s3 e85 hA
      simp only [S_mo_best_0, S_mo_best_1, SEL, PF, mr_gf_O, mr_rc_O, Option.toList_some, Option.toList_none, List.cons_append, List.nil_append, b2i_0, b2i_1, b2i_a, a_00, a_11, ai_n, si_n, nI_1, q_rl_bit, mr_up_at, Nat.reduceLeDiff, Nat.reduceLT, Nat.reduceEqDiff, Nat.reduceAdd, if_true, if_false, Bool.true_eq_false, Bool.false_eq_true, Bool.true_and, Bool.false_and, Bool.and_true, Bool.and_false, i_10, i_01, i_00, not_true_eq_false, not_false_eq_true]
      rw [← nI_0]
      refine l_mbest1 ?_ n 0 _ _ h3 (by omega) (fr_rf _ _) s3
      intro h4 v6 v7 f4 s4
      have kk0 := kk h4 s4 (f4.1.trans (f3.1.trans e2))
      simp only [S_mo_best_0, S_mo_best_1, SEL, PF, mr_gf_O, mr_rc_O, Option.toList_some, Option.toList_none, List.cons_append, List.nil_append, b2i_0, b2i_1, b2i_a, a_00, a_11, ai_n, si_n, nI_1, q_rl_bit, mr_up_at, Nat.reduceLeDiff, Nat.reduceLT, Nat.reduceEqDiff, Nat.reduceAdd, if_true, if_false, Bool.true_eq_false, Bool.false_eq_true, Bool.true_and, Bool.false_and, Bool.and_true, Bool.and_false, i_10, i_01, i_00, not_true_eq_false, not_false_eq_true]
      rcases hw with rfl | rfl
      · simpa only [SEL, PF, mr_gf_O, mr_rc_O, Option.toList_some, Option.toList_none, List.cons_append, List.nil_append, b2i_0, b2i_1, b2i_a, a_00, a_11, ai_n, si_n, nI_1, q_rl_bit, mr_up_at, Nat.reduceLeDiff, Nat.reduceLT, Nat.reduceEqDiff, Nat.reduceAdd, if_true, if_false, Bool.true_eq_false, Bool.false_eq_true, Bool.true_and, Bool.false_and, Bool.and_true, Bool.and_false, i_10, i_01, i_00, not_true_eq_false, not_false_eq_true] using kk0
      · simpa only [SEL, PF, mr_gf_O, mr_rc_O, Option.toList_some, Option.toList_none, List.cons_append, List.nil_append, b2i_0, b2i_1, b2i_a, a_00, a_11, ai_n, si_n, nI_1, q_rl_bit, mr_up_at, Nat.reduceLeDiff, Nat.reduceLT, Nat.reduceEqDiff, Nat.reduceAdd, if_true, if_false, Bool.true_eq_false, Bool.false_eq_true, Bool.true_and, Bool.false_and, Bool.and_true, Bool.and_false, i_10, i_01, i_00, not_true_eq_false, not_false_eq_true] using kk0
  · refine both_ro st (-1) ?_ ?_
    · intro h Q st kk
      rw [r_rl_best]
      simp only [S_rl_best, q_rl_isChoice, decide_eq_false hw, SEL, PF, mr_gf_O, mr_rc_O, Option.toList_some, Option.toList_none, List.cons_append, List.nil_append, b2i_0, b2i_1, b2i_a, a_00, a_11, ai_n, si_n, nI_1, q_rl_bit, mr_up_at, Nat.reduceLeDiff, Nat.reduceLT, Nat.reduceEqDiff, Nat.reduceAdd, if_true, if_false, Bool.true_eq_false, Bool.false_eq_true, Bool.true_and, Bool.false_and, Bool.and_true, Bool.and_false, i_10, i_01, i_00, not_true_eq_false, not_false_eq_true]
      exact kk h st rfl
    · intro h Q st kk
      obtain ⟨th, tt, tk, pl, va, fa, dn, dr, uf, e74⟩ := id st.2.2.2.2.2.2
      rw [r_mo_best]
      simp only [S_mo_best_0, S_mo_best_1, e74, MO, SEL, PF, mr_gf_O, mr_rc_O, Option.toList_some, Option.toList_none, List.cons_append, List.nil_append, b2i_0, b2i_1, b2i_a, a_00, a_11, ai_n, si_n, nI_1, q_rl_bit, mr_up_at, Nat.reduceLeDiff, Nat.reduceLT, Nat.reduceEqDiff, Nat.reduceAdd, if_true, if_false, Bool.true_eq_false, Bool.false_eq_true, Bool.true_and, Bool.false_and, Bool.and_true, Bool.and_false, i_10, i_01, i_00, not_true_eq_false, not_false_eq_true, q_mo_in, ch_in, decide_eq_false hw]
      exact kk _ (St_mo st (fr_up _ (fr_rf _ _) (by decide)) ⟨_, _, _, _, _, _, _, _, _, up_eq _ _ _⟩) rfl
end GAIN
