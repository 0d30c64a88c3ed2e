/-! reading a text, item by item: a pure picture, and the class -/
abbrev PS : Type := Nat × Nat × (Nat → Int32) × (Nat → Int32) × Nat
def nmb (L : Nat → Int32) (a lo hi : Nat) : Bool := decide (tT L a = 48 ∧ lo ≤ tV L a ∧ tV L a ≤ hi)
/-- an item but for its stop: where it is wrong, or what comes of it and where the stop is looked for -/
def itB (L : Nat → Int32) (f : Bool) (a dn : Nat) (D R : Nat → Int32) (rk : Nat) : Nat ⊕ PS :=
  if tT L a = 110 then
    if f then (if nmb L (tE L a) 1 12 then .inr (tE L (tE L a), tV L (tE L a), D, R, rk) else .inl (tS L (tE L a))) else .inl (tS L a)
  else if tT L a = 101 then
    if nmb L (tE L a) 0 (dn - 1) then
      if nmb L (tE L (tE L a)) 0 (dn - 1) && (!decide (tV L (tE L (tE L a)) = tV L (tE L a)) && !bt (D (tV L (tE L a))) (tV L (tE L (tE L a)))) then .inr (tE L (tE L (tE L a)), dn, upd D (tV L (tE L a)) (D (tV L (tE L a)) ||| nb (tV L (tE L (tE L a)))), R, rk)
      else .inl (tS L (tE L (tE L a)))
    else .inl (tS L (tE L a))
  else if tT L a = 114 then
    if nmb L (tE L a) 0 (dn - 1) && decide (R (tV L (tE L a)) = -1) then .inr (tE L (tE L a), dn, D, upd R (tV L (tE L a)) (nI rk), rk + 1) else .inl (tS L (tE L a))
  else .inl (tS L a)
def itm (L : Nat → Int32) (f : Bool) (a dn : Nat) (D R : Nat → Int32) (rk : Nat) : Nat ⊕ PS :=
  match itB L f a dn D R rk with
  | .inl q => .inl q
  | .inr (a', p) => if tT L a' = 59 then .inr (tE L a', p) else .inl (tS L a')
theorem nI_pm {n : Nat} (h : 1 ≤ n) : nI n - 1 = nI (n - 1) := by
  have := nI_pred (n - 1)
  rwa [show n - 1 + 1 = n by omega] at this
/-- the class before it reads a token at a; where a text is wrong -/
def CG (h0 h : mr_h) (len a dn : Nat) (D R : Nat → Int32) (rk : Nat) : Prop := mr_fr h0 h [4, 5, 6, 7] ∧ (∃ y z w, h.1 7 = SC len (nI a) y z w (nI rk)) ∧ h.1 4 = NE 4 dn ∧ h.1 5 = mr_I 12 D ∧ h.1 6 = mr_I 12 R
def CF (h0 h : mr_h) (len q : Nat) : Prop := mr_fr h0 h [4, 5, 6, 7] ∧ (∃ x z w r, h.1 7 = SC len x (nI q) z w r) ∧ (∃ x, h.1 4 = mr_O 3 [.int x, .ref 5, .ref 6]) ∧ isI (h.1 5) 12 ∧ isI (h.1 6) 12
/-- it has read that token -/
def CR (h0 h : mr_h) (L : Nat → Int32) (len a dn : Nat) (D R : Nat → Int32) (rk : Nat) (va : Int32) : Prop := mr_fr h0 h [4, 5, 6, 7] ∧ h.1 7 = SC len (nI (tE L a)) (nI (tS L a)) (tT L a) va (nI rk) ∧ (tT L a = 48 → va = nI (tV L a)) ∧ h.1 4 = NE 4 dn ∧ h.1 5 = mr_I 12 D ∧ h.1 6 = mr_I 12 R
section CPARSE
variable {h0 h : mr_h} {Q : Option Value → mr_h → Prop} {T : Nat → Int32} {len a dn rk : Nat} {D R : Nat → Int32}
theorem CR_CG {L : Nat → Int32} {va : Int32} (c : CR h0 h L len a dn D R rk va) : CG h0 h len (tE L a) dn D R rk := ⟨c.1, ⟨_, _, _, c.2.1⟩, c.2.2.2.1, c.2.2.2.2.1, c.2.2.2.2.2⟩
theorem CR_CF {L : Nat → Int32} {va : Int32} (c : CR h0 h L len a dn D R rk va) : CF h0 h len (tS L a) := ⟨c.1, ⟨_, _, _, _, c.2.1⟩, ⟨_, c.2.2.2.1⟩, ⟨_, c.2.2.2.2.1⟩, ⟨_, c.2.2.2.2.2⟩⟩
theorem st_token (hl : len ≤ 120) (e8 : h0.1 8 = mr_I 120 T) (ha : a ≤ len) (hb : ∀ j, j < len → ¬ T j < 0) (c : CG h0 h len a dn D R rk) (kk : ∀ h2 va, CR h0 h2 (lx T len) len a dn D R rk va → Q none h2) : mr_run 31 [.ref 7] h Q := by
  obtain ⟨f, ⟨y, z, w, e7⟩, e4, e5, e6⟩ := c
  refine q_sc_readToken hl (fr_at f (by decide) e8) ha hb e7 ?_
  intro h2 va f2 g7 hv
  exact kk h2 va ⟨fr_tr f f2 (by decide), g7, hv, fr_at f2 (by decide) e4, fr_at f2 (by decide) e5, fr_at f2 (by decide) e6⟩
theorem st_number (hl : len ≤ 120) (e8 : h0.1 8 = mr_I 120 T) (ha : a ≤ len) (hb : ∀ j, j < len → ¬ T j < 0) {lo hi : Nat} (hlo : lo < 100) (hhi : hi < 100) (c : CG h0 h len a dn D R rk) (kk : ∀ h2 va, CR h0 h2 (lx T len) len a dn D R rk va → Q (some (.int (b2i (nmb (lx T len) a lo hi)))) h2) : mr_run 36 [.ref 7, .int (nI lo), .int (nI hi)] h Q := by
  have e7 := c.2.1
  obtain ⟨y, z, w, e7⟩ := e7
  rw [r_sc_readNumber]
  simp only [S_sc_readNumber, e7, SC, SEL, PF, mr_gf_O, mr_rc_O, Option.toList_some, Option.toList_none, List.cons_append, List.nil_append, b2i_0, b2i_1, b2i_a, a_00, a_11, ai_n, si_n, nI_1, q_rl_bit, mr_up_at, Nat.reduceLeDiff, Nat.reduceLT, Nat.reduceEqDiff, Nat.reduceAdd, if_true, if_false, Bool.true_eq_false, Bool.false_eq_true, Bool.true_and, Bool.false_and, Bool.and_true, Bool.and_false, i_10, i_01, i_00, not_true_eq_false, not_false_eq_true]
  refine st_token hl e8 ha hb c ?_
  intro h2 va cr
  have kk' := kk h2 va cr
  obtain ⟨f, g7, hv, -⟩ := cr
  unfold nmb at kk'
  by_cases c1 : tT (lx T len) a = 48
  · have h99 := tV_99 c1
    have ev := hv c1
    subst ev
    have c2 : (nI (tV (lx T len) a) < nI lo) = (tV (lx T len) a < lo) := propext (nI_ltI (by omega) (by omega))
    have c3 : (nI hi < nI (tV (lx T len) a)) = (hi < tV (lx T len) a) := propext (nI_ltI (by omega) (by omega))
    simp only [S_sc_readNumber, g7, SC, SEL, PF, mr_gf_O, mr_rc_O, Option.toList_some, Option.toList_none, List.cons_append, List.nil_append, b2i_0, b2i_1, b2i_a, a_00, a_11, ai_n, si_n, nI_1, q_rl_bit, mr_up_at, Nat.reduceLeDiff, Nat.reduceLT, Nat.reduceEqDiff, Nat.reduceAdd, if_true, if_false, Bool.true_eq_false, Bool.false_eq_true, Bool.true_and, Bool.false_and, Bool.and_true, Bool.and_false, i_10, i_01, i_00, not_true_eq_false, not_false_eq_true, c1, c2, c3]
    by_cases c4 : tV (lx T len) a < lo
    · rw [decide_eq_false (fun z => by omega)] at kk'
      simp only [if_pos c4]
      exact kk'
    · by_cases c5 : hi < tV (lx T len) a
      · rw [decide_eq_false (fun z => by omega)] at kk'
        simp only [if_neg c4, if_pos c5]
        exact kk'
      · rw [decide_eq_true ⟨c1, by omega, by omega⟩] at kk'
        simp only [if_neg c4, if_neg c5]
        exact kk'
  · rw [decide_eq_false (fun z => c1 z.1)] at kk'
    simp only [S_sc_readNumber, g7, SC, SEL, PF, mr_gf_O, mr_rc_O, Option.toList_some, Option.toList_none, List.cons_append, List.nil_append, b2i_0, b2i_1, b2i_a, a_00, a_11, ai_n, si_n, nI_1, q_rl_bit, mr_up_at, Nat.reduceLeDiff, Nat.reduceLT, Nat.reduceEqDiff, Nat.reduceAdd, if_true, if_false, Bool.true_eq_false, Bool.false_eq_true, Bool.true_and, Bool.false_and, Bool.and_true, Bool.and_false, i_10, i_01, i_00, not_true_eq_false, not_false_eq_true, if_pos c1]
    exact kk'
theorem nmb_yes {L : Nat → Int32} {lo hi : Nat} (h : nmb L a lo hi = true) : tT L a = 48 ∧ lo ≤ tV L a ∧ tV L a ≤ hi := by
  unfold nmb at h
  simpa using h
theorem st_nodes (hl : len ≤ 120) (e8 : h0.1 8 = mr_I 120 T) (ha : a ≤ len) (hb : ∀ j, j < len → ¬ T j < 0) (c : CG h0 h len a dn D R rk)
    (k0 : nmb (lx T len) a 1 12 = false → ∀ h2, CF h0 h2 len (tS (lx T len) a) → Q (some (.int 0)) h2)
    (k1 : nmb (lx T len) a 1 12 = true → ∀ h2, CG h0 h2 len (tE (lx T len) a) (tV (lx T len) a) D R rk → Q (some (.int 1)) h2) : mr_run 35 [.ref 7, .ref 4] h Q := by
  obtain ⟨y, z, w, e7⟩ := c.2.1
  rw [r_sc_readNodes]
  simp only [S_sc_readNodes, e7, SC, SEL, PF, mr_gf_O, mr_rc_O, Option.toList_some, Option.toList_none, List.cons_append, List.nil_append, b2i_0, b2i_1, b2i_a, a_00, a_11, ai_n, si_n, nI_1, q_rl_bit, mr_up_at, Nat.reduceLeDiff, Nat.reduceLT, Nat.reduceEqDiff, Nat.reduceAdd, if_true, if_false, Bool.true_eq_false, Bool.false_eq_true, Bool.true_and, Bool.false_and, Bool.and_true, Bool.and_false, i_10, i_01, i_00, not_true_eq_false, not_false_eq_true]
  have e1 : (1 : Int32) = nI 1 := rfl
  have e12 : (12 : Int32) = nI 12 := rfl
  rw [e1, e12]
  refine st_number hl e8 ha hb (by decide) (by decide) c ?_
  intro h2 va cr
  obtain ⟨f, g7, hv, e4, e5, e6⟩ := id cr
  cases hn : nmb (lx T len) a 1 12 with
  | false =>
    simp only [S_sc_readNodes, SEL, PF, mr_gf_O, mr_rc_O, Option.toList_some, Option.toList_none, List.cons_append, List.nil_append, b2i_0, b2i_1, b2i_a, a_00, a_11, ai_n, si_n, nI_1, q_rl_bit, mr_up_at, Nat.reduceLeDiff, Nat.reduceLT, Nat.reduceEqDiff, Nat.reduceAdd, if_true, if_false, Bool.true_eq_false, Bool.false_eq_true, Bool.true_and, Bool.false_and, Bool.and_true, Bool.and_false, i_10, i_01, i_00, not_true_eq_false, not_false_eq_true]
    exact k0 hn h2 (CR_CF cr)
  | true =>
    have ev := hv (nmb_yes hn).1
    subst ev
    simp only [S_sc_readNodes, SEL, PF, mr_gf_O, mr_rc_O, Option.toList_some, Option.toList_none, List.cons_append, List.nil_append, b2i_0, b2i_1, b2i_a, a_00, a_11, ai_n, si_n, nI_1, q_rl_bit, mr_up_at, Nat.reduceLeDiff, Nat.reduceLT, Nat.reduceEqDiff, Nat.reduceAdd, if_true, if_false, Bool.true_eq_false, Bool.false_eq_true, Bool.true_and, Bool.false_and, Bool.and_true, Bool.and_false, i_10, i_01, i_00, not_true_eq_false, not_false_eq_true, g7, SC, e4, NE]
    exact k1 hn _ ⟨fr_up _ f (by decide), ⟨_, _, _, by simp only [mr_up_at, Nat.reduceEqDiff, if_false]; exact g7⟩, up_eq _ _ _, by simp only [mr_up_at, Nat.reduceEqDiff, if_false]; exact e5, by simp only [mr_up_at, Nat.reduceEqDiff, if_false]; exact e6⟩
theorem st_ranked (hl : len ≤ 120) (e8 : h0.1 8 = mr_I 120 T) (ha : a ≤ len) (hb : ∀ j, j < len → ¬ T j < 0) (hd1 : 1 ≤ dn) (hd : dn ≤ 12) (c : CG h0 h len a dn D R rk)
    (k0 : (nmb (lx T len) a 0 (dn - 1) && decide (R (tV (lx T len) a) = -1)) = false → ∀ h2, CF h0 h2 len (tS (lx T len) a) → Q (some (.int 0)) h2)
    (k1 : (nmb (lx T len) a 0 (dn - 1) && decide (R (tV (lx T len) a) = -1)) = true → ∀ h2, CG h0 h2 len (tE (lx T len) a) dn D (upd R (tV (lx T len) a) (nI rk)) (rk + 1) → Q (some (.int 1)) h2) : mr_run 40 [.ref 7, .ref 4] h Q := by
  obtain ⟨-, ⟨y, z, w, e7⟩, e4, -, -⟩ := id c
  rw [r_sc_readRanked]
  simp only [S_sc_readRanked, e7, SC, e4, NE, SEL, PF, mr_gf_O, mr_rc_O, Option.toList_some, Option.toList_none, List.cons_append, List.nil_append, b2i_0, b2i_1, b2i_a, a_00, a_11, ai_n, si_n, nI_1, q_rl_bit, mr_up_at, Nat.reduceLeDiff, Nat.reduceLT, Nat.reduceEqDiff, Nat.reduceAdd, if_true, if_false, Bool.true_eq_false, Bool.false_eq_true, Bool.true_and, Bool.false_and, Bool.and_true, Bool.and_false, i_10, i_01, i_00, not_true_eq_false, not_false_eq_true, nI_pm hd1]
  rw [← nI_0]
  refine st_number hl e8 ha hb (by decide) (by omega) c ?_
  intro h2 va cr
  obtain ⟨f, g7, hv, g4, g5, g6⟩ := id cr
  cases hn : nmb (lx T len) a 0 (dn - 1) with
  | false =>
    simp only [S_sc_readRanked, SEL, PF, mr_gf_O, mr_rc_O, Option.toList_some, Option.toList_none, List.cons_append, List.nil_append, b2i_0, b2i_1, b2i_a, a_00, a_11, ai_n, si_n, nI_1, q_rl_bit, mr_up_at, Nat.reduceLeDiff, Nat.reduceLT, Nat.reduceEqDiff, Nat.reduceAdd, if_true, if_false, Bool.true_eq_false, Bool.false_eq_true, Bool.true_and, Bool.false_and, Bool.and_true, Bool.and_false, i_10, i_01, i_00, not_true_eq_false, not_false_eq_true]
    exact k0 (by rw [hn]; rfl) h2 (CR_CF cr)
  | true =>
    have hy := nmb_yes hn
    have ev := hv hy.1
    subst ev
    have hv12 : tV (lx T len) a < 12 := by omega
    simp only [S_sc_readRanked, SEL, PF, mr_gf_O, mr_rc_O, Option.toList_some, Option.toList_none, List.cons_append, List.nil_append, b2i_0, b2i_1, b2i_a, a_00, a_11, ai_n, si_n, nI_1, q_rl_bit, mr_up_at, Nat.reduceLeDiff, Nat.reduceLT, Nat.reduceEqDiff, Nat.reduceAdd, if_true, if_false, Bool.true_eq_false, Bool.false_eq_true, Bool.true_and, Bool.false_and, Bool.and_true, Bool.and_false, i_10, i_01, i_00, not_true_eq_false, not_false_eq_true, g7, SC, g4, NE]
    rw [r_ne_isRanked]
    simp only [S_ne_isRanked, g4, NE, SEL, PF, mr_gf_O, mr_rc_O, Option.toList_some, Option.toList_none, List.cons_append, List.nil_append, b2i_0, b2i_1, b2i_a, a_00, a_11, ai_n, si_n, nI_1, q_rl_bit, mr_up_at, Nat.reduceLeDiff, Nat.reduceLT, Nat.reduceEqDiff, Nat.reduceAdd, if_true, if_false, Bool.true_eq_false, Bool.false_eq_true, Bool.true_and, Bool.false_and, Bool.and_true, Bool.and_false, i_10, i_01, i_00, not_true_eq_false, not_false_eq_true, g6, hv12]
    by_cases c1 : R (tV (lx T len) a) = -1
    · have hk : (nmb (lx T len) a 0 (dn - 1) && decide (R (tV (lx T len) a) = -1)) = true := by rw [hn, decide_eq_true c1]; rfl
      simp only [S_ne_isRanked, S_sc_readRanked, SEL, PF, mr_gf_O, mr_rc_O, Option.toList_some, Option.toList_none, List.cons_append, List.nil_append, b2i_0, b2i_1, b2i_a, a_00, a_11, ai_n, si_n, nI_1, q_rl_bit, mr_up_at, Nat.reduceLeDiff, Nat.reduceLT, Nat.reduceEqDiff, Nat.reduceAdd, if_true, if_false, Bool.true_eq_false, Bool.false_eq_true, Bool.true_and, Bool.false_and, Bool.and_true, Bool.and_false, i_10, i_01, i_00, not_true_eq_false, not_false_eq_true, c1, g7, SC, g4, NE, g6, hv12]
      exact k1 hk _ ⟨fr_up _ (fr_up _ f (by decide)) (by decide), ⟨_, _, _, up_eq _ _ _⟩, by simp only [mr_up_at, Nat.reduceEqDiff, if_false]; exact g4, by simp only [mr_up_at, Nat.reduceEqDiff, if_false]; exact g5, by simp only [mr_up_at, Nat.reduceEqDiff, if_false, if_true]⟩
    · have hk : (nmb (lx T len) a 0 (dn - 1) && decide (R (tV (lx T len) a) = -1)) = false := by rw [hn, decide_eq_false c1]; rfl
      simp only [S_ne_isRanked, S_sc_readRanked, SEL, PF, mr_gf_O, mr_rc_O, Option.toList_some, Option.toList_none, List.cons_append, List.nil_append, b2i_0, b2i_1, b2i_a, a_00, a_11, ai_n, si_n, nI_1, q_rl_bit, mr_up_at, Nat.reduceLeDiff, Nat.reduceLT, Nat.reduceEqDiff, Nat.reduceAdd, if_true, if_false, Bool.true_eq_false, Bool.false_eq_true, Bool.true_and, Bool.false_and, Bool.and_true, Bool.and_false, i_10, i_01, i_00, not_true_eq_false, not_false_eq_true, if_neg c1]
      exact k0 hk h2 (CR_CF cr)
theorem st_edge (hl : len ≤ 120) (e8 : h0.1 8 = mr_I 120 T) (ha : a ≤ len) (hb : ∀ j, j < len → ¬ T j < 0) (hd1 : 1 ≤ dn) (hd : dn ≤ 12) (c : CG h0 h len a dn D R rk)
    (k0 : nmb (lx T len) a 0 (dn - 1) = false → ∀ h2, CF h0 h2 len (tS (lx T len) a) → Q (some (.int 0)) h2)
    (k2 : nmb (lx T len) a 0 (dn - 1) = true → (nmb (lx T len) (tE (lx T len) a) 0 (dn - 1) && (!decide (tV (lx T len) (tE (lx T len) a) = tV (lx T len) a) && !bt (D (tV (lx T len) a)) (tV (lx T len) (tE (lx T len) a)))) = false → ∀ h2, CF h0 h2 len (tS (lx T len) (tE (lx T len) a)) → Q (some (.int 0)) h2)
    (k1 : nmb (lx T len) a 0 (dn - 1) = true → (nmb (lx T len) (tE (lx T len) a) 0 (dn - 1) && (!decide (tV (lx T len) (tE (lx T len) a) = tV (lx T len) a) && !bt (D (tV (lx T len) a)) (tV (lx T len) (tE (lx T len) a)))) = true → ∀ h2, CG h0 h2 len (tE (lx T len) (tE (lx T len) a)) dn (upd D (tV (lx T len) a) (D (tV (lx T len) a) ||| nb (tV (lx T len) (tE (lx T len) a)))) R rk → Q (some (.int 1)) h2) : mr_run 37 [.ref 7, .ref 4] h Q := by
  obtain ⟨-, ⟨y, z, w, e7⟩, e4, -, -⟩ := id c
  rw [r_sc_readEdge]
  simp only [S_sc_readEdge, e7, SC, e4, NE, SEL, PF, mr_gf_O, mr_rc_O, Option.toList_some, Option.toList_none, List.cons_append, List.nil_append, b2i_0, b2i_1, b2i_a, a_00, a_11, ai_n, si_n, nI_1, q_rl_bit, mr_up_at, Nat.reduceLeDiff, Nat.reduceLT, Nat.reduceEqDiff, Nat.reduceAdd, if_true, if_false, Bool.true_eq_false, Bool.false_eq_true, Bool.true_and, Bool.false_and, Bool.and_true, Bool.and_false, i_10, i_01, i_00, not_true_eq_false, not_false_eq_true, nI_pm hd1]
  rw [← nI_0]
  refine st_number hl e8 ha hb (by decide) (by omega) c ?_
  intro h2 va cr
  obtain ⟨f, g7, hv, g4, g5, g6⟩ := id cr
  cases hn : nmb (lx T len) a 0 (dn - 1) with
  | false =>
    simp only [S_sc_readEdge, SEL, PF, mr_gf_O, mr_rc_O, Option.toList_some, Option.toList_none, List.cons_append, List.nil_append, b2i_0, b2i_1, b2i_a, a_00, a_11, ai_n, si_n, nI_1, q_rl_bit, mr_up_at, Nat.reduceLeDiff, Nat.reduceLT, Nat.reduceEqDiff, Nat.reduceAdd, if_true, if_false, Bool.true_eq_false, Bool.false_eq_true, Bool.true_and, Bool.false_and, Bool.and_true, Bool.and_false, i_10, i_01, i_00, not_true_eq_false, not_false_eq_true]
    exact k0 hn h2 (CR_CF cr)
  | true =>
    have hy := nmb_yes hn
    have ev := hv hy.1
    subst ev
    have hv12 : tV (lx T len) a < 12 := by omega
    simp only [S_sc_readEdge, SEL, PF, mr_gf_O, mr_rc_O, Option.toList_some, Option.toList_none, List.cons_append, List.nil_append, b2i_0, b2i_1, b2i_a, a_00, a_11, ai_n, si_n, nI_1, q_rl_bit, mr_up_at, Nat.reduceLeDiff, Nat.reduceLT, Nat.reduceEqDiff, Nat.reduceAdd, if_true, if_false, Bool.true_eq_false, Bool.false_eq_true, Bool.true_and, Bool.false_and, Bool.and_true, Bool.and_false, i_10, i_01, i_00, not_true_eq_false, not_false_eq_true, g7, SC, g4, NE, nI_pm hd1]
    rw [← nI_0]
    have te := tE_in (T := T) hl ha hb
    refine st_number hl e8 te.2.1 hb (by decide) (by omega) (CR_CG cr) ?_
    intro h3 va cr3
    have k0' := k2 hn
    have k1' := k1 hn
    clear k0 k1 k2 hn
    generalize tE (lx T len) a = a2 at *
    generalize hu : tV (lx T len) a = u at *
    obtain ⟨f3, j7, hv3, j4, j5, j6⟩ := id cr3
    cases hn2 : nmb (lx T len) a2 0 (dn - 1) with
    | false =>
      simp only [S_sc_readEdge, SEL, PF, mr_gf_O, mr_rc_O, Option.toList_some, Option.toList_none, List.cons_append, List.nil_append, b2i_0, b2i_1, b2i_a, a_00, a_11, ai_n, si_n, nI_1, q_rl_bit, mr_up_at, Nat.reduceLeDiff, Nat.reduceLT, Nat.reduceEqDiff, Nat.reduceAdd, if_true, if_false, Bool.true_eq_false, Bool.false_eq_true, Bool.true_and, Bool.false_and, Bool.and_true, Bool.and_false, i_10, i_01, i_00, not_true_eq_false, not_false_eq_true]
      exact k0' (by rw [hn2]; rfl) h3 (CR_CF cr3)
    | true =>
      have hy2 := nmb_yes hn2
      have ev := hv3 hy2.1
      subst ev
      rw [hn2, Bool.true_and] at k0' k1'
      generalize hww : tV (lx T len) a2 = ww at *
      have hw12 : ww < 12 := by omega
      have ceq : (nI (ww) = nI u) = (ww = u) := propext (nI_eq (by omega) (by omega))
      simp only [S_sc_readEdge, SEL, PF, mr_gf_O, mr_rc_O, Option.toList_some, Option.toList_none, List.cons_append, List.nil_append, b2i_0, b2i_1, b2i_a, a_00, a_11, ai_n, si_n, nI_1, q_rl_bit, mr_up_at, Nat.reduceLeDiff, Nat.reduceLT, Nat.reduceEqDiff, Nat.reduceAdd, if_true, if_false, Bool.true_eq_false, Bool.false_eq_true, Bool.true_and, Bool.false_and, Bool.and_true, Bool.and_false, i_10, i_01, i_00, not_true_eq_false, not_false_eq_true, j7, SC, j4, NE, ceq]
      by_cases c1 : ww = u
      · rw [decide_eq_true c1] at k0'
        simp only [S_sc_readEdge, SEL, PF, mr_gf_O, mr_rc_O, Option.toList_some, Option.toList_none, List.cons_append, List.nil_append, b2i_0, b2i_1, b2i_a, a_00, a_11, ai_n, si_n, nI_1, q_rl_bit, mr_up_at, Nat.reduceLeDiff, Nat.reduceLT, Nat.reduceEqDiff, Nat.reduceAdd, if_true, if_false, Bool.true_eq_false, Bool.false_eq_true, Bool.true_and, Bool.false_and, Bool.and_true, Bool.and_false, i_10, i_01, i_00, not_true_eq_false, not_false_eq_true, if_pos c1]
        exact k0' rfl h3 (CR_CF cr3)
      · rw [decide_eq_false c1] at k0' k1'
        simp only [S_sc_readEdge, SEL, PF, mr_gf_O, mr_rc_O, Option.toList_some, Option.toList_none, List.cons_append, List.nil_append, b2i_0, b2i_1, b2i_a, a_00, a_11, ai_n, si_n, nI_1, q_rl_bit, mr_up_at, Nat.reduceLeDiff, Nat.reduceLT, Nat.reduceEqDiff, Nat.reduceAdd, if_true, if_false, Bool.true_eq_false, Bool.false_eq_true, Bool.true_and, Bool.false_and, Bool.and_true, Bool.and_false, i_10, i_01, i_00, not_true_eq_false, not_false_eq_true, if_neg c1, j4, NE, j7, SC, q_ne_has (show h3.1 4 = NE 4 dn from j4) j5 hv12 (show ww < 32 by omega)]
        cases c2 : bt (D u) (ww) with
        | true =>
          rw [c2] at k0'
          simp only [S_sc_readEdge, SEL, PF, mr_gf_O, mr_rc_O, Option.toList_some, Option.toList_none, List.cons_append, List.nil_append, b2i_0, b2i_1, b2i_a, a_00, a_11, ai_n, si_n, nI_1, q_rl_bit, mr_up_at, Nat.reduceLeDiff, Nat.reduceLT, Nat.reduceEqDiff, Nat.reduceAdd, if_true, if_false, Bool.true_eq_false, Bool.false_eq_true, Bool.true_and, Bool.false_and, Bool.and_true, Bool.and_false, i_10, i_01, i_00, not_true_eq_false, not_false_eq_true]
          exact k0' rfl h3 (CR_CF cr3)
        | false =>
          rw [c2] at k1'
          simp only [S_sc_readEdge, SEL, PF, mr_gf_O, mr_rc_O, Option.toList_some, Option.toList_none, List.cons_append, List.nil_append, b2i_0, b2i_1, b2i_a, a_00, a_11, ai_n, si_n, nI_1, q_rl_bit, mr_up_at, Nat.reduceLeDiff, Nat.reduceLT, Nat.reduceEqDiff, Nat.reduceAdd, if_true, if_false, Bool.true_eq_false, Bool.false_eq_true, Bool.true_and, Bool.false_and, Bool.and_true, Bool.and_false, i_10, i_01, i_00, not_true_eq_false, not_false_eq_true, j4, NE, j7, SC]
          rw [r_ne_link]
          simp only [S_ne_link, SEL, PF, mr_gf_O, mr_rc_O, Option.toList_some, Option.toList_none, List.cons_append, List.nil_append, b2i_0, b2i_1, b2i_a, a_00, a_11, ai_n, si_n, nI_1, q_rl_bit, mr_up_at, Nat.reduceLeDiff, Nat.reduceLT, Nat.reduceEqDiff, Nat.reduceAdd, if_true, if_false, Bool.true_eq_false, Bool.false_eq_true, Bool.true_and, Bool.false_and, Bool.and_true, Bool.and_false, i_10, i_01, i_00, not_true_eq_false, not_false_eq_true, j4, NE, j5, hv12]
          simp only [S_sc_readEdge, SEL, PF, mr_gf_O, mr_rc_O, Option.toList_some, Option.toList_none, List.cons_append, List.nil_append, b2i_0, b2i_1, b2i_a, a_00, a_11, ai_n, si_n, nI_1, q_rl_bit, mr_up_at, Nat.reduceLeDiff, Nat.reduceLT, Nat.reduceEqDiff, Nat.reduceAdd, if_true, if_false, Bool.true_eq_false, Bool.false_eq_true, Bool.true_and, Bool.false_and, Bool.and_true, Bool.and_false, i_10, i_01, i_00, not_true_eq_false, not_false_eq_true]
          exact k1' rfl _ ⟨fr_up _ f3 (by decide), ⟨_, _, _, by simp only [mr_up_at, Nat.reduceEqDiff, if_false]; exact j7⟩, by simp only [mr_up_at, Nat.reduceEqDiff, if_false]; exact j4, up_eq _ _ _, by simp only [mr_up_at, Nat.reduceEqDiff, if_false]; exact j6⟩
end CPARSE
