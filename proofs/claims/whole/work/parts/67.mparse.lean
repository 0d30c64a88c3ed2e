/-! reading a text: the reference -/
def MR (h0 h : mr_h) (L : Nat → Int32) (len a dn : Nat) (D R : Nat → Int32) (rk : Nat) (va nn um sn uf : Int32) : Prop := mr_fr h0 h [74, 76] ∧ h.1 74 = MO 0 (nI len) (nI (tE L a)) (kd (tT L a)) (nI (tS L a)) va (-1) nn (nI dn) (nI rk) um sn uf ∧ (tT L a = 48 → va = nI (tV L a)) ∧ (sgb (tT L a) = true → va = tT L a) ∧ ∃ W, h.1 76 = mr_I 24 W ∧ ∀ u, u < 12 → W u = D u ∧ W (12 + u) = R u
def MF (h0 h : mr_h) (len q : Nat) (nn um sn uf : Int32) : Prop := mr_fr h0 h [74, 76] ∧ q ≤ 120 ∧ (∃ tt tk pl va dn dr, h.1 74 = MO 0 (nI len) tt tk pl va (nI q) nn dn dr um sn uf) ∧ isI (h.1 76) 24
theorem tT_cases (L : Nat → Int32) (a : Nat) : tT L a = -2 ∨ tT L a = -1 ∨ tT L a = 48 ∨ tT L a = 59 ∨ tT L a = 110 ∨ tT L a = 101 ∨ tT L a = 114 := by
  unfold tT
  split
  · exact Or.inl rfl
  · split
    · split
      · exact Or.inr (Or.inl rfl)
      · exact Or.inr (Or.inr (Or.inl rfl))
    · split
      · rename_i z
        unfold sgb at z
        simp only [decide_eq_true_eq] at z
        rcases z with z | z | z | z
        · exact Or.inr (Or.inr (Or.inr (Or.inr (Or.inl z))))
        · exact Or.inr (Or.inr (Or.inr (Or.inr (Or.inr (Or.inl z)))))
        · exact Or.inr (Or.inr (Or.inr (Or.inr (Or.inr (Or.inr z)))))
        · exact Or.inr (Or.inr (Or.inr (Or.inl z)))
      · exact Or.inr (Or.inl rfl)
theorem kd_2 (L : Nat → Int32) (a : Nat) : (kd (tT L a) = 2) = (tT L a = 48) := propext (by
  rcases tT_cases L a with z | z | z | z | z | z | z <;> rw [z] <;> decide)
theorem kd_3 (L : Nat → Int32) (a : Nat) : (kd (tT L a) = 3) = (tT L a = 59) := propext (by
  rcases tT_cases L a with z | z | z | z | z | z | z <;> rw [z] <;> decide)
theorem kd_0 (L : Nat → Int32) (a : Nat) : (kd (tT L a) = 0) = (tT L a = -2) := propext (by
  rcases tT_cases L a with z | z | z | z | z | z | z <;> rw [z] <;> decide)
theorem kd_1 (L : Nat → Int32) (a : Nat) : (kd (tT L a) = 1) = (tT L a = 110 ∨ tT L a = 101 ∨ tT L a = 114) := propext (by
  rcases tT_cases L a with z | z | z | z | z | z | z <;> rw [z] <;> decide)
section MPARSE
variable {h0 h : mr_h} {Q : Option Value → mr_h → Prop} {T : Nat → Int32} {len a dn rk : Nat} {D R : Nat → Int32} {va nn um sn uf : Int32}
theorem q_mo_isWell {th ty tt tk pl va fa nn dn dr um sn uf : Int32} (e74 : h.1 74 = MO th ty tt tk pl va fa nn dn dr um sn uf) : mr_run 126 [.ref 74] h Q = Q (some (.int (b2i (decide (fa < 0))))) h := by
  simp only [MO] at e74
  rw [r_mo_isWell]
  by_cases z : fa < 0
  · have z' : ¬ (0 : Int32) ≤ fa := fun w => absurd z (by rw [fa_le] at w; rw [fa_lt]; omega)
    simp only [S_mo_isWell, SEL, PF, mr_gf_O, mr_rc_O, Option.toList_some, Option.toList_none, List.cons_append, List.nil_append, b2i_0, b2i_1, b2i_a, a_00, a_11, ai_n, si_n, nI_1, q_rl_bit, mr_up_at, Nat.reduceLeDiff, Nat.reduceLT, Nat.reduceEqDiff, Nat.reduceAdd, if_true, if_false, Bool.true_eq_false, Bool.false_eq_true, Bool.true_and, Bool.false_and, Bool.and_true, Bool.and_false, i_10, i_01, i_00, not_true_eq_false, not_false_eq_true, e74, if_neg z', decide_eq_true z]
    rfl
  · simp only [S_mo_isWell, SEL, PF, mr_gf_O, mr_rc_O, Option.toList_some, Option.toList_none, List.cons_append, List.nil_append, b2i_0, b2i_1, b2i_a, a_00, a_11, ai_n, si_n, nI_1, q_rl_bit, mr_up_at, Nat.reduceLeDiff, Nat.reduceLT, Nat.reduceEqDiff, Nat.reduceAdd, if_true, if_false, Bool.true_eq_false, Bool.false_eq_true, Bool.true_and, Bool.false_and, Bool.and_true, Bool.and_false, i_10, i_01, i_00, not_true_eq_false, not_false_eq_true, e74, if_pos (fa_of_nlt z), decide_eq_false z]
    rfl
theorem q_mo_isNumber {L : Nat → Int32} {th ty tt pl fa nn dn dr um sn uf : Int32} {lo hi : Nat} (hlo : lo < 100) (hhi : hi < 100) (h99 : tT L a = 48 → tV L a ≤ 99) (e74 : h.1 74 = MO th ty tt (kd (tT L a)) pl va fa nn dn dr um sn uf) (hv : tT L a = 48 → va = nI (tV L a)) : mr_run 129 [.ref 74, .int (nI lo), .int (nI hi)] h Q = Q (some (.int (b2i (nmb L a lo hi)))) h := by
  simp only [MO] at e74
  rw [r_mo_isNumber]
  simp only [S_mo_isNumber, SEL, PF, mr_gf_O, mr_rc_O, Option.toList_some, Option.toList_none, List.cons_append, List.nil_append, b2i_0, b2i_1, b2i_a, a_00, a_11, ai_n, si_n, nI_1, q_rl_bit, mr_up_at, Nat.reduceLeDiff, Nat.reduceLT, Nat.reduceEqDiff, Nat.reduceAdd, if_true, if_false, Bool.true_eq_false, Bool.false_eq_true, Bool.true_and, Bool.false_and, Bool.and_true, Bool.and_false, i_10, i_01, i_00, not_true_eq_false, not_false_eq_true, e74, kd_2]
  unfold nmb
  by_cases c1 : tT L a = 48
  · have ev := hv c1
    have h9 := h99 c1
    subst ev
    generalize tV L a = V at *
    have e : decide (¬ nI V < nI lo ∧ ¬ nI hi < nI V) = decide (tT L a = 48 ∧ lo ≤ V ∧ V ≤ hi) := by
      refine decide_eq_decide.mpr ?_
      rw [nI_ltI (by omega) (by omega), nI_ltI (by omega) (by omega)]
      exact ⟨fun z => ⟨c1, by omega, by omega⟩, fun z => by omega⟩
    rw [← e]
    simp only [c1, not_true_eq_false, if_false, S_mo_isNumber, SEL, PF, mr_gf_O, mr_rc_O, Option.toList_some, Option.toList_none, List.cons_append, List.nil_append, b2i_0, b2i_1, b2i_a, a_00, a_11, ai_n, si_n, nI_1, q_rl_bit, mr_up_at, Nat.reduceLeDiff, Nat.reduceLT, Nat.reduceEqDiff, Nat.reduceAdd, if_true, if_false, Bool.true_eq_false, Bool.false_eq_true, Bool.true_and, Bool.false_and, Bool.and_true, Bool.and_false, i_10, i_01, i_00, not_true_eq_false, not_false_eq_true, q_mo_in]
    cases decide (¬ nI V < nI lo ∧ ¬ nI hi < nI V) <;> rfl
  · rw [decide_eq_false (fun z => c1 z.1)]
    simp only [if_pos c1, S_mo_isNumber, SEL, PF, mr_gf_O, mr_rc_O, Option.toList_some, Option.toList_none, List.cons_append, List.nil_append, b2i_0, b2i_1, b2i_a, a_00, a_11, ai_n, si_n, nI_1, q_rl_bit, mr_up_at, Nat.reduceLeDiff, Nat.reduceLT, Nat.reduceEqDiff, Nat.reduceAdd, if_true, if_false, Bool.true_eq_false, Bool.false_eq_true, Bool.true_and, Bool.false_and, Bool.and_true, Bool.and_false, i_10, i_01, i_00, not_true_eq_false, not_false_eq_true]
    rfl
theorem mt_ok (hl : len ≤ 120) (e75 : h0.1 75 = mr_I 120 T) (ha : a ≤ len) (hb : ∀ j, j < len → ¬ T j < 0) (c : MR h0 h (lx T len) len a dn D R rk va nn um sn uf) (kk : ∀ h2 va', MR h0 h2 (lx T len) len (tE (lx T len) a) dn D R rk va' nn um sn uf → Q (some (.int va)) h2) : mr_run 127 [.ref 74, .int 1] h Q := by
  obtain ⟨f, e74, -, -, W, e76, hW⟩ := c
  have hw := fun Q => q_mo_isWell (Q := Q) e74
  have te := tE_in (T := T) hl ha hb
  have e74' := e74
  simp only [MO] at e74'
  rw [r_mo_takes]
  simp only [S_mo_takes, SEL, PF, mr_gf_O, mr_rc_O, Option.toList_some, Option.toList_none, List.cons_append, List.nil_append, b2i_0, b2i_1, b2i_a, a_00, a_11, ai_n, si_n, nI_1, q_rl_bit, mr_up_at, Nat.reduceLeDiff, Nat.reduceLT, Nat.reduceEqDiff, Nat.reduceAdd, if_true, if_false, Bool.true_eq_false, Bool.false_eq_true, Bool.true_and, Bool.false_and, Bool.and_true, Bool.and_false, i_10, i_01, i_00, not_true_eq_false, not_false_eq_true, e74', hw, show decide ((-1 : Int32) < 0) = true from rfl]
  refine q_mo_advances hl (fr_at f (by decide) e75) te.2.1 hb e74 ?_
  intro h2 va' f2 g74 h1 h2'
  simp only [S_mo_takes, SEL, PF, mr_gf_O, mr_rc_O, Option.toList_some, Option.toList_none, List.cons_append, List.nil_append, b2i_0, b2i_1, b2i_a, a_00, a_11, ai_n, si_n, nI_1, q_rl_bit, mr_up_at, Nat.reduceLeDiff, Nat.reduceLT, Nat.reduceEqDiff, Nat.reduceAdd, if_true, if_false, Bool.true_eq_false, Bool.false_eq_true, Bool.true_and, Bool.false_and, Bool.and_true, Bool.and_false, i_10, i_01, i_00, not_true_eq_false, not_false_eq_true]
  exact kk h2 va' ⟨fr_tr f f2 (by decide), g74, h1, h2', W, fr_at f2 (by decide) e76, hW⟩
theorem mt_no (hl : len ≤ 120) (ha : a ≤ len) (c : MR h0 h (lx T len) len a dn D R rk va nn um sn uf) (kk : MF h0 (mr_up h 74 (MO 0 (nI len) (nI (tE (lx T len) a)) (kd (tT (lx T len) a)) (nI (tS (lx T len) a)) va (nI (tS (lx T len) a)) nn (nI dn) (nI rk) um sn uf)) len (tS (lx T len) a) nn um sn uf → Q (some (.int 0)) (mr_up h 74 (MO 0 (nI len) (nI (tE (lx T len) a)) (kd (tT (lx T len) a)) (nI (tS (lx T len) a)) va (nI (tS (lx T len) a)) nn (nI dn) (nI rk) um sn uf))) : mr_run 127 [.ref 74, .int 0] h Q := by
  obtain ⟨f, e74, -, -, W, e76, hW⟩ := c
  have hw := fun Q => q_mo_isWell (Q := Q) e74
  have ts := tS_in (T := T) hl ha
  have e74' := e74
  simp only [MO] at e74'
  rw [r_mo_takes]
  simp only [S_mo_takes, SEL, PF, mr_gf_O, mr_rc_O, Option.toList_some, Option.toList_none, List.cons_append, List.nil_append, b2i_0, b2i_1, b2i_a, a_00, a_11, ai_n, si_n, nI_1, q_rl_bit, mr_up_at, Nat.reduceLeDiff, Nat.reduceLT, Nat.reduceEqDiff, Nat.reduceAdd, if_true, if_false, Bool.true_eq_false, Bool.false_eq_true, Bool.true_and, Bool.false_and, Bool.and_true, Bool.and_false, i_10, i_01, i_00, not_true_eq_false, not_false_eq_true, e74', hw, show decide ((-1 : Int32) < 0) = true from rfl]
  exact kk ⟨fr_up _ f (by decide), by omega, ⟨_, _, _, _, _, _, up_eq _ _ _⟩, W, by simp only [mr_up_at, Nat.reduceEqDiff, if_false]; exact e76⟩
theorem mt_bad {q : Nat} {x : Int32} (c : MF h0 h len q nn um sn uf) : mr_run 127 [.ref 74, .int x] h Q = Q (some (.int 0)) h := by
  obtain ⟨f, hq, ⟨tt, tk, pl, va, dn, dr, e74⟩, -⟩ := c
  have hw := fun Q => q_mo_isWell (Q := Q) e74
  simp only [MO] at e74
  rw [r_mo_takes]
  simp only [S_mo_takes, SEL, PF, mr_gf_O, mr_rc_O, Option.toList_some, Option.toList_none, List.cons_append, List.nil_append, b2i_0, b2i_1, b2i_a, a_00, a_11, ai_n, si_n, nI_1, q_rl_bit, mr_up_at, Nat.reduceLeDiff, Nat.reduceLT, Nat.reduceEqDiff, Nat.reduceAdd, if_true, if_false, Bool.true_eq_false, Bool.false_eq_true, Bool.true_and, Bool.false_and, Bool.and_true, Bool.and_false, i_10, i_01, i_00, not_true_eq_false, not_false_eq_true, e74, hw, decide_eq_false (nI_pos (show q < 2 ^ 31 by omega))]
theorem W_up {W : Nat → Int32} {u : Nat} {x : Int32} (hu : u < 12) (hW : ∀ u, u < 12 → W u = D u ∧ W (12 + u) = R u) : ∀ w, w < 12 → upd W u x w = upd D u x w ∧ upd W u x (12 + w) = R w := fun w hw => by
  refine ⟨?_, ?_⟩
  · by_cases e : w = u
    · rw [e, upd_at, upd_at]
    · rw [upd_ne _ _ e, upd_ne _ _ e]; exact (hW w hw).1
  · rw [upd_ne _ _ (by omega)]; exact (hW w hw).2
theorem W_up2 {W : Nat → Int32} {u : Nat} {x : Int32} (hu : u < 12) (hW : ∀ u, u < 12 → W u = D u ∧ W (12 + u) = R u) : ∀ w, w < 12 → upd W (12 + u) x w = D w ∧ upd W (12 + u) x (12 + w) = upd R u x w := fun w hw => by
  refine ⟨?_, ?_⟩
  · rw [upd_ne _ _ (by omega)]; exact (hW w hw).1
  · by_cases e : w = u
    · rw [e, upd_at, upd_at]
    · rw [upd_ne _ _ (by omega), upd_ne _ _ e]; exact (hW w hw).2
/-- n: how many nodes -/
theorem mi_n (hl : len ≤ 120) (e75 : h0.1 75 = mr_I 120 T) (ha : a ≤ len) (hb : ∀ j, j < len → ¬ T j < 0) (c : MR h0 h (lx T len) len a dn D R rk va nn um sn uf)
    (k0 : nmb (lx T len) a 1 12 = false → ∀ h2, MF h0 h2 len (tS (lx T len) a) nn um sn uf → Q none h2)
    (k1 : nmb (lx T len) a 1 12 = true → ∀ h2 va', MR h0 h2 (lx T len) len (tE (lx T len) a) (tV (lx T len) a) D R rk va' nn um sn uf → Q none h2) : mr_run 128 [.ref 74, .int 110] h Q := by
  obtain ⟨f, e74, hv, -, W, e76, hW⟩ := id c
  have hn := fun Q => q_mo_isNumber (Q := Q) (lo := 1) (hi := 12) (by decide) (by decide) tV_99 e74 hv
  have e1 : (1 : Int32) = nI 1 := rfl
  have e12 : (12 : Int32) = nI 12 := rfl
  rw [← e1, ← e12] at hn
  have e74' := e74
  simp only [MO] at e74'
  rw [r_mo_readsItem]
  simp only [S_mo_readsItem_0, S_mo_readsItem_1, S_mo_readsItem_2, SEL, PF, mr_gf_O, mr_rc_O, Option.toList_some, Option.toList_none, List.cons_append, List.nil_append, b2i_0, b2i_1, b2i_a, a_00, a_11, ai_n, si_n, nI_1, q_rl_bit, mr_up_at, Nat.reduceLeDiff, Nat.reduceLT, Nat.reduceEqDiff, Nat.reduceAdd, if_true, if_false, Bool.true_eq_false, Bool.false_eq_true, Bool.true_and, Bool.false_and, Bool.and_true, Bool.and_false, i_10, i_01, i_00, not_true_eq_false, not_false_eq_true, e74', hn]
  cases hnb : nmb (lx T len) a 1 12 with
  | false =>
    rw [b2i_f]
    refine mt_no hl ha c ?_
    intro mf
    simp only [S_mo_readsItem_0, S_mo_readsItem_1, S_mo_readsItem_2, SEL, PF, mr_gf_O, mr_rc_O, Option.toList_some, Option.toList_none, List.cons_append, List.nil_append, b2i_0, b2i_1, b2i_a, a_00, a_11, ai_n, si_n, nI_1, q_rl_bit, mr_up_at, Nat.reduceLeDiff, Nat.reduceLT, Nat.reduceEqDiff, Nat.reduceAdd, if_true, if_false, Bool.true_eq_false, Bool.false_eq_true, Bool.true_and, Bool.false_and, Bool.and_true, Bool.and_false, i_10, i_01, i_00, not_true_eq_false, not_false_eq_true, MO]
    obtain ⟨f2, hq, -, h76⟩ := mf
    exact k0 hnb _ ⟨fr_up _ f2 (by decide), hq, ⟨_, _, _, _, _, _, up_eq _ _ _⟩, by simp only [mr_up_at, Nat.reduceEqDiff, if_false] at h76 ⊢; exact h76⟩
  | true =>
    rw [b2i_t]
    refine mt_ok hl e75 ha hb c ?_
    intro h2 va' mr
    have ev := hv (nmb_yes hnb).1
    subst ev
    obtain ⟨f2, g74, hv2, hs2, W2, g76, hW2⟩ := mr
    simp only [MO] at g74
    simp only [S_mo_readsItem_0, S_mo_readsItem_1, S_mo_readsItem_2, SEL, PF, mr_gf_O, mr_rc_O, Option.toList_some, Option.toList_none, List.cons_append, List.nil_append, b2i_0, b2i_1, b2i_a, a_00, a_11, ai_n, si_n, nI_1, q_rl_bit, mr_up_at, Nat.reduceLeDiff, Nat.reduceLT, Nat.reduceEqDiff, Nat.reduceAdd, if_true, if_false, Bool.true_eq_false, Bool.false_eq_true, Bool.true_and, Bool.false_and, Bool.and_true, Bool.and_false, i_10, i_01, i_00, not_true_eq_false, not_false_eq_true, g74]
    exact k1 hnb _ va' ⟨fr_up _ f2 (by decide), up_eq _ _ _, hv2, hs2, W2, by simp only [mr_up_at, Nat.reduceEqDiff, if_false]; exact g76, hW2⟩
/-- r: the next in rank -/
theorem mi_r (hl : len ≤ 120) (e75 : h0.1 75 = mr_I 120 T) (ha : a ≤ len) (hb : ∀ j, j < len → ¬ T j < 0) (hd1 : 1 ≤ dn) (hd : dn ≤ 12) (hR : ∀ u, u < 12 → R u = -1 ∨ ∃ j, j < 100 ∧ R u = nI j) (c : MR h0 h (lx T len) len a dn D R rk va nn um sn uf)
    (k0 : (nmb (lx T len) a 0 (dn - 1) && decide (R (tV (lx T len) a) = -1)) = false → ∀ h2, MF h0 h2 len (tS (lx T len) a) nn um sn uf → Q none h2)
    (k1 : (nmb (lx T len) a 0 (dn - 1) && decide (R (tV (lx T len) a) = -1)) = true → ∀ h2 va', MR h0 h2 (lx T len) len (tE (lx T len) a) dn D (upd R (tV (lx T len) a) (nI rk)) (rk + 1) va' nn um sn uf → Q none h2) : mr_run 128 [.ref 74, .int 114] h Q := by
  obtain ⟨f, e74, hv, -, W, e76, hW⟩ := id c
  have hn := fun Q => q_mo_isNumber (Q := Q) (lo := 0) (hi := dn - 1) (by decide) (by omega) tV_99 e74 hv
  rw [nI_0] at hn
  have e74' := e74
  simp only [MO] at e74'
  have e12 : (12 : Int32) = nI 12 := rfl
  rw [r_mo_readsItem]
  simp only [S_mo_readsItem_0, S_mo_readsItem_1, S_mo_readsItem_2, SEL, PF, mr_gf_O, mr_rc_O, Option.toList_some, Option.toList_none, List.cons_append, List.nil_append, b2i_0, b2i_1, b2i_a, a_00, a_11, ai_n, si_n, nI_1, q_rl_bit, mr_up_at, Nat.reduceLeDiff, Nat.reduceLT, Nat.reduceEqDiff, Nat.reduceAdd, if_true, if_false, Bool.true_eq_false, Bool.false_eq_true, Bool.true_and, Bool.false_and, Bool.and_true, Bool.and_false, i_10, i_01, i_00, not_true_eq_false, not_false_eq_true, e74', nI_pm hd1, hn, if_pos (show ¬ (114 : Int32) = 110 by decide), if_pos (show ¬ (114 : Int32) = 101 by decide)]
  have no : (nmb (lx T len) a 0 (dn - 1) && decide (R (tV (lx T len) a) = -1)) = false → mr_run 127 [.ref 74, .int 0] h (fun v h' => mr_wp 128 162 [.ref 74, .int 114, .null, .null] (v.toList ++ []) h' Q) := fun hk => by
    refine mt_no hl ha c ?_
    intro mf
    obtain ⟨f2, hq, ⟨tt, tk, pl, va2, dn2, dr2, g74⟩, h76⟩ := id mf
    have hw := fun Q => q_mo_isWell (Q := Q) g74
    simp only [MO] at g74 hw
    simp only [S_mo_readsItem_0, S_mo_readsItem_1, S_mo_readsItem_2, SEL, PF, mr_gf_O, mr_rc_O, Option.toList_some, Option.toList_none, List.cons_append, List.nil_append, b2i_0, b2i_1, b2i_a, a_00, a_11, ai_n, si_n, nI_1, q_rl_bit, mr_up_at, Nat.reduceLeDiff, Nat.reduceLT, Nat.reduceEqDiff, Nat.reduceAdd, if_true, if_false, Bool.true_eq_false, Bool.false_eq_true, Bool.true_and, Bool.false_and, Bool.and_true, Bool.and_false, i_10, i_01, i_00, not_true_eq_false, not_false_eq_true, MO, hw, decide_eq_false (nI_pos (show tS (lx T len) a < 2 ^ 31 by omega))]
    have := k0 hk _ mf
    simp only [MO] at this
    exact this
  cases hnb : nmb (lx T len) a 0 (dn - 1) with
  | false =>
    simp only [S_mo_readsItem_0, S_mo_readsItem_1, S_mo_readsItem_2, SEL, PF, mr_gf_O, mr_rc_O, Option.toList_some, Option.toList_none, List.cons_append, List.nil_append, b2i_0, b2i_1, b2i_a, a_00, a_11, ai_n, si_n, nI_1, q_rl_bit, mr_up_at, Nat.reduceLeDiff, Nat.reduceLT, Nat.reduceEqDiff, Nat.reduceAdd, if_true, if_false, Bool.true_eq_false, Bool.false_eq_true, Bool.true_and, Bool.false_and, Bool.and_true, Bool.and_false, i_10, i_01, i_00, not_true_eq_false, not_false_eq_true]
    exact no (by rw [hnb]; rfl)
  | true =>
    have hy := nmb_yes hnb
    have ev := hv hy.1
    subst ev
    have hv12 : tV (lx T len) a < 12 := by omega
    simp only [S_mo_readsItem_0, S_mo_readsItem_1, S_mo_readsItem_2, SEL, PF, mr_gf_O, mr_rc_O, Option.toList_some, Option.toList_none, List.cons_append, List.nil_append, b2i_0, b2i_1, b2i_a, a_00, a_11, ai_n, si_n, nI_1, q_rl_bit, mr_up_at, Nat.reduceLeDiff, Nat.reduceLT, Nat.reduceEqDiff, Nat.reduceAdd, if_true, if_false, Bool.true_eq_false, Bool.false_eq_true, Bool.true_and, Bool.false_and, Bool.and_true, Bool.and_false, i_10, i_01, i_00, not_true_eq_false, not_false_eq_true, e74', e76, e12, nI_add, show 12 + tV (lx T len) a < 24 by omega, (hW _ hv12).2]
    by_cases c1 : R (tV (lx T len) a) = -1
    · have hk : (nmb (lx T len) a 0 (dn - 1) && decide (R (tV (lx T len) a) = -1)) = true := by rw [hnb, decide_eq_true c1]; rfl
      simp only [c1, if_neg (show ¬ (0 : Int32) ≤ -1 by decide), S_mo_readsItem_0, S_mo_readsItem_1, S_mo_readsItem_2, SEL, PF, mr_gf_O, mr_rc_O, Option.toList_some, Option.toList_none, List.cons_append, List.nil_append, b2i_0, b2i_1, b2i_a, a_00, a_11, ai_n, si_n, nI_1, q_rl_bit, mr_up_at, Nat.reduceLeDiff, Nat.reduceLT, Nat.reduceEqDiff, Nat.reduceAdd, if_true, if_false, Bool.true_eq_false, Bool.false_eq_true, Bool.true_and, Bool.false_and, Bool.and_true, Bool.and_false, i_10, i_01, i_00, not_true_eq_false, not_false_eq_true]
      refine mt_ok hl e75 ha hb c ?_
      intro h2 va' mr
      obtain ⟨f2, g74, hv2, hs2, W2, g76, hW2⟩ := mr
      have hw := fun Q => q_mo_isWell (Q := Q) g74
      simp only [MO] at g74
      simp only [S_mo_readsItem_0, S_mo_readsItem_1, S_mo_readsItem_2, SEL, PF, mr_gf_O, mr_rc_O, Option.toList_some, Option.toList_none, List.cons_append, List.nil_append, b2i_0, b2i_1, b2i_a, a_00, a_11, ai_n, si_n, nI_1, q_rl_bit, mr_up_at, Nat.reduceLeDiff, Nat.reduceLT, Nat.reduceEqDiff, Nat.reduceAdd, if_true, if_false, Bool.true_eq_false, Bool.false_eq_true, Bool.true_and, Bool.false_and, Bool.and_true, Bool.and_false, i_10, i_01, i_00, not_true_eq_false, not_false_eq_true, hw, show decide ((-1 : Int32) < 0) = true from rfl, g74, g76, e12, nI_add, show 12 + tV (lx T len) a < 24 by omega]
      exact k1 hk _ va' ⟨fr_up _ (fr_up _ f2 (by decide)) (by decide), up_eq _ _ _, hv2, hs2, _, by simp only [mr_up_at, Nat.reduceEqDiff, if_false, if_true], W_up2 hv12 hW2⟩
    · obtain ⟨j, hj, ej⟩ := (hR _ hv12).resolve_left c1
      simp only [ej, if_pos (show (0 : Int32) ≤ nI j from nI_pos' (by omega)), S_mo_readsItem_0, S_mo_readsItem_1, S_mo_readsItem_2, SEL, PF, mr_gf_O, mr_rc_O, Option.toList_some, Option.toList_none, List.cons_append, List.nil_append, b2i_0, b2i_1, b2i_a, a_00, a_11, ai_n, si_n, nI_1, q_rl_bit, mr_up_at, Nat.reduceLeDiff, Nat.reduceLT, Nat.reduceEqDiff, Nat.reduceAdd, if_true, if_false, Bool.true_eq_false, Bool.false_eq_true, Bool.true_and, Bool.false_and, Bool.and_true, Bool.and_false, i_10, i_01, i_00, not_true_eq_false, not_false_eq_true]
      exact no (by rw [hnb, decide_eq_false c1]; rfl)
end MPARSE
