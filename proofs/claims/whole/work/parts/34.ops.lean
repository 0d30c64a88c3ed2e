/-! simple calls -/
theorem Inv_keep {h h2 : mr_h} {L : List Nat} {n len us m : Nat} {E K : Nat → Int32} (gs : gS h) (gn : gN h E K n) (gt : gT h len) (gv : gV h n m) (gp : gP h n us) (ga : gA h n) (f : mr_fr h h2 L) (hL : ∀ a ∈ L, a = 74 ∨ a ∈ SLs) (hsh : ∀ k, k ∈ L → k ∈ SLs → shp k (h2.1 k)) (gm : gM h2 len n us m) : Inv h2 := by
  have out : ∀ a, a ≠ 74 → a ∉ SLs → a ∉ L := fun a h1 h2 h3 => (hL a h3).elim h1 h2
  refine ⟨n, len, us, m, E, K, gS_fr gs f hsh, gN_fr gn f ?_, gT_fr gt f ?_, gV_fr gv f ?_, gP_fr gp f ?_, gA_fr ga f ?_, gm⟩
  · exact fun a ha => out a (by revert a; decide) (by revert a; decide)
  · exact fun a ha => out a (by revert a; decide) (by revert a; decide)
  · exact fun a ha => out a (by revert a; decide) (by revert a; decide)
  · intro a ha
    rcases hL a ha with z | z
    · omega
    · clear ha; revert a; decide
  · intro a ha
    rcases hL a ha with z | z
    · omega
    · clear ha; revert a; decide
def inN (u : Int32) (n : Nat) : Bool := decide (¬ u < 0 ∧ ¬ nI n ≤ u)
theorem inN_yes {u : Int32} {n : Nat} (hn : n ≤ 12) (h : inN u n = true) : ∃ k, k < n ∧ u = nI k := by
  unfold inN at h
  simp only [decide_eq_true_eq] at h
  obtain ⟨j, h1, rfl⟩ := nI_of h.1
  refine ⟨j, ?_, rfl⟩
  rcases Nat.lt_or_ge j n with z | z
  · exact z
  · exact absurd (nI_le z (by omega)) h.2
theorem inN_nI {k n : Nat} (hn : n ≤ 12) (hk : k < n) : inN (nI k) n = true := by
  unfold inN
  simp only [decide_eq_true_eq]
  exact ⟨nI_pos (by omega), nI_ge hk (by omega)⟩
theorem inN_eq {u : Int32} {n : Nat} (hn : n ≤ 12) (h1 : 1 ≤ n) : decide (¬ u < 0 ∧ ¬ nI n - 1 < u) = inN u n := by
  unfold inN
  have e : nI n - 1 = nI (n - 1) := by
    have := nI_pred (n - 1)
    rwa [show n - 1 + 1 = n by omega] at this
  rw [e]
  congr 1
  apply propext
  constructor
  · rintro ⟨a, b⟩
    refine ⟨a, fun z => b ?_⟩
    rw [fa_lt, nI_toInt (by omega)]
    rw [fa_le, nI_toInt (by omega)] at z
    omega
  · rintro ⟨a, b⟩
    refine ⟨a, fun z => b ?_⟩
    rw [fa_lt, nI_toInt (by omega)] at z
    rw [fa_le, nI_toInt (by omega)]
    omega
section OPS
variable {h : mr_h} {Q : Option Value → mr_h → Prop} {n : Nat}
theorem q_rl_isNode (e0 : h.1 0 = RLO) (e1 : h.1 1 = NE 1 n) (u : Int32) : mr_run 44 [.ref 0, .int u] h Q = Q (some (.int (b2i (inN u n)))) h := by
  rw [r_rl_isNode]
  simp only [S_rl_isNode, e0, RLO, e1, NE, SEL, PF, mr_gf_O, mr_rc_O, Option.toList_some, Option.toList_none, List.cons_append, List.nil_append, b2i_0, b2i_1, b2i_a, a_00, a_11, ai_n, si_n, nI_1, q_rl_bit, mr_up_at, Nat.reduceLeDiff, Nat.reduceLT, Nat.reduceEqDiff, Nat.reduceAdd, if_true, if_false]
  unfold inN
  by_cases h1 : u < 0
  · simp [h1, b2i]
  · by_cases h2 : nI n ≤ u <;> simp [h1, h2, b2i]
theorem q_rl_areNodes (e0 : h.1 0 = RLO) (e1 : h.1 1 = NE 1 n) (u v : Int32) : mr_run 47 [.ref 0, .int u, .int v] h Q = Q (some (.int (b2i (inN u n && inN v n)))) h := by
  rw [r_rl_areNodes]
  simp only [S_rl_areNodes, e0, RLO, SEL, PF, mr_gf_O, mr_rc_O, Option.toList_some, Option.toList_none, List.cons_append, List.nil_append, b2i_0, b2i_1, b2i_a, a_00, a_11, ai_n, si_n, nI_1, q_rl_bit, mr_up_at, Nat.reduceLeDiff, Nat.reduceLT, Nat.reduceEqDiff, Nat.reduceAdd, if_true, if_false, q_rl_isNode e0 e1]
  cases inN u n <;> cases inN v n <;> simp [b2i]
theorem q_rl_areTwoNodes (e0 : h.1 0 = RLO) (e1 : h.1 1 = NE 1 n) (u v : Int32) : mr_run 46 [.ref 0, .int u, .int v] h Q = Q (some (.int (b2i (inN u n && inN v n && !decide (u = v))))) h := by
  rw [r_rl_areTwoNodes]
  simp only [S_rl_areTwoNodes, e0, RLO, SEL, PF, mr_gf_O, mr_rc_O, Option.toList_some, Option.toList_none, List.cons_append, List.nil_append, b2i_0, b2i_1, b2i_a, a_00, a_11, ai_n, si_n, nI_1, q_rl_bit, mr_up_at, Nat.reduceLeDiff, Nat.reduceLT, Nat.reduceEqDiff, Nat.reduceAdd, if_true, if_false, q_rl_areNodes e0 e1]
  cases inN u n <;> cases inN v n <;> by_cases e : u = v <;> simp [b2i, e]
theorem q_mo_isNode (hn : n ≤ 12) (h1 : 1 ≤ n) (hm : MN h n) (u : Int32) : mr_run 132 [.ref 74, .int u] h Q = Q (some (.int (b2i (inN u n)))) h := by
  obtain ⟨th, ty, tt, tk, pl, va, fa, dn, dr, um, sn, uf, e74⟩ := hm
  rw [r_mo_isNode]
  simp only [S_mo_isNode, e74, MO, SEL, PF, mr_gf_O, mr_rc_O, Option.toList_some, Option.toList_none, List.cons_append, List.nil_append, b2i_0, b2i_1, b2i_a, a_00, a_11, ai_n, si_n, nI_1, q_rl_bit, mr_up_at, Nat.reduceLeDiff, Nat.reduceLT, Nat.reduceEqDiff, Nat.reduceAdd, if_true, if_false, q_mo_in, inN_eq hn h1]
theorem q_mo_isTwo (hn : n ≤ 12) (h1 : 1 ≤ n) (hm : MN h n) (u v : Int32) : mr_run 144 [.ref 74, .int u, .int v] h Q = Q (some (.int (b2i (inN u n && inN v n && !decide (u = v))))) h := by
  obtain ⟨th, ty, tt, tk, pl, va, fa, dn, dr, um, sn, uf, e74⟩ := id hm
  rw [r_mo_isTwo]
  simp only [S_mo_isTwo, e74, MO, SEL, PF, mr_gf_O, mr_rc_O, Option.toList_some, Option.toList_none, List.cons_append, List.nil_append, b2i_0, b2i_1, b2i_a, a_00, a_11, ai_n, si_n, nI_1, q_rl_bit, mr_up_at, Nat.reduceLeDiff, Nat.reduceLT, Nat.reduceEqDiff, Nat.reduceAdd, if_true, if_false, q_mo_isNode hn h1 hm]
  cases inN u n <;> cases inN v n <;> by_cases e : u = v <;> simp [b2i, e]
theorem q_ne_has {a u v : Nat} {E : Nat → Int32} (ea : h.1 a = NE a n) (eb : h.1 (a + 1) = mr_I 12 E) (hu : u < 12) (hv : v < 32) : mr_run 38 [.ref a, .int (nI u), .int (nI v)] h Q = Q (some (.int (b2i (bt (E u) v)))) h := by
  rw [r_ne_has]
  simp only [S_ne_has, ea, NE, eb, SEL, PF, mr_gf_O, mr_rc_O, Option.toList_some, Option.toList_none, List.cons_append, List.nil_append, b2i_0, b2i_1, b2i_a, a_00, a_11, ai_n, si_n, nI_1, q_rl_bit, mr_up_at, Nat.reduceLeDiff, Nat.reduceLT, Nat.reduceEqDiff, Nat.reduceAdd, if_true, if_false, hu, q_rl_holds hv]
theorem b_clear (hi : Inv h) : Both 28 122 [] h := by
  obtain ⟨n, len, us, m, E, K, gs, gn, gt, gv, gp, ga, gm⟩ := hi
  obtain ⟨h0, ⟨a, b, c, d, e, e7⟩, T, T2, e8, e75, hT⟩ := id gt
  obtain ⟨th, tt, tk, pl, va, fa, dn, dr, uf, e74⟩ := id gm
  have e0 := gS_0 gs
  unfold Both
  rw [r_rl_clear]
  simp only [S_rl_clear, e0, RLO, e7, SC, SEL, PF, mr_gf_O, mr_rc_O, Option.toList_some, Option.toList_none, List.cons_append, List.nil_append, b2i_0, b2i_1, b2i_a, a_00, a_11, ai_n, si_n, nI_1, q_rl_bit, mr_up_at, Nat.reduceLeDiff, Nat.reduceLT, Nat.reduceEqDiff, Nat.reduceAdd, if_true, if_false]
  rw [r_mo_clear]
  simp only [S_mo_clear, mr_up_at, e74, MO, SEL, PF, mr_gf_O, mr_rc_O, Option.toList_some, Option.toList_none, List.cons_append, List.nil_append, b2i_0, b2i_1, b2i_a, a_00, a_11, ai_n, si_n, nI_1, q_rl_bit, mr_up_at, Nat.reduceLeDiff, Nat.reduceLT, Nat.reduceEqDiff, Nat.reduceAdd, if_true, if_false]
  refine ⟨⟨_, rfl, rfl⟩, ?_, rfl⟩
  have f : mr_fr h (mr_up (mr_up (mr_up h 7 (SC 0 a b c d e)) 74 (MO 0 (nI len) tt tk pl va fa (nI n) dn dr (nI us) (nI m) uf)) 74 (MO 0 (nI 0) tt tk pl va fa (nI n) dn dr (nI us) (nI m) uf)) [7, 74] := fr_up _ (fr_up _ (fr_up _ (fr_rf _ _) (by decide)) (by decide)) (by decide)
  refine ⟨n, 0, us, m, E, K, gS_off gs f (by decide), gN_fr gn f (by decide), ?_, gV_fr gv f (by decide), gP_fr gp f (by decide), gA_fr ga f (by decide), ?_⟩
  · refine ⟨by omega, ⟨a, b, c, d, e, ?_⟩, T, T2, fr_at f (by decide) e8, fr_at f (by decide) e75, fun j hj => absurd hj (Nat.not_lt_zero j)⟩
    simp only [mr_up_at]
    rfl
  · exact ⟨_, _, _, _, _, _, _, _, _, up_eq _ _ _⟩
end OPS
