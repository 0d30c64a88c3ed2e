/-! constructors: what they leave behind -/
/-- cells below b but a are as they were; k cells more, s slots more -/
def mg (h h2 : mr_h) (a b k s : Nat) : Prop := h2.2.1 = b + k ∧ h2.2.2.1 = h.2.2.1 + s ∧ h2.2.2.2 = h.2.2.2 ∧ ∀ x, x < b → x ≠ a → h2.1 x = h.1 x
/-- a new Net -/
def fnet (h : mr_h) (a : Nat) : Prop := h.1 a = NE a 4 ∧ ∃ D R : Nat → Int32, h.1 (a + 1) = mr_I 12 D ∧ h.1 (a + 2) = mr_I 12 R ∧ (∀ u, u < 12 → D u = 0) ∧ ∀ u, u < 4 → R u = nI u
theorem fnet_shp {h : mr_h} {a : Nat} (f : fnet h a) : nshp h a := by
  obtain ⟨e, D, R, e1, e2, -⟩ := f
  exact ⟨_, D, R, e, e1, e2⟩
theorem a_11' (a : Nat) : a + 1 + 1 = a + 2 := rfl
theorem rkv_0 {R : Nat → Int32} (hR : ∀ u, u < 12 → R u = -1) {u : Nat} (hu : u < 12) : rkv R 0 u = nI u := by
  unfold rkv
  rw [if_pos (hR u hu), Nat.zero_add, fb_ct_all.mpr (fun k hk => decide_eq_true (hR k (by omega)))]
section INITS
variable {h : mr_h} {Q : Option Value → mr_h → Prop}
theorem q_ne_init {a : Nat} (ea : h.1 a = mr_O 3 (mr_dfs 3)) (hc : h.2.1 = a + 1) (kk : ∀ h2, mg h h2 a (a + 1) 2 24 → fnet h2 a → Q none h2) : mr_run 1 [.ref a] h Q := by
  have i1 : ¬ a = a + 1 := by omega
  have i2 : ¬ a = a + 2 := by omega
  have i3 : ¬ a + 1 = a := by omega
  have i4 : ¬ a + 2 = a := by omega
  have i5 : ¬ a + 1 = a + 2 := by omega
  rw [df_3] at ea
  rw [r_ne_init]
  simp only [S_ne_init, SEL, PF, mr_gf_O, mr_rc_O, Option.toList_some, Option.toList_none, List.cons_append, List.nil_append, b2i_0, b2i_1, b2i_a, a_00, a_11, ai_n, si_n, nI_1, q_rl_bit, mr_up_at, Nat.reduceLeDiff, Nat.reduceLT, Nat.reduceEqDiff, Nat.reduceAdd, if_true, if_false, Bool.true_eq_false, Bool.false_eq_true, Bool.true_and, Bool.false_and, Bool.and_true, Bool.and_false, i_10, i_01, i_00, not_true_eq_false, not_false_eq_true, PFI, ad_at, ad_n, mr_up_2, hc, ea, i1, i2, a_11']
  generalize hh : mr_up (mr_add (mr_up (mr_add h 12 _) a _) 12 _) a _ = h1
  have g1 : h1.1 a = mr_O 3 [.int 0, .ref (a + 1), .ref (a + 2)] := by rw [← hh]; exact up_eq _ _ _
  have g2 : h1.1 (a + 1) = mr_I 12 (fun _ => 0) := by rw [← hh]; simp only [mr_up_at, ad_at, mr_up_2, ad_n, hc, a_11', i3, i5, if_true, if_false]
  have g3 : h1.1 (a + 2) = mr_I 12 (fun _ => 0) := by rw [← hh]; simp only [mr_up_at, ad_at, mr_up_2, ad_n, hc, a_11', i4, if_true, if_false]
  have gm : mg h h1 a (a + 1) 2 24 := by
    refine ⟨?_, ?_, ?_, fun x hx hne => ?_⟩
    · rw [← hh]; simp only [mr_up_2, ad_n, hc]
    · rw [← hh]; simp only [mr_up_2, ad_s]
    · rw [← hh]; rfl
    · rw [← hh]; simp only [mr_up_at, ad_at, mr_up_2, ad_n, hc, a_11', show ¬ x = a from hne, show ¬ x = a + 2 by omega, show ¬ x = a + 1 by omega, if_false]
  refine q_ne_startAnew g1 g2 g3 ?_
  intro h2 D R f2 k1 k2 k3 hz
  have k1' := k1
  simp only [NE] at k1'
  simp only [S_ne_init, SEL, PF, mr_gf_O, mr_rc_O, Option.toList_some, Option.toList_none, List.cons_append, List.nil_append, b2i_0, b2i_1, b2i_a, a_00, a_11, ai_n, si_n, nI_1, q_rl_bit, mr_up_at, Nat.reduceLeDiff, Nat.reduceLT, Nat.reduceEqDiff, Nat.reduceAdd, if_true, if_false, Bool.true_eq_false, Bool.false_eq_true, Bool.true_and, Bool.false_and, Bool.and_true, Bool.and_false, i_10, i_01, i_00, not_true_eq_false, not_false_eq_true, k1']
  refine q_ne_rankRest (a := a) (n := 4) (rk := 0) (by decide) k1 k3 ?_
  intro h3 K f3 m3 hK _
  simp only [S_ne_init, SEL, PF, mr_gf_O, mr_rc_O, Option.toList_some, Option.toList_none, List.cons_append, List.nil_append, b2i_0, b2i_1, b2i_a, a_00, a_11, ai_n, si_n, nI_1, q_rl_bit, mr_up_at, Nat.reduceLeDiff, Nat.reduceLT, Nat.reduceEqDiff, Nat.reduceAdd, if_true, if_false, Bool.true_eq_false, Bool.false_eq_true, Bool.true_and, Bool.false_and, Bool.and_true, Bool.and_false, i_10, i_01, i_00, not_true_eq_false, not_false_eq_true]
  have e2 : h3.2 = h1.2 := f3.1.trans f2.1
  refine kk h3 ⟨by rw [e2]; exact gm.1, by rw [e2]; exact gm.2.1, by rw [e2]; exact gm.2.2.1, fun x hx hne => ?_⟩ ⟨fr_at f3 (by simp) k1, D, K, fr_at f3 (by simp) k2, m3, fun u hu => (hz u hu).1, fun u hu => ?_⟩
  · rw [f3.2 x (by simp; omega), f2.2 x (by simp; omega)]
    exact gm.2.2.2 x hx hne
  · rw [hK u hu, rkv_0 (fun u hu => (hz u hu).2) (by omega)]
theorem q_sc_init (ea : h.1 7 = mr_O 7 (mr_dfs 7)) (hc : h.2.1 = 8) (kk : ∀ h2, mg h h2 7 8 1 120 → h2.1 7 = mr_O 7 [.int 0, .ref 8, .int 0, .int 0, .int (-2), .int 0, .int 0] → h2.1 8 = mr_I 120 (fun _ => 0) → Q none h2) : mr_run 5 [.ref 7] h Q := by
  rw [df_7] at ea
  rw [r_sc_init]
  simp only [S_sc_init, SEL, PF, mr_gf_O, mr_rc_O, Option.toList_some, Option.toList_none, List.cons_append, List.nil_append, b2i_0, b2i_1, b2i_a, a_00, a_11, ai_n, si_n, nI_1, q_rl_bit, mr_up_at, Nat.reduceLeDiff, Nat.reduceLT, Nat.reduceEqDiff, Nat.reduceAdd, if_true, if_false, Bool.true_eq_false, Bool.false_eq_true, Bool.true_and, Bool.false_and, Bool.and_true, Bool.and_false, i_10, i_01, i_00, not_true_eq_false, not_false_eq_true, PFI, ad_at, ad_n, mr_up_2, hc, ea]
  refine kk _ ⟨?_, ?_, ?_, fun x hx hne => ?_⟩ ?_ ?_
  · simp only [mr_up_2, ad_n, hc]
  · simp only [mr_up_2, ad_s]
  · rfl
  · simp only [mr_up_at, ad_at, mr_up_2, ad_n, hc, Nat.reduceAdd, show ¬ x = 7 from hne, show ¬ x = 8 by omega, if_false]
  · simp only [mr_up_at, ad_at, mr_up_2, ad_n, hc, Nat.reduceAdd, Nat.reduceEqDiff, if_true, if_false]
  · simp only [mr_up_at, ad_at, mr_up_2, ad_n, hc, Nat.reduceAdd, Nat.reduceEqDiff, if_true, if_false]
theorem q_re_init (ea : h.1 9 = mr_O 6 (mr_dfs 6)) (hc : h.2.1 = 10) (kk : ∀ h2, mg h h2 9 10 8 96 → h2.1 9 = mr_O 6 [.ref 10, .ref 11, .ref 12, .ref 13, .ref 14, .ref 15, .ref 16, .ref 17, .int 0, .int 0] → h2.1 10 = mr_I 12 (fun _ => 0) → h2.1 11 = mr_I 12 (fun _ => 0) → h2.1 12 = mr_I 12 (fun _ => 0) → h2.1 13 = mr_I 12 (fun _ => 0) → h2.1 14 = mr_I 12 (fun _ => 0) → h2.1 15 = mr_I 12 (fun _ => 0) → h2.1 16 = mr_I 12 (fun _ => 0) → h2.1 17 = mr_I 12 (fun _ => 0) → Q none h2) : mr_run 6 [.ref 9] h Q := by
  rw [df_6] at ea
  rw [r_re_init]
  simp only [S_re_init_0, S_re_init_1, SEL, PF, mr_gf_O, mr_rc_O, Option.toList_some, Option.toList_none, List.cons_append, List.nil_append, b2i_0, b2i_1, b2i_a, a_00, a_11, ai_n, si_n, nI_1, q_rl_bit, mr_up_at, Nat.reduceLeDiff, Nat.reduceLT, Nat.reduceEqDiff, Nat.reduceAdd, if_true, if_false, Bool.true_eq_false, Bool.false_eq_true, Bool.true_and, Bool.false_and, Bool.and_true, Bool.and_false, i_10, i_01, i_00, not_true_eq_false, not_false_eq_true, PFI, ad_at, ad_n, mr_up_2, hc, ea]
  refine kk _ ⟨?_, ?_, ?_, fun x hx hne => ?_⟩ ?_ ?_ ?_ ?_ ?_ ?_ ?_ ?_ ?_
  · simp only [mr_up_2, ad_n, hc]
  · simp only [mr_up_2, ad_s]
  · rfl
  · simp only [mr_up_at, ad_at, mr_up_2, ad_n, hc, Nat.reduceAdd, show ¬ x = 9 from hne, show ¬ x = 10 by omega, show ¬ x = 11 by omega, show ¬ x = 12 by omega, show ¬ x = 13 by omega, show ¬ x = 14 by omega, show ¬ x = 15 by omega, show ¬ x = 16 by omega, show ¬ x = 17 by omega, if_false]
  · simp only [mr_up_at, ad_at, mr_up_2, ad_n, hc, Nat.reduceAdd, Nat.reduceEqDiff, if_true, if_false]
  · simp only [mr_up_at, ad_at, mr_up_2, ad_n, hc, Nat.reduceAdd, Nat.reduceEqDiff, if_true, if_false]
  · simp only [mr_up_at, ad_at, mr_up_2, ad_n, hc, Nat.reduceAdd, Nat.reduceEqDiff, if_true, if_false]
  · simp only [mr_up_at, ad_at, mr_up_2, ad_n, hc, Nat.reduceAdd, Nat.reduceEqDiff, if_true, if_false]
  · simp only [mr_up_at, ad_at, mr_up_2, ad_n, hc, Nat.reduceAdd, Nat.reduceEqDiff, if_true, if_false]
  · simp only [mr_up_at, ad_at, mr_up_2, ad_n, hc, Nat.reduceAdd, Nat.reduceEqDiff, if_true, if_false]
  · simp only [mr_up_at, ad_at, mr_up_2, ad_n, hc, Nat.reduceAdd, Nat.reduceEqDiff, if_true, if_false]
  · simp only [mr_up_at, ad_at, mr_up_2, ad_n, hc, Nat.reduceAdd, Nat.reduceEqDiff, if_true, if_false]
  · simp only [mr_up_at, ad_at, mr_up_2, ad_n, hc, Nat.reduceAdd, Nat.reduceEqDiff, if_true, if_false]
theorem q_ra_init (ea : h.1 18 = mr_O 5 (mr_dfs 5)) (hc : h.2.1 = 19) (kk : ∀ h2, mg h h2 18 19 1 12 → h2.1 18 = mr_O 5 [.ref 19] → h2.1 19 = mr_I 12 (fun _ => 0) → Q none h2) : mr_run 7 [.ref 18] h Q := by
  rw [df_5] at ea
  rw [r_ra_init]
  simp only [S_ra_init, SEL, PF, mr_gf_O, mr_rc_O, Option.toList_some, Option.toList_none, List.cons_append, List.nil_append, b2i_0, b2i_1, b2i_a, a_00, a_11, ai_n, si_n, nI_1, q_rl_bit, mr_up_at, Nat.reduceLeDiff, Nat.reduceLT, Nat.reduceEqDiff, Nat.reduceAdd, if_true, if_false, Bool.true_eq_false, Bool.false_eq_true, Bool.true_and, Bool.false_and, Bool.and_true, Bool.and_false, i_10, i_01, i_00, not_true_eq_false, not_false_eq_true, PFI, ad_at, ad_n, mr_up_2, hc, ea]
  refine kk _ ⟨?_, ?_, ?_, fun x hx hne => ?_⟩ ?_ ?_
  · simp only [mr_up_2, ad_n, hc]
  · simp only [mr_up_2, ad_s]
  · rfl
  · simp only [mr_up_at, ad_at, mr_up_2, ad_n, hc, Nat.reduceAdd, show ¬ x = 18 from hne, show ¬ x = 19 by omega, if_false]
  · simp only [mr_up_at, ad_at, mr_up_2, ad_n, hc, Nat.reduceAdd, Nat.reduceEqDiff, if_true, if_false]
  · simp only [mr_up_at, ad_at, mr_up_2, ad_n, hc, Nat.reduceAdd, Nat.reduceEqDiff, if_true, if_false]
theorem q_wa_init (ea : h.1 20 = mr_O 9 (mr_dfs 9)) (hc : h.2.1 = 21) (kk : ∀ h2, mg h h2 20 21 1 12 → h2.1 20 = mr_O 9 [.ref 21] → h2.1 21 = mr_I 12 (fun _ => 0) → Q none h2) : mr_run 8 [.ref 20] h Q := by
  rw [df_9] at ea
  rw [r_wa_init]
  simp only [S_wa_init, SEL, PF, mr_gf_O, mr_rc_O, Option.toList_some, Option.toList_none, List.cons_append, List.nil_append, b2i_0, b2i_1, b2i_a, a_00, a_11, ai_n, si_n, nI_1, q_rl_bit, mr_up_at, Nat.reduceLeDiff, Nat.reduceLT, Nat.reduceEqDiff, Nat.reduceAdd, if_true, if_false, Bool.true_eq_false, Bool.false_eq_true, Bool.true_and, Bool.false_and, Bool.and_true, Bool.and_false, i_10, i_01, i_00, not_true_eq_false, not_false_eq_true, PFI, ad_at, ad_n, mr_up_2, hc, ea]
  refine kk _ ⟨?_, ?_, ?_, fun x hx hne => ?_⟩ ?_ ?_
  · simp only [mr_up_2, ad_n, hc]
  · simp only [mr_up_2, ad_s]
  · rfl
  · simp only [mr_up_at, ad_at, mr_up_2, ad_n, hc, Nat.reduceAdd, show ¬ x = 20 from hne, show ¬ x = 21 by omega, if_false]
  · simp only [mr_up_at, ad_at, mr_up_2, ad_n, hc, Nat.reduceAdd, Nat.reduceEqDiff, if_true, if_false]
  · simp only [mr_up_at, ad_at, mr_up_2, ad_n, hc, Nat.reduceAdd, Nat.reduceEqDiff, if_true, if_false]
theorem q_cg_init (ea : h.1 22 = mr_O 2 (mr_dfs 2)) (hc : h.2.1 = 23) (kk : ∀ h2, mg h h2 22 23 1 12 → h2.1 22 = mr_O 2 [.ref 23] → h2.1 23 = mr_I 12 (fun _ => 0) → Q none h2) : mr_run 9 [.ref 22] h Q := by
  rw [df_2] at ea
  rw [r_cg_init]
  simp only [S_cg_init, SEL, PF, mr_gf_O, mr_rc_O, Option.toList_some, Option.toList_none, List.cons_append, List.nil_append, b2i_0, b2i_1, b2i_a, a_00, a_11, ai_n, si_n, nI_1, q_rl_bit, mr_up_at, Nat.reduceLeDiff, Nat.reduceLT, Nat.reduceEqDiff, Nat.reduceAdd, if_true, if_false, Bool.true_eq_false, Bool.false_eq_true, Bool.true_and, Bool.false_and, Bool.and_true, Bool.and_false, i_10, i_01, i_00, not_true_eq_false, not_false_eq_true, PFI, ad_at, ad_n, mr_up_2, hc, ea]
  refine kk _ ⟨?_, ?_, ?_, fun x hx hne => ?_⟩ ?_ ?_
  · simp only [mr_up_2, ad_n, hc]
  · simp only [mr_up_2, ad_s]
  · rfl
  · simp only [mr_up_at, ad_at, mr_up_2, ad_n, hc, Nat.reduceAdd, show ¬ x = 22 from hne, show ¬ x = 23 by omega, if_false]
  · simp only [mr_up_at, ad_at, mr_up_2, ad_n, hc, Nat.reduceAdd, Nat.reduceEqDiff, if_true, if_false]
  · simp only [mr_up_at, ad_at, mr_up_2, ad_n, hc, Nat.reduceAdd, Nat.reduceEqDiff, if_true, if_false]
theorem q_ch_init (ea : h.1 24 = mr_O 1 (mr_dfs 1)) (hc : h.2.1 = 25) (kk : ∀ h2, mg h h2 24 25 3 28 → h2.1 24 = mr_O 1 [.long 0, .long 1, .ref 25, .ref 26, .ref 27, .int 0] → h2.1 25 = mr_I 9 (fun _ => 0) → h2.1 26 = mr_I 9 (fun _ => 0) → h2.1 27 = mr_J 10 (fun _ => 0) → Q none h2) : mr_run 10 [.ref 24] h Q := by
  rw [df_1] at ea
  rw [r_ch_init]
  simp only [S_ch_init, SEL, PF, mr_gf_O, mr_rc_O, Option.toList_some, Option.toList_none, List.cons_append, List.nil_append, b2i_0, b2i_1, b2i_a, a_00, a_11, ai_n, si_n, nI_1, q_rl_bit, mr_up_at, Nat.reduceLeDiff, Nat.reduceLT, Nat.reduceEqDiff, Nat.reduceAdd, if_true, if_false, Bool.true_eq_false, Bool.false_eq_true, Bool.true_and, Bool.false_and, Bool.and_true, Bool.and_false, i_10, i_01, i_00, not_true_eq_false, not_false_eq_true, PFI, ad_at, ad_n, mr_up_2, hc, ea]
  refine kk _ ⟨?_, ?_, ?_, fun x hx hne => ?_⟩ ?_ ?_ ?_ ?_
  · simp only [mr_up_2, ad_n, hc]
  · simp only [mr_up_2, ad_s]
  · rfl
  · simp only [mr_up_at, ad_at, mr_up_2, ad_n, hc, Nat.reduceAdd, show ¬ x = 24 from hne, show ¬ x = 25 by omega, show ¬ x = 26 by omega, show ¬ x = 27 by omega, if_false]
  · simp only [mr_up_at, ad_at, mr_up_2, ad_n, hc, Nat.reduceAdd, Nat.reduceEqDiff, if_true, if_false]
  · simp only [mr_up_at, ad_at, mr_up_2, ad_n, hc, Nat.reduceAdd, Nat.reduceEqDiff, if_true, if_false]
  · simp only [mr_up_at, ad_at, mr_up_2, ad_n, hc, Nat.reduceAdd, Nat.reduceEqDiff, if_true, if_false]
  · simp only [mr_up_at, ad_at, mr_up_2, ad_n, hc, Nat.reduceAdd, Nat.reduceEqDiff, if_true, if_false]
theorem q_si_init (ea : h.1 28 = mr_O 8 (mr_dfs 8)) (hc : h.2.1 = 29) (kk : ∀ h2, mg h h2 28 29 4 30 → h2.1 28 = mr_O 8 [.int 0, .ref 29, .ref 30, .ref 31, .ref 32, .int 0] → h2.1 29 = mr_I 6 (fun _ => 0) → h2.1 30 = mr_I 6 (fun _ => 0) → h2.1 31 = mr_I 6 (fun _ => 0) → h2.1 32 = mr_I 12 (fun _ => 0) → Q none h2) : mr_run 11 [.ref 28] h Q := by
  rw [df_8] at ea
  rw [r_si_init]
  simp only [S_si_init, SEL, PF, mr_gf_O, mr_rc_O, Option.toList_some, Option.toList_none, List.cons_append, List.nil_append, b2i_0, b2i_1, b2i_a, a_00, a_11, ai_n, si_n, nI_1, q_rl_bit, mr_up_at, Nat.reduceLeDiff, Nat.reduceLT, Nat.reduceEqDiff, Nat.reduceAdd, if_true, if_false, Bool.true_eq_false, Bool.false_eq_true, Bool.true_and, Bool.false_and, Bool.and_true, Bool.and_false, i_10, i_01, i_00, not_true_eq_false, not_false_eq_true, PFI, ad_at, ad_n, mr_up_2, hc, ea]
  refine kk _ ⟨?_, ?_, ?_, fun x hx hne => ?_⟩ ?_ ?_ ?_ ?_ ?_
  · simp only [mr_up_2, ad_n, hc]
  · simp only [mr_up_2, ad_s]
  · rfl
  · simp only [mr_up_at, ad_at, mr_up_2, ad_n, hc, Nat.reduceAdd, show ¬ x = 28 from hne, show ¬ x = 29 by omega, show ¬ x = 30 by omega, show ¬ x = 31 by omega, show ¬ x = 32 by omega, if_false]
  · simp only [mr_up_at, ad_at, mr_up_2, ad_n, hc, Nat.reduceAdd, Nat.reduceEqDiff, if_true, if_false]
  · simp only [mr_up_at, ad_at, mr_up_2, ad_n, hc, Nat.reduceAdd, Nat.reduceEqDiff, if_true, if_false]
  · simp only [mr_up_at, ad_at, mr_up_2, ad_n, hc, Nat.reduceAdd, Nat.reduceEqDiff, if_true, if_false]
  · simp only [mr_up_at, ad_at, mr_up_2, ad_n, hc, Nat.reduceAdd, Nat.reduceEqDiff, if_true, if_false]
  · simp only [mr_up_at, ad_at, mr_up_2, ad_n, hc, Nat.reduceAdd, Nat.reduceEqDiff, if_true, if_false]
/-- Nets made one behind another, kept in an array -/
theorem l_pa_init (kk : ∀ h2 F, h2.2.1 = 65 → h2.2.2.1 = h.2.2.1 + 270 → h2.2.2.2 = h.2.2.2 → (∀ x, x < 33 → h2.1 x = h.1 x) → h2.1 33 = mr_O 4 [.int 0, .ref 34] → h2.1 34 = mr_A 10 F → (∀ i, i < 10 → F i = some (35 + 3 * i)) → (∀ i, i < 10 → nshp h2 (35 + 3 * i)) → Q none h2) : ∀ (d k : Nat) (h1 : mr_h) (F : Nat → Option Nat), k + d = 10 → h1.2.1 = 35 + 3 * k → h1.2.2.1 = h.2.2.1 + 27 * k → h1.2.2.2 = h.2.2.2 → (∀ x, x < 33 → h1.1 x = h.1 x) → h1.1 33 = mr_O 4 [.int 0, .ref 34] → h1.1 34 = mr_A 10 F → (∀ i, i < k → F i = some (35 + 3 * i)) → (∀ i, i < k → nshp h1 (35 + 3 * i)) → mr_wp 12 20 [.ref 33, .int (nI k)] [] h1 Q := by
  intro d
  induction d with
  | zero =>
    intro k h1 F hk c1 c2 c3 f e33 e34 hF hs
    have : k = 10 := by omega
    subst this
    rw [s_pa_init_20]
    simp only [S_pa_init, SEL, PF, mr_gf_O, mr_rc_O, Option.toList_some, Option.toList_none, List.cons_append, List.nil_append, b2i_0, b2i_1, b2i_a, a_00, a_11, ai_n, si_n, nI_1, q_rl_bit, mr_up_at, Nat.reduceLeDiff, Nat.reduceLT, Nat.reduceEqDiff, Nat.reduceAdd, if_true, if_false, Bool.true_eq_false, Bool.false_eq_true, Bool.true_and, Bool.false_and, Bool.and_true, Bool.and_false, i_10, i_01, i_00, not_true_eq_false, not_false_eq_true, if_pos (show (10 : Int32) ≤ nI 10 by decide)]
    exact kk h1 F (by omega) (by omega) c3 f e33 e34 hF hs
  | succ d ih =>
    intro k h1 F hk c1 c2 c3 f e33 e34 hF hs
    have j1 : ¬ 33 = 35 + 3 * k := by omega
    have j2 : ¬ 34 = 35 + 3 * k := by omega
    rw [s_pa_init_20]
    simp only [S_pa_init, SEL, PF, mr_gf_O, mr_rc_O, Option.toList_some, Option.toList_none, List.cons_append, List.nil_append, b2i_0, b2i_1, b2i_a, a_00, a_11, ai_n, si_n, nI_1, q_rl_bit, mr_up_at, Nat.reduceLeDiff, Nat.reduceLT, Nat.reduceEqDiff, Nat.reduceAdd, if_true, if_false, Bool.true_eq_false, Bool.false_eq_true, Bool.true_and, Bool.false_and, Bool.and_true, Bool.and_false, i_10, i_01, i_00, not_true_eq_false, not_false_eq_true, if_neg (show ¬ (10 : Int32) ≤ nI k from nI_ge (b := 10) (by omega) (by decide)), e33, c1]
    refine q_ne_init (h := mr_add h1 3 (mr_O 3 (mr_dfs 3))) (a := 35 + 3 * k) (by rw [ad_at, if_pos c1.symm]) (by rw [ad_n, c1]) ?_
    intro h2 g fn
    have ag : ∀ x, x < 35 + 3 * k → h2.1 x = h1.1 x := fun x hx => (g.2.2.2 x (by omega) (by omega)).trans (by rw [ad_at, if_neg (by omega)])
    have g34 : h2.1 34 = mr_A 10 F := (ag 34 (by omega)).trans e34
    have g33 : h2.1 33 = mr_O 4 [.int 0, .ref 34] := (ag 33 (by omega)).trans e33
    have fe := fn.1
    simp only [NE] at fe
    simp only [S_pa_init, SEL, PF, mr_gf_O, mr_rc_O, Option.toList_some, Option.toList_none, List.cons_append, List.nil_append, b2i_0, b2i_1, b2i_a, a_00, a_11, ai_n, si_n, nI_1, q_rl_bit, mr_up_at, Nat.reduceLeDiff, Nat.reduceLT, Nat.reduceEqDiff, Nat.reduceAdd, if_true, if_false, Bool.true_eq_false, Bool.false_eq_true, Bool.true_and, Bool.false_and, Bool.and_true, Bool.and_false, i_10, i_01, i_00, not_true_eq_false, not_false_eq_true, g34, fe, sq_n (show k < 10 by omega) (show 10 ≤ 1000 by decide)]
    have sn : (mr_add h1 3 (mr_O 3 (mr_dfs 3))).2.2.1 = h1.2.2.1 + 3 := rfl
    have g2 := g.2.1
    rw [sn] at g2
    refine ih (k + 1) _ (va_up F k (some (35 + 3 * k))) (by omega) ?_ ?_ ?_ (fun x hx => ?_) ?_ (up_eq _ _ _) (fun i hi => ?_) (fun i hi => ?_)
    · rw [mr_up_2, g.1]; omega
    · rw [mr_up_2, g2, c2]; omega
    · rw [mr_up_2, g.2.2.1]; exact c3
    · rw [mr_up_at, if_neg (by omega), ag x (by omega)]; exact f x hx
    · rw [mr_up_at, if_neg (by decide)]; exact g33
    · unfold va_up
      by_cases e : i = k
      · rw [if_pos e, e]
      · rw [if_neg e]; exact hF i (by omega)
    · by_cases e : i = k
      · rw [e]
        obtain ⟨x, A, B, q1, q2, q3⟩ := fnet_shp fn
        exact ⟨x, A, B, by rw [mr_up_at, if_neg (by omega)]; exact q1, by rw [mr_up_at, if_neg (by omega)]; exact q2, by rw [mr_up_at, if_neg (by omega)]; exact q3⟩
      · obtain ⟨x, A, B, q1, q2, q3⟩ := hs i (by omega)
        exact ⟨x, A, B, by rw [mr_up_at, if_neg (by omega), ag _ (by omega)]; exact q1, by rw [mr_up_at, if_neg (by omega), ag _ (by omega)]; exact q2, by rw [mr_up_at, if_neg (by omega), ag _ (by omega)]; exact q3⟩
theorem q_pa_init (ea : h.1 33 = mr_O 4 (mr_dfs 4)) (hc : h.2.1 = 34) (kk : ∀ h2 F, mg h h2 33 34 31 280 → h2.1 33 = mr_O 4 [.int 0, .ref 34] → h2.1 34 = mr_A 10 F → (∀ i, i < 10 → F i = some (35 + 3 * i)) → (∀ i, i < 10 → nshp h2 (35 + 3 * i)) → Q none h2) : mr_run 12 [.ref 33] h Q := by
  rw [df_4] at ea
  rw [r_pa_init]
  simp only [S_pa_init, SEL, PF, mr_gf_O, mr_rc_O, Option.toList_some, Option.toList_none, List.cons_append, List.nil_append, b2i_0, b2i_1, b2i_a, a_00, a_11, ai_n, si_n, nI_1, q_rl_bit, mr_up_at, Nat.reduceLeDiff, Nat.reduceLT, Nat.reduceEqDiff, Nat.reduceAdd, if_true, if_false, Bool.true_eq_false, Bool.false_eq_true, Bool.true_and, Bool.false_and, Bool.and_true, Bool.and_false, i_10, i_01, i_00, not_true_eq_false, not_false_eq_true, PFI, ad_at, ad_n, mr_up_2, hc, ea]
  rw [show (Value.int 0 : Value) = .int (nI 0) from rfl]
  generalize hh : mr_up (mr_add (mr_up h 33 _) 10 _) 33 _ = h1
  have c1 : h1.2.1 = 35 := by rw [← hh]; simp only [mr_up_2, ad_n, hc]
  have c2 : h1.2.2.1 = h.2.2.1 + 10 := by rw [← hh]; simp only [mr_up_2, ad_s]
  have c3 : h1.2.2.2 = h.2.2.2 := by rw [← hh]; rfl
  have e33 : h1.1 33 = mr_O 4 [.int 0, .ref 34] := by rw [← hh]; exact up_eq _ _ _
  have e34 : h1.1 34 = mr_A 10 (fun _ => none) := by rw [← hh]; simp only [mr_up_at, ad_at, mr_up_2, hc, Nat.reduceEqDiff, if_true, if_false]
  have ag : ∀ x, x < 33 → h1.1 x = h.1 x := fun x hx => by rw [← hh]; simp only [mr_up_at, ad_at, mr_up_2, hc, show ¬ x = 33 by omega, show ¬ x = 34 by omega, if_false]
  refine l_pa_init (h := h1) (fun h2 F d1 d2 d3 d4 d5 d6 d7 d8 => kk h2 F ⟨d1, by rw [d2, c2], by rw [d3, c3], fun x hx hne => (d4 x (by omega)).trans (ag x (by omega))⟩ d5 d6 d7 d8) 10 0 h1 (fun _ => none) (by decide) c1 (by omega) rfl (fun _ _ => rfl) e33 e34 (fun i hi => absurd hi (Nat.not_lt_zero i)) (fun i hi => absurd hi (Nat.not_lt_zero i))
theorem l_al_init (kk : ∀ h2 F, h2.2.1 = 74 → h2.2.2.1 = h.2.2.1 + 54 → h2.2.2.2 = h.2.2.2 → (∀ x, x < 65 → h2.1 x = h.1 x) → h2.1 65 = mr_O 0 [.ref 66, .ref 67] → h2.1 66 = mr_A 2 F → (∀ i, i < 2 → F i = some (68 + 3 * i)) → (∀ i, 2 ≤ i → F i = none) → h2.1 67 = mr_Z 2 (fun _ => 0) → (∀ i, i < 2 → nshp h2 (68 + 3 * i)) → Q none h2) : ∀ (d k : Nat) (h1 : mr_h) (F : Nat → Option Nat), k + d = 2 → h1.2.1 = 68 + 3 * k → h1.2.2.1 = h.2.2.1 + 27 * k → h1.2.2.2 = h.2.2.2 → (∀ x, x < 65 → h1.1 x = h.1 x) → h1.1 65 = mr_O 0 [.ref 66, .ref 67] → h1.1 66 = mr_A 2 F → (∀ i, i < k → F i = some (68 + 3 * i)) → (∀ i, k ≤ i → F i = none) → h1.1 67 = mr_Z 2 (fun _ => 0) → (∀ i, i < k → nshp h1 (68 + 3 * i)) → mr_wp 13 21 [.ref 65, .int (nI k)] [] h1 Q := by
  intro d
  induction d with
  | zero =>
    intro k h1 F hk c1 c2 c3 f e33 e34 hF hN e67 hs
    have : k = 2 := by omega
    subst this
    rw [s_al_init_21]
    simp only [S_al_init, SEL, PF, mr_gf_O, mr_rc_O, Option.toList_some, Option.toList_none, List.cons_append, List.nil_append, b2i_0, b2i_1, b2i_a, a_00, a_11, ai_n, si_n, nI_1, q_rl_bit, mr_up_at, Nat.reduceLeDiff, Nat.reduceLT, Nat.reduceEqDiff, Nat.reduceAdd, if_true, if_false, Bool.true_eq_false, Bool.false_eq_true, Bool.true_and, Bool.false_and, Bool.and_true, Bool.and_false, i_10, i_01, i_00, not_true_eq_false, not_false_eq_true, if_pos (show (2 : Int32) ≤ nI 2 by decide)]
    exact kk h1 F (by omega) (by omega) c3 f e33 e34 hF hN e67 hs
  | succ d ih =>
    intro k h1 F hk c1 c2 c3 f e33 e34 hF hN e67 hs
    rw [s_al_init_21]
    simp only [S_al_init, SEL, PF, mr_gf_O, mr_rc_O, Option.toList_some, Option.toList_none, List.cons_append, List.nil_append, b2i_0, b2i_1, b2i_a, a_00, a_11, ai_n, si_n, nI_1, q_rl_bit, mr_up_at, Nat.reduceLeDiff, Nat.reduceLT, Nat.reduceEqDiff, Nat.reduceAdd, if_true, if_false, Bool.true_eq_false, Bool.false_eq_true, Bool.true_and, Bool.false_and, Bool.and_true, Bool.and_false, i_10, i_01, i_00, not_true_eq_false, not_false_eq_true, if_neg (show ¬ (2 : Int32) ≤ nI k from nI_ge (b := 2) (by omega) (by decide)), e33, c1]
    refine q_ne_init (h := mr_add h1 3 (mr_O 3 (mr_dfs 3))) (a := 68 + 3 * k) (by rw [ad_at, if_pos c1.symm]) (by rw [ad_n, c1]) ?_
    intro h2 g fn
    have ag : ∀ x, x < 68 + 3 * k → h2.1 x = h1.1 x := fun x hx => (g.2.2.2 x (by omega) (by omega)).trans (by rw [ad_at, if_neg (by omega)])
    have g34 : h2.1 66 = mr_A 2 F := (ag 66 (by omega)).trans e34
    have g33 : h2.1 65 = mr_O 0 [.ref 66, .ref 67] := (ag 65 (by omega)).trans e33
    have fe := fn.1
    simp only [NE] at fe
    simp only [S_al_init, SEL, PF, mr_gf_O, mr_rc_O, Option.toList_some, Option.toList_none, List.cons_append, List.nil_append, b2i_0, b2i_1, b2i_a, a_00, a_11, ai_n, si_n, nI_1, q_rl_bit, mr_up_at, Nat.reduceLeDiff, Nat.reduceLT, Nat.reduceEqDiff, Nat.reduceAdd, if_true, if_false, Bool.true_eq_false, Bool.false_eq_true, Bool.true_and, Bool.false_and, Bool.and_true, Bool.and_false, i_10, i_01, i_00, not_true_eq_false, not_false_eq_true, g34, fe, sq_n (show k < 2 by omega) (show 2 ≤ 1000 by decide)]
    have sn : (mr_add h1 3 (mr_O 3 (mr_dfs 3))).2.2.1 = h1.2.2.1 + 3 := rfl
    have g2 := g.2.1
    rw [sn] at g2
    refine ih (k + 1) _ (va_up F k (some (68 + 3 * k))) (by omega) ?_ ?_ ?_ (fun x hx => ?_) ?_ (up_eq _ _ _) (fun i hi => ?_) (fun i hi => ?_) ?_ (fun i hi => ?_)
    · rw [mr_up_2, g.1]; omega
    · rw [mr_up_2, g2, c2]; omega
    · rw [mr_up_2, g.2.2.1]; exact c3
    · rw [mr_up_at, if_neg (by omega), ag x (by omega)]; exact f x hx
    · rw [mr_up_at, if_neg (by decide)]; exact g33
    · unfold va_up
      by_cases e : i = k
      · rw [if_pos e, e]
      · rw [if_neg e]; exact hF i (by omega)
    · unfold va_up
      rw [if_neg (by omega)]
      exact hN i (by omega)
    · rw [mr_up_at, if_neg (by decide), ag 67 (by omega)]; exact e67
    · by_cases e : i = k
      · rw [e]
        obtain ⟨x, A, B, q1, q2, q3⟩ := fnet_shp fn
        exact ⟨x, A, B, by rw [mr_up_at, if_neg (by omega)]; exact q1, by rw [mr_up_at, if_neg (by omega)]; exact q2, by rw [mr_up_at, if_neg (by omega)]; exact q3⟩
      · obtain ⟨x, A, B, q1, q2, q3⟩ := hs i (by omega)
        exact ⟨x, A, B, by rw [mr_up_at, if_neg (by omega), ag _ (by omega)]; exact q1, by rw [mr_up_at, if_neg (by omega), ag _ (by omega)]; exact q2, by rw [mr_up_at, if_neg (by omega), ag _ (by omega)]; exact q3⟩
theorem q_al_init (ea : h.1 65 = mr_O 0 (mr_dfs 0)) (hc : h.2.1 = 66) (kk : ∀ h2 F, mg h h2 65 66 8 58 → h2.1 65 = mr_O 0 [.ref 66, .ref 67] → h2.1 66 = mr_A 2 F → (∀ i, i < 2 → F i = some (68 + 3 * i)) → (∀ i, 2 ≤ i → F i = none) → h2.1 67 = mr_Z 2 (fun _ => 0) → (∀ i, i < 2 → nshp h2 (68 + 3 * i)) → Q none h2) : mr_run 13 [.ref 65] h Q := by
  rw [df_0] at ea
  rw [r_al_init]
  simp only [S_al_init, SEL, PF, mr_gf_O, mr_rc_O, Option.toList_some, Option.toList_none, List.cons_append, List.nil_append, b2i_0, b2i_1, b2i_a, a_00, a_11, ai_n, si_n, nI_1, q_rl_bit, mr_up_at, Nat.reduceLeDiff, Nat.reduceLT, Nat.reduceEqDiff, Nat.reduceAdd, if_true, if_false, Bool.true_eq_false, Bool.false_eq_true, Bool.true_and, Bool.false_and, Bool.and_true, Bool.and_false, i_10, i_01, i_00, not_true_eq_false, not_false_eq_true, PFI, ad_at, ad_n, mr_up_2, hc, ea]
  rw [show (Value.int 0 : Value) = .int (nI 0) from rfl]
  generalize hh : mr_up (mr_add (mr_up (mr_add h 2 _) 65 _) 2 _) 65 _ = h1
  have c1 : h1.2.1 = 68 := by rw [← hh]; simp only [mr_up_2, ad_n, hc]
  have c2 : h1.2.2.1 = h.2.2.1 + 4 := by rw [← hh]; simp only [mr_up_2, ad_s]
  have c3 : h1.2.2.2 = h.2.2.2 := by rw [← hh]; rfl
  have e65 : h1.1 65 = mr_O 0 [.ref 66, .ref 67] := by rw [← hh]; exact up_eq _ _ _
  have e66 : h1.1 66 = mr_A 2 (fun _ => none) := by rw [← hh]; simp only [mr_up_at, ad_at, mr_up_2, ad_n, hc, Nat.reduceAdd, Nat.reduceEqDiff, if_true, if_false]
  have e67 : h1.1 67 = mr_Z 2 (fun _ => 0) := by rw [← hh]; simp only [mr_up_at, ad_at, mr_up_2, ad_n, hc, Nat.reduceAdd, Nat.reduceEqDiff, if_true, if_false]
  have ag : ∀ x, x < 65 → h1.1 x = h.1 x := fun x hx => by rw [← hh]; simp only [mr_up_at, ad_at, mr_up_2, ad_n, hc, Nat.reduceAdd, show ¬ x = 65 by omega, show ¬ x = 66 by omega, show ¬ x = 67 by omega, if_false]
  refine l_al_init (h := h1) (fun h2 F d1 d2 d3 d4 d5 d6 d7 d8 d9 d10 => kk h2 F ⟨d1, by rw [d2, c2], by rw [d3, c3], fun x hx hne => (d4 x (by omega)).trans (ag x (by omega))⟩ d5 d6 d7 d8 d9 d10) 2 0 h1 (fun _ => none) (by decide) c1 (by omega) rfl (fun _ _ => rfl) e65 e66 (fun i hi => absurd hi (Nat.not_lt_zero i)) (fun _ _ => rfl) e67 (fun i hi => absurd hi (Nat.not_lt_zero i))
end INITS
