/-! odds: the class's answer -/
def E0 : Nat → Int32 := fun _ => 0
theorem E0_bt (a b : Nat) : bt (E0 a) b = false := b_0 b
section WEIGH
variable {h : mr_h} {Q : Option Value → mr_h → Prop} {n len us m K u v x : Nat} {E Ky : Nat → Int32} {ed : Nat → Nat × Nat}
theorem sm_s {s : Nat} (hs : s < 512) : sm (nI s) := fun i hi => by
  by_cases h : i < 32
  · rw [bt_nI h]
    have p : 2 ^ 9 ≤ 2 ^ i := Nat.pow_le_pow_right (by decide) (show 9 ≤ i by omega)
    exact Nat.testBit_lt_two_pow (Nat.lt_of_lt_of_le hs p)
  · exact b_big (by omega)
theorem ct_s {s : Nat} (hK : K ≤ 9) (hs : s < 2 ^ K) : ct (nI s) = fb_ct (fun i => s.testBit i) K := by
  unfold ct
  have e := fb_ct_split (bt (nI s)) K (12 - K)
  rw [show K + (12 - K) = 12 by omega] at e
  have z : fb_ct (fun k => bt (nI s) (K + k)) (12 - K) = 0 := fb_ct_zero.mpr fun k hk => by
    rw [bt_nI (by omega)]
    exact Nat.testBit_lt_two_pow (Nat.lt_of_lt_of_le hs (Nat.pow_le_pow_right (by decide) (by omega)))
  rw [e, z, Nat.add_zero]
  exact fb_ct_cong fun k hk => bt_nI (by omega)
def tmS (n u v x : Nat) (ed : Nat → Nat × Nat) (K s : Nat) : Nat := tm n u v x (10 - x) ed K (fun i => s.testBit i) E0
theorem l_weigh {W : Nat → Int64} {L0 : Int64} (ce : CE h K ed) (hx : x ≤ 10) (hn : n ≤ 12) (hu : u < n) (hv : v < n) (hed : ∀ i, i < K → (ed i).1 < n ∧ (ed i).2 < n) (hed2 : ∀ i, (ed i).2 < 32) (e27 : h.1 27 = mr_J 10 W) (hW : ∀ i, i ≤ K → W i = lN ((10 - x) ^ i * x ^ (K - i)))
    (kk : ∀ h2, mr_fr h h2 [24] → h2.1 24 = mr_O 1 [.long (lN (fb_sm (tmS n u v x ed K) (2 ^ K))), .long L0, .ref 25, .ref 26, .ref 27, .int (nI K)] → mr_wp 94 83 [.ref 24, .ref 1, .ref 9, .int (nI x), .int (nI u), .int (nI v), .int (nI (2 ^ K))] [] h2 Q) : ∀ (d s : Nat) (h1 : mr_h), s + d = 2 ^ K → mr_fr h h1 [24] → h1.1 24 = mr_O 1 [.long (lN (fb_sm (tmS n u v x ed K) s)), .long L0, .ref 25, .ref 26, .ref 27, .int (nI K)] → mr_wp 94 33 [.ref 24, .ref 1, .ref 9, .int (nI x), .int (nI u), .int (nI v), .int (nI s)] [] h1 Q := by
  obtain ⟨hK, -, F, T, e25, e26, hFT⟩ := id ce
  have p9 : 2 ^ K ≤ 512 := Nat.pow_le_pow_right (n := 2) (by decide) hK
  intro d
  induction d with
  | zero =>
    intro s h1 hs f e24
    have : s = 2 ^ K := by omega
    subst this
    have := kk h1 f e24
    rw [s_ch_weigh_33]
    simp only [S_ch_weigh_0, S_ch_weigh_1, e24, SEL, PF, mr_gf_O, mr_rc_O, Option.toList_some, Option.toList_none, List.cons_append, List.nil_append, b2i_0, b2i_1, b2i_a, a_00, a_11, ai_n, si_n, nI_1, q_rl_bit, mr_up_at, Nat.reduceLeDiff, Nat.reduceLT, Nat.reduceEqDiff, Nat.reduceAdd, if_true, if_false, Bool.true_eq_false, Bool.false_eq_true, Bool.true_and, Bool.false_and, Bool.and_true, Bool.and_false, i_10, i_01, i_00, not_true_eq_false, not_false_eq_true, nb_pow K (by omega), if_pos (nI_le (Nat.le_refl (2 ^ K)) (show 2 ^ K < 2 ^ 31 by omega))] at this ⊢
    exact this
  | succ d ih =>
    intro s h1 hs f e24
    have hs2 : s < 2 ^ K := by omega
    have ce1 : CE h1 K ed := ⟨hK, ⟨_, _, e24⟩, F, T, fr_at f (by decide) e25, fr_at f (by decide) e26, hFT⟩
    have g27 := fr_at f (by decide) e27
    rw [s_ch_weigh_33]
    simp only [S_ch_weigh_0, S_ch_weigh_1, e24, SEL, PF, mr_gf_O, mr_rc_O, Option.toList_some, Option.toList_none, List.cons_append, List.nil_append, b2i_0, b2i_1, b2i_a, a_00, a_11, ai_n, si_n, nI_1, q_rl_bit, mr_up_at, Nat.reduceLeDiff, Nat.reduceLT, Nat.reduceEqDiff, Nat.reduceAdd, if_true, if_false, Bool.true_eq_false, Bool.false_eq_true, Bool.true_and, Bool.false_and, Bool.and_true, Bool.and_false, i_10, i_01, i_00, not_true_eq_false, not_false_eq_true, nb_pow K (by omega), if_neg (show ¬ nI (2 ^ K) ≤ nI s from nI_ge hs2 (by omega))]
    refine q_ch_arrives (W := Rw ed K (fun i => s.testBit i) E0) ce1 hn hu hv hed (fun a b => ?_) ?_
    · rw [Rw_bt hed2]
      constructor
      · rintro (z | z)
        · rw [E0_bt] at z; exact absurd z (by decide)
        · exact z
      · exact Or.inr
    · have hct := fb_ct_le (fun i => s.testBit i) K
      have e1 : fb_sm (tmS n u v x ed K) (s + 1) = fb_sm (tmS n u v x ed K) s + tmS n u v x ed K s := rfl
      have e2 : tmS n u v x ed K s = ((10 - x) ^ fb_ct (fun i => s.testBit i) K * x ^ (K - fb_ct (fun i => s.testBit i) K)) * (if rr (Rw ed K (fun i => s.testBit i) E0) n u v then 1 else 0) := by
        unfold tmS tm ind
        rw [wf_pow]
      simp only [S_ch_weigh_0, S_ch_weigh_1, SEL, PF, mr_gf_O, mr_rc_O, Option.toList_some, Option.toList_none, List.cons_append, List.nil_append, b2i_0, b2i_1, b2i_a, a_00, a_11, ai_n, si_n, nI_1, q_rl_bit, mr_up_at, Nat.reduceLeDiff, Nat.reduceLT, Nat.reduceEqDiff, Nat.reduceAdd, if_true, if_false, Bool.true_eq_false, Bool.false_eq_true, Bool.true_and, Bool.false_and, Bool.and_true, Bool.and_false, i_10, i_01, i_00, not_true_eq_false, not_false_eq_true]
      cases z : rr (Rw ed K (fun i => s.testBit i) E0) n u v with
      | false =>
        rw [z] at e2
        simp only [Bool.false_eq_true, if_false, Nat.mul_zero] at e2
        simp only [if_true]
        have := ih (s + 1) h1 (by omega) f
        rw [e1, e2, Nat.add_zero] at this
        exact this e24
      | true =>
        rw [z] at e2
        simp only [if_true, Nat.mul_one] at e2
        simp only [Bool.true_eq_false, if_false, S_ch_weigh_0, S_ch_weigh_1, e24, SEL, PF, mr_gf_O, mr_rc_O, Option.toList_some, Option.toList_none, List.cons_append, List.nil_append, b2i_0, b2i_1, b2i_a, a_00, a_11, ai_n, si_n, nI_1, q_rl_bit, mr_up_at, Nat.reduceLeDiff, Nat.reduceLT, Nat.reduceEqDiff, Nat.reduceAdd, if_true, if_false, Bool.true_eq_false, Bool.false_eq_true, Bool.true_and, Bool.false_and, Bool.and_true, Bool.and_false, i_10, i_01, i_00, not_true_eq_false, not_false_eq_true, q_bitCount (sm_s (show s < 512 by omega)), ct_s hK hs2, g27, aj_n (show fb_ct (fun i => s.testBit i) K < 10 by omega) (show 10 ≤ 1000 by decide), hW _ hct, lN_add, ← e2, ← e1]
        exact ih (s + 1) _ (by omega) (fr_up _ f (by decide)) (up_eq _ _ _)
/-- what the class finds -/
def oU (E : Nat → Int32) (n u v x : Nat) : Nat := Pn n u v x (10 - x) (en1 (relc E (sme E n u v)) n n).2 (en1 (relc E (sme E n u v)) n n).1 E0
def oL (E : Nat → Int32) (n u v : Nat) : Nat := 10 ^ (en1 (relc E (sme E n u v)) n n).1
theorem p30 {K : Nat} (hK : K ≤ 9) : 10 ^ K < 2 ^ 30 := by
  have : 10 ^ K ≤ 10 ^ 9 := Nat.pow_le_pow_right (by decide) hK
  have e : 10 ^ 9 < 2 ^ 30 := by decide
  omega
theorem q_ch_weigh (st : St h n len us m E Ky) (hx : x ≤ 10) (hu : u < n) (hv : v < n) (h9 : fc (relc E (sme E n u v)) n n ≤ 9) (kk : ∀ h2 (e : Int32), h2.2 = h.2 → St h2 n len us m E Ky → h2.1 24 = mr_O 1 [.long (lN (oU E n u v x / Nat.gcd (oU E n u v x) (oL E n u v))), .long (lN (oL E n u v / Nat.gcd (oU E n u v x) (oL E n u v))), .ref 25, .ref 26, .ref 27, .int e] → Q none h2) : mr_run 94 [.ref 24, .ref 1, .ref 9, .int (nI x), .int (nI u), .int (nI v)] h Q := by
  have hE := St_E st
  have hn := hE.1
  obtain ⟨e9, A, B, C, I, O, R, L, e10, e11, e12, e13, e14, e15, e16, hA, hB, hC, hI, hO, hR, hL⟩ := St_D st
  obtain ⟨W0, e27⟩ := c27 st
  obtain ⟨U0, L0, x0, e24⟩ := c24 st
  have hes : RR E n u &&& Bh E n v = sme E n u v := rfl
  have hU : oU E n u v x = Pn n u v x (10 - x) (en1 (relc E (sme E n u v)) n n).2 (en1 (relc E (sme E n u v)) n n).1 E0 := rfl
  have hLd : oL E n u v = 10 ^ (en1 (relc E (sme E n u v)) n n).1 := rfl
  generalize hsm : sme E n u v = x1 at *
  rw [r_ch_weigh]
  simp only [S_ch_weigh_0, S_ch_weigh_1, SEL, PF, mr_gf_O, mr_rc_O, Option.toList_some, Option.toList_none, List.cons_append, List.nil_append, b2i_0, b2i_1, b2i_a, a_00, a_11, ai_n, si_n, nI_1, q_rl_bit, mr_up_at, Nat.reduceLeDiff, Nat.reduceLT, Nat.reduceEqDiff, Nat.reduceAdd, if_true, if_false, Bool.true_eq_false, Bool.false_eq_true, Bool.true_and, Bool.false_and, Bool.and_true, Bool.and_false, i_10, i_01, i_00, not_true_eq_false, not_false_eq_true, e9, RE, e10, e11, show u < 12 by omega, show v < 12 by omega, hA u hu, hB v hv, hes, e24]
  refine q_ch_takeEdges st h9 ?_
  intro h2 f2 ce
  have hin := en1_in (c := relc E x1) (n := n) (fun p => p.1 < n ∧ p.2 < n) n (fun a b ha hb _ => ⟨ha, hb⟩)
  have hin2 : ∀ i, ((en1 (relc E x1) n n).2 i).2 < 32 := fun i => by
    -- outside of it: 0
    have key : ∀ a, a ≤ n → ((en1 (relc E x1) n a).2 i).2 < 32 := by
      intro a
      induction a with
      | zero => intro _; exact (by decide : (0 : Nat) < 32)
      | succ a iha =>
        intro ha
        have h0 := iha (by omega)
        have k2 : ∀ b, b ≤ n → ((en2 (relc E x1) (en1 (relc E x1) n a) a b).2 i).2 < 32 := by
          intro b
          induction b with
          | zero => intro _; exact h0
          | succ b ihb =>
            intro hb
            have h1 := ihb (by omega)
            unfold en2
            split
            · show (upp _ _ _ i).2 < 32
              unfold upp
              split
              · show b < 32; omega
              · exact h1
            · exact h1
        exact k2 n (Nat.le_refl n)
    exact key n (Nat.le_refl n)
  generalize hKK : (en1 (relc E x1) n n).1 = K at *
  generalize hee : (en1 (relc E x1) n n).2 = ed at *
  obtain ⟨hK, ⟨U1, L1, g24⟩, F, T, g25, g26, hFT⟩ := id ce
  simp only [S_ch_weigh_0, S_ch_weigh_1, SEL, PF, mr_gf_O, mr_rc_O, Option.toList_some, Option.toList_none, List.cons_append, List.nil_append, b2i_0, b2i_1, b2i_a, a_00, a_11, ai_n, si_n, nI_1, q_rl_bit, mr_up_at, Nat.reduceLeDiff, Nat.reduceLT, Nat.reduceEqDiff, Nat.reduceAdd, if_true, if_false, Bool.true_eq_false, Bool.false_eq_true, Bool.true_and, Bool.false_and, Bool.and_true, Bool.and_false, i_10, i_01, i_00, not_true_eq_false, not_false_eq_true, g24]
  rw [r_ch_weighCounts]
  simp only [S_ch_weighCounts, SEL, PF, mr_gf_O, mr_rc_O, Option.toList_some, Option.toList_none, List.cons_append, List.nil_append, b2i_0, b2i_1, b2i_a, a_00, a_11, ai_n, si_n, nI_1, q_rl_bit, mr_up_at, Nat.reduceLeDiff, Nat.reduceLT, Nat.reduceEqDiff, Nat.reduceAdd, if_true, if_false, Bool.true_eq_false, Bool.false_eq_true, Bool.true_and, Bool.false_and, Bool.and_true, Bool.and_false, i_10, i_01, i_00, not_true_eq_false, not_false_eq_true]
  rw [← nI_0]
  refine l_wc (K := K) (x := x) hK hx g24 ?_ (K + 1) 0 h2 W0 (by omega) (fr_rf _ _) (fr_at f2 (by decide) e27) (fun i hi => absurd hi (Nat.not_lt_zero i))
  intro h3 W f3 k27 hW
  have k24 := fr_at f3 (by decide) g24
  simp only [S_ch_weigh_0, S_ch_weigh_1, SEL, PF, mr_gf_O, mr_rc_O, Option.toList_some, Option.toList_none, List.cons_append, List.nil_append, b2i_0, b2i_1, b2i_a, a_00, a_11, ai_n, si_n, nI_1, q_rl_bit, mr_up_at, Nat.reduceLeDiff, Nat.reduceLT, Nat.reduceEqDiff, Nat.reduceAdd, if_true, if_false, Bool.true_eq_false, Bool.false_eq_true, Bool.true_and, Bool.false_and, Bool.and_true, Bool.and_false, i_10, i_01, i_00, not_true_eq_false, not_false_eq_true, k24]
  have f4 : mr_fr h3 (mr_up h3 24 (mr_O 1 [.long (lN 0), .long L1, .ref 25, .ref 26, .ref 27, .int (nI K)])) [24] := fr_up _ (fr_rf _ _) (by decide)
  have ce4 : CE (mr_up h3 24 (mr_O 1 [.long (lN 0), .long L1, .ref 25, .ref 26, .ref 27, .int (nI K)])) K ed := ⟨hK, ⟨_, _, up_eq _ _ _⟩, F, T, fr_at f4 (by decide) (fr_at f3 (by decide) g25), fr_at f4 (by decide) (fr_at f3 (by decide) g26), hFT⟩
  refine l_weigh (h := mr_up h3 24 (mr_O 1 [.long (lN 0), .long L1, .ref 25, .ref 26, .ref 27, .int (nI K)])) (L0 := L1) ce4 hx hn hu hv hin hin2 (fr_at f4 (by decide) k27) hW ?_ (2 ^ K) 0 _ (by omega) (fr_rf _ _) (up_eq _ _ _)
  intro h5 f5 m24
  have hsum : fb_sm (tmS n u v x ed K) (2 ^ K) = Pn n u v x (10 - x) ed K E0 := by
    rw [← sum_P (n := n) (u := u) (v := v) (x := x) (y := 10 - x) (ed := ed) false K E0]
    refine fb_sm_cong fun s _ => ?_
    unfold tmS
    congr 1
    funext i
    simp
  rw [hsum, ← hU] at m24
  have e10' : ((10 : Int64)) = lN 10 := rfl
  simp only [S_ch_weigh_0, S_ch_weigh_1, SEL, PF, mr_gf_O, mr_rc_O, Option.toList_some, Option.toList_none, List.cons_append, List.nil_append, b2i_0, b2i_1, b2i_a, a_00, a_11, ai_n, si_n, nI_1, q_rl_bit, mr_up_at, Nat.reduceLeDiff, Nat.reduceLT, Nat.reduceEqDiff, Nat.reduceAdd, if_true, if_false, Bool.true_eq_false, Bool.false_eq_true, Bool.true_and, Bool.false_and, Bool.and_true, Bool.and_false, i_10, i_01, i_00, not_true_eq_false, not_false_eq_true, m24, e10', q_ch_power (show K < 2 ^ 31 by omega)]
  rw [show 10 ^ K = oL E n u v from hLd.symm]
  have f6 : mr_fr h5 (mr_up h5 24 (mr_O 1 [.long (lN (oU E n u v x)), .long (lN (oL E n u v)), .ref 25, .ref 26, .ref 27, .int (nI K)])) [24] := fr_up _ (fr_rf _ _) (by decide)
  have hL30 : oL E n u v < 2 ^ 30 := by rw [hLd]; exact p30 hK
  have hL0 : 0 < oL E n u v := by rw [hLd]; exact Nat.pow_pos (by decide)
  have hUL : oU E n u v x ≤ oL E n u v := by rw [hU, hLd]; exact Pn_le (x := x) (y := 10 - x) (by omega) K E0
  refine q_ch_reduce (U := oU E n u v x) (L := oL E n u v) hL0 hL30 hUL (up_eq _ _ _) ?_
  intro h7 f7 n24
  simp only [S_ch_weigh_0, S_ch_weigh_1, SEL, PF, mr_gf_O, mr_rc_O, Option.toList_some, Option.toList_none, List.cons_append, List.nil_append, b2i_0, b2i_1, b2i_a, a_00, a_11, ai_n, si_n, nI_1, q_rl_bit, mr_up_at, Nat.reduceLeDiff, Nat.reduceLT, Nat.reduceEqDiff, Nat.reduceAdd, if_true, if_false, Bool.true_eq_false, Bool.false_eq_true, Bool.true_and, Bool.false_and, Bool.and_true, Bool.and_false, i_10, i_01, i_00, not_true_eq_false, not_false_eq_true]
  have F7 : mr_fr h h7 [24, 25, 26, 27] := fr_tr (fr_tr (fr_tr (fr_tr (fr_tr (fr_wk f2 (by decide)) f3 (by decide)) f4 (by decide)) f5 (by decide)) f6 (by decide)) f7 (by decide)
  have j : ∀ {a c}, a ∈ [25, 26, 27] → h3.1 a = c → h7.1 a = c := fun {a c} ha hc => by
    have ha' : a ∉ [24] := by
      have : a = 25 ∨ a = 26 ∨ a = 27 := by simpa using ha
      simp
      omega
    exact fr_at f7 ha' (fr_at f6 ha' (fr_at f5 ha' (fr_at f4 ha' hc)))
  exact kk h7 _ F7.1 (St_ch st F7 ⟨_, _, _, n24⟩ ⟨_, j (by decide) (fr_at f3 (by decide) g25)⟩ ⟨_, j (by decide) (fr_at f3 (by decide) g26)⟩ ⟨_, j (by decide) k27⟩) n24
end WEIGH
