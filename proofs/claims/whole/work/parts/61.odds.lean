/-! odds: both sides alike -/
def tmM (n u v x : Nat) (ed : Nat → Nat × Nat) (M s : Nat) : Nat := tm n u v x (10 - x) ed M (stm s) E0
section ODDS
variable {h : mr_h} {Q : Option Value → mr_h → Prop} {n len us m u v x : Nat} {E Ky : Nat → Int32}
theorem en1_32 {c : Nat → Nat → Bool} (hn : n ≤ 12) (i : Nat) : ((en1 c n n).2 i).2 < 32 := by
  have key : ∀ a, a ≤ n → ((en1 c n a).2 i).2 < 32 := by
    intro a
    induction a with
    | zero => intro _; exact (by decide : (0 : Nat) < 32)
    | succ a iha =>
      intro ha
      have h0 := iha (by omega)
      have k2 : ∀ b, b ≤ n → ((en2 c (en1 c n a) a b).2 i).2 < 32 := by
        intro b
        induction b with
        | zero => intro _; exact h0
        | succ b ihb =>
          intro hb
          have h1 := ihb (by omega)
          unfold en2
          split
          · show (upp _ _ _ i).2 < 32
            unfold upp
            split
            · show b < 32; omega
            · exact h1
          · exact h1
      exact k2 n (Nat.le_refl n)
  exact key n (Nat.le_refl n)
theorem WS_rr (hn : n ≤ 12) (hu : u < n) {s : Nat} {W : Nat → Int32} (hw : WS E n (stm s) (en1 (allc E) n n) W n 0) : RR W n u = RR (Rw (en1 (allc E) n n).2 (en1 (allc E) n n).1 (stm s) E0) n u := by
  refine RR_cong (fun a ha => ?_) hu
  apply b_ext
  intro i _
  apply Bool.eq_iff_iff.mpr
  rw [hw.1 a i ha (Or.inl ha), Rw_bt (fun i => en1_32 hn i)]
  constructor
  · exact Or.inr
  · rintro (z | z)
    · rw [E0_bt] at z; exact absurd z (by decide)
    · exact z
theorem l_mo2 (hx : x ≤ 10) (hu : u < n) (hv : v < n) {M : Nat} {ed : Nat → Nat × Nat} (hM : en1 (allc E) n n = (M, ed)) (h9 : M ≤ 9) {w4 : Int32} {l8 : Int64}
    (kk : ∀ h2 v11 v12 v13 v14 v15 v16, h2.2 = h.2 → St h2 n len us m E Ky → mr_wp 170 267 [.ref 74, .int (nI x), .int (nI u), .int (nI v), .int w4, .int (nI M), .long (lN (fb_sm (tmM n u v x ed M) (2 ^ M))), .null, .long l8, .null, .int (nI (2 ^ M)), v11, v12, v13, v14, v15, v16] [] h2 Q) :
    ∀ (d s : Nat) (h1 : mr_h) (v11 v12 v13 v14 v15 v16 : Value), s + d = 2 ^ M → h1.2 = h.2 → St h1 n len us m E Ky → mr_wp 170 96 [.ref 74, .int (nI x), .int (nI u), .int (nI v), .int w4, .int (nI M), .long (lN (fb_sm (tmM n u v x ed M) s)), .null, .long l8, .null, .int (nI s), v11, v12, v13, v14, v15, v16] [] h1 Q := by
  have p9 : 2 ^ M ≤ 512 := Nat.pow_le_pow_right (n := 2) (by decide) h9
  intro d
  induction d with
  | zero =>
    intro s h1 v11 v12 v13 v14 v15 v16 hs e1 st
    have : s = 2 ^ M := by omega
    subst this
    have := kk h1 v11 v12 v13 v14 v15 v16 e1 st
    rw [s_mo_odds_96]
    simp only [S_mo_odds_0, S_mo_odds_1, S_mo_odds_2, S_mo_odds_3, SEL, PF, mr_gf_O, mr_rc_O, Option.toList_some, Option.toList_none, List.cons_append, List.nil_append, b2i_0, b2i_1, b2i_a, a_00, a_11, ai_n, si_n, nI_1, q_rl_bit, mr_up_at, Nat.reduceLeDiff, Nat.reduceLT, Nat.reduceEqDiff, Nat.reduceAdd, if_true, if_false, Bool.true_eq_false, Bool.false_eq_true, Bool.true_and, Bool.false_and, Bool.and_true, Bool.and_false, i_10, i_01, i_00, not_true_eq_false, not_false_eq_true, nb_def, nb_pow M (show M < 10 by omega), if_pos (nI_le (Nat.le_refl (2 ^ M)) (show 2 ^ M < 2 ^ 31 by omega))] at this ⊢
    exact this
  | succ d ih =>
    intro s h1 v11 v12 v13 v14 v15 v16 hs e1 st
    have hE := St_E st
    have hn := hE.1
    have h9' : fc (allc E) n n ≤ 9 := by rw [← en1_ct, hM]; exact h9
    obtain ⟨S, e77, hS⟩ := St_77 st
    obtain ⟨W, e78⟩ := gS_78 st.1
    obtain ⟨G, e86⟩ := gS_86 st.1
    obtain ⟨th, ty, tt, tk, pl, va, fa, dn, dr, um, sn, uf, e74⟩ := St_M st
    rw [s_mo_odds_96]
    simp only [S_mo_odds_0, S_mo_odds_1, S_mo_odds_2, S_mo_odds_3, e74, MO, SEL, PF, mr_gf_O, mr_rc_O, Option.toList_some, Option.toList_none, List.cons_append, List.nil_append, b2i_0, b2i_1, b2i_a, a_00, a_11, ai_n, si_n, nI_1, q_rl_bit, mr_up_at, Nat.reduceLeDiff, Nat.reduceLT, Nat.reduceEqDiff, Nat.reduceAdd, if_true, if_false, Bool.true_eq_false, Bool.false_eq_true, Bool.true_and, Bool.false_and, Bool.and_true, Bool.and_false, i_10, i_01, i_00, not_true_eq_false, not_false_eq_true, nb_def, nb_pow M (show M < 10 by omega), if_neg (show ¬ nI (2 ^ M) ≤ nI s from nI_ge (by omega) (by omega))]
    refine q_mo_asNow (St_M st) e77 e78 ?_
    intro h3 W' f3 g78 hW
    simp only [S_mo_odds_0, S_mo_odds_1, S_mo_odds_2, S_mo_odds_3, SEL, PF, mr_gf_O, mr_rc_O, Option.toList_some, Option.toList_none, List.cons_append, List.nil_append, b2i_0, b2i_1, b2i_a, a_00, a_11, ai_n, si_n, nI_1, q_rl_bit, mr_up_at, Nat.reduceLeDiff, Nat.reduceLT, Nat.reduceEqDiff, Nat.reduceAdd, if_true, if_false, Bool.true_eq_false, Bool.false_eq_true, Bool.true_and, Bool.false_and, Bool.and_true, Bool.and_false, i_10, i_01, i_00, not_true_eq_false, not_false_eq_true]
    have m3 := MN_fr (St_M st) f3 (by decide)
    have key := l_mo3 (h := h3) (Q := Q) (x := x) (s := s) (M := M) (x2 := nI u) (x3 := nI v) (x4 := w4) (l6 := lN (fb_sm (tmM n u v x ed M) s)) (l8 := l8) hE hx (S := S) (fun w hw => (hS w hw).1) h9' m3 (fr_at f3 (by decide) e77) ?_ n 0 h3 W' v15 v16 (by omega) (fr_rf _ _) g78 (WS_cong WS_0 (fun a ha => by rw [hW a (by omega), (hS a ha).1]))
    · exact key
    · intro h4 W4 v14 v15 v16 f4 k78 hw
      have F4 : mr_fr h1 h4 [78, 86] := fr_tr (fr_wk f3 (by decide)) f4 (by decide)
      have m4 := MN_fr (St_M st) F4 (by decide)
      obtain ⟨th, ty, tt, tk, pl, va, fa, dn, dr, um, sn, uf, k74⟩ := id m4
      simp only [S_mo_odds_0, S_mo_odds_1, S_mo_odds_2, S_mo_odds_3, k74, MO, SEL, PF, mr_gf_O, mr_rc_O, Option.toList_some, Option.toList_none, List.cons_append, List.nil_append, b2i_0, b2i_1, b2i_a, a_00, a_11, ai_n, si_n, nI_1, q_rl_bit, mr_up_at, Nat.reduceLeDiff, Nat.reduceLT, Nat.reduceEqDiff, Nat.reduceAdd, if_true, if_false, Bool.true_eq_false, Bool.false_eq_true, Bool.true_and, Bool.false_and, Bool.and_true, Bool.and_false, i_10, i_01, i_00, not_true_eq_false, not_false_eq_true]
      refine q_mo_comesBy hn (by decide) (by decide) m4 k78 (fr_at f4 (by decide) (fr_at f3 (by decide) e86)) ?_
      intro h5 f5 j86
      have F5 := fr_tr F4 f5 (by decide)
      have s5 : St h5 n len us m E Ky := St_two st F5 ⟨_, fr_at f5 (by decide) k78⟩ ⟨_, j86⟩
      obtain ⟨th, ty, tt, tk, pl, va, fa, dn, dr, um, sn, uf, j74⟩ := St_M s5
      have hr : bt (if u < n then RR W4 n u else G u) v = rr (Rw ed M (stm s) E0) n u v := by
        rw [if_pos hu, WS_rr hn hu hw, hM]
        rfl
      have es : fb_sm (tmM n u v x ed M) (s + 1) = fb_sm (tmM n u v x ed M) s + tmM n u v x ed M s := rfl
      have et : tmM n u v x ed M s = wf x (10 - x) (stm s) M * (if rr (Rw ed M (stm s) E0) n u v then 1 else 0) := rfl
      have e1M : (en1 (allc E) n n).1 = M := by rw [hM]
      simp only [S_mo_odds_0, S_mo_odds_1, S_mo_odds_2, S_mo_odds_3, j74, MO, SEL, PF, mr_gf_O, mr_rc_O, Option.toList_some, Option.toList_none, List.cons_append, List.nil_append, b2i_0, b2i_1, b2i_a, a_00, a_11, ai_n, si_n, nI_1, q_rl_bit, mr_up_at, Nat.reduceLeDiff, Nat.reduceLT, Nat.reduceEqDiff, Nat.reduceAdd, if_true, if_false, Bool.true_eq_false, Bool.false_eq_true, Bool.true_and, Bool.false_and, Bool.and_true, Bool.and_false, i_10, i_01, i_00, not_true_eq_false, not_false_eq_true, j86, show u < 12 by omega, q_mo_has (show v < 32 by omega), hr, e1M]
      have nx := fun v11 v12 v13 v14 v15 v16 => ih (s + 1) h5 v11 v12 v13 v14 v15 v16 (by omega) (F5.1.trans e1) s5
      cases z : rr (Rw ed M (stm s) E0) n u v with
      | true =>
        rw [z] at et
        simp only [if_true, Nat.mul_one] at et
        rw [es, et] at nx
        simp only [Bool.true_eq_false, if_false, S_mo_odds_0, S_mo_odds_1, S_mo_odds_2, S_mo_odds_3, SEL, PF, mr_gf_O, mr_rc_O, Option.toList_some, Option.toList_none, List.cons_append, List.nil_append, b2i_0, b2i_1, b2i_a, a_00, a_11, ai_n, si_n, nI_1, q_rl_bit, mr_up_at, Nat.reduceLeDiff, Nat.reduceLT, Nat.reduceEqDiff, Nat.reduceAdd, if_true, if_false, Bool.true_eq_false, Bool.false_eq_true, Bool.true_and, Bool.false_and, Bool.and_true, Bool.and_false, i_10, i_01, i_00, not_true_eq_false, not_false_eq_true, lN_add]
        exact nx _ _ _ _ _ _
      | false =>
        rw [z] at et
        simp only [Bool.false_eq_true, if_false, Nat.mul_zero] at et
        rw [es, et] at nx
        have z0 : (0 : Int64) = lN 0 := rfl
        simp only [if_true, S_mo_odds_0, S_mo_odds_1, S_mo_odds_2, S_mo_odds_3, SEL, PF, mr_gf_O, mr_rc_O, Option.toList_some, Option.toList_none, List.cons_append, List.nil_append, b2i_0, b2i_1, b2i_a, a_00, a_11, ai_n, si_n, nI_1, q_rl_bit, mr_up_at, Nat.reduceLeDiff, Nat.reduceLT, Nat.reduceEqDiff, Nat.reduceAdd, if_true, if_false, Bool.true_eq_false, Bool.false_eq_true, Bool.true_and, Bool.false_and, Bool.and_true, Bool.and_false, i_10, i_01, i_00, not_true_eq_false, not_false_eq_true, z0, lN_add]
        exact nx _ _ _ _ _ _
/-- what both answer -/
def oA (E : Nat → Int32) (n u v x : Nat) (w : Int32) : Int32 := if w = 0 then (lN (oU E n u v x / Nat.gcd (oU E n u v x) (oL E n u v))).toInt32 else (lN (oL E n u v / Nat.gcd (oU E n u v x) (oL E n u v))).toInt32
theorem odds_PR (hE : nt E n) (hx : x ≤ 10) (hu : u < n) : PR n u v x (10 - x) E (en1 (allc E) n n) (en1 (relc E (sme E n u v)) n n) := by
  have hn := hE.1
  refine PR_1 (r := fun a b => bt (sme E n u v) a && bt (sme E n u v) b) hE hu (by omega) (fun a b ha hb hab => ?_) n (Nat.le_refl n)
  rw [sme_bt hn, sme_bt hn]
  simp only [Bool.and_eq_true, decide_eq_true_eq, rel]
  constructor
  · rintro ⟨⟨h1, -, -⟩, -, -, h4⟩
    exact ⟨h1, h4⟩
  · rintro ⟨h1, h2⟩
    exact ⟨⟨h1, ha, rr_tr hb (rr_edge hab) h2⟩, rr_tr ha h1 (rr_edge hab), hb, h2⟩
theorem q_mo_odds_ok {w : Int32} (hw : w = 0 ∨ w = 1) (hx : x ≤ 10) (hu : u < n) (hv : v < n) (h9 : fc (allc E) n n ≤ 9) : RO 170 [.ref 74, .int (nI x), .int (nI u), .int (nI v), .int w] n len us m E Ky (oA E n u v x w) := by
  intro h Q st kk
  have hE := St_E st
  have hn := hE.1
  have h1n := St_n st
  obtain ⟨th, tt, tk, pl, va, fa, dn, dr, uf, e74⟩ := id st.2.2.2.2.2.2
  have hxi : decide (¬ nI x < 0 ∧ ¬ (10 : Int32) < nI x) = true := decide_eq_true ⟨nI_pos (by omega), nI_nlt (b := x) (a := 10) (by omega) (by decide)⟩
  rw [r_mo_odds]
  simp only [S_mo_odds_0, S_mo_odds_1, S_mo_odds_2, S_mo_odds_3, e74, MO, SEL, PF, mr_gf_O, mr_rc_O, Option.toList_some, Option.toList_none, List.cons_append, List.nil_append, b2i_0, b2i_1, b2i_a, a_00, a_11, ai_n, si_n, nI_1, q_rl_bit, mr_up_at, Nat.reduceLeDiff, Nat.reduceLT, Nat.reduceEqDiff, Nat.reduceAdd, if_true, if_false, Bool.true_eq_false, Bool.false_eq_true, Bool.true_and, Bool.false_and, Bool.and_true, Bool.and_false, i_10, i_01, i_00, not_true_eq_false, not_false_eq_true, q_mo_in, hxi]
  refine St_th (k := fun hh => mr_run 132 [.ref 74, .int (nI u)] hh _) st (fun h2 s2 e2 => ?_) e74 rfl
  obtain ⟨th, tt, tk, pl, va, fa, dn, dr, uf, g74⟩ := id s2.2.2.2.2.2.2
  obtain ⟨S, e77, hS⟩ := St_77 s2
  have ec : ∀ Q, mr_run 146 [.ref 74, .ref 77] h2 Q = Q (some (.int (nI (fc (allc E) n n)))) h2 := fun Q => by
    rw [q_mo_edges (Q := Q) (f := S) (nt_cong hE (fun u hu => (hS u hu).1)) (St_M s2) e77, esI_cong (fun k hk => (hS k hk).1), esI_nat hE n (Nat.le_refl n)]
  simp only [S_mo_odds_0, S_mo_odds_1, S_mo_odds_2, S_mo_odds_3, q_mo_isNode hn h1n (St_M s2), inN_nI hn hu, inN_nI hn hv, SEL, PF, mr_gf_O, mr_rc_O, Option.toList_some, Option.toList_none, List.cons_append, List.nil_append, b2i_0, b2i_1, b2i_a, a_00, a_11, ai_n, si_n, nI_1, q_rl_bit, mr_up_at, Nat.reduceLeDiff, Nat.reduceLT, Nat.reduceEqDiff, Nat.reduceAdd, if_true, if_false, Bool.true_eq_false, Bool.false_eq_true, Bool.true_and, Bool.false_and, Bool.and_true, Bool.and_false, i_10, i_01, i_00, not_true_eq_false, not_false_eq_true, g74, MO, q_mo_in, ch_in, decide_eq_true hw, ec, if_pos (show nI (fc (allc E) n n) ≤ 9 from nI_le (b := 9) h9 (by decide))]
  have hpr := odds_PR (v := v) hE hx hu
  obtain ⟨-, hKM, hP⟩ := hpr
  have hP0 := hP E0 (fun a b _ hb => by rw [E0_bt] at hb; exact absurd hb (by decide))
  have hM1 : (en1 (allc E) n n).1 = fc (allc E) n n := en1_ct _ n n
  cases hMe : en1 (allc E) n n with
  | mk M ed =>
    rw [hMe] at hM1 hKM hP0
    have hMf : fc (allc E) n n = M := hM1.symm
    rw [hMf] at h9 ⊢
    have hKd : (en1 (relc E (sme E n u v)) n n).1 ≤ M := hKM
    have hPd : Pn n u v x (10 - x) ed M E0 = oU E n u v x * 10 ^ (M - (en1 (relc E (sme E n u v)) n n).1) := hP0
    have hLd : 10 ^ M = oL E n u v * 10 ^ (M - (en1 (relc E (sme E n u v)) n n).1) := by
      unfold oL
      rw [← Nat.pow_add, show (en1 (relc E (sme E n u v)) n n).1 + (M - (en1 (relc E (sme E n u v)) n n).1) = M by omega]
    have hl := least (U := oU E n u v x) (L := oL E n u v) (c := 10 ^ (M - (en1 (relc E (sme E n u v)) n n).1)) (Nat.pow_pos (by decide))
    rw [← hPd, ← hLd] at hl
    have hsum : fb_sm (tmM n u v x ed M) (2 ^ M) = Pn n u v x (10 - x) ed M E0 := by
      rw [← sum_P (n := n) (u := u) (v := v) (x := x) (y := 10 - x) (ed := ed) true M E0]
      rfl
    have hle : Pn n u v x (10 - x) ed M E0 ≤ 10 ^ M := Pn_le (by omega) M E0
    have hp30 := p30 h9
    have hg0 : 0 < Nat.gcd (Pn n u v x (10 - x) ed M E0) (10 ^ M) := Nat.gcd_pos_of_pos_right _ (Nat.pow_pos (by decide))
    have hgl : Nat.gcd (Pn n u v x (10 - x) ed M E0) (10 ^ M) ≤ 10 ^ M := Nat.gcd_le_right _ (Nat.pow_pos (by decide))
    have k1 := l_mo1 (h := h2) (Q := Q) (M := M) h9 (x1 := nI x) (x2 := nI u) (x3 := nI v) (x4 := w) (l6 := lN 0) (v11 := .null) (v12 := .null) (v13 := .null) (v14 := .null) (v15 := .null) (v16 := .null) M 0 (by omega) ?_
    · exact k1
    · simp only [S_mo_odds_0, S_mo_odds_1, S_mo_odds_2, S_mo_odds_3, SEL, PF, mr_gf_O, mr_rc_O, Option.toList_some, Option.toList_none, List.cons_append, List.nil_append, b2i_0, b2i_1, b2i_a, a_00, a_11, ai_n, si_n, nI_1, q_rl_bit, mr_up_at, Nat.reduceLeDiff, Nat.reduceLT, Nat.reduceEqDiff, Nat.reduceAdd, if_true, if_false, Bool.true_eq_false, Bool.false_eq_true, Bool.true_and, Bool.false_and, Bool.and_true, Bool.and_false, i_10, i_01, i_00, not_true_eq_false, not_false_eq_true]
      have k2 := l_mo2 (h := h2) (Q := Q) (Ky := Ky) (len := len) (us := us) (m := m) (w4 := w) (l8 := lN (10 ^ M)) hx hu hv hMe h9 ?_ (2 ^ M) 0 h2 .null .null .null .null .null .null (by omega) rfl s2
      · exact k2
      · intro h3 v11 v12 v13 v14 v15 v16 e3 s3
        have kk3 := kk h3 s3 (e3.trans e2)
        rw [hsum]
        have hne : ¬ lN (Nat.gcd (Pn n u v x (10 - x) ed M E0) (10 ^ M)) = 0 := fun z => by have := (fb_lN_inj (a := Nat.gcd (Pn n u v x (10 - x) ed M E0) (10 ^ M)) (b := 0) (by omega) (by decide)).mp z; omega
        simp only [S_mo_odds_0, S_mo_odds_1, S_mo_odds_2, S_mo_odds_3, SEL, PF, mr_gf_O, mr_rc_O, Option.toList_some, Option.toList_none, List.cons_append, List.nil_append, b2i_0, b2i_1, b2i_a, a_00, a_11, ai_n, si_n, nI_1, q_rl_bit, mr_up_at, Nat.reduceLeDiff, Nat.reduceLT, Nat.reduceEqDiff, Nat.reduceAdd, if_true, if_false, Bool.true_eq_false, Bool.false_eq_true, Bool.true_and, Bool.false_and, Bool.and_true, Bool.and_false, i_10, i_01, i_00, not_true_eq_false, not_false_eq_true, q_mo_gcd (show Pn n u v x (10 - x) ed M E0 < 2 ^ 31 by omega) (show 10 ^ M < 2 ^ 31 by omega), hne, pk_lDiv (show Pn n u v x (10 - x) ed M E0 < 2 ^ 63 by omega) hg0 (show Nat.gcd (Pn n u v x (10 - x) ed M E0) (10 ^ M) < 2 ^ 63 by omega), pk_lDiv (show 10 ^ M < 2 ^ 63 by omega) hg0 (show Nat.gcd (Pn n u v x (10 - x) ed M E0) (10 ^ M) < 2 ^ 63 by omega), hl.1, hl.2]
        unfold oA at kk3
        rcases hw with rfl | rfl
        · simp only [SEL, PF, mr_gf_O, mr_rc_O, Option.toList_some, Option.toList_none, List.cons_append, List.nil_append, b2i_0, b2i_1, b2i_a, a_00, a_11, ai_n, si_n, nI_1, q_rl_bit, mr_up_at, Nat.reduceLeDiff, Nat.reduceLT, Nat.reduceEqDiff, Nat.reduceAdd, if_true, if_false, Bool.true_eq_false, Bool.false_eq_true, Bool.true_and, Bool.false_and, Bool.and_true, Bool.and_false, i_10, i_01, i_00, not_true_eq_false, not_false_eq_true] at kk3 ⊢
          exact kk3
        · simp only [SEL, PF, mr_gf_O, mr_rc_O, Option.toList_some, Option.toList_none, List.cons_append, List.nil_append, b2i_0, b2i_1, b2i_a, a_00, a_11, ai_n, si_n, nI_1, q_rl_bit, mr_up_at, Nat.reduceLeDiff, Nat.reduceLT, Nat.reduceEqDiff, Nat.reduceAdd, if_true, if_false, Bool.true_eq_false, Bool.false_eq_true, Bool.true_and, Bool.false_and, Bool.and_true, Bool.and_false, i_10, i_01, i_00, not_true_eq_false, not_false_eq_true] at kk3 ⊢
          exact kk3
theorem q_rl_odds_ok {w : Int32} (hw : w = 0 ∨ w = 1) (hx : x ≤ 10) (hu : u < n) (hv : v < n) (h9 : fc (allc E) n n ≤ 9) : RO 93 [.ref 0, .int (nI x), .int (nI u), .int (nI v), .int w] n len us m E Ky (oA E n u v x w) := by
  intro h Q st kk
  have hE := St_E st
  have hn := hE.1
  obtain ⟨U0, L0, x0, e24⟩ := c24 st
  have hpr := odds_PR (v := v) hE hx hu
  have hK9 : fc (relc E (sme E n u v)) n n ≤ 9 := by
    have := hpr.2.1
    rw [en1_ct, en1_ct] at this
    omega
  rw [r_rl_odds]
  simp only [S_rl_odds_0, S_rl_odds_1, St_0 st, RLO, SEL, PF, mr_gf_O, mr_rc_O, Option.toList_some, Option.toList_none, List.cons_append, List.nil_append, b2i_0, b2i_1, b2i_a, a_00, a_11, ai_n, si_n, nI_1, q_rl_bit, mr_up_at, Nat.reduceLeDiff, Nat.reduceLT, Nat.reduceEqDiff, Nat.reduceAdd, if_true, if_false, Bool.true_eq_false, Bool.false_eq_true, Bool.true_and, Bool.false_and, Bool.and_true, Bool.and_false, i_10, i_01, i_00, not_true_eq_false, not_false_eq_true, q_rl_areNodes (St_0 st) (St_1 st), inN_nI hn hu, inN_nI hn hv, q_rl_isChoice, decide_eq_true hw, if_neg (show ¬ nI x < 0 from nI_pos (by omega)), if_neg (show ¬ (10 : Int32) < nI x from nI_nlt (b := x) (a := 10) (by omega) (by decide)), St_1 st, NE]
  simp only [q_ne_edgeCount hE (St_1 st) (St_2 st), esI_nat hE n (Nat.le_refl n), S_rl_odds_0, S_rl_odds_1, St_0 st, RLO, SEL, PF, mr_gf_O, mr_rc_O, Option.toList_some, Option.toList_none, List.cons_append, List.nil_append, b2i_0, b2i_1, b2i_a, a_00, a_11, ai_n, si_n, nI_1, q_rl_bit, mr_up_at, Nat.reduceLeDiff, Nat.reduceLT, Nat.reduceEqDiff, Nat.reduceAdd, if_true, if_false, Bool.true_eq_false, Bool.false_eq_true, Bool.true_and, Bool.false_and, Bool.and_true, Bool.and_false, i_10, i_01, i_00, not_true_eq_false, not_false_eq_true, if_pos (show nI (fc (allc E) n n) ≤ 9 from nI_le (b := 9) h9 (by decide)), e24]
  refine q_ch_weigh st hx hu hv hK9 ?_
  intro h2 e e2 s2 g24
  have kk2 := kk h2 s2 e2
  simp only [S_rl_odds_0, S_rl_odds_1, St_0 s2, RLO, SEL, PF, mr_gf_O, mr_rc_O, Option.toList_some, Option.toList_none, List.cons_append, List.nil_append, b2i_0, b2i_1, b2i_a, a_00, a_11, ai_n, si_n, nI_1, q_rl_bit, mr_up_at, Nat.reduceLeDiff, Nat.reduceLT, Nat.reduceEqDiff, Nat.reduceAdd, if_true, if_false, Bool.true_eq_false, Bool.false_eq_true, Bool.true_and, Bool.false_and, Bool.and_true, Bool.and_false, i_10, i_01, i_00, not_true_eq_false, not_false_eq_true, g24]
  unfold oA at kk2
  rcases hw with rfl | rfl
  · simp only [SEL, PF, mr_gf_O, mr_rc_O, Option.toList_some, Option.toList_none, List.cons_append, List.nil_append, b2i_0, b2i_1, b2i_a, a_00, a_11, ai_n, si_n, nI_1, q_rl_bit, mr_up_at, Nat.reduceLeDiff, Nat.reduceLT, Nat.reduceEqDiff, Nat.reduceAdd, if_true, if_false, Bool.true_eq_false, Bool.false_eq_true, Bool.true_and, Bool.false_and, Bool.and_true, Bool.and_false, i_10, i_01, i_00, not_true_eq_false, not_false_eq_true] at kk2 ⊢
    exact kk2
  · simp only [SEL, PF, mr_gf_O, mr_rc_O, Option.toList_some, Option.toList_none, List.cons_append, List.nil_append, b2i_0, b2i_1, b2i_a, a_00, a_11, ai_n, si_n, nI_1, q_rl_bit, mr_up_at, Nat.reduceLeDiff, Nat.reduceLT, Nat.reduceEqDiff, Nat.reduceAdd, if_true, if_false, Bool.true_eq_false, Bool.false_eq_true, Bool.true_and, Bool.false_and, Bool.and_true, Bool.and_false, i_10, i_01, i_00, not_true_eq_false, not_false_eq_true] at kk2 ⊢
    exact kk2
theorem b_odds (hi : Inv h) (x u v w : Int32) : Both 93 170 [.int x, .int u, .int v, .int w] h := by
  obtain ⟨n, len, us, m, E, K, st⟩ := hi
  have hE := St_E st
  have hn := hE.1
  have h1n := St_n st
  by_cases ok : (decide (¬ x < 0 ∧ ¬ (10 : Int32) < x) && (inN u n && inN v n) && decide (w = 0 ∨ w = 1)) = true
  · have hx : ¬ x < 0 ∧ ¬ (10 : Int32) < x := by
      by_cases z : ¬ x < 0 ∧ ¬ (10 : Int32) < x
      · exact z
      · rw [decide_eq_false z] at ok
        exact absurd ok (by simp)
    rw [decide_eq_true hx, Bool.true_and] at ok
    have hu : inN u n = true := by revert ok; cases inN u n <;> simp
    have hv : inN v n = true := by revert ok; cases inN v n <;> simp
    have hw : w = 0 ∨ w = 1 := by simpa [hu, hv] using ok
    obtain ⟨a, ha, rfl⟩ := inN_yes hn hu
    obtain ⟨b, hb, rfl⟩ := inN_yes hn hv
    obtain ⟨j, hj, rfl⟩ := in_lt (b := 10) (by decide) hx
    by_cases h9 : fc (allc E) n n ≤ 9
    · exact both_ro st (oA E n a b j w) (q_rl_odds_ok hw hj ha hb h9) (q_mo_odds_ok hw hj ha hb h9)
    · have hb2 : fc (allc E) n n ≤ 12 * 12 := by
        have h1 : fc (allc E) n n ≤ n * 12 := fb_sm_bound (f := fun p => fb_ct (allc E p) n) (fun k _ => Nat.le_trans (fb_ct_le _ n) hn)
        have h2 : n * 12 ≤ 12 * 12 := Nat.mul_le_mul_right 12 hn
        omega
      refine both_ro st (-2) ?_ ?_
      · intro h Q st kk
        have kk0 := kk h st rfl
        rw [r_rl_odds]
        simp only [S_rl_odds_0, S_rl_odds_1, St_0 st, RLO, SEL, PF, mr_gf_O, mr_rc_O, Option.toList_some, Option.toList_none, List.cons_append, List.nil_append, b2i_0, b2i_1, b2i_a, a_00, a_11, ai_n, si_n, nI_1, q_rl_bit, mr_up_at, Nat.reduceLeDiff, Nat.reduceLT, Nat.reduceEqDiff, Nat.reduceAdd, if_true, if_false, Bool.true_eq_false, Bool.false_eq_true, Bool.true_and, Bool.false_and, Bool.and_true, Bool.and_false, i_10, i_01, i_00, not_true_eq_false, not_false_eq_true, q_rl_areNodes (St_0 st) (St_1 st), hu, hv, q_rl_isChoice, decide_eq_true hw, if_neg hx.1, if_neg hx.2, St_1 st, NE]
        simp only [q_ne_edgeCount hE (St_1 st) (St_2 st), esI_nat hE n (Nat.le_refl n), S_rl_odds_0, S_rl_odds_1, SEL, PF, mr_gf_O, mr_rc_O, Option.toList_some, Option.toList_none, List.cons_append, List.nil_append, b2i_0, b2i_1, b2i_a, a_00, a_11, ai_n, si_n, nI_1, q_rl_bit, mr_up_at, Nat.reduceLeDiff, Nat.reduceLT, Nat.reduceEqDiff, Nat.reduceAdd, if_true, if_false, Bool.true_eq_false, Bool.false_eq_true, Bool.true_and, Bool.false_and, Bool.and_true, Bool.and_false, i_10, i_01, i_00, not_true_eq_false, not_false_eq_true, if_neg (show ¬ nI (fc (allc E) n n) ≤ 9 from nI_ge (a := 9) (by omega) (by omega))]
        exact kk0
      · intro h Q st kk
        obtain ⟨th, tt, tk, pl, va, fa, dn, dr, uf, e74⟩ := id st.2.2.2.2.2.2
        rw [r_mo_odds]
        simp only [S_mo_odds_0, S_mo_odds_1, S_mo_odds_2, S_mo_odds_3, e74, MO, SEL, PF, mr_gf_O, mr_rc_O, Option.toList_some, Option.toList_none, List.cons_append, List.nil_append, b2i_0, b2i_1, b2i_a, a_00, a_11, ai_n, si_n, nI_1, q_rl_bit, mr_up_at, Nat.reduceLeDiff, Nat.reduceLT, Nat.reduceEqDiff, Nat.reduceAdd, if_true, if_false, Bool.true_eq_false, Bool.false_eq_true, Bool.true_and, Bool.false_and, Bool.and_true, Bool.and_false, i_10, i_01, i_00, not_true_eq_false, not_false_eq_true, q_mo_in, decide_eq_true hx]
        refine St_th (k := fun hh => mr_run 132 [.ref 74, .int (nI a)] hh _) st (fun h2 s2 e2 => ?_) e74 rfl
        obtain ⟨th, tt, tk, pl, va, fa, dn, dr, uf, g74⟩ := id s2.2.2.2.2.2.2
        obtain ⟨S, e77, hS⟩ := St_77 s2
        have ec : ∀ Q, mr_run 146 [.ref 74, .ref 77] h2 Q = Q (some (.int (nI (fc (allc E) n n)))) h2 := fun Q => by
          rw [q_mo_edges (Q := Q) (f := S) (nt_cong hE (fun u hu => (hS u hu).1)) (St_M s2) e77, esI_cong (fun k hk => (hS k hk).1), esI_nat hE n (Nat.le_refl n)]
        simp only [S_mo_odds_0, S_mo_odds_1, S_mo_odds_2, S_mo_odds_3, q_mo_isNode hn h1n (St_M s2), hu, hv, SEL, PF, mr_gf_O, mr_rc_O, Option.toList_some, Option.toList_none, List.cons_append, List.nil_append, b2i_0, b2i_1, b2i_a, a_00, a_11, ai_n, si_n, nI_1, q_rl_bit, mr_up_at, Nat.reduceLeDiff, Nat.reduceLT, Nat.reduceEqDiff, Nat.reduceAdd, if_true, if_false, Bool.true_eq_false, Bool.false_eq_true, Bool.true_and, Bool.false_and, Bool.and_true, Bool.and_false, i_10, i_01, i_00, not_true_eq_false, not_false_eq_true, g74, MO, q_mo_in, ch_in, decide_eq_true hw, ec, if_neg (show ¬ nI (fc (allc E) n n) ≤ 9 from nI_ge (a := 9) (by omega) (by omega))]
        exact kk h2 s2 e2
  · have ok' : (decide (¬ x < 0 ∧ ¬ (10 : Int32) < x) && (inN u n && inN v n) && decide (w = 0 ∨ w = 1)) = false := by simpa using ok
    refine both_ro st (-1) ?_ ?_
    · intro h Q st kk
      have kk0 := kk h st rfl
      rw [r_rl_odds]
      by_cases x1 : x < 0
      · simp only [S_rl_odds_0, S_rl_odds_1, if_pos x1]
        exact kk0
      · by_cases x2 : (10 : Int32) < x
        · simp only [S_rl_odds_0, S_rl_odds_1, if_neg x1, if_pos x2]
          exact kk0
        · rw [decide_eq_true ⟨x1, x2⟩, Bool.true_and] at ok'
          simp only [S_rl_odds_0, S_rl_odds_1, St_0 st, RLO, SEL, PF, mr_gf_O, mr_rc_O, Option.toList_some, Option.toList_none, List.cons_append, List.nil_append, b2i_0, b2i_1, b2i_a, a_00, a_11, ai_n, si_n, nI_1, q_rl_bit, mr_up_at, Nat.reduceLeDiff, Nat.reduceLT, Nat.reduceEqDiff, Nat.reduceAdd, if_true, if_false, Bool.true_eq_false, Bool.false_eq_true, Bool.true_and, Bool.false_and, Bool.and_true, Bool.and_false, i_10, i_01, i_00, not_true_eq_false, not_false_eq_true, q_rl_areNodes (St_0 st) (St_1 st), q_rl_isChoice, if_neg x1, if_neg x2]
          cases hab : (inN u n && inN v n) with
          | false => simpa only [SEL, PF, mr_gf_O, mr_rc_O, Option.toList_some, Option.toList_none, List.cons_append, List.nil_append, b2i_0, b2i_1, b2i_a, a_00, a_11, ai_n, si_n, nI_1, q_rl_bit, mr_up_at, Nat.reduceLeDiff, Nat.reduceLT, Nat.reduceEqDiff, Nat.reduceAdd, if_true, if_false, Bool.true_eq_false, Bool.false_eq_true, Bool.true_and, Bool.false_and, Bool.and_true, Bool.and_false, i_10, i_01, i_00, not_true_eq_false, not_false_eq_true] using kk0
          | true =>
            rw [hab, Bool.true_and] at ok'
            simpa only [ok', SEL, PF, mr_gf_O, mr_rc_O, Option.toList_some, Option.toList_none, List.cons_append, List.nil_append, b2i_0, b2i_1, b2i_a, a_00, a_11, ai_n, si_n, nI_1, q_rl_bit, mr_up_at, Nat.reduceLeDiff, Nat.reduceLT, Nat.reduceEqDiff, Nat.reduceAdd, if_true, if_false, Bool.true_eq_false, Bool.false_eq_true, Bool.true_and, Bool.false_and, Bool.and_true, Bool.and_false, i_10, i_01, i_00, not_true_eq_false, not_false_eq_true] using kk0
    · intro h Q st kk
      obtain ⟨th, tt, tk, pl, va, fa, dn, dr, uf, e74⟩ := id st.2.2.2.2.2.2
      rw [r_mo_odds]
      by_cases hx : ¬ x < 0 ∧ ¬ (10 : Int32) < x
      · rw [decide_eq_true hx, Bool.true_and] at ok'
        simp only [S_mo_odds_0, S_mo_odds_1, S_mo_odds_2, S_mo_odds_3, e74, MO, SEL, PF, mr_gf_O, mr_rc_O, Option.toList_some, Option.toList_none, List.cons_append, List.nil_append, b2i_0, b2i_1, b2i_a, a_00, a_11, ai_n, si_n, nI_1, q_rl_bit, mr_up_at, Nat.reduceLeDiff, Nat.reduceLT, Nat.reduceEqDiff, Nat.reduceAdd, if_true, if_false, Bool.true_eq_false, Bool.false_eq_true, Bool.true_and, Bool.false_and, Bool.and_true, Bool.and_false, i_10, i_01, i_00, not_true_eq_false, not_false_eq_true, q_mo_in, decide_eq_true hx]
        refine St_th (k := fun hh => mr_run 132 [.ref 74, .int u] hh _) st (fun h2 s2 e2 => ?_) e74 rfl
        obtain ⟨th, tt, tk, pl, va, fa, dn, dr, uf, g74⟩ := id s2.2.2.2.2.2.2
        have kk0 := kk h2 s2 e2
        simp only [S_mo_odds_0, S_mo_odds_1, S_mo_odds_2, S_mo_odds_3, q_mo_isNode hn h1n (St_M s2), SEL, PF, mr_gf_O, mr_rc_O, Option.toList_some, Option.toList_none, List.cons_append, List.nil_append, b2i_0, b2i_1, b2i_a, a_00, a_11, ai_n, si_n, nI_1, q_rl_bit, mr_up_at, Nat.reduceLeDiff, Nat.reduceLT, Nat.reduceEqDiff, Nat.reduceAdd, if_true, if_false, Bool.true_eq_false, Bool.false_eq_true, Bool.true_and, Bool.false_and, Bool.and_true, Bool.and_false, i_10, i_01, i_00, not_true_eq_false, not_false_eq_true, g74, MO, q_mo_in, ch_in]
        cases hu : inN u n with
        | false => simpa only [SEL, PF, mr_gf_O, mr_rc_O, Option.toList_some, Option.toList_none, List.cons_append, List.nil_append, b2i_0, b2i_1, b2i_a, a_00, a_11, ai_n, si_n, nI_1, q_rl_bit, mr_up_at, Nat.reduceLeDiff, Nat.reduceLT, Nat.reduceEqDiff, Nat.reduceAdd, if_true, if_false, Bool.true_eq_false, Bool.false_eq_true, Bool.true_and, Bool.false_and, Bool.and_true, Bool.and_false, i_10, i_01, i_00, not_true_eq_false, not_false_eq_true] using kk0
        | true => cases hv : inN v n with
          | false => simpa only [SEL, PF, mr_gf_O, mr_rc_O, Option.toList_some, Option.toList_none, List.cons_append, List.nil_append, b2i_0, b2i_1, b2i_a, a_00, a_11, ai_n, si_n, nI_1, q_rl_bit, mr_up_at, Nat.reduceLeDiff, Nat.reduceLT, Nat.reduceEqDiff, Nat.reduceAdd, if_true, if_false, Bool.true_eq_false, Bool.false_eq_true, Bool.true_and, Bool.false_and, Bool.and_true, Bool.and_false, i_10, i_01, i_00, not_true_eq_false, not_false_eq_true] using kk0
          | true =>
            rw [hu, hv] at ok'
            simp only [Bool.true_and] at ok'
            simpa only [ok', SEL, PF, mr_gf_O, mr_rc_O, Option.toList_some, Option.toList_none, List.cons_append, List.nil_append, b2i_0, b2i_1, b2i_a, a_00, a_11, ai_n, si_n, nI_1, q_rl_bit, mr_up_at, Nat.reduceLeDiff, Nat.reduceLT, Nat.reduceEqDiff, Nat.reduceAdd, if_true, if_false, Bool.true_eq_false, Bool.false_eq_true, Bool.true_and, Bool.false_and, Bool.and_true, Bool.and_false, i_10, i_01, i_00, not_true_eq_false, not_false_eq_true] using kk0
      · simp only [S_mo_odds_0, S_mo_odds_1, S_mo_odds_2, S_mo_odds_3, e74, MO, SEL, PF, mr_gf_O, mr_rc_O, Option.toList_some, Option.toList_none, List.cons_append, List.nil_append, b2i_0, b2i_1, b2i_a, a_00, a_11, ai_n, si_n, nI_1, q_rl_bit, mr_up_at, Nat.reduceLeDiff, Nat.reduceLT, Nat.reduceEqDiff, Nat.reduceAdd, if_true, if_false, Bool.true_eq_false, Bool.false_eq_true, Bool.true_and, Bool.false_and, Bool.and_true, Bool.and_false, i_10, i_01, i_00, not_true_eq_false, not_false_eq_true, q_mo_in, decide_eq_false hx]
        exact kk _ (St_mo st (fr_up _ (fr_rf _ _) (by decide)) ⟨_, _, _, _, _, _, _, _, _, up_eq _ _ _⟩) rfl
end ODDS
