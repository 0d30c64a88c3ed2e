/-! what is done and undone -/
def LC : List Nat := [1, 2, 3, 9, 10, 11, 12, 13, 14, 15, 16, 19, 33, 34, 35, 36, 37, 38, 39, 40, 41, 42, 43, 44, 45, 46, 47, 48, 49, 50, 51, 52, 53, 54, 55, 56, 57, 58, 59, 60, 61, 62, 63, 64]
def LM : List Nat := [74, 77, 81, 85]
def CN (h : mr_h) (E K : Nat → Int32) (n us : Nat) (e k : Nat → Nat → Int32) : Prop := h.1 1 = NE 1 n ∧ h.1 2 = mr_I 12 E ∧ h.1 3 = mr_I 12 K ∧ DV h E K n ∧ gPc h n us e k
theorem LC_p {a : Nat} (h : 33 ≤ a ∧ a ≤ 64) : a ∈ LC := (by decide +kernel : ∀ a, a < 65 → 33 ≤ a → a ∈ LC) a (by omega) h.1
theorem fin_push {h h1 h2 : mr_h} {n len us m us' : Nat} {E K E' K' S' D' : Nat → Int32} {e k : Nat → Nat → Int32} (st : St h n len us m E K) (f1 : mr_fr h h1 LC) (cn : CN h1 E' K' n us' e k) (hE' : nt E' n) (hK' : rks E' K' n) (f2 : mr_fr h1 h2 LM) (gs : gS h2) (gm : gM h2 len n us' m)
    (e77 : h2.1 77 = mr_I 24 S') (hS' : ∀ u, u < n → S' u = E' u ∧ S' (12 + u) = K' u) (e81 : h2.1 81 = mr_I 240 D') (hD' : ∀ i, i < us' → ∀ u, u < n → D' (24 * i + u) = e i u ∧ D' (24 * i + 12 + u) = k i u) : St h2 n len us' m E' K' := by
  obtain ⟨c1, c2, c3, c4, c5⟩ := cn
  have F : mr_fr h h2 (LC ++ LM) := fr_tr (fr_wk f1 (fun a ha => List.mem_append_left _ ha)) f2 (fun a ha => List.mem_append_right _ ha)
  refine ⟨gs, ⟨hE', St_n st, hK', fr_at f2 (by decide) c1, fr_at f2 (by decide) c2, fr_at f2 (by decide) c3, DV_fr c4 f2 (by decide), S', e77, hS'⟩, gT_fr st.2.2.1 F (by decide), gV_fr st.2.2.2.1 F (by decide), ?_, gA_fr st.2.2.2.2.2.1 F (by decide), gm⟩
  exact gP_c.mpr ⟨D', e81, gPc_cong (gPc_fr c5 f2 (by decide)) hD'⟩
theorem DS_fr {h h1 : mr_h} {M : List Nat} (hd : DS h) (f : mr_fr h h1 M) (hM : ∀ a ∈ [9, 10, 11, 12, 13, 14, 15, 16], a ∉ M) : DS h1 := by
  obtain ⟨n0, nm, A, B, C, I, O, R, L, e9, e10, e11, e12, e13, e14, e15, e16⟩ := hd
  exact ⟨n0, nm, A, B, C, I, O, R, L, fr_at f (hM 9 (by decide)) e9, fr_at f (hM 10 (by decide)) e10, fr_at f (hM 11 (by decide)) e11, fr_at f (hM 12 (by decide)) e12, fr_at f (hM 13 (by decide)) e13, fr_at f (hM 14 (by decide)) e14, fr_at f (hM 15 (by decide)) e15, fr_at f (hM 16 (by decide)) e16⟩
def Dsh (D : Nat → Int32) (k : Nat) : Nat → Int32 := fun j => if j < k then D (j + 24) else D j
theorem Dsh_s (D : Nat → Int32) (k : Nat) : upd (Dsh D k) k (D (k + 24)) = Dsh D (k + 1) := by
  refine upd_ext ?_ ?_
  · unfold Dsh
    rw [if_pos (by omega)]
  · intro j hj
    unfold Dsh
    simp only [lt_s_ne hj]
section PUSH
variable {h : mr_h} {Q : Option Value → mr_h → Prop} {n us : Nat} {th ty tt tk pl va fa dn dr sn uf : Int32} {E K S D : Nat → Int32}
theorem q_rl_labelsThen (hE : nt E n) (e0 : h.1 0 = RLO) (e1 : h.1 1 = NE 1 n) (e2 : h.1 2 = mr_I 12 E) (e3 : h.1 3 = mr_I 12 K) (hs : DS h) (kk : ∀ h2, mr_fr h h2 [9, 10, 11, 12, 13, 14, 15, 16] → DV h2 E K n → Q (some (.int (Lc E K n n))) h2) : mr_run 65 [.ref 0] h Q := by
  rw [r_rl_labelsThen]
  obtain ⟨n0, nm, A, B, C, I, O, R, L, e9, -⟩ := id hs
  simp only [S_rl_labelsThen, e0, RLO, SEL, PF, mr_gf_O, mr_rc_O, Option.toList_some, Option.toList_none, List.cons_append, List.nil_append, b2i_0, b2i_1, b2i_a, a_00, a_11, ai_n, si_n, nI_1, q_rl_bit, mr_up_at, Nat.reduceLeDiff, Nat.reduceLT, Nat.reduceEqDiff, Nat.reduceAdd, if_true, if_false, e9, RE]
  refine q_re_derive hE e1 e2 e3 hs (fun h2 f2 d2 => ?_)
  have g0 := fr_at f2 (by decide) e0
  simp only [S_rl_labelsThen, g0, RLO, SEL, PF, mr_gf_O, mr_rc_O, Option.toList_some, Option.toList_none, List.cons_append, List.nil_append, b2i_0, b2i_1, b2i_a, a_00, a_11, ai_n, si_n, nI_1, q_rl_bit, mr_up_at, Nat.reduceLeDiff, Nat.reduceLT, Nat.reduceEqDiff, Nat.reduceAdd, if_true, if_false, d2.1, RE]
  rw [q_re_labelCount hE d2]
  simp only [S_rl_labelsThen, SEL, PF, mr_gf_O, mr_rc_O, Option.toList_some, Option.toList_none, List.cons_append, List.nil_append, b2i_0, b2i_1, b2i_a, a_00, a_11, ai_n, si_n, nI_1, q_rl_bit, mr_up_at, Nat.reduceLeDiff, Nat.reduceLT, Nat.reduceEqDiff, Nat.reduceAdd, if_true, if_false]
  exact kk h2 f2 d2
theorem q_mo_labels2 {g : Nat → Int32} (hE : nt E n) (hS : ∀ u, u < n → S u = E u ∧ S (12 + u) = K u) (h99 : ∀ u, u < n → S (12 + u) ≤ 99) (hm : MN h n) (e85 : h.1 85 = mr_I 12 g) (e77 : h.1 77 = mr_I 24 S) (kk : ∀ h2 A, mr_fr h h2 [85] → h2.1 85 = mr_I 12 A → (∀ j, j < n → A j = RR E n j) → Q (some (.int (Lc E K n n))) h2) : mr_run 148 [.ref 74] h Q := by
  obtain ⟨th, ty, tt, tk, pl, va, fa, dn, dr, um, sn, uf, e74⟩ := id hm
  rw [r_mo_labels]
  simp only [S_mo_labels, e74, MO, SEL, PF, mr_gf_O, mr_rc_O, Option.toList_some, Option.toList_none, List.cons_append, List.nil_append, b2i_0, b2i_1, b2i_a, a_00, a_11, ai_n, si_n, nI_1, q_rl_bit, mr_up_at, Nat.reduceLeDiff, Nat.reduceLT, Nat.reduceEqDiff, Nat.reduceAdd, if_true, if_false]
  refine q_mo_comesBy hE.1 (by decide) (by decide) hm e77 e85 ?_
  intro h2 f2 g85
  have hA : ∀ j, j < n → (fun j => if j < n then RR S n j else g j) j = RR E n j := fun j hj => by
    show (if j < n then _ else _) = _
    rw [if_pos hj]
    exact RR_cong (fun u hu => (hS u hu).1) hj
  have hK : ∀ k, k < n → (fun k => S (12 + k)) k = K k := fun k hk => (hS k hk).2
  have m2 := MN_fr hm f2 (by decide)
  have g77 := fr_at f2 (by decide) e77
  obtain ⟨th2, ty2, tt2, tk2, pl2, va2, fa2, dn2, dr2, um2, sn2, uf2, g74⟩ := id m2
  simp only [S_mo_labels, g74, MO, SEL, PF, mr_gf_O, mr_rc_O, Option.toList_some, Option.toList_none, List.cons_append, List.nil_append, b2i_0, b2i_1, b2i_a, a_00, a_11, ai_n, si_n, nI_1, q_rl_bit, mr_up_at, Nat.reduceLeDiff, Nat.reduceLT, Nat.reduceEqDiff, Nat.reduceAdd, if_true, if_false, q_mo_names hE hA m2 g85]
  have := l_mo_labels (Q := Q) hE hA m2 g85 g77 h99 n 0 (by omega)
  rw [nI_0] at this
  refine this.mpr ?_
  rw [Lc_cong hK]
  exact kk h2 _ f2 g85 hA
theorem l_notes1 (e74 : h.1 74 = MO th ty tt tk pl va fa (nI n) dn dr (nI us) sn uf) (kk : ∀ h2, mr_fr h h2 [81] → h2.1 81 = mr_I 240 (Dsh D 216) → mr_wp 157 39 [.ref 74, .int (nI 216)] [] h2 Q) : ∀ (d k : Nat) (h1 : mr_h), k + d = 216 → h1.1 81 = mr_I 240 (Dsh D k) → mr_fr h h1 [81] → mr_wp 157 11 [.ref 74, .int (nI k)] [] h1 Q := by
  intro d
  induction d with
  | zero =>
    intro k h1 hk e81 f
    have : k = 216 := by omega
    subst this
    have g74 := fr_at f (by decide) e74
    have := kk h1 f e81
    rw [s_mo_notes_11]
    simp only [S_mo_notes_0, S_mo_notes_1, g74, MO, SEL, PF, mr_gf_O, mr_rc_O, Option.toList_some, Option.toList_none, List.cons_append, List.nil_append, b2i_0, b2i_1, b2i_a, a_00, a_11, ai_n, si_n, nI_1, q_rl_bit, mr_up_at, Nat.reduceLeDiff, Nat.reduceLT, Nat.reduceEqDiff, Nat.reduceAdd, if_true, if_false, if_pos (show (216 : Int32) ≤ nI 216 by decide)] at this ⊢
    exact this
  | succ d ih =>
    intro k h1 hk e81 f
    have g74 := fr_at f (by decide) e74
    have h1k : k < 240 := by omega
    have h2k : k + 24 < 240 := by omega
    have hd : Dsh D k (k + 24) = D (k + 24) := by
      unfold Dsh
      rw [if_neg (by omega)]
    rw [s_mo_notes_11]
    simp only [S_mo_notes_0, S_mo_notes_1, g74, MO, SEL, PF, mr_gf_O, mr_rc_O, Option.toList_some, Option.toList_none, List.cons_append, List.nil_append, b2i_0, b2i_1, b2i_a, a_00, a_11, ai_n, si_n, nI_1, q_rl_bit, mr_up_at, Nat.reduceLeDiff, Nat.reduceLT, Nat.reduceEqDiff, Nat.reduceAdd, if_true, if_false, if_neg (show ¬ (216 : Int32) ≤ nI k from nI_ge (b := 216) (by omega) (by decide)), e81, p_24, h1k, h2k, hd, Dsh_s]
    exact ih (k + 1) _ (by omega) (up_eq _ _ _) (fr_up _ f (by decide))
theorem l_notes2 (hu : us < 10) (e74 : h.1 74 = MO th ty tt tk pl va fa (nI n) dn dr (nI us) sn uf) (e77 : h.1 77 = mr_I 24 S) (kk : ∀ h2, mr_fr h h2 [74, 81] → h2.1 74 = MO th ty tt tk pl va fa (nI n) dn dr (nI (us + 1)) sn uf → h2.1 81 = mr_I 240 (fb_put D S (24 * us) 24) → Q none h2) : ∀ (d k : Nat) (h1 : mr_h), k + d = 24 → h1.1 81 = mr_I 240 (fb_put D S (24 * us) k) → mr_fr h h1 [81] → mr_wp 157 47 [.ref 74, .int (nI k)] [] h1 Q := by
  intro d
  induction d with
  | zero =>
    intro k h1 hk e81 f
    have : k = 24 := by omega
    subst this
    have g74 := fr_at f (by decide) e74
    rw [s_mo_notes_47]
    simp only [S_mo_notes_0, S_mo_notes_1, g74, MO, SEL, PF, mr_gf_O, mr_rc_O, Option.toList_some, Option.toList_none, List.cons_append, List.nil_append, b2i_0, b2i_1, b2i_a, a_00, a_11, ai_n, si_n, nI_1, q_rl_bit, mr_up_at, Nat.reduceLeDiff, Nat.reduceLT, Nat.reduceEqDiff, Nat.reduceAdd, if_true, if_false, if_pos (show (24 : Int32) ≤ nI 24 by decide)]
    exact kk _ (fr_up _ (fr_wk f (by decide)) (by decide)) (up_eq _ _ _) (by simp only [mr_up_at]; exact e81)
  | succ d ih =>
    intro k h1 hk e81 f
    have g74 := fr_at f (by decide) e74
    have g77 := fr_at f (by decide) e77
    have h1k : k < 24 := by omega
    have h2k : 24 * us + k < 240 := by omega
    rw [s_mo_notes_47]
    simp only [S_mo_notes_0, S_mo_notes_1, g74, MO, SEL, PF, mr_gf_O, mr_rc_O, Option.toList_some, Option.toList_none, List.cons_append, List.nil_append, b2i_0, b2i_1, b2i_a, a_00, a_11, ai_n, si_n, nI_1, q_rl_bit, mr_up_at, Nat.reduceLeDiff, Nat.reduceLT, Nat.reduceEqDiff, Nat.reduceAdd, if_true, if_false, if_neg (show ¬ (24 : Int32) ≤ nI k from nI_ge (b := 24) (by omega) (by decide)), e81, g77, t_24, nI_add, h1k, h2k, fb_put_succ]
    exact ih (k + 1) _ (by omega) (up_eq _ _ _) (fr_up _ f (by decide))
theorem q_mo_notes (hu : us ≤ 10) (e74 : h.1 74 = MO th ty tt tk pl va fa (nI n) dn dr (nI us) sn uf) (e77 : h.1 77 = mr_I 24 S) (e81 : h.1 81 = mr_I 240 D)
    (kk : ∀ h2 D', mr_fr h h2 [74, 81] → h2.1 74 = MO th ty tt tk pl va fa (nI n) dn dr (nI (us1 us + 1)) sn uf → h2.1 81 = mr_I 240 D' → (∀ i, i < us1 us + 1 → ∀ u, u < 24 → D' (24 * i + u) = if i = us1 us then S u else if us = 10 then D (24 * (i + 1) + u) else D (24 * i + u)) → Q none h2) : mr_run 157 [.ref 74] h Q := by
  rw [r_mo_notes]
  by_cases hu10 : us = 10
  · subst hu10
    simp only [S_mo_notes_0, S_mo_notes_1, e74, MO, SEL, PF, mr_gf_O, mr_rc_O, Option.toList_some, Option.toList_none, List.cons_append, List.nil_append, b2i_0, b2i_1, b2i_a, a_00, a_11, ai_n, si_n, nI_1, q_rl_bit, mr_up_at, Nat.reduceLeDiff, Nat.reduceLT, Nat.reduceEqDiff, Nat.reduceAdd, if_true, if_false, show (nI 10 : Int32) = 10 from rfl, not_true_eq_false]
    rw [← nI_0]
    refine l_notes1 (D := D) e74 ?_ 216 0 h (by decide) (by rw [e81]; rfl) (fr_rf _ _)
    intro h2 f2 g81
    have g74 := fr_at f2 (by decide) e74
    simp only [S_mo_notes_0, S_mo_notes_1, g74, MO, SEL, PF, mr_gf_O, mr_rc_O, Option.toList_some, Option.toList_none, List.cons_append, List.nil_append, b2i_0, b2i_1, b2i_a, a_00, a_11, ai_n, si_n, nI_1, q_rl_bit, mr_up_at, Nat.reduceLeDiff, Nat.reduceLT, Nat.reduceEqDiff, Nat.reduceAdd, if_true, if_false]
    rw [← nI_0, show (9 : Int32) = nI 9 from rfl]
    have g74' : (mr_up h2 74 (MO th ty tt tk pl va fa (nI n) dn dr (nI 9) sn uf)).1 74 = MO th ty tt tk pl va fa (nI n) dn dr (nI 9) sn uf := up_eq _ _ _
    refine l_notes2 (us := 9) (S := S) (D := Dsh D 216) (by decide) g74' (by simp only [mr_up_at]; exact fr_at f2 (by decide) e77) ?_ 24 0 _ (by decide) ?_ (fr_rf _ _)
    · intro h3 f3 k74 k81
      refine kk h3 _ (fr_tr (fr_up _ (fr_wk f2 (by decide)) (by decide)) f3 (by decide)) k74 k81 (fun i hi u hu => ?_)
      have hi9 : i < 10 := hi
      show fb_put (Dsh D 216) S (24 * 9) 24 (24 * i + u) = if i = 9 then S u else if 10 = 10 then D (24 * (i + 1) + u) else D (24 * i + u)
      by_cases e9 : i = 9
      · subst e9
        rw [fb_put_in (by omega) (by omega), if_pos rfl, show 24 * 9 + u - 24 * 9 = u by omega]
      · rw [fb_put_out (by omega), if_neg e9, if_pos rfl]
        unfold Dsh
        rw [if_pos (by omega), show 24 * i + u + 24 = 24 * (i + 1) + u by omega]
    · simp only [mr_up_at]
      rw [fb_put_0]
      exact g81
  · have c1 : ¬ nI us = 10 := fun z => hu10 ((nI_eq (by omega) (by decide)).mp z)
    have hu1 : us1 us = us := by unfold us1; rw [if_neg hu10]
    simp only [S_mo_notes_0, S_mo_notes_1, e74, MO, SEL, PF, mr_gf_O, mr_rc_O, Option.toList_some, Option.toList_none, List.cons_append, List.nil_append, b2i_0, b2i_1, b2i_a, a_00, a_11, ai_n, si_n, nI_1, q_rl_bit, mr_up_at, Nat.reduceLeDiff, Nat.reduceLT, Nat.reduceEqDiff, Nat.reduceAdd, if_true, if_false, c1, not_false_eq_true]
    rw [← nI_0]
    refine l_notes2 (S := S) (D := D) (by omega) e74 e77 ?_ 24 0 h (by decide) (by rw [fb_put_0]; exact e81) (fr_rf _ _)
    intro h3 f3 k74 k81
    refine kk h3 _ f3 (by rw [hu1]; exact k74) k81 (fun i hi u hu => ?_)
    rw [hu1] at hi ⊢
    by_cases e9 : i = us
    · subst e9
      rw [fb_put_in (by omega) (by omega), if_pos rfl, show 24 * i + u - 24 * i = u by omega]
    · rw [fb_put_out (by omega), if_neg e9, if_neg hu10]
/-- both sides push what was, and have the same new state -/
theorem push_end {h h1 h2 : mr_h} {len m : Nat} {E' K' S' D' : Nat → Int32} (st : St h n len us m E K) (e81 : h.1 81 = mr_I 240 D) (hS : ∀ u, u < n → S u = E u ∧ S (12 + u) = K u) (f1 : mr_fr h h1 LC) (hs1 : gS h1) (cn : CN h1 E' K' n (us1 us + 1) (pu us (fun i u => D (24 * i + u)) E) (pu us (fun i u => D (24 * i + 12 + u)) K)) (hE' : nt E' n) (hK' : rks E' K' n) (f2 : mr_fr h1 h2 LM) (e85 : ∃ A, h2.1 85 = mr_I 12 A) (gm : gM h2 len n (us1 us + 1) m)
    (g77 : h2.1 77 = mr_I 24 S') (hS' : ∀ u, u < n → S' u = E' u ∧ S' (12 + u) = K' u) (g81 : h2.1 81 = mr_I 240 D') (hD' : ∀ i, i < us1 us + 1 → ∀ u, u < 24 → D' (24 * i + u) = if i = us1 us then S u else if us = 10 then D (24 * (i + 1) + u) else D (24 * i + u)) : St h2 n len (us1 us + 1) m E' K' := by
  have hn := (St_E st).1
  refine fin_push st f1 cn hE' hK' f2 (gS_fr hs1 f2 (fun k hk hk2 => ?_)) gm g77 hS' g81 (fun i hi u hu => ⟨?_, ?_⟩)
  · have : k = 85 := by revert hk hk2; revert k; decide
    subst this
    obtain ⟨A, e⟩ := e85
    exact shp_12 e (by decide)
  · rw [hD' i hi u (by omega)]
    unfold pu
    rw [(hS u hu).1]
  · rw [Nat.add_assoc, hD' i hi (12 + u) (by omega)]
    unfold pu
    rw [(hS u hu).2]
    simp only [Nat.add_assoc]
theorem b_adds (hi : Inv h) (u v : Int32) : Both 62 156 [.int u, .int v] h := by
  obtain ⟨n, len, us, m, E, K, st⟩ := hi
  have hE := St_E st
  have hn := hE.1
  have h1n := St_n st
  cases huv : (inN u n && inN v n && !decide (u = v)) with
  | true =>
    have hu : inN u n = true := by revert huv; cases inN u n <;> simp
    have hv : inN v n = true := by revert huv; cases inN v n <;> simp
    obtain ⟨a, ha, rfl⟩ := inN_yes hn hu
    obtain ⟨b, hb, rfl⟩ := inN_yes hn hv
    have ha12 : a < 12 := by omega
    have hb32 : b < 32 := by omega
    have ha24 : a < 24 := by omega
    cases hh : bt (E a) b with
    | true =>
      refine both_ro st (-2) ?_ ?_
      · intro h Q st kk
        rw [r_rl_adds]
        simp only [S_rl_adds, St_0 st, RLO, q_rl_areTwoNodes (St_0 st) (St_1 st), huv, SEL, PF, mr_gf_O, mr_rc_O, Option.toList_some, Option.toList_none, List.cons_append, List.nil_append, b2i_0, b2i_1, b2i_a, a_00, a_11, ai_n, si_n, nI_1, q_rl_bit, mr_up_at, Nat.reduceLeDiff, Nat.reduceLT, Nat.reduceEqDiff, Nat.reduceAdd, if_true, if_false, Bool.true_eq_false, Bool.false_eq_true, Bool.true_and, Bool.false_and, Bool.and_true, Bool.and_false, i_10, i_01, i_00, not_true_eq_false, not_false_eq_true, q_ne_has (St_1 st) (St_2 st) ha12 hb32, St_1 st, NE, hh]
        exact kk h st rfl
      · intro h Q st kk
        obtain ⟨th, tt, tk, pl, va, fa, dn, dr, uf, e74⟩ := id st.2.2.2.2.2.2
        rw [r_mo_adds]
        simp only [S_mo_adds, e74, MO, SEL, PF, mr_gf_O, mr_rc_O, Option.toList_some, Option.toList_none, List.cons_append, List.nil_append, b2i_0, b2i_1, b2i_a, a_00, a_11, ai_n, si_n, nI_1, q_rl_bit, mr_up_at, Nat.reduceLeDiff, Nat.reduceLT, Nat.reduceEqDiff, Nat.reduceAdd, if_true, if_false, Bool.true_eq_false, Bool.false_eq_true, Bool.true_and, Bool.false_and, Bool.and_true, Bool.and_false, i_10, i_01, i_00, not_true_eq_false, not_false_eq_true]
        refine St_th (k := fun hh => mr_run 144 [.ref 74, .int (nI a), .int (nI b)] hh _) st (fun h2 s2 e2 => ?_) e74 rfl
        obtain ⟨th, tt, tk, pl, va, fa, dn, dr, uf, g74⟩ := id s2.2.2.2.2.2.2
        obtain ⟨S, e77, hS⟩ := St_77 s2
        simp only [S_mo_adds, q_mo_isTwo hn (St_n st) (St_M s2), huv, SEL, PF, mr_gf_O, mr_rc_O, Option.toList_some, Option.toList_none, List.cons_append, List.nil_append, b2i_0, b2i_1, b2i_a, a_00, a_11, ai_n, si_n, nI_1, q_rl_bit, mr_up_at, Nat.reduceLeDiff, Nat.reduceLT, Nat.reduceEqDiff, Nat.reduceAdd, if_true, if_false, Bool.true_eq_false, Bool.false_eq_true, Bool.true_and, Bool.false_and, Bool.and_true, Bool.and_false, i_10, i_01, i_00, not_true_eq_false, not_false_eq_true, g74, MO, e77, z_add, ha24, (hS a ha).1, q_mo_has hb32, hh]
        exact kk h2 s2 e2
    | false =>
      obtain ⟨D, e81, hpc⟩ := gP_c.mp st.2.2.2.2.1
      obtain ⟨S, e77, hS⟩ := St_77 st
      unfold Both
      rw [r_rl_adds]
      simp only [S_rl_adds, St_0 st, RLO, q_rl_areTwoNodes (St_0 st) (St_1 st), huv, SEL, PF, mr_gf_O, mr_rc_O, Option.toList_some, Option.toList_none, List.cons_append, List.nil_append, b2i_0, b2i_1, b2i_a, a_00, a_11, ai_n, si_n, nI_1, q_rl_bit, mr_up_at, Nat.reduceLeDiff, Nat.reduceLT, Nat.reduceEqDiff, Nat.reduceAdd, if_true, if_false, Bool.true_eq_false, Bool.false_eq_true, Bool.true_and, Bool.false_and, Bool.and_true, Bool.and_false, i_10, i_01, i_00, not_true_eq_false, not_false_eq_true, q_ne_has (St_1 st) (St_2 st) ha12 hb32, St_1 st, NE, hh, hpc.2.1]
      refine q_pa_remember hpc hE (St_R st) (St_1 st) (St_2 st) (St_3 st) ?_
      intro h1 L f1 hL p1
      have F1 : mr_fr h h1 LC := fr_wk f1 (fun a ha => LC_p (hL a ha))
      have off : ∀ a, ¬ (33 ≤ a ∧ a ≤ 64) → a ∉ L := fun a ha hm => ha (hL a hm)
      have g0 := fr_at f1 (off 0 (by decide)) (St_0 st)
      have g1 := fr_at f1 (off 1 (by decide)) (St_1 st)
      have g2 := fr_at f1 (off 2 (by decide)) (St_2 st)
      have g3 := fr_at f1 (off 3 (by decide)) (St_3 st)
      have gd := DS_fr (DV_DS (St_D st)) f1 (fun a ha => off a (by revert a; decide))
      simp only [S_rl_adds, g0, RLO, g1, NE, SEL, PF, mr_gf_O, mr_rc_O, Option.toList_some, Option.toList_none, List.cons_append, List.nil_append, b2i_0, b2i_1, b2i_a, a_00, a_11, ai_n, si_n, nI_1, q_rl_bit, mr_up_at, Nat.reduceLeDiff, Nat.reduceLT, Nat.reduceEqDiff, Nat.reduceAdd, if_true, if_false, Bool.true_eq_false, Bool.false_eq_true, Bool.true_and, Bool.false_and, Bool.and_true, Bool.and_false, i_10, i_01, i_00, not_true_eq_false, not_false_eq_true]
      rw [r_ne_link]
      simp only [S_ne_link, g1, NE, g2, SEL, PF, mr_gf_O, mr_rc_O, Option.toList_some, Option.toList_none, List.cons_append, List.nil_append, b2i_0, b2i_1, b2i_a, a_00, a_11, ai_n, si_n, nI_1, q_rl_bit, mr_up_at, Nat.reduceLeDiff, Nat.reduceLT, Nat.reduceEqDiff, Nat.reduceAdd, if_true, if_false, Bool.true_eq_false, Bool.false_eq_true, Bool.true_and, Bool.false_and, Bool.and_true, Bool.and_false, i_10, i_01, i_00, not_true_eq_false, not_false_eq_true, ha12, S_rl_adds, g0, RLO]
      have hE' : nt (upd E a (E a ||| nb b)) n := ⟨hn, fun w hw x hx => by
        by_cases ew : w = a
        · subst ew
          rw [upd_at, b_or, nb_bt hb32] at hx
          simp only [Bool.or_eq_true, decide_eq_true_eq] at hx
          rcases hx with hx | hx
          · exact hE.2 w hw x hx
          · omega
        · rw [upd_ne _ _ ew] at hx
          exact hE.2 w hw x hx⟩
      have hab : a ≠ b := fun z => by
        subst z
        simp at huv
      have hns : noself (upd E a (E a ||| nb b)) n := fun w hw => by
        by_cases ew : w = a
        · subst ew
          rw [upd_at, b_or, nb_bt hb32, St_ns st w hw]
          simp [hab]
        · rw [upd_ne _ _ ew]
          exact St_ns st w hw
      have f2 : mr_fr h1 (mr_up h1 2 (mr_I 12 (upd E a (E a ||| nb b)))) [2] := fr_up _ (fr_rf _ _) (by decide)
      refine q_rl_labelsThen hE' (fr_at f2 (by decide) g0) (fr_at f2 (by decide) g1) (up_eq _ _ _) (fr_at f2 (by decide) g3) (DS_fr gd f2 (by decide)) ?_
      intro h2 f3 d2
      have F2 : mr_fr h h2 LC := fr_tr (fr_tr F1 f2 (by decide)) f3 (by decide)
      have F1' : mr_fr h1 h2 [2, 9, 10, 11, 12, 13, 14, 15, 16] := fr_tr (fr_wk f2 (by decide)) f3 (by decide)
      have cn : CN h2 (upd E a (E a ||| nb b)) K n (us1 us + 1) (pu us (fun i u => D (24 * i + u)) E) (pu us (fun i u => D (24 * i + 12 + u)) K) := ⟨fr_at F1' (by decide) g1, fr_at f3 (by decide) (up_eq _ _ _), fr_at F1' (by decide) g3, d2, gPc_fr p1 F1' (by decide)⟩
      have gs2 : gS h2 := gS_fr st.1 F2 (fun k hk hk2 => by
        have : k = 19 := by revert hk hk2; revert k; decide
        subst this
        rw [F1'.2 19 (by decide), f1.2 19 (off 19 (by decide))]
        exact st.1 19 (by decide))
      obtain ⟨th, tt, tk, pl, va, fa, dn, dr, uf, e74⟩ := gM_fr st.2.2.2.2.2.2 F2 (by decide)
      have k77 := fr_at F2 (by decide) e77
      have k81 := fr_at F2 (by decide) e81
      obtain ⟨G, k85⟩ := gS_85 gs2
      simp only [S_rl_adds, SEL, PF, mr_gf_O, mr_rc_O, Option.toList_some, Option.toList_none, List.cons_append, List.nil_append, b2i_0, b2i_1, b2i_a, a_00, a_11, ai_n, si_n, nI_1, q_rl_bit, mr_up_at, Nat.reduceLeDiff, Nat.reduceLT, Nat.reduceEqDiff, Nat.reduceAdd, if_true, if_false, Bool.true_eq_false, Bool.false_eq_true, Bool.true_and, Bool.false_and, Bool.and_true, Bool.and_false, i_10, i_01, i_00, not_true_eq_false, not_false_eq_true]
      rw [r_mo_adds]
      simp only [S_mo_adds, e74, MO, SEL, PF, mr_gf_O, mr_rc_O, Option.toList_some, Option.toList_none, List.cons_append, List.nil_append, b2i_0, b2i_1, b2i_a, a_00, a_11, ai_n, si_n, nI_1, q_rl_bit, mr_up_at, Nat.reduceLeDiff, Nat.reduceLT, Nat.reduceEqDiff, Nat.reduceAdd, if_true, if_false, Bool.true_eq_false, Bool.false_eq_true, Bool.true_and, Bool.false_and, Bool.and_true, Bool.and_false, i_10, i_01, i_00, not_true_eq_false, not_false_eq_true]
      have hmn : MN (mr_up h2 74 (MO 0 (nI len) tt tk pl va fa (nI n) dn dr (nI us) (nI m) uf)) n := ⟨_, _, _, _, _, _, _, _, _, _, _, _, up_eq _ _ _⟩
      have hno := fun u v Q => q_mo_isTwo (Q := Q) hn h1n hmn u v
      simp only [MO] at hno
      simp only [S_mo_adds, e74, MO, SEL, PF, mr_gf_O, mr_rc_O, Option.toList_some, Option.toList_none, List.cons_append, List.nil_append, b2i_0, b2i_1, b2i_a, a_00, a_11, ai_n, si_n, nI_1, q_rl_bit, mr_up_at, Nat.reduceLeDiff, Nat.reduceLT, Nat.reduceEqDiff, Nat.reduceAdd, if_true, if_false, Bool.true_eq_false, Bool.false_eq_true, Bool.true_and, Bool.false_and, Bool.and_true, Bool.and_false, i_10, i_01, i_00, not_true_eq_false, not_false_eq_true, hno, huv, k77, z_add, ha24, (hS a ha).1, q_mo_has hb32, hh]
      have f4 : mr_fr h2 (mr_up h2 74 (MO 0 (nI len) tt tk pl va fa (nI n) dn dr (nI us) (nI m) uf)) [74] := fr_up _ (fr_rf _ _) (by decide)
      refine q_mo_notes (us := us) (S := S) (D := D) hpc.1 (show (mr_up h2 74 (MO 0 (nI len) tt tk pl va fa (nI n) dn dr (nI us) (nI m) uf)).1 74 = _ from up_eq _ _ _) (fr_at f4 (by decide) k77) (fr_at f4 (by decide) k81) ?_
      intro h3 D' f5 n74 n81 hD'
      have n77 := fr_at f5 (by decide) (fr_at f4 (by decide) k77)
      simp only [S_mo_adds, n74, MO, SEL, PF, mr_gf_O, mr_rc_O, Option.toList_some, Option.toList_none, List.cons_append, List.nil_append, b2i_0, b2i_1, b2i_a, a_00, a_11, ai_n, si_n, nI_1, q_rl_bit, mr_up_at, Nat.reduceLeDiff, Nat.reduceLT, Nat.reduceEqDiff, Nat.reduceAdd, if_true, if_false, Bool.true_eq_false, Bool.false_eq_true, Bool.true_and, Bool.false_and, Bool.and_true, Bool.and_false, i_10, i_01, i_00, not_true_eq_false, not_false_eq_true, n77, z_add, ha24, nb_def]
      have hS' : ∀ w, w < n → upd S a (S a ||| nb b) w = upd E a (E a ||| nb b) w ∧ upd S a (S a ||| nb b) (12 + w) = K w := fun w hw => by
        rw [upd_ne (k := a) (j := 12 + w) _ _ (by omega)]
        refine ⟨?_, (hS w hw).2⟩
        by_cases ew : w = a
        · subst ew
          rw [upd_at, upd_at, (hS w hw).1]
        · rw [upd_ne _ _ ew, upd_ne _ _ ew, (hS w hw).1]
      have f6 : mr_fr h3 (mr_up h3 77 (mr_I 24 (upd S a (S a ||| nb b)))) [77] := fr_up _ (fr_rf _ _) (by decide)
      have m74 := fr_at f6 (by decide) n74
      refine q_mo_labels2 (g := G) hE' hS' (fun w hw => ?_) ⟨_, _, _, _, _, _, _, _, _, _, _, _, m74⟩ (fr_at f6 (by decide) (fr_at f5 (by decide) (fr_at f4 (by decide) k85))) (up_eq _ _ _) ?_
      · obtain ⟨j, hj, e⟩ := St_K st w hw
        rw [(hS' w hw).2, e]
        exact nI_le (b := 99) (by omega) (by decide)
      · intro h4 A f7 j85 hA
        simp only [S_mo_adds, SEL, PF, mr_gf_O, mr_rc_O, Option.toList_some, Option.toList_none, List.cons_append, List.nil_append, b2i_0, b2i_1, b2i_a, a_00, a_11, ai_n, si_n, nI_1, q_rl_bit, mr_up_at, Nat.reduceLeDiff, Nat.reduceLT, Nat.reduceEqDiff, Nat.reduceAdd, if_true, if_false, Bool.true_eq_false, Bool.false_eq_true, Bool.true_and, Bool.false_and, Bool.and_true, Bool.and_false, i_10, i_01, i_00, not_true_eq_false, not_false_eq_true]
        have FM : mr_fr h2 h4 LM := fr_tr (fr_tr (fr_tr (fr_wk f4 (by decide)) f5 (by decide)) f6 (by decide)) f7 (by decide)
        refine ⟨⟨_, rfl, rfl⟩, ⟨_, _, _, _, _, _, push_end st e81 hS F2 gs2 cn hE' ⟨St_K st, hns⟩ FM ⟨_, j85⟩ ⟨_, _, _, _, _, _, _, _, _, fr_at f7 (by decide) m74⟩ (fr_at f7 (by decide) (up_eq _ _ _)) hS' (fr_at f7 (by decide) (fr_at f6 (by decide) n81)) hD'⟩, FM.1.trans F2.1⟩
  | false =>
    refine both_ro st (-1) ?_ ?_
    · intro h Q st kk
      rw [r_rl_adds]
      simp only [S_rl_adds, St_0 st, RLO, q_rl_areTwoNodes (St_0 st) (St_1 st), huv, SEL, PF, mr_gf_O, mr_rc_O, Option.toList_some, Option.toList_none, List.cons_append, List.nil_append, b2i_0, b2i_1, b2i_a, a_00, a_11, ai_n, si_n, nI_1, q_rl_bit, mr_up_at, Nat.reduceLeDiff, Nat.reduceLT, Nat.reduceEqDiff, Nat.reduceAdd, if_true, if_false, Bool.true_eq_false, Bool.false_eq_true, Bool.true_and, Bool.false_and, Bool.and_true, Bool.and_false, i_10, i_01, i_00, not_true_eq_false, not_false_eq_true]
      exact kk h st rfl
    · intro h Q st kk
      obtain ⟨th, tt, tk, pl, va, fa, dn, dr, uf, e74⟩ := id st.2.2.2.2.2.2
      rw [r_mo_adds]
      simp only [S_mo_adds, e74, MO, SEL, PF, mr_gf_O, mr_rc_O, Option.toList_some, Option.toList_none, List.cons_append, List.nil_append, b2i_0, b2i_1, b2i_a, a_00, a_11, ai_n, si_n, nI_1, q_rl_bit, mr_up_at, Nat.reduceLeDiff, Nat.reduceLT, Nat.reduceEqDiff, Nat.reduceAdd, if_true, if_false, Bool.true_eq_false, Bool.false_eq_true, Bool.true_and, Bool.false_and, Bool.and_true, Bool.and_false, i_10, i_01, i_00, not_true_eq_false, not_false_eq_true]
      refine St_th (k := fun hh => mr_run 144 [.ref 74, .int u, .int v] hh _) st (fun h2 s2 e2 => ?_) e74 rfl
      obtain ⟨th, tt, tk, pl, va, fa, dn, dr, uf, g74⟩ := id s2.2.2.2.2.2.2
      simp only [S_mo_adds, q_mo_isTwo hn (St_n st) (St_M s2), huv, SEL, PF, mr_gf_O, mr_rc_O, Option.toList_some, Option.toList_none, List.cons_append, List.nil_append, b2i_0, b2i_1, b2i_a, a_00, a_11, ai_n, si_n, nI_1, q_rl_bit, mr_up_at, Nat.reduceLeDiff, Nat.reduceLT, Nat.reduceEqDiff, Nat.reduceAdd, if_true, if_false, Bool.true_eq_false, Bool.false_eq_true, Bool.true_and, Bool.false_and, Bool.and_true, Bool.and_false, i_10, i_01, i_00, not_true_eq_false, not_false_eq_true, g74, MO]
      exact kk h2 s2 e2
theorem cut_eq {x : Int32} {b : Nat} (hb : b < 32) (h : bt x b = true) : x ^^^ nb b = x &&& (nb b ^^^ -1) := by
  apply b_ext
  intro i hi
  rw [b_xor, b_and, b_xor, nb_bt hb, b_m1 i hi]
  by_cases e : i = b
  · subst e
    simp [h]
  · simp [e]
theorem b_cuts (hi : Inv h) (u v : Int32) : Both 66 158 [.int u, .int v] h := by
  obtain ⟨n, len, us, m, E, K, st⟩ := hi
  have hE := St_E st
  have hn := hE.1
  have h1n := St_n st
  cases huv : (inN u n && inN v n && !decide (u = v)) with
  | true =>
    have hu : inN u n = true := by revert huv; cases inN u n <;> simp
    have hv : inN v n = true := by revert huv; cases inN v n <;> simp
    obtain ⟨a, ha, rfl⟩ := inN_yes hn hu
    obtain ⟨b, hb, rfl⟩ := inN_yes hn hv
    have ha12 : a < 12 := by omega
    have hb32 : b < 32 := by omega
    have ha24 : a < 24 := by omega
    cases hh : bt (E a) b with
    | false =>
      refine both_ro st (-2) ?_ ?_
      · intro h Q st kk
        rw [r_rl_cuts]
        simp only [S_rl_cuts, St_0 st, RLO, q_rl_areTwoNodes (St_0 st) (St_1 st), huv, SEL, PF, mr_gf_O, mr_rc_O, Option.toList_some, Option.toList_none, List.cons_append, List.nil_append, b2i_0, b2i_1, b2i_a, a_00, a_11, ai_n, si_n, nI_1, q_rl_bit, mr_up_at, Nat.reduceLeDiff, Nat.reduceLT, Nat.reduceEqDiff, Nat.reduceAdd, if_true, if_false, Bool.true_eq_false, Bool.false_eq_true, Bool.true_and, Bool.false_and, Bool.and_true, Bool.and_false, i_10, i_01, i_00, not_true_eq_false, not_false_eq_true, q_ne_has (St_1 st) (St_2 st) ha12 hb32, St_1 st, NE, hh]
        exact kk h st rfl
      · intro h Q st kk
        obtain ⟨th, tt, tk, pl, va, fa, dn, dr, uf, e74⟩ := id st.2.2.2.2.2.2
        rw [r_mo_cuts]
        simp only [S_mo_cuts, e74, MO, SEL, PF, mr_gf_O, mr_rc_O, Option.toList_some, Option.toList_none, List.cons_append, List.nil_append, b2i_0, b2i_1, b2i_a, a_00, a_11, ai_n, si_n, nI_1, q_rl_bit, mr_up_at, Nat.reduceLeDiff, Nat.reduceLT, Nat.reduceEqDiff, Nat.reduceAdd, if_true, if_false, Bool.true_eq_false, Bool.false_eq_true, Bool.true_and, Bool.false_and, Bool.and_true, Bool.and_false, i_10, i_01, i_00, not_true_eq_false, not_false_eq_true]
        refine St_th (k := fun hh => mr_run 144 [.ref 74, .int (nI a), .int (nI b)] hh _) st (fun h2 s2 e2 => ?_) e74 rfl
        obtain ⟨th, tt, tk, pl, va, fa, dn, dr, uf, g74⟩ := id s2.2.2.2.2.2.2
        obtain ⟨S, e77, hS⟩ := St_77 s2
        simp only [S_mo_cuts, q_mo_isTwo hn (St_n st) (St_M s2), huv, SEL, PF, mr_gf_O, mr_rc_O, Option.toList_some, Option.toList_none, List.cons_append, List.nil_append, b2i_0, b2i_1, b2i_a, a_00, a_11, ai_n, si_n, nI_1, q_rl_bit, mr_up_at, Nat.reduceLeDiff, Nat.reduceLT, Nat.reduceEqDiff, Nat.reduceAdd, if_true, if_false, Bool.true_eq_false, Bool.false_eq_true, Bool.true_and, Bool.false_and, Bool.and_true, Bool.and_false, i_10, i_01, i_00, not_true_eq_false, not_false_eq_true, g74, MO, e77, z_add, ha24, (hS a ha).1, q_mo_has hb32, hh]
        exact kk h2 s2 e2
    | true =>
      obtain ⟨D, e81, hpc⟩ := gP_c.mp st.2.2.2.2.1
      obtain ⟨S, e77, hS⟩ := St_77 st
      unfold Both
      rw [r_rl_cuts]
      simp only [S_rl_cuts, St_0 st, RLO, q_rl_areTwoNodes (St_0 st) (St_1 st), huv, SEL, PF, mr_gf_O, mr_rc_O, Option.toList_some, Option.toList_none, List.cons_append, List.nil_append, b2i_0, b2i_1, b2i_a, a_00, a_11, ai_n, si_n, nI_1, q_rl_bit, mr_up_at, Nat.reduceLeDiff, Nat.reduceLT, Nat.reduceEqDiff, Nat.reduceAdd, if_true, if_false, Bool.true_eq_false, Bool.false_eq_true, Bool.true_and, Bool.false_and, Bool.and_true, Bool.and_false, i_10, i_01, i_00, not_true_eq_false, not_false_eq_true, q_ne_has (St_1 st) (St_2 st) ha12 hb32, St_1 st, NE, hh, hpc.2.1]
      refine q_pa_remember hpc hE (St_R st) (St_1 st) (St_2 st) (St_3 st) ?_
      intro h1 L f1 hL p1
      have F1 : mr_fr h h1 LC := fr_wk f1 (fun a ha => LC_p (hL a ha))
      have off : ∀ a, ¬ (33 ≤ a ∧ a ≤ 64) → a ∉ L := fun a ha hm => ha (hL a hm)
      have g0 := fr_at f1 (off 0 (by decide)) (St_0 st)
      have g1 := fr_at f1 (off 1 (by decide)) (St_1 st)
      have g2 := fr_at f1 (off 2 (by decide)) (St_2 st)
      have g3 := fr_at f1 (off 3 (by decide)) (St_3 st)
      have gd := DS_fr (DV_DS (St_D st)) f1 (fun a ha => off a (by revert a; decide))
      simp only [S_rl_cuts, g0, RLO, g1, NE, SEL, PF, mr_gf_O, mr_rc_O, Option.toList_some, Option.toList_none, List.cons_append, List.nil_append, b2i_0, b2i_1, b2i_a, a_00, a_11, ai_n, si_n, nI_1, q_rl_bit, mr_up_at, Nat.reduceLeDiff, Nat.reduceLT, Nat.reduceEqDiff, Nat.reduceAdd, if_true, if_false, Bool.true_eq_false, Bool.false_eq_true, Bool.true_and, Bool.false_and, Bool.and_true, Bool.and_false, i_10, i_01, i_00, not_true_eq_false, not_false_eq_true]
      rw [r_ne_unlink]
      simp only [S_ne_unlink, g1, NE, g2, SEL, PF, mr_gf_O, mr_rc_O, Option.toList_some, Option.toList_none, List.cons_append, List.nil_append, b2i_0, b2i_1, b2i_a, a_00, a_11, ai_n, si_n, nI_1, q_rl_bit, mr_up_at, Nat.reduceLeDiff, Nat.reduceLT, Nat.reduceEqDiff, Nat.reduceAdd, if_true, if_false, Bool.true_eq_false, Bool.false_eq_true, Bool.true_and, Bool.false_and, Bool.and_true, Bool.and_false, i_10, i_01, i_00, not_true_eq_false, not_false_eq_true, ha12, S_rl_cuts, g0, RLO]
      have hE' : nt (upd E a (E a &&& (nb b ^^^ -1))) n := ⟨hn, fun w hw x hx => by
        by_cases ew : w = a
        · subst ew
          rw [upd_at, b_and] at hx
          simp only [Bool.and_eq_true] at hx
          exact hE.2 w hw x hx.1
        · rw [upd_ne _ _ ew] at hx
          exact hE.2 w hw x hx⟩
      have hns : noself (upd E a (E a &&& (nb b ^^^ -1))) n := fun w hw => by
        by_cases ew : w = a
        · subst ew
          rw [upd_at, b_and, St_ns st w hw]
          rfl
        · rw [upd_ne _ _ ew]
          exact St_ns st w hw
      have f2 : mr_fr h1 (mr_up h1 2 (mr_I 12 (upd E a (E a &&& (nb b ^^^ -1))))) [2] := fr_up _ (fr_rf _ _) (by decide)
      refine q_rl_labelsThen hE' (fr_at f2 (by decide) g0) (fr_at f2 (by decide) g1) (up_eq _ _ _) (fr_at f2 (by decide) g3) (DS_fr gd f2 (by decide)) ?_
      intro h2 f3 d2
      have F2 : mr_fr h h2 LC := fr_tr (fr_tr F1 f2 (by decide)) f3 (by decide)
      have F1' : mr_fr h1 h2 [2, 9, 10, 11, 12, 13, 14, 15, 16] := fr_tr (fr_wk f2 (by decide)) f3 (by decide)
      have cn : CN h2 (upd E a (E a &&& (nb b ^^^ -1))) K n (us1 us + 1) (pu us (fun i u => D (24 * i + u)) E) (pu us (fun i u => D (24 * i + 12 + u)) K) := ⟨fr_at F1' (by decide) g1, fr_at f3 (by decide) (up_eq _ _ _), fr_at F1' (by decide) g3, d2, gPc_fr p1 F1' (by decide)⟩
      have gs2 : gS h2 := gS_fr st.1 F2 (fun k hk hk2 => by
        have : k = 19 := by revert hk hk2; revert k; decide
        subst this
        rw [F1'.2 19 (by decide), f1.2 19 (off 19 (by decide))]
        exact st.1 19 (by decide))
      obtain ⟨th, tt, tk, pl, va, fa, dn, dr, uf, e74⟩ := gM_fr st.2.2.2.2.2.2 F2 (by decide)
      have k77 := fr_at F2 (by decide) e77
      have k81 := fr_at F2 (by decide) e81
      obtain ⟨G, k85⟩ := gS_85 gs2
      simp only [S_rl_cuts, SEL, PF, mr_gf_O, mr_rc_O, Option.toList_some, Option.toList_none, List.cons_append, List.nil_append, b2i_0, b2i_1, b2i_a, a_00, a_11, ai_n, si_n, nI_1, q_rl_bit, mr_up_at, Nat.reduceLeDiff, Nat.reduceLT, Nat.reduceEqDiff, Nat.reduceAdd, if_true, if_false, Bool.true_eq_false, Bool.false_eq_true, Bool.true_and, Bool.false_and, Bool.and_true, Bool.and_false, i_10, i_01, i_00, not_true_eq_false, not_false_eq_true]
      rw [r_mo_cuts]
      simp only [S_mo_cuts, e74, MO, SEL, PF, mr_gf_O, mr_rc_O, Option.toList_some, Option.toList_none, List.cons_append, List.nil_append, b2i_0, b2i_1, b2i_a, a_00, a_11, ai_n, si_n, nI_1, q_rl_bit, mr_up_at, Nat.reduceLeDiff, Nat.reduceLT, Nat.reduceEqDiff, Nat.reduceAdd, if_true, if_false, Bool.true_eq_false, Bool.false_eq_true, Bool.true_and, Bool.false_and, Bool.and_true, Bool.and_false, i_10, i_01, i_00, not_true_eq_false, not_false_eq_true]
      have hmn : MN (mr_up h2 74 (MO 0 (nI len) tt tk pl va fa (nI n) dn dr (nI us) (nI m) uf)) n := ⟨_, _, _, _, _, _, _, _, _, _, _, _, up_eq _ _ _⟩
      have hno := fun u v Q => q_mo_isTwo (Q := Q) hn h1n hmn u v
      simp only [MO] at hno
      simp only [S_mo_cuts, e74, MO, SEL, PF, mr_gf_O, mr_rc_O, Option.toList_some, Option.toList_none, List.cons_append, List.nil_append, b2i_0, b2i_1, b2i_a, a_00, a_11, ai_n, si_n, nI_1, q_rl_bit, mr_up_at, Nat.reduceLeDiff, Nat.reduceLT, Nat.reduceEqDiff, Nat.reduceAdd, if_true, if_false, Bool.true_eq_false, Bool.false_eq_true, Bool.true_and, Bool.false_and, Bool.and_true, Bool.and_false, i_10, i_01, i_00, not_true_eq_false, not_false_eq_true, hno, huv, k77, z_add, ha24, (hS a ha).1, q_mo_has hb32, hh]
      have f4 : mr_fr h2 (mr_up h2 74 (MO 0 (nI len) tt tk pl va fa (nI n) dn dr (nI us) (nI m) uf)) [74] := fr_up _ (fr_rf _ _) (by decide)
      refine q_mo_notes (us := us) (S := S) (D := D) hpc.1 (show (mr_up h2 74 (MO 0 (nI len) tt tk pl va fa (nI n) dn dr (nI us) (nI m) uf)).1 74 = _ from up_eq _ _ _) (fr_at f4 (by decide) k77) (fr_at f4 (by decide) k81) ?_
      intro h3 D' f5 n74 n81 hD'
      have n77 := fr_at f5 (by decide) (fr_at f4 (by decide) k77)
      simp only [S_mo_cuts, n74, MO, SEL, PF, mr_gf_O, mr_rc_O, Option.toList_some, Option.toList_none, List.cons_append, List.nil_append, b2i_0, b2i_1, b2i_a, a_00, a_11, ai_n, si_n, nI_1, q_rl_bit, mr_up_at, Nat.reduceLeDiff, Nat.reduceLT, Nat.reduceEqDiff, Nat.reduceAdd, if_true, if_false, Bool.true_eq_false, Bool.false_eq_true, Bool.true_and, Bool.false_and, Bool.and_true, Bool.and_false, i_10, i_01, i_00, not_true_eq_false, not_false_eq_true, n77, z_add, ha24, nb_def]
      have hS' : ∀ w, w < n → upd S a (S a ^^^ nb b) w = upd E a (E a &&& (nb b ^^^ -1)) w ∧ upd S a (S a ^^^ nb b) (12 + w) = K w := fun w hw => by
        rw [upd_ne (k := a) (j := 12 + w) _ _ (by omega)]
        refine ⟨?_, (hS w hw).2⟩
        by_cases ew : w = a
        · subst ew
          rw [upd_at, upd_at, (hS w hw).1]
          exact cut_eq hb32 hh
        · rw [upd_ne _ _ ew, upd_ne _ _ ew, (hS w hw).1]
      have f6 : mr_fr h3 (mr_up h3 77 (mr_I 24 (upd S a (S a ^^^ nb b)))) [77] := fr_up _ (fr_rf _ _) (by decide)
      have m74 := fr_at f6 (by decide) n74
      refine q_mo_labels2 (g := G) hE' hS' (fun w hw => ?_) ⟨_, _, _, _, _, _, _, _, _, _, _, _, m74⟩ (fr_at f6 (by decide) (fr_at f5 (by decide) (fr_at f4 (by decide) k85))) (up_eq _ _ _) ?_
      · obtain ⟨j, hj, e⟩ := St_K st w hw
        rw [(hS' w hw).2, e]
        exact nI_le (b := 99) (by omega) (by decide)
      · intro h4 A f7 j85 hA
        simp only [S_mo_cuts, SEL, PF, mr_gf_O, mr_rc_O, Option.toList_some, Option.toList_none, List.cons_append, List.nil_append, b2i_0, b2i_1, b2i_a, a_00, a_11, ai_n, si_n, nI_1, q_rl_bit, mr_up_at, Nat.reduceLeDiff, Nat.reduceLT, Nat.reduceEqDiff, Nat.reduceAdd, if_true, if_false, Bool.true_eq_false, Bool.false_eq_true, Bool.true_and, Bool.false_and, Bool.and_true, Bool.and_false, i_10, i_01, i_00, not_true_eq_false, not_false_eq_true]
        have FM : mr_fr h2 h4 LM := fr_tr (fr_tr (fr_tr (fr_wk f4 (by decide)) f5 (by decide)) f6 (by decide)) f7 (by decide)
        refine ⟨⟨_, rfl, rfl⟩, ⟨_, _, _, _, _, _, push_end st e81 hS F2 gs2 cn hE' ⟨St_K st, hns⟩ FM ⟨_, j85⟩ ⟨_, _, _, _, _, _, _, _, _, fr_at f7 (by decide) m74⟩ (fr_at f7 (by decide) (up_eq _ _ _)) hS' (fr_at f7 (by decide) (fr_at f6 (by decide) n81)) hD'⟩, FM.1.trans F2.1⟩
  | false =>
    refine both_ro st (-1) ?_ ?_
    · intro h Q st kk
      rw [r_rl_cuts]
      simp only [S_rl_cuts, St_0 st, RLO, q_rl_areTwoNodes (St_0 st) (St_1 st), huv, SEL, PF, mr_gf_O, mr_rc_O, Option.toList_some, Option.toList_none, List.cons_append, List.nil_append, b2i_0, b2i_1, b2i_a, a_00, a_11, ai_n, si_n, nI_1, q_rl_bit, mr_up_at, Nat.reduceLeDiff, Nat.reduceLT, Nat.reduceEqDiff, Nat.reduceAdd, if_true, if_false, Bool.true_eq_false, Bool.false_eq_true, Bool.true_and, Bool.false_and, Bool.and_true, Bool.and_false, i_10, i_01, i_00, not_true_eq_false, not_false_eq_true]
      exact kk h st rfl
    · intro h Q st kk
      obtain ⟨th, tt, tk, pl, va, fa, dn, dr, uf, e74⟩ := id st.2.2.2.2.2.2
      rw [r_mo_cuts]
      simp only [S_mo_cuts, e74, MO, SEL, PF, mr_gf_O, mr_rc_O, Option.toList_some, Option.toList_none, List.cons_append, List.nil_append, b2i_0, b2i_1, b2i_a, a_00, a_11, ai_n, si_n, nI_1, q_rl_bit, mr_up_at, Nat.reduceLeDiff, Nat.reduceLT, Nat.reduceEqDiff, Nat.reduceAdd, if_true, if_false, Bool.true_eq_false, Bool.false_eq_true, Bool.true_and, Bool.false_and, Bool.and_true, Bool.and_false, i_10, i_01, i_00, not_true_eq_false, not_false_eq_true]
      refine St_th (k := fun hh => mr_run 144 [.ref 74, .int u, .int v] hh _) st (fun h2 s2 e2 => ?_) e74 rfl
      obtain ⟨th, tt, tk, pl, va, fa, dn, dr, uf, g74⟩ := id s2.2.2.2.2.2.2
      simp only [S_mo_cuts, q_mo_isTwo hn (St_n st) (St_M s2), huv, SEL, PF, mr_gf_O, mr_rc_O, Option.toList_some, Option.toList_none, List.cons_append, List.nil_append, b2i_0, b2i_1, b2i_a, a_00, a_11, ai_n, si_n, nI_1, q_rl_bit, mr_up_at, Nat.reduceLeDiff, Nat.reduceLT, Nat.reduceEqDiff, Nat.reduceAdd, if_true, if_false, Bool.true_eq_false, Bool.false_eq_true, Bool.true_and, Bool.false_and, Bool.and_true, Bool.and_false, i_10, i_01, i_00, not_true_eq_false, not_false_eq_true, g74, MO]
      exact kk h2 s2 e2
end PUSH
