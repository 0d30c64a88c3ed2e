/-! pairs with an edge other than it is -/
theorem nI_sub {a b : Nat} (h : b ≤ a) : nI a - nI b = nI (a - b) := by
  have e : nI (a - b) + nI b = nI a := by rw [nI_add, Nat.sub_add_cancel h]
  rw [← e, Int32.add_sub_cancel]
theorem sm_of {x y : Int32} (e : x = y) (h : sm y) : sm x := e ▸ h
def fl (E : Nat → Int32) (a b : Nat) : Nat → Int32 := fun u => if u = a then E a ^^^ nb b else E u
theorem fl_bt {E : Nat → Int32} {a b u v : Nat} (hb : b < 32) : bt (fl E a b u) v = (bt (E u) v ^^ (decide (u = a) && decide (v = b))) := by
  unfold fl
  by_cases e : u = a
  · subst e
    rw [if_pos rfl, b_xor, nb_bt hb]
    simp
  · simp [e]
theorem fl_nt {E : Nat → Int32} {n a b : Nat} (hE : nt E n) (hb : b < n) : nt (fl E a b) n := by
  refine ⟨hE.1, fun u hu v hv => ?_⟩
  have := hE.1
  rw [fl_bt (by omega)] at hv
  by_cases e : v = b
  · omega
  · have : bt (E u) v = true := by simpa [e] using hv
    exact hE.2 u hu v this
theorem fl_ad {E : Nat → Int32} {a b : Nat} (hb : b < 32) (h : bt (E a) b = false) : fl E a b = ad E a b := by
  funext u
  unfold fl ad
  by_cases e : u = a
  · subst e
    rw [if_pos rfl, if_pos rfl]
    apply b_ext
    intro i hi
    rw [b_xor, b_or, nb_bt hb]
    by_cases e2 : i = b
    · subst e2; simp [h]
    · simp [e2]
  · rw [if_neg e, if_neg e]
theorem ct_pos {x : Int32} {i : Nat} (hi : i < 12) (h : bt x i = true) : 1 ≤ ct x := fb_ct_pos.mpr ⟨i, hi, h⟩
theorem RR_pos {E : Nat → Int32} {n u : Nat} (hE : nt E n) (hu : u < n) : 1 ≤ ct (RR E n u) := ct_pos (i := u) (by have := hE.1; omega) (rr_refl hE hu)
def pN (f : Nat → Int32) (n : Nat) : Nat := fb_sm (fun k => ct (f k) - 1) n
theorem psI_nat {f : Nat → Int32} : ∀ {n : Nat}, (∀ k, k < n → 1 ≤ ct (f k)) → psI f n = nI (pN f n)
  | 0, _ => rfl
  | n + 1, h => by
    have h1 := h n (by omega)
    show psI f n + (nI (ct (f n)) - 1) = nI (pN f n + (ct (f n) - 1))
    rw [psI_nat (fun k hk => h k (by omega)), ← nI_add]
    congr 1
    have := nI_pred (ct (f n) - 1)
    rwa [show ct (f n) - 1 + 1 = ct (f n) by omega] at this
theorem ct_le (x : Int32) : ct x ≤ 12 := fb_ct_le _ 12
theorem pN_le (f : Nat → Int32) {n : Nat} (hn : n ≤ 12) : pN f n ≤ 144 := by
  have : pN f n ≤ n * 12 := fb_sm_bound fun k _ => by have := ct_le (f k); omega
  omega
theorem ct_mono {x y : Int32} (h : ∀ i, bt x i = true → bt y i = true) : ct x ≤ ct y := fb_ct_sub fun k _ => h k
theorem ct_lt {x y : Int32} {j : Nat} (hj : j < 12) (h : ∀ i, bt x i = true → bt y i = true) (h1 : bt x j = false) (h2 : bt y j = true) : ct x < ct y := by
  have e : fb_ct (fun k => bt x k || decide (k = j)) 12 = fb_ct (bt x) 12 + fb_ct (fun k => decide (k = j)) 12 := fb_ct_or fun k _ z => by
    have : k = j := by simpa using z.2
    subst this
    rw [h1] at z
    exact absurd z.1 (by decide)
  have l : fb_ct (fun k => bt x k || decide (k = j)) 12 ≤ fb_ct (bt y) 12 := fb_ct_sub fun k _ z => by
    simp only [Bool.or_eq_true, decide_eq_true_eq] at z
    rcases z with z | z
    · exact h k z
    · exact z ▸ h2
  have p : 0 < fb_ct (fun k => decide (k = j)) 12 := fb_ct_pos.mpr ⟨j, hj, by simp⟩
  unfold ct
  omega
/-- an edge less -/
theorem rr_sub {E F : Nat → Int32} {n : Nat} (hE : nt E n) (hF : nt F n) (h : ∀ u v, u < n → bt (F u) v = true → bt (E u) v = true) {u v : Nat} (hu : u < n) (h1 : rr F n u v = true) : rr E n u v = true :=
  rr_min hF (fun a b => rr E n a b = true) (fun _ ha => rr_refl hE ha) (fun a b ha _ hab => rr_edge (h a b ha hab)) (fun _ _ _ _ hj h1 h2 => rr_tr hj h1 h2) hu h1
theorem fl_sub {E : Nat → Int32} {n a b : Nat} (hb : b < 32) (h : bt (E a) b = true) : ∀ u v, u < n → bt (fl E a b u) v = true → bt (E u) v = true := fun u v _ hv => by
  rw [fl_bt hb] at hv
  by_cases e : u = a ∧ v = b
  · rw [e.1, e.2]; exact h
  · have : (decide (u = a) && decide (v = b)) = false := by
      simp only [Bool.and_eq_false_iff, decide_eq_false_iff_not]
      by_cases z : u = a
      · exact Or.inr (fun z2 => e ⟨z, z2⟩)
      · exact Or.inl z
    rw [this] at hv
    simpa using hv
theorem cut_rr {E : Nat → Int32} {n a b : Nat} (hE : nt E n) (ha : a < n) (hb : b < n) (h : bt (E a) b = true) (hr : rr (fl E a b) n a b = true) {u v : Nat} (hu : u < n) : rr (fl E a b) n u v = rr E n u v := by
  have hF := fl_nt (a := a) hE hb
  have hn := hE.1
  apply Bool.eq_iff_iff.mpr
  constructor
  · exact rr_sub hE hF (fl_sub (by omega) h) hu
  · intro h1
    refine rr_min hE (fun x y => rr (fl E a b) n x y = true) (fun _ hx => rr_refl hF hx) (fun x y hx _ hxy => ?_) (fun _ _ _ _ hj h1 h2 => rr_tr hj h1 h2) hu h1
    by_cases e : x = a ∧ y = b
    · rw [e.1, e.2]; exact hr
    · refine rr_edge ?_
      rw [fl_bt (by omega), hxy]
      have : (decide (x = a) && decide (y = b)) = false := by
        simp only [Bool.and_eq_false_iff, decide_eq_false_iff_not]
        by_cases z : x = a
        · exact Or.inr (fun z2 => e ⟨z, z2⟩)
        · exact Or.inl z
      rw [this]
      rfl
theorem cut_pN {E : Nat → Int32} {n a b : Nat} (hE : nt E n) (ha : a < n) (hb : b < n) (h : bt (E a) b = true) : pN (RR (fl E a b) n) n ≤ pN (RR E n) n ∧ (pN (RR (fl E a b) n) n = pN (RR E n) n ↔ rr (fl E a b) n a b = true) := by
  have hF := fl_nt (a := a) hE hb
  have hn := hE.1
  have sub : ∀ u, u < n → ∀ v, bt (RR (fl E a b) n u) v = true → bt (RR E n u) v = true := fun u hu v => rr_sub hE hF (fl_sub (by omega) h) hu
  refine ⟨fb_sm_le fun k hk => by have := ct_mono (sub k hk); omega, ?_, ?_⟩
  · intro e
    cases hr : rr (fl E a b) n a b with
    | true => rfl
    | false =>
      exfalso
      have l : ct (RR (fl E a b) n a) < ct (RR E n a) := ct_lt (j := b) (by omega) (sub a ha) hr (rr_edge h)
      have p := RR_pos hF ha
      -- the sum is smaller
      have e1 : fb_sm (fun k => if k = a then ct (RR E n a) - 1 else ct (RR (fl E a b) n k) - 1) n + (ct (RR (fl E a b) n a) - 1) = fb_sm (fun k => ct (RR (fl E a b) n k) - 1) n + (ct (RR E n a) - 1) := fb_sm_upd (fun k => ct (RR (fl E a b) n k) - 1) _ ha
      have e2 : fb_sm (fun k => if k = a then ct (RR E n a) - 1 else ct (RR (fl E a b) n k) - 1) n ≤ fb_sm (fun k => ct (RR E n k) - 1) n := fb_sm_le fun k hk => by
        by_cases z : k = a
        · subst z; simp
        · rw [if_neg z]
          have := ct_mono (sub k hk)
          omega
      unfold pN at e
      omega
  · intro hr
    unfold pN
    refine fb_sm_cong fun k hk => ?_
    have : RR (fl E a b) n k = RR E n k := b_ext fun i _ => cut_rr hE ha hb h hr hk
    rw [this]
section PAIRS
variable {h : mr_h} {Q : Option Value → mr_h → Prop} {n len us m : Nat} {E K S W : Nat → Int32}
theorem l_mo_asNow (hm : MN h n) (e77 : h.1 77 = mr_I 24 S) (kk : ∀ h2, mr_fr h h2 [78] → h2.1 78 = mr_I 24 (fb_put W S 0 24) → Q none h2) : ∀ (d k : Nat) (h1 : mr_h), k + d = 24 → h1.1 78 = mr_I 24 (fb_put W S 0 k) → mr_fr h h1 [78] → mr_wp 153 2 [.ref 74, .int (nI k)] [] h1 Q := by
  intro d
  induction d with
  | zero =>
    intro k h1 hk e78 f
    have : k = 24 := by omega
    subst this
    obtain ⟨th, ty, tt, tk, pl, va, fa, dn, dr, um, sn, uf, e74⟩ := MN_fr hm f (by decide)
    rw [s_mo_asNow_2]
    simp only [S_mo_asNow, e74, MO, SEL, PF, mr_gf_O, mr_rc_O, Option.toList_some, Option.toList_none, List.cons_append, List.nil_append, b2i_0, b2i_1, b2i_a, a_00, a_11, ai_n, si_n, nI_1, q_rl_bit, mr_up_at, Nat.reduceLeDiff, Nat.reduceLT, Nat.reduceEqDiff, Nat.reduceAdd, if_true, if_false, if_pos (show (24 : Int32) ≤ nI 24 by decide)]
    exact kk h1 f e78
  | succ d ih =>
    intro k h1 hk e78 f
    obtain ⟨th, ty, tt, tk, pl, va, fa, dn, dr, um, sn, uf, e74⟩ := MN_fr hm f (by decide)
    have g77 := fr_at f (by decide) e77
    have h1k : k < 24 := by omega
    have e1 := fb_put_succ W S 0 k
    rw [Nat.zero_add] at e1
    rw [s_mo_asNow_2]
    simp only [S_mo_asNow, e74, MO, SEL, PF, mr_gf_O, mr_rc_O, Option.toList_some, Option.toList_none, List.cons_append, List.nil_append, b2i_0, b2i_1, b2i_a, a_00, a_11, ai_n, si_n, nI_1, q_rl_bit, mr_up_at, Nat.reduceLeDiff, Nat.reduceLT, Nat.reduceEqDiff, Nat.reduceAdd, if_true, if_false, if_neg (show ¬ (24 : Int32) ≤ nI k from nI_ge (b := 24) (by omega) (by decide)), e78, g77, h1k, e1]
    exact ih (k + 1) _ (by omega) (up_eq _ _ _) (fr_up _ f (by decide))
theorem q_mo_asNow (hm : MN h n) (e77 : h.1 77 = mr_I 24 S) (e78 : h.1 78 = mr_I 24 W) (kk : ∀ h2 W', mr_fr h h2 [78] → h2.1 78 = mr_I 24 W' → (∀ j, j < 24 → W' j = S j) → Q none h2) : mr_run 153 [.ref 74] h Q := by
  rw [r_mo_asNow]
  simp only [S_mo_asNow]
  rw [← nI_0]
  refine l_mo_asNow (W := W) hm e77 ?_ 24 0 h (by decide) (by rw [fb_put_0]; exact e78) (fr_rf _ _)
  intro h2 f g
  exact kk h2 _ f g (fun j hj => by rw [fb_put_in (by omega) (by omega)]; rfl)
theorem shp_24 {k : Nat} {c : mr_c} {A : Nat → Int32} (h : c = mr_I 24 A) (hk : k ∈ [76, 78]) : shp k c := by
  have : k = 76 ∨ k = 78 := by simpa using hk
  rcases this with z | z <;> subst z <;> exact ⟨A, h⟩
theorem St_two {h2 : mr_h} (st : St h n len us m E K) (f : mr_fr h h2 [78, 86]) (h78 : ∃ A, h2.1 78 = mr_I 24 A) (h86 : ∃ A, h2.1 86 = mr_I 12 A) : St h2 n len us m E K := by
  refine St_kp st f (by decide) (fun k hk _ => ?_) (gM_fr st.2.2.2.2.2.2 f (by decide))
  have : k = 78 ∨ k = 86 := by simpa using hk
  rcases this with rfl | rfl
  · obtain ⟨A, e⟩ := h78
    exact shp_24 e (by decide)
  · obtain ⟨A, e⟩ := h86
    exact shp_12 e (by decide)
theorem q_mo_pairsWith (st : St h n len us m E K) {a b : Nat} (ha : a < n) (hb : b < n) (kk : ∀ h2 A, mr_fr h h2 [78, 86] → St h2 n len us m E K → h2.1 86 = mr_I 12 A → (∀ j, j < n → A j = RR (fl E a b) n j) → Q (some (.int (nI (pN (RR (fl E a b) n) n)))) h2) : mr_run 152 [.ref 74, .int (nI a), .int (nI b)] h Q := by
  have hE := St_E st
  have hn := hE.1
  obtain ⟨S, e77, hS⟩ := St_77 st
  obtain ⟨W, e78⟩ := gS_78 st.1
  obtain ⟨G, e86⟩ := gS_86 st.1
  obtain ⟨th, ty, tt, tk, pl, va, fa, dn, dr, um, sn, uf, e74⟩ := St_M st
  have hF := fl_nt (a := a) hE hb
  rw [r_mo_pairsWith]
  simp only [S_mo_pairsWith, e74, MO, SEL, PF, mr_gf_O, mr_rc_O, Option.toList_some, Option.toList_none, List.cons_append, List.nil_append, b2i_0, b2i_1, b2i_a, a_00, a_11, ai_n, si_n, nI_1, q_rl_bit, mr_up_at, Nat.reduceLeDiff, Nat.reduceLT, Nat.reduceEqDiff, Nat.reduceAdd, if_true, if_false, Bool.true_eq_false, Bool.false_eq_true, Bool.true_and, Bool.false_and, Bool.and_true, Bool.and_false, i_10, i_01, i_00, not_true_eq_false, not_false_eq_true]
  refine q_mo_asNow (St_M st) e77 e78 ?_
  intro h1 W' f1 g78 hW
  obtain ⟨th, ty, tt, tk, pl, va, fa, dn, dr, um, sn, uf, g74⟩ := MN_fr (St_M st) f1 (by decide)
  simp only [S_mo_pairsWith, g74, MO, SEL, PF, mr_gf_O, mr_rc_O, Option.toList_some, Option.toList_none, List.cons_append, List.nil_append, b2i_0, b2i_1, b2i_a, a_00, a_11, ai_n, si_n, nI_1, q_rl_bit, mr_up_at, Nat.reduceLeDiff, Nat.reduceLT, Nat.reduceEqDiff, Nat.reduceAdd, if_true, if_false, Bool.true_eq_false, Bool.false_eq_true, Bool.true_and, Bool.false_and, Bool.and_true, Bool.and_false, i_10, i_01, i_00, not_true_eq_false, not_false_eq_true, z_add, g78, show a < 24 by omega, nb_def]
  have f2 : mr_fr h (mr_up h1 78 (mr_I 24 (upd W' a (W' a ^^^ nb b)))) [78, 86] := fr_up _ (fr_wk f1 (by decide)) (by decide)
  have hW2 : ∀ u, u < n → upd W' a (W' a ^^^ nb b) u = fl E a b u := fun u hu => by
    unfold fl
    by_cases e : u = a
    · subst e
      rw [upd_at, if_pos rfl, hW u (by omega), (hS u hu).1]
    · rw [upd_ne _ _ e, if_neg e, hW u (by omega), (hS u hu).1]
  refine q_mo_comesBy hn (by decide) (by decide) (MN_fr (St_M st) f2 (by decide)) (up_eq _ _ _) (show _ = mr_I 12 G by simp only [mr_up_at, Nat.reduceEqDiff, if_false]; exact fr_at f1 (by decide) e86) ?_
  intro h2 f3 k86
  have F3 := fr_tr f2 f3 (by decide)
  have m2 := MN_fr (St_M st) F3 (by decide)
  have hA : ∀ j, j < n → (fun j => if j < n then RR (upd W' a (W' a ^^^ nb b)) n j else G j) j = RR (fl E a b) n j := fun j hj => by
    show (if j < n then _ else _) = _
    rw [if_pos hj]
    exact RR_cong hW2 hj
  obtain ⟨th, ty, tt, tk, pl, va, fa, dn, dr, um, sn, uf, k74⟩ := id m2
  simp only [S_mo_pairsWith, k74, MO, SEL, PF, mr_gf_O, mr_rc_O, Option.toList_some, Option.toList_none, List.cons_append, List.nil_append, b2i_0, b2i_1, b2i_a, a_00, a_11, ai_n, si_n, nI_1, q_rl_bit, mr_up_at, Nat.reduceLeDiff, Nat.reduceLT, Nat.reduceEqDiff, Nat.reduceAdd, if_true, if_false, Bool.true_eq_false, Bool.false_eq_true, Bool.true_and, Bool.false_and, Bool.and_true, Bool.and_false, i_10, i_01, i_00, not_true_eq_false, not_false_eq_true]
  rw [q_mo_pairsOf hn (fun j hj => sm_of (hA j hj) (RR_sm hF hj)) m2 k86, psI_cong hA, psI_nat (fun k hk => RR_pos hF hk)]
  simp only [S_mo_pairsWith, SEL, PF, mr_gf_O, mr_rc_O, Option.toList_some, Option.toList_none, List.cons_append, List.nil_append, b2i_0, b2i_1, b2i_a, a_00, a_11, ai_n, si_n, nI_1, q_rl_bit, mr_up_at, Nat.reduceLeDiff, Nat.reduceLT, Nat.reduceEqDiff, Nat.reduceAdd, if_true, if_false, Bool.true_eq_false, Bool.false_eq_true, Bool.true_and, Bool.false_and, Bool.and_true, Bool.and_false, i_10, i_01, i_00, not_true_eq_false, not_false_eq_true]
  exact kk h2 _ F3 (St_two st F3 ⟨_, fr_at f3 (by decide) (up_eq _ _ _)⟩ ⟨_, k86⟩) k86 hA
theorem q_mo_pairsNow (st : St h n len us m E K) (kk : ∀ h2 A, mr_fr h h2 [85] → St h2 n len us m E K → h2.1 85 = mr_I 12 A → (∀ j, j < n → A j = RR E n j) → Q (some (.int (nI (pN (RR E n) n)))) h2) : mr_run 151 [.ref 74] h Q := by
  have hE := St_E st
  have hn := hE.1
  obtain ⟨S, e77, hS⟩ := St_77 st
  obtain ⟨G, e85⟩ := gS_85 st.1
  obtain ⟨th, ty, tt, tk, pl, va, fa, dn, dr, um, sn, uf, e74⟩ := St_M st
  rw [r_mo_pairsNow]
  simp only [S_mo_pairsNow, e74, MO, SEL, PF, mr_gf_O, mr_rc_O, Option.toList_some, Option.toList_none, List.cons_append, List.nil_append, b2i_0, b2i_1, b2i_a, a_00, a_11, ai_n, si_n, nI_1, q_rl_bit, mr_up_at, Nat.reduceLeDiff, Nat.reduceLT, Nat.reduceEqDiff, Nat.reduceAdd, if_true, if_false, Bool.true_eq_false, Bool.false_eq_true, Bool.true_and, Bool.false_and, Bool.and_true, Bool.and_false, i_10, i_01, i_00, not_true_eq_false, not_false_eq_true]
  refine q_mo_comesBy hn (by decide) (by decide) (St_M st) e77 e85 ?_
  intro h2 f3 k85
  have m2 := MN_fr (St_M st) f3 (by decide)
  have hA : ∀ j, j < n → (fun j => if j < n then RR S n j else G j) j = RR E n j := fun j hj => by
    show (if j < n then _ else _) = _
    rw [if_pos hj]
    exact RR_cong (fun u hu => (hS u hu).1) hj
  obtain ⟨th, ty, tt, tk, pl, va, fa, dn, dr, um, sn, uf, k74⟩ := id m2
  simp only [S_mo_pairsNow, k74, MO, SEL, PF, mr_gf_O, mr_rc_O, Option.toList_some, Option.toList_none, List.cons_append, List.nil_append, b2i_0, b2i_1, b2i_a, a_00, a_11, ai_n, si_n, nI_1, q_rl_bit, mr_up_at, Nat.reduceLeDiff, Nat.reduceLT, Nat.reduceEqDiff, Nat.reduceAdd, if_true, if_false, Bool.true_eq_false, Bool.false_eq_true, Bool.true_and, Bool.false_and, Bool.and_true, Bool.and_false, i_10, i_01, i_00, not_true_eq_false, not_false_eq_true]
  rw [q_mo_pairsOf hn (fun j hj => sm_of (hA j hj) (RR_sm hE hj)) m2 k85, psI_cong hA, psI_nat (fun k hk => RR_pos hE hk)]
  simp only [S_mo_pairsNow, SEL, PF, mr_gf_O, mr_rc_O, Option.toList_some, Option.toList_none, List.cons_append, List.nil_append, b2i_0, b2i_1, b2i_a, a_00, a_11, ai_n, si_n, nI_1, q_rl_bit, mr_up_at, Nat.reduceLeDiff, Nat.reduceLT, Nat.reduceEqDiff, Nat.reduceAdd, if_true, if_false, Bool.true_eq_false, Bool.false_eq_true, Bool.true_and, Bool.false_and, Bool.and_true, Bool.and_false, i_10, i_01, i_00, not_true_eq_false, not_false_eq_true]
  exact kk h2 _ f3 (St_one st f3 (by decide) (shp_12 k85 (by decide))) k85 hA
theorem q_re_pairCount (st : St h n len us m E K) : mr_run 53 [.ref 9] h Q = Q (some (.int (nI (pN (RR E n) n)))) h := by
  have hE := St_E st
  obtain ⟨e9, A, B, C, I, O, R, L, e10, e11, e12, e13, e14, e15, e16, hA, hB, hC, hI, hO, hR, hL⟩ := St_D st
  rw [r_re_pairCount]
  simp only [S_re_pairCount, e9, RE, SEL, PF, mr_gf_O, mr_rc_O, Option.toList_some, Option.toList_none, List.cons_append, List.nil_append, b2i_0, b2i_1, b2i_a, a_00, a_11, ai_n, si_n, nI_1, q_rl_bit, mr_up_at, Nat.reduceLeDiff, Nat.reduceLT, Nat.reduceEqDiff, Nat.reduceAdd, if_true, if_false, Bool.true_eq_false, Bool.false_eq_true, Bool.true_and, Bool.false_and, Bool.and_true, Bool.and_false, i_10, i_01, i_00, not_true_eq_false, not_false_eq_true]
  rw [q_rl_pairsOf hE.1 (fun j hj => sm_of (hA j hj) (RR_sm hE hj)) e10, psI_cong hA, psI_nat (fun k hk => RR_pos hE hk)]
  simp only [S_re_pairCount, SEL, PF, mr_gf_O, mr_rc_O, Option.toList_some, Option.toList_none, List.cons_append, List.nil_append, b2i_0, b2i_1, b2i_a, a_00, a_11, ai_n, si_n, nI_1, q_rl_bit, mr_up_at, Nat.reduceLeDiff, Nat.reduceLT, Nat.reduceEqDiff, Nat.reduceAdd, if_true, if_false, Bool.true_eq_false, Bool.false_eq_true, Bool.true_and, Bool.false_and, Bool.and_true, Bool.and_false, i_10, i_01, i_00, not_true_eq_false, not_false_eq_true]
theorem c22 (st : St h n len us m E K) : h.1 22 = mr_O 2 [.ref 23] := by
  have := st.1 22 (by decide)
  simpa [shp] using this
theorem c23 (st : St h n len us m E K) : ∃ A, h.1 23 = mr_I 12 A := by
  have := st.1 23 (by decide)
  simpa [shp, isI] using this
theorem q_cg_pairsWithout (st : St h n len us m E K) {a b : Nat} (ha : a < n) (hb : b < n) (hh : bt (E a) b = true) (kk : ∀ h2, mr_fr h h2 [23] → St h2 n len us m E K → Q (some (.int (nI (pN (RR (fl E a b) n) n)))) h2) : mr_run 85 [.ref 22, .ref 1, .int (nI a), .int (nI b)] h Q := by
  have hE := St_E st
  have hn := hE.1
  obtain ⟨W, e23⟩ := c23 st
  have hF := fl_nt (a := a) hE hb
  rw [r_cg_pairsWithout]
  simp only [S_cg_pairsWithout, St_1 st, NE, SEL, PF, mr_gf_O, mr_rc_O, Option.toList_some, Option.toList_none, List.cons_append, List.nil_append, b2i_0, b2i_1, b2i_a, a_00, a_11, ai_n, si_n, nI_1, q_rl_bit, mr_up_at, Nat.reduceLeDiff, Nat.reduceLT, Nat.reduceEqDiff, Nat.reduceAdd, if_true, if_false, Bool.true_eq_false, Bool.false_eq_true, Bool.true_and, Bool.false_and, Bool.and_true, Bool.and_false, i_10, i_01, i_00, not_true_eq_false, not_false_eq_true, c22 st, St_2 st, e23, cpy_n (show ¬ 23 = 2 by decide) hn hn (show 12 ≤ 1000 by decide), show a < 12 by omega]
  have f2 : mr_fr h (mr_up (mr_up h 23 (mr_I 12 (va_cpy E W 0 0 n))) 23 (mr_I 12 (upd (va_cpy E W 0 0 n) a (va_cpy E W 0 0 n a &&& (nb b ^^^ -1))))) [23] := fr_up _ (fr_up _ (fr_rf _ _) (by decide)) (by decide)
  refine q_rl_close (n := n) hn (up_eq _ _ _) ?_
  intro h2 f3 g23
  have F3 := fr_tr f2 f3 (by decide)
  have hW2 : ∀ u, u < n → upd (va_cpy E W 0 0 n) a (va_cpy E W 0 0 n a &&& (nb b ^^^ -1)) u = fl E a b u := fun u hu => by
    unfold fl
    by_cases e : u = a
    · subst e
      rw [upd_at, if_pos rfl, va_cpy_in hu, cut_eq (by omega) hh]
    · rw [upd_ne _ _ e, if_neg e, va_cpy_in hu]
  have hA : ∀ j, j < n → (fun j => if j < n then RR (upd (va_cpy E W 0 0 n) a (va_cpy E W 0 0 n a &&& (nb b ^^^ -1))) n j else upd (va_cpy E W 0 0 n) a (va_cpy E W 0 0 n a &&& (nb b ^^^ -1)) j) j = RR (fl E a b) n j := fun j hj => by
    show (if j < n then _ else _) = _
    rw [if_pos hj]
    exact RR_cong hW2 hj
  have s3 := St_one st F3 (by decide) (shp_12 g23 (by decide))
  simp only [S_cg_pairsWithout, St_1 s3, NE, SEL, PF, mr_gf_O, mr_rc_O, Option.toList_some, Option.toList_none, List.cons_append, List.nil_append, b2i_0, b2i_1, b2i_a, a_00, a_11, ai_n, si_n, nI_1, q_rl_bit, mr_up_at, Nat.reduceLeDiff, Nat.reduceLT, Nat.reduceEqDiff, Nat.reduceAdd, if_true, if_false, Bool.true_eq_false, Bool.false_eq_true, Bool.true_and, Bool.false_and, Bool.and_true, Bool.and_false, i_10, i_01, i_00, not_true_eq_false, not_false_eq_true, c22 s3]
  rw [q_rl_pairsOf hn (fun j hj => sm_of (hA j hj) (RR_sm hF hj)) g23, psI_cong hA, psI_nat (fun k hk => RR_pos hF hk)]
  simp only [S_cg_pairsWithout, SEL, PF, mr_gf_O, mr_rc_O, Option.toList_some, Option.toList_none, List.cons_append, List.nil_append, b2i_0, b2i_1, b2i_a, a_00, a_11, ai_n, si_n, nI_1, q_rl_bit, mr_up_at, Nat.reduceLeDiff, Nat.reduceLT, Nat.reduceEqDiff, Nat.reduceAdd, if_true, if_false, Bool.true_eq_false, Bool.false_eq_true, Bool.true_and, Bool.false_and, Bool.and_true, Bool.and_false, i_10, i_01, i_00, not_true_eq_false, not_false_eq_true]
  exact kk h2 F3 s3
end PAIRS
