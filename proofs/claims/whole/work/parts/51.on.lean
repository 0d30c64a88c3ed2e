/-! what lies on some way, on every one -/
def e0 (E : Nat → Int32) (w : Nat) : Nat → Int32 := fun u => if u = w then 0 else E u
theorem e0_bt {E : Nat → Int32} {w u v : Nat} : bt (e0 E w u) v = true ↔ u ≠ w ∧ bt (E u) v = true := by
  unfold e0
  by_cases e : u = w
  · rw [if_pos e, b_0]; simp [e]
  · rw [if_neg e]; simp [e]
theorem e0_nt {E : Nat → Int32} {n w : Nat} (hE : nt E n) : nt (e0 E w) n := ⟨hE.1, fun u hu v hv => hE.2 u hu v (e0_bt.mp hv).2⟩
theorem on_some {E : Nat → Int32} {n u v w : Nat} (hE : nt E n) (hw : w < n) (hu : u < n) (h : rr E n u v = true) : rr (e0 E w) n u v = true ∨ (rr E n u w = true ∧ rr E n w v = true) := by
  have hF := e0_nt (w := w) hE
  have sub : ∀ a b, a < n → rr (e0 E w) n a b = true → rr E n a b = true := fun a b ha => rr_sub hE hF (fun x y _ hxy => (e0_bt.mp hxy).2) ha
  refine rr_min hE (fun a b => rr (e0 E w) n a b = true ∨ (rr E n a w = true ∧ rr E n w b = true)) (fun a ha => Or.inl (rr_refl hF ha)) (fun a b ha hb hab => ?_) (fun a j b ha hj h1 h2 => ?_) hu h
  · by_cases e : a = w
    · subst e; exact Or.inr ⟨rr_refl hE ha, rr_edge hab⟩
    · exact Or.inl (rr_edge (e0_bt.mpr ⟨e, hab⟩))
  · rcases h1 with h1 | ⟨h1, h1'⟩
    · rcases h2 with h2 | ⟨h2, h2'⟩
      · exact Or.inl (rr_tr hj h1 h2)
      · exact Or.inr ⟨rr_tr hj (sub a j ha h1) h2, h2'⟩
    · rcases h2 with h2 | ⟨h2, h2'⟩
      · exact Or.inr ⟨h1, rr_tr hj h1' (sub j b hj h2)⟩
      · exact Or.inr ⟨h1, h2'⟩
theorem avoid_iff {E : Nat → Int32} {n u v w : Nat} (hE : nt E n) (hu : u < n) (hw : w < n) (huw : u ≠ w) (hvw : v ≠ w) {R : Int32} (hR : SPR E n (nb u) (nb w) R) : bt R v = rr (e0 E w) n u v := by
  have hn := hE.1
  have hF := e0_nt (w := w) hE
  obtain ⟨r1, r2, r3, r4⟩ := hR
  have av : ∀ y, bt (nb w) y = false ↔ y ≠ w := fun y => by rw [nb_bt (by omega)]; simp
  apply Bool.eq_iff_iff.mpr
  constructor
  · intro h
    refine (r4 (fun x => x < n ∧ x ≠ w ∧ rr (e0 E w) n u x = true) ?_ ?_ v h).2.2
    · intro x hx ha
      rw [nb_bt (by omega)] at hx
      have : x = u := by simpa using hx
      subst this
      exact ⟨hu, huw, rr_refl hF hu⟩
    · intro x y hx hp hy ha
      exact ⟨hE.2 x hx y hy, (av y).mp ha, rr_tr hx hp.2.2 (rr_edge (e0_bt.mpr ⟨hp.2.1, hy⟩))⟩
  · intro h
    have key : ∀ a b, a < n → rr (e0 E w) n a b = true → (a = w ∨ bt R a = true) → (b = w ∨ bt R b = true) := fun a b ha hab => by
      refine rr_min hF (fun a b => (a = w ∨ bt R a = true) → (b = w ∨ bt R b = true)) (fun _ _ z => z) (fun x y hx hy hxy z => ?_) (fun _ _ _ _ _ z1 z2 z => z2 (z1 z)) ha hab
      by_cases e : y = w
      · exact Or.inl e
      · obtain ⟨q1, q2⟩ := e0_bt.mp hxy
        exact Or.inr (r3 x y (z.resolve_left q1) q2 ((av y).mpr e))
    exact (key u v hu h (Or.inr (r2 u (by rw [nb_bt (by omega)]; simp) ((av u).mpr huw)))).resolve_left hvw
def evb (E : Nat → Int32) (n u v w : Nat) : Bool := (!decide (w = u) && !decide (w = v)) && !rr (e0 E w) n u v
def sme (E : Nat → Int32) (n u v : Nat) : Int32 := RR E n u &&& Bh E n v
def eve (E : Nat → Int32) (n u v k : Nat) : Int32 := (sme E n u v &&& (nb u ||| nb v)) ||| mk (fun w => bt (sme E n u v) w && evb E n u v w) k
theorem sme_bt {E : Nat → Int32} {n u v i : Nat} (hn : n ≤ 12) : bt (sme E n u v) i = (rr E n u i && (decide (i < n) && rr E n i v)) := by
  unfold sme
  rw [b_and, Bh_bt hn]
  rfl
theorem or_as (x y z : Int32) : x ||| y ||| z = x ||| (y ||| z) := b_ext fun i _ => by simp only [b_or, Bool.or_assoc]
section ON
variable {h : mr_h} {Q : Option Value → mr_h → Prop} {n len us m : Nat} {E K : Nat → Int32}
theorem c20 (st : St h n len us m E K) : h.1 20 = mr_O 9 [.ref 21] := by
  have := st.1 20 (by decide)
  simpa [shp] using this
theorem l_onEvery (st : St h n len us m E K) {u v : Nat} (hu : u < n) (hv : v < n) (kk : Q (some (.int (eve E n u v n))) h) : ∀ (d k : Nat), k + d = n → mr_wp 83 17 [.ref 20, .ref 1, .int (nI u), .int (nI v), .int (sme E n u v), .int (eve E n u v k), .int (nI k)] [] h Q := by
  have hE := St_E st
  have hn := hE.1
  intro d
  induction d with
  | zero =>
    intro k hk
    have : k = n := by omega
    subst this
    rw [s_wa_onEvery_17]
    simp only [S_wa_onEvery, St_1 st, NE, SEL, PF, mr_gf_O, mr_rc_O, Option.toList_some, Option.toList_none, List.cons_append, List.nil_append, b2i_0, b2i_1, b2i_a, a_00, a_11, ai_n, si_n, nI_1, q_rl_bit, mr_up_at, Nat.reduceLeDiff, Nat.reduceLT, Nat.reduceEqDiff, Nat.reduceAdd, if_true, if_false, Bool.true_eq_false, Bool.false_eq_true, Bool.true_and, Bool.false_and, Bool.and_true, Bool.and_false, i_10, i_01, i_00, not_true_eq_false, not_false_eq_true, if_pos (nI_le (Nat.le_refl k) (show k < 2 ^ 31 by omega))]
    exact kk
  | succ d ih =>
    intro k hk
    have hkn : k < n := by omega
    have c1 : ¬ nI n ≤ nI k := nI_ge (by omega) (by omega)
    have hb : bt (sme E n u v &&& (eve E n u v k ^^^ -1)) k = (bt (sme E n u v) k && (!decide (k = u) && !decide (k = v))) := by
      rw [b_and, b_not _ (by omega)]
      unfold eve
      rw [b_or, b_and, b_or, nb_bt (by omega), nb_bt (by omega), mk_bt (by omega)]
      cases bt (sme E n u v) k <;> simp
    have e1 : eve E n u v (k + 1) = if bt (sme E n u v) k && evb E n u v k then eve E n u v k ||| nb k else eve E n u v k := by
      unfold eve
      by_cases z : (bt (sme E n u v) k && evb E n u v k) = true
      · rw [if_pos z, or_as, mk_yes (k := k) (p := fun w => bt (sme E n u v) w && evb E n u v w) z]
      · rw [if_neg z, ← mk_no (k := k) (p := fun w => bt (sme E n u v) w && evb E n u v w) (by simpa using z)]
    have := ih (k + 1) (by omega)
    rw [s_wa_onEvery_17]
    simp only [S_wa_onEvery, St_1 st, NE, SEL, PF, mr_gf_O, mr_rc_O, Option.toList_some, Option.toList_none, List.cons_append, List.nil_append, b2i_0, b2i_1, b2i_a, a_00, a_11, ai_n, si_n, nI_1, q_rl_bit, mr_up_at, Nat.reduceLeDiff, Nat.reduceLT, Nat.reduceEqDiff, Nat.reduceAdd, if_true, if_false, Bool.true_eq_false, Bool.false_eq_true, Bool.true_and, Bool.false_and, Bool.and_true, Bool.and_false, i_10, i_01, i_00, not_true_eq_false, not_false_eq_true, if_neg c1, q_rl_holds (show k < 32 by omega), hb]
    by_cases z : (bt (sme E n u v) k && (!decide (k = u) && !decide (k = v))) = true
    · simp only [Bool.and_eq_true, Bool.not_eq_true', decide_eq_false_iff_not] at z
      obtain ⟨z1, z2, z3⟩ := z
      simp only [z1, z2, z3, decide_false, Bool.not_false, Bool.true_and, Bool.and_true, Bool.true_eq_false, if_false]
      refine q_ne_spread hE (fun x hx => ?_) (St_1 st) (St_2 st) ?_
      · rw [nb_bt (by omega)] at hx
        have : x = u := by simpa using hx
        omega
      · intro R hR
        simp only [S_wa_onEvery, SEL, PF, mr_gf_O, mr_rc_O, Option.toList_some, Option.toList_none, List.cons_append, List.nil_append, b2i_0, b2i_1, b2i_a, a_00, a_11, ai_n, si_n, nI_1, q_rl_bit, mr_up_at, Nat.reduceLeDiff, Nat.reduceLT, Nat.reduceEqDiff, Nat.reduceAdd, if_true, if_false, Bool.true_eq_false, Bool.false_eq_true, Bool.true_and, Bool.false_and, Bool.and_true, Bool.and_false, i_10, i_01, i_00, not_true_eq_false, not_false_eq_true, q_rl_holds (show v < 32 by omega), avoid_iff hE hu hkn (Ne.symm z2) (Ne.symm z3) hR]
        cases z4 : rr (e0 E k) n u v with
        | true =>
          rw [e1, if_neg (by unfold evb; rw [z4]; simp)] at this
          simp only [Bool.true_eq_false, not_false_eq_true, if_true]
          exact this
        | false =>
          rw [e1, if_pos (by unfold evb; rw [z4, z1]; simp [z2, z3])] at this
          simp only [not_true_eq_false, if_false]
          exact this
    · have z' : (bt (sme E n u v) k && (!decide (k = u) && !decide (k = v))) = false := by simpa using z
      rw [z']
      rw [e1, if_neg (by
        unfold evb
        rw [← Bool.and_assoc, z']
        simp)] at this
      simp only [if_true]
      exact this
theorem q_wa_onEvery (st : St h n len us m E K) {u v : Nat} (hu : u < n) (hv : v < n) (kk : Q (some (.int (eve E n u v n))) h) : mr_run 83 [.ref 20, .ref 1, .int (nI u), .int (nI v), .int (sme E n u v)] h Q := by
  rw [r_wa_onEvery]
  simp only [S_wa_onEvery, SEL, PF, mr_gf_O, mr_rc_O, Option.toList_some, Option.toList_none, List.cons_append, List.nil_append, b2i_0, b2i_1, b2i_a, a_00, a_11, ai_n, si_n, nI_1, q_rl_bit, mr_up_at, Nat.reduceLeDiff, Nat.reduceLT, Nat.reduceEqDiff, Nat.reduceAdd, if_true, if_false, Bool.true_eq_false, Bool.false_eq_true, Bool.true_and, Bool.false_and, Bool.and_true, Bool.and_false, i_10, i_01, i_00, not_true_eq_false, not_false_eq_true]
  have := l_onEvery st hu hv kk n 0 (by omega)
  unfold eve at this
  rw [show mk (fun w => bt (sme E n u v) w && evb E n u v w) 0 = 0 from rfl, or_0, nI_0] at this
  exact this
theorem l_mo_on {u v : Nat} (hu : u < n) (hv : v < n) (huv : u ≠ v) {v3 : Value} {x3 : Int32} (kk : ∀ h2, h2.2 = h.2 → St h2 n len us m E K → Q (some (.int ((nb u ||| nb v) ||| mk (evb E n u v) n))) h2) : ∀ (d k : Nat) (h1 : mr_h), k + d = n → h1.2 = h.2 → St h1 n len us m E K → mr_wp 166 88 [.ref 74, .int (nI u), .int (nI v), .int x3, .int ((nb u ||| nb v) ||| mk (evb E n u v) k), .int (nI k)] [] h1 Q := by
  intro d
  induction d with
  | zero =>
    intro k h1 hk h2 st
    have hn := (St_E st).1
    have : k = n := by omega
    subst this
    obtain ⟨th, ty, tt, tk, pl, va, fa, dn, dr, um, sn, uf, e74⟩ := St_M st
    rw [s_mo_on_88]
    simp only [S_mo_on_0, S_mo_on_1, S_mo_on_2, e74, MO, SEL, PF, mr_gf_O, mr_rc_O, Option.toList_some, Option.toList_none, List.cons_append, List.nil_append, b2i_0, b2i_1, b2i_a, a_00, a_11, ai_n, si_n, nI_1, q_rl_bit, mr_up_at, Nat.reduceLeDiff, Nat.reduceLT, Nat.reduceEqDiff, Nat.reduceAdd, if_true, if_false, Bool.true_eq_false, Bool.false_eq_true, Bool.true_and, Bool.false_and, Bool.and_true, Bool.and_false, i_10, i_01, i_00, not_true_eq_false, not_false_eq_true, if_pos (nI_le (Nat.le_refl k) (show k < 2 ^ 31 by omega))]
    exact kk h1 h2 st
  | succ d ih =>
    intro k h1 hk h2 st
    have hE := St_E st
    have hn := hE.1
    have hkn : k < n := by omega
    have c1 : ¬ nI n ≤ nI k := nI_ge (by omega) (by omega)
    obtain ⟨th, ty, tt, tk, pl, va, fa, dn, dr, um, sn, uf, e74⟩ := St_M st
    rw [s_mo_on_88]
    simp only [S_mo_on_0, S_mo_on_1, S_mo_on_2, e74, MO, SEL, PF, mr_gf_O, mr_rc_O, Option.toList_some, Option.toList_none, List.cons_append, List.nil_append, b2i_0, b2i_1, b2i_a, a_00, a_11, ai_n, si_n, nI_1, q_rl_bit, mr_up_at, Nat.reduceLeDiff, Nat.reduceLT, Nat.reduceEqDiff, Nat.reduceAdd, if_true, if_false, Bool.true_eq_false, Bool.false_eq_true, Bool.true_and, Bool.false_and, Bool.and_true, Bool.and_false, i_10, i_01, i_00, not_true_eq_false, not_false_eq_true, if_neg c1, nI_eq (show u < 2 ^ 31 by omega) (show v < 2 ^ 31 by omega), nI_eq (show k < 2 ^ 31 by omega) (show u < 2 ^ 31 by omega), nI_eq (show k < 2 ^ 31 by omega) (show v < 2 ^ 31 by omega), if_neg huv]
    have skip : evb E n u v k = false → ∀ h3, h3.2 = h.2 → St h3 n len us m E K → mr_wp 166 88 [.ref 74, .int (nI u), .int (nI v), .int x3, .int ((nb u ||| nb v) ||| mk (evb E n u v) k), .int (nI (k + 1))] [] h3 Q := fun hc h3 h4 s3 => by
      have := ih (k + 1) h3 (by omega) h4 s3
      rw [← mk_no (k := k) (p := evb E n u v) hc] at this
      exact this
    by_cases z1 : k = u
    · rw [if_pos z1]
      exact skip (by unfold evb; simp [z1]) h1 h2 st
    · rw [if_neg z1]
      by_cases z2 : k = v
      · rw [if_pos z2]
        exact skip (by unfold evb; simp [z2]) h1 h2 st
      · rw [if_neg z2]
        obtain ⟨S, e77, hS⟩ := St_77 st
        obtain ⟨W, e78⟩ := gS_78 st.1
        obtain ⟨G, e86⟩ := gS_86 st.1
        refine q_mo_asNow (St_M st) e77 e78 ?_
        intro h3 W' f3 g78 hW
        obtain ⟨th, ty, tt, tk, pl, va, fa, dn, dr, um, sn, uf, g74⟩ := MN_fr (St_M st) f3 (by decide)
        simp only [S_mo_on_0, S_mo_on_1, S_mo_on_2, g74, MO, SEL, PF, mr_gf_O, mr_rc_O, Option.toList_some, Option.toList_none, List.cons_append, List.nil_append, b2i_0, b2i_1, b2i_a, a_00, a_11, ai_n, si_n, nI_1, q_rl_bit, mr_up_at, Nat.reduceLeDiff, Nat.reduceLT, Nat.reduceEqDiff, Nat.reduceAdd, if_true, if_false, Bool.true_eq_false, Bool.false_eq_true, Bool.true_and, Bool.false_and, Bool.and_true, Bool.and_false, i_10, i_01, i_00, not_true_eq_false, not_false_eq_true, z_add, g78, show k < 24 by omega]
        have f4 : mr_fr h1 (mr_up h3 78 (mr_I 24 (upd W' k 0))) [78, 86] := fr_up _ (fr_wk f3 (by decide)) (by decide)
        have hW2 : ∀ w, w < n → upd W' k 0 w = e0 E k w := fun w hw => by
          unfold e0
          by_cases e : w = k
          · subst e; rw [upd_at, if_pos rfl]
          · rw [upd_ne _ _ e, if_neg e, hW w (by omega), (hS w hw).1]
        refine q_mo_comesBy hn (by decide) (by decide) (MN_fr (St_M st) f4 (by decide)) (up_eq _ _ _) (show _ = mr_I 12 G by simp only [mr_up_at, Nat.reduceEqDiff, if_false]; exact fr_at f3 (by decide) e86) ?_
        intro h5 f5 k86
        have F5 := fr_tr f4 f5 (by decide)
        have s5 : St h5 n len us m E K := St_two st F5 ⟨_, fr_at f5 (by decide) (up_eq _ _ _)⟩ ⟨_, k86⟩
        obtain ⟨th, ty, tt, tk, pl, va, fa, dn, dr, um, sn, uf, k74⟩ := St_M s5
        have hr : bt (if u < n then RR (upd W' k 0) n u else G u) v = rr (e0 E k) n u v := by
          rw [if_pos hu, RR_cong hW2 hu]
          rfl
        simp only [S_mo_on_0, S_mo_on_1, S_mo_on_2, k74, MO, SEL, PF, mr_gf_O, mr_rc_O, Option.toList_some, Option.toList_none, List.cons_append, List.nil_append, b2i_0, b2i_1, b2i_a, a_00, a_11, ai_n, si_n, nI_1, q_rl_bit, mr_up_at, Nat.reduceLeDiff, Nat.reduceLT, Nat.reduceEqDiff, Nat.reduceAdd, if_true, if_false, Bool.true_eq_false, Bool.false_eq_true, Bool.true_and, Bool.false_and, Bool.and_true, Bool.and_false, i_10, i_01, i_00, not_true_eq_false, not_false_eq_true, k86, show u < 12 by omega, q_mo_has (show v < 32 by omega), hr, nb_def]
        cases z3 : rr (e0 E k) n u v with
        | true =>
          simp only [Bool.true_eq_false, if_false, or_0]
          exact skip (by unfold evb; rw [z3]; simp) h5 (F5.1.trans h2) s5
        | false =>
          simp only [if_true]
          rw [or_as, mk_yes (k := k) (p := evb E n u v) (by unfold evb; rw [z3]; simp [z1, z2])]
          exact ih (k + 1) h5 (by omega) (F5.1.trans h2) s5
theorem eve_eq (hE : nt E n) {u v : Nat} (hu : u < n) (hv : v < n) : eve E n u v n = if rr E n u v then (if u = v then nb u ||| nb v else (nb u ||| nb v) ||| mk (evb E n u v) n) else 0 := by
  have hn := hE.1
  have hF := fun w => e0_nt (w := w) hE
  apply b_ext
  intro i hi
  unfold eve
  rw [b_or, b_and, b_or, nb_bt (by omega), nb_bt (by omega), mk_bt (by omega), sme_bt hn]
  cases huv : rr E n u v with
  | false =>
    simp only [Bool.false_eq_true, if_false, b_0]
    have : (rr E n u i && (decide (i < n) && rr E n i v)) = false := by
      cases h1 : rr E n u i with
      | false => rfl
      | true => cases h2 : rr E n i v with
        | false => simp
        | true =>
          by_cases h3 : i < n
          · rw [rr_tr h3 h1 h2] at huv
            exact absurd huv (by decide)
          · simp [h3]
    rw [this]
    simp
  | true =>
    simp only [if_true]
    by_cases e : u = v
    · subst e
      rw [if_pos rfl, b_or, nb_bt (by omega)]
      have hev : evb E n u u i = false := by
        unfold evb
        rw [rr_refl (hF i) hu]
        simp
      rw [hev]
      by_cases e2 : i = u
      · subst e2
        simp [rr_refl hE hu, hu]
      · simp [e2]
    · rw [if_neg e, b_or, b_or, nb_bt (by omega), nb_bt (by omega), mk_bt (by omega)]
      by_cases e2 : i = u
      · subst e2
        simp [rr_refl hE hu, hu, huv]
      · by_cases e3 : i = v
        · subst e3
          simp [rr_refl hE hv, hv, huv]
        · simp only [e2, e3, decide_false, Bool.or_self, Bool.and_false, Bool.false_or]
          by_cases e4 : i < n
          · simp only [e4, decide_true, Bool.true_and]
            cases h4 : evb E n u v i with
            | false => simp
            | true =>
              have h5 : rr (e0 E i) n u v = false := by
                unfold evb at h4
                simp only [Bool.and_eq_true, Bool.not_eq_true'] at h4
                exact h4.2
              rcases on_some hE e4 hu huv with h6 | ⟨h6, h7⟩
              · rw [h5] at h6; exact absurd h6 (by decide)
              · rw [h6, h7]; rfl
          · simp [e4]
theorem b_on (hi : Inv h) (u v w : Int32) : Both 81 166 [.int u, .int v, .int w] h := by
  obtain ⟨n, len, us, m, E, K, st⟩ := hi
  have hE := St_E st
  have hn := hE.1
  have h1n := St_n st
  by_cases ok : (inN u n && inN v n && decide (w = 0 ∨ w = 1)) = true
  · have hu : inN u n = true := by revert ok; cases inN u n <;> simp
    have hv : inN v n = true := by revert ok; cases inN v n <;> simp
    have hw : w = 0 ∨ w = 1 := by simpa [hu, hv] using ok
    obtain ⟨a, ha, rfl⟩ := inN_yes hn hu
    obtain ⟨b, hb, rfl⟩ := inN_yes hn hv
    refine both_ro st (if w = 0 then sme E n a b else eve E n a b n) ?_ ?_
    · intro h Q st kk
      have kk0 := kk h st rfl
      obtain ⟨e9, A, B, C, I, O, R, L, e10, e11, e12, e13, e14, e15, e16, hA, hB, hC, hI, hO, hR, hL⟩ := St_D st
      rw [r_rl_on]
      simp only [S_rl_on, St_0 st, RLO, SEL, PF, mr_gf_O, mr_rc_O, Option.toList_some, Option.toList_none, List.cons_append, List.nil_append, b2i_0, b2i_1, b2i_a, a_00, a_11, ai_n, si_n, nI_1, q_rl_bit, mr_up_at, Nat.reduceLeDiff, Nat.reduceLT, Nat.reduceEqDiff, Nat.reduceAdd, if_true, if_false, Bool.true_eq_false, Bool.false_eq_true, Bool.true_and, Bool.false_and, Bool.and_true, Bool.and_false, i_10, i_01, i_00, not_true_eq_false, not_false_eq_true, q_rl_areNodes (St_0 st) (St_1 st), hu, hv, q_rl_isChoice, decide_eq_true hw, e9, RE, e10, e11, show a < 12 by omega, show b < 12 by omega, hA a ha, hB b hb]
      rcases hw with rfl | rfl
      · simp only [SEL, PF, mr_gf_O, mr_rc_O, Option.toList_some, Option.toList_none, List.cons_append, List.nil_append, b2i_0, b2i_1, b2i_a, a_00, a_11, ai_n, si_n, nI_1, q_rl_bit, mr_up_at, Nat.reduceLeDiff, Nat.reduceLT, Nat.reduceEqDiff, Nat.reduceAdd, if_true, if_false, Bool.true_eq_false, Bool.false_eq_true, Bool.true_and, Bool.false_and, Bool.and_true, Bool.and_false, i_10, i_01, i_00, not_true_eq_false, not_false_eq_true] at kk0 ⊢
        exact kk0
      · simp only [SEL, PF, mr_gf_O, mr_rc_O, Option.toList_some, Option.toList_none, List.cons_append, List.nil_append, b2i_0, b2i_1, b2i_a, a_00, a_11, ai_n, si_n, nI_1, q_rl_bit, mr_up_at, Nat.reduceLeDiff, Nat.reduceLT, Nat.reduceEqDiff, Nat.reduceAdd, if_true, if_false, Bool.true_eq_false, Bool.false_eq_true, Bool.true_and, Bool.false_and, Bool.and_true, Bool.and_false, i_10, i_01, i_00, not_true_eq_false, not_false_eq_true, c20 st]
        refine q_wa_onEvery st ha hb ?_
        simp only [S_rl_on, SEL, PF, mr_gf_O, mr_rc_O, Option.toList_some, Option.toList_none, List.cons_append, List.nil_append, b2i_0, b2i_1, b2i_a, a_00, a_11, ai_n, si_n, nI_1, q_rl_bit, mr_up_at, Nat.reduceLeDiff, Nat.reduceLT, Nat.reduceEqDiff, Nat.reduceAdd, if_true, if_false, Bool.true_eq_false, Bool.false_eq_true, Bool.true_and, Bool.false_and, Bool.and_true, Bool.and_false, i_10, i_01, i_00, not_true_eq_false, not_false_eq_true] at kk0 ⊢
        exact kk0
    · intro h Q st kk
      obtain ⟨th, tt, tk, pl, va, fa, dn, dr, uf, e74⟩ := id st.2.2.2.2.2.2
      rw [r_mo_on]
      simp only [S_mo_on_0, S_mo_on_1, S_mo_on_2, e74, MO, SEL, PF, mr_gf_O, mr_rc_O, Option.toList_some, Option.toList_none, List.cons_append, List.nil_append, b2i_0, b2i_1, b2i_a, a_00, a_11, ai_n, si_n, nI_1, q_rl_bit, mr_up_at, Nat.reduceLeDiff, Nat.reduceLT, Nat.reduceEqDiff, Nat.reduceAdd, if_true, if_false, Bool.true_eq_false, Bool.false_eq_true, Bool.true_and, Bool.false_and, Bool.and_true, Bool.and_false, i_10, i_01, i_00, not_true_eq_false, not_false_eq_true]
      refine St_th (k := fun hh => mr_run 132 [.ref 74, .int (nI a)] hh _) st (fun h2 s2 e2 => ?_) e74 rfl
      obtain ⟨th, tt, tk, pl, va, fa, dn, dr, uf, g74⟩ := id s2.2.2.2.2.2.2
      simp only [S_mo_on_0, S_mo_on_1, S_mo_on_2, q_mo_isNode hn h1n (St_M s2), hu, hv, SEL, PF, mr_gf_O, mr_rc_O, Option.toList_some, Option.toList_none, List.cons_append, List.nil_append, b2i_0, b2i_1, b2i_a, a_00, a_11, ai_n, si_n, nI_1, q_rl_bit, mr_up_at, Nat.reduceLeDiff, Nat.reduceLT, Nat.reduceEqDiff, Nat.reduceAdd, if_true, if_false, Bool.true_eq_false, Bool.false_eq_true, Bool.true_and, Bool.false_and, Bool.and_true, Bool.and_false, i_10, i_01, i_00, not_true_eq_false, not_false_eq_true, g74, MO, q_mo_in, ch_in, decide_eq_true hw]
      refine st_comesBy s2 (fun h3 A s3 e3 e85 hA => ?_)
      obtain ⟨th, tt, tk, pl, va, fa, dn, dr, uf, k74⟩ := id s3.2.2.2.2.2.2
      have hrr : bt (RR E n a) b = rr E n a b := rfl
      simp only [S_mo_on_0, S_mo_on_1, S_mo_on_2, k74, MO, SEL, PF, mr_gf_O, mr_rc_O, Option.toList_some, Option.toList_none, List.cons_append, List.nil_append, b2i_0, b2i_1, b2i_a, a_00, a_11, ai_n, si_n, nI_1, q_rl_bit, mr_up_at, Nat.reduceLeDiff, Nat.reduceLT, Nat.reduceEqDiff, Nat.reduceAdd, if_true, if_false, Bool.true_eq_false, Bool.false_eq_true, Bool.true_and, Bool.false_and, Bool.and_true, Bool.and_false, i_10, i_01, i_00, not_true_eq_false, not_false_eq_true, e85, show a < 12 by omega, hA a ha, q_mo_has (show b < 32 by omega), hrr, q_mo_behind hE hA hb (St_M s3) e85, nb_def]
      have kk0 := kk h3 s3 (e3.trans e2)
      rw [eve_eq hE ha hb] at kk kk0
      cases hab : rr E n a b with
      | false =>
        simp only [not_true_eq_false, if_false]
        have es : sme E n a b = 0 := by
          apply b_ext
          intro i hi
          rw [sme_bt hn, b_0]
          cases h1 : rr E n a i with
          | false => rfl
          | true => cases h2 : rr E n i b with
            | false => simp
            | true =>
              by_cases h3 : i < n
              · rw [rr_tr h3 h1 h2] at hab
                exact absurd hab (by decide)
              · simp [h3]
        have : (if w = 0 then sme E n a b else if rr E n a b = true then if a = b then nb a ||| nb b else nb a ||| nb b ||| mk (evb E n a b) n else 0) = 0 := by
          rw [es, hab]
          simp
        rw [this] at kk0
        exact kk0
      | true =>
        simp only [Bool.true_eq_false, not_false_eq_true, if_true]
        rcases hw with rfl | rfl
        · simp only [SEL, PF, mr_gf_O, mr_rc_O, Option.toList_some, Option.toList_none, List.cons_append, List.nil_append, b2i_0, b2i_1, b2i_a, a_00, a_11, ai_n, si_n, nI_1, q_rl_bit, mr_up_at, Nat.reduceLeDiff, Nat.reduceLT, Nat.reduceEqDiff, Nat.reduceAdd, if_true, if_false, Bool.true_eq_false, Bool.false_eq_true, Bool.true_and, Bool.false_and, Bool.and_true, Bool.and_false, i_10, i_01, i_00, not_true_eq_false, not_false_eq_true] at kk0 ⊢
          exact kk0
        · simp only [i_10, not_false_eq_true, if_true, if_false, hab] at kk kk0 ⊢
          by_cases eab : a = b
          · subst eab
            simp only [if_true] at kk0
            rw [← nI_0, s_mo_on_88]
            simp only [S_mo_on_0, S_mo_on_1, S_mo_on_2, k74, MO, SEL, PF, mr_gf_O, mr_rc_O, Option.toList_some, Option.toList_none, List.cons_append, List.nil_append, b2i_0, b2i_1, b2i_a, a_00, a_11, ai_n, si_n, nI_1, q_rl_bit, mr_up_at, Nat.reduceLeDiff, Nat.reduceLT, Nat.reduceEqDiff, Nat.reduceAdd, if_true, if_false, Bool.true_eq_false, Bool.false_eq_true, Bool.true_and, Bool.false_and, Bool.and_true, Bool.and_false, i_10, i_01, i_00, not_true_eq_false, not_false_eq_true, if_neg (show ¬ nI n ≤ nI 0 from nI_ge (by omega) (by omega))]
            exact kk0
          · simp only [if_neg eab] at kk
            have := l_mo_on (Q := Q) ha hb eab (v3 := .int 1) (x3 := 1) (fun h4 e4 s4 => kk h4 s4 (e4.trans (e3.trans e2))) n 0 h3 (by omega) rfl s3
            rw [show mk (evb E n a b) 0 = 0 from rfl, or_0, nI_0] at this
            exact this
  · have ok' : (inN u n && inN v n && decide (w = 0 ∨ w = 1)) = false := by simpa using ok
    refine both_ro st (-1) ?_ ?_
    · intro h Q st kk
      rw [r_rl_on]
      have := kk h st rfl
      simp only [S_rl_on, St_0 st, RLO, SEL, PF, mr_gf_O, mr_rc_O, Option.toList_some, Option.toList_none, List.cons_append, List.nil_append, b2i_0, b2i_1, b2i_a, a_00, a_11, ai_n, si_n, nI_1, q_rl_bit, mr_up_at, Nat.reduceLeDiff, Nat.reduceLT, Nat.reduceEqDiff, Nat.reduceAdd, if_true, if_false, Bool.true_eq_false, Bool.false_eq_true, Bool.true_and, Bool.false_and, Bool.and_true, Bool.and_false, i_10, i_01, i_00, not_true_eq_false, not_false_eq_true, q_rl_areNodes (St_0 st) (St_1 st), q_rl_isChoice]
      cases hab : (inN u n && inN v n) with
      | false => simpa only [SEL, PF, mr_gf_O, mr_rc_O, Option.toList_some, Option.toList_none, List.cons_append, List.nil_append, b2i_0, b2i_1, b2i_a, a_00, a_11, ai_n, si_n, nI_1, q_rl_bit, mr_up_at, Nat.reduceLeDiff, Nat.reduceLT, Nat.reduceEqDiff, Nat.reduceAdd, if_true, if_false, Bool.true_eq_false, Bool.false_eq_true, Bool.true_and, Bool.false_and, Bool.and_true, Bool.and_false, i_10, i_01, i_00, not_true_eq_false, not_false_eq_true] using this
      | true =>
        rw [hab, Bool.true_and] at ok'
        simpa only [ok', SEL, PF, mr_gf_O, mr_rc_O, Option.toList_some, Option.toList_none, List.cons_append, List.nil_append, b2i_0, b2i_1, b2i_a, a_00, a_11, ai_n, si_n, nI_1, q_rl_bit, mr_up_at, Nat.reduceLeDiff, Nat.reduceLT, Nat.reduceEqDiff, Nat.reduceAdd, if_true, if_false, Bool.true_eq_false, Bool.false_eq_true, Bool.true_and, Bool.false_and, Bool.and_true, Bool.and_false, i_10, i_01, i_00, not_true_eq_false, not_false_eq_true] using this
    · intro h Q st kk
      obtain ⟨th, tt, tk, pl, va, fa, dn, dr, uf, e74⟩ := id st.2.2.2.2.2.2
      rw [r_mo_on]
      simp only [S_mo_on_0, S_mo_on_1, S_mo_on_2, e74, MO, SEL, PF, mr_gf_O, mr_rc_O, Option.toList_some, Option.toList_none, List.cons_append, List.nil_append, b2i_0, b2i_1, b2i_a, a_00, a_11, ai_n, si_n, nI_1, q_rl_bit, mr_up_at, Nat.reduceLeDiff, Nat.reduceLT, Nat.reduceEqDiff, Nat.reduceAdd, if_true, if_false, Bool.true_eq_false, Bool.false_eq_true, Bool.true_and, Bool.false_and, Bool.and_true, Bool.and_false, i_10, i_01, i_00, not_true_eq_false, not_false_eq_true]
      refine St_th (k := fun hh => mr_run 132 [.ref 74, .int u] hh _) st (fun h2 s2 e2 => ?_) e74 rfl
      obtain ⟨th, tt, tk, pl, va, fa, dn, dr, uf, g74⟩ := id s2.2.2.2.2.2.2
      have := kk h2 s2 e2
      simp only [S_mo_on_0, S_mo_on_1, S_mo_on_2, q_mo_isNode hn h1n (St_M s2), SEL, PF, mr_gf_O, mr_rc_O, Option.toList_some, Option.toList_none, List.cons_append, List.nil_append, b2i_0, b2i_1, b2i_a, a_00, a_11, ai_n, si_n, nI_1, q_rl_bit, mr_up_at, Nat.reduceLeDiff, Nat.reduceLT, Nat.reduceEqDiff, Nat.reduceAdd, if_true, if_false, Bool.true_eq_false, Bool.false_eq_true, Bool.true_and, Bool.false_and, Bool.and_true, Bool.and_false, i_10, i_01, i_00, not_true_eq_false, not_false_eq_true, g74, MO, q_mo_in, ch_in]
      cases hu : inN u n with
      | false => simpa only [SEL, PF, mr_gf_O, mr_rc_O, Option.toList_some, Option.toList_none, List.cons_append, List.nil_append, b2i_0, b2i_1, b2i_a, a_00, a_11, ai_n, si_n, nI_1, q_rl_bit, mr_up_at, Nat.reduceLeDiff, Nat.reduceLT, Nat.reduceEqDiff, Nat.reduceAdd, if_true, if_false, Bool.true_eq_false, Bool.false_eq_true, Bool.true_and, Bool.false_and, Bool.and_true, Bool.and_false, i_10, i_01, i_00, not_true_eq_false, not_false_eq_true] using this
      | true => cases hv : inN v n with
        | false => simpa only [SEL, PF, mr_gf_O, mr_rc_O, Option.toList_some, Option.toList_none, List.cons_append, List.nil_append, b2i_0, b2i_1, b2i_a, a_00, a_11, ai_n, si_n, nI_1, q_rl_bit, mr_up_at, Nat.reduceLeDiff, Nat.reduceLT, Nat.reduceEqDiff, Nat.reduceAdd, if_true, if_false, Bool.true_eq_false, Bool.false_eq_true, Bool.true_and, Bool.false_and, Bool.and_true, Bool.and_false, i_10, i_01, i_00, not_true_eq_false, not_false_eq_true] using this
        | true =>
          rw [hu, hv] at ok'
          simp only [Bool.true_and] at ok'
          simpa only [ok', SEL, PF, mr_gf_O, mr_rc_O, Option.toList_some, Option.toList_none, List.cons_append, List.nil_append, b2i_0, b2i_1, b2i_a, a_00, a_11, ai_n, si_n, nI_1, q_rl_bit, mr_up_at, Nat.reduceLeDiff, Nat.reduceLT, Nat.reduceEqDiff, Nat.reduceAdd, if_true, if_false, Bool.true_eq_false, Bool.false_eq_true, Bool.true_and, Bool.false_and, Bool.and_true, Bool.and_false, i_10, i_01, i_00, not_true_eq_false, not_false_eq_true] using this
end ON
