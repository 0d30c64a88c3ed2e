/-! which edge was added unseen: the reference -/
theorem b2i_inj {x y : Bool} : (b2i x = b2i y) = (x = y) := by cases x <;> cases y <;> simp [b2i]
def zb (E : Nat → Int32) (n : Nat) (c : Nat → Nat → Bool) (j p q : Nat) : Bool := c p q && (decide (j / 12 < n) && rr (ad E p q) n (j / 12) (j % 12))
section MUNSEEN
variable {h : mr_h} {Q : Option Value → mr_h → Prop} {n len us m : Nat} {E K F : Nat → Int32} {sf sg : Nat → Nat} {cm : Nat → Bool}
theorem l_canBe {a b : Nat} (st : St h n len us m E K) (sv : SV h n m sf sg cm) {A : Nat → Int32} (e86 : h.1 86 = mr_I 12 A) (hA : ∀ j, j < n → A j = RR (ad E a b) n j) : ∀ (d k : Nat), k + d = m → mr_wp 176 12 [.ref 74, .int (nI a), .int (nI b), .int (b2i (al (okb E n sf sg cm a b) k)), .int (nI k)] [] h Q = Q (some (.int (b2i (al (okb E n sf sg cm a b) m)))) h := by
  have hn := (St_E st).1
  obtain ⟨th, tt, tk, pl, va, fa, dn, dr, uf, e74⟩ := id st.2.2.2.2.2.2
  obtain ⟨h0, hx, a1, b1, c1, a2, b2, c2, e1, e2, e3, e4, e5, e6, h3⟩ := id sv
  intro d
  induction d with
  | zero =>
    intro k hk
    have : k = m := by omega
    subst this
    rw [s_mo_canBe_12]
    simp only [S_mo_canBe_0, S_mo_canBe_1, e74, MO, SEL, PF, mr_gf_O, mr_rc_O, Option.toList_some, Option.toList_none, List.cons_append, List.nil_append, b2i_0, b2i_1, b2i_a, a_00, a_11, ai_n, si_n, nI_1, q_rl_bit, mr_up_at, Nat.reduceLeDiff, Nat.reduceLT, Nat.reduceEqDiff, Nat.reduceAdd, if_true, if_false, Bool.true_eq_false, Bool.false_eq_true, Bool.true_and, Bool.false_and, Bool.and_true, Bool.and_false, i_10, i_01, i_00, not_true_eq_false, not_false_eq_true, if_pos (nI_le (Nat.le_refl k) (show k < 2 ^ 31 by omega))]
  | succ d ih =>
    intro k hk
    obtain ⟨q1, q2, q3, q4, q5, q6, q7, q8⟩ := h3 k (by omega)
    have c1 : ¬ nI m ≤ nI k := nI_ge (by omega) (by omega)
    rw [s_mo_canBe_12]
    simp only [S_mo_canBe_0, S_mo_canBe_1, e74, MO, SEL, PF, mr_gf_O, mr_rc_O, Option.toList_some, Option.toList_none, List.cons_append, List.nil_append, b2i_0, b2i_1, b2i_a, a_00, a_11, ai_n, si_n, nI_1, q_rl_bit, mr_up_at, Nat.reduceLeDiff, Nat.reduceLT, Nat.reduceEqDiff, Nat.reduceAdd, if_true, if_false, Bool.true_eq_false, Bool.false_eq_true, Bool.true_and, Bool.false_and, Bool.and_true, Bool.and_false, i_10, i_01, i_00, not_true_eq_false, not_false_eq_true, if_neg c1, e86, e4, e5, e6, show k < 6 by omega, q4, q5, q6, show sf k < 12 by omega, hA _ q7, shr1 (show sg k < 32 by omega), b2i_inj]
    have := ih (k + 1) (by omega)
    rw [al_s] at this
    cases b3 : al (okb E n sf sg cm a b) k with
    | false =>
      rw [b3, Bool.false_and] at this
      simp only [if_true]
      exact this
    | true =>
      rw [b3, Bool.true_and] at this
      simp only [Bool.true_eq_false, if_false]
      have ok : okb E n sf sg cm a b k = (bt (RR (ad E a b) n (sf k)) (sg k) == cm k) := rfl
      by_cases b4 : bt (RR (ad E a b) n (sf k)) (sg k) = cm k
      · rw [ok, beq_iff_eq.mpr b4] at this
        rw [if_neg (by simpa using b4)]
        exact this
      · have b5 : (bt (RR (ad E a b) n (sf k)) (sg k) == cm k) = false := by simpa using b4
        rw [ok, b5] at this
        rw [if_pos b4]
        exact this
theorem q_mo_canBe (st : St h n len us m E K) (sv : SV h n m sf sg cm) {a b : Nat} (ha : a < n) (hb : b < n) (hh : bt (E a) b = false) (kk : ∀ h2 A, mr_fr h h2 [78, 86] → St h2 n len us m E K → h2.1 86 = mr_I 12 A → (∀ j, j < n → A j = RR (ad E a b) n j) → Q (some (.int (b2i (al (okb E n sf sg cm a b) m)))) h2) : mr_run 176 [.ref 74, .int (nI a), .int (nI b)] h Q := by
  have hn := (St_E st).1
  obtain ⟨th, tt, tk, pl, va, fa, dn, dr, uf, e74⟩ := id st.2.2.2.2.2.2
  rw [r_mo_canBe]
  simp only [S_mo_canBe_0, S_mo_canBe_1, e74, MO, SEL, PF, mr_gf_O, mr_rc_O, Option.toList_some, Option.toList_none, List.cons_append, List.nil_append, b2i_0, b2i_1, b2i_a, a_00, a_11, ai_n, si_n, nI_1, q_rl_bit, mr_up_at, Nat.reduceLeDiff, Nat.reduceLT, Nat.reduceEqDiff, Nat.reduceAdd, if_true, if_false, Bool.true_eq_false, Bool.false_eq_true, Bool.true_and, Bool.false_and, Bool.and_true, Bool.and_false, i_10, i_01, i_00, not_true_eq_false, not_false_eq_true]
  refine q_mo_pairsWith st ha hb ?_
  intro h2 A f2 s2 e86 hA
  rw [fl_ad (by omega) hh] at hA
  simp only [S_mo_canBe_0, S_mo_canBe_1, SEL, PF, mr_gf_O, mr_rc_O, Option.toList_some, Option.toList_none, List.cons_append, List.nil_append, b2i_0, b2i_1, b2i_a, a_00, a_11, ai_n, si_n, nI_1, q_rl_bit, mr_up_at, Nat.reduceLeDiff, Nat.reduceLT, Nat.reduceEqDiff, Nat.reduceAdd, if_true, if_false, Bool.true_eq_false, Bool.false_eq_true, Bool.true_and, Bool.false_and, Bool.and_true, Bool.and_false, i_10, i_01, i_00, not_true_eq_false, not_false_eq_true]
  have := l_canBe (Q := Q) s2 (SV_fr sv f2 (by decide)) e86 hA m 0 (by omega)
  rw [nI_0] at this
  exact this.mpr (kk h2 A f2 s2 e86 hA)
theorem l_um0 {C : Nat → Int32} (st : St h n len us m E K) {v2 v3 v4 : Value} (kk : ∀ h2, mr_fr h h2 [89] → h2.1 89 = mr_I 144 (fk (fun _ => 0) C 144) → mr_wp 175 22 [.ref 74, .int (nI 144), v2, v3, v4] [] h2 Q) : ∀ (d k : Nat) (h1 : mr_h), k + d = 144 → h1.1 89 = mr_I 144 (fk (fun _ => 0) C k) → mr_fr h h1 [89] → mr_wp 175 2 [.ref 74, .int (nI k), v2, v3, v4] [] h1 Q := by
  intro d
  induction d with
  | zero =>
    intro k h1 hk e89 f
    have : k = 144 := by omega
    subst this
    obtain ⟨th, ty, tt, tk, pl, va, fa, dn, dr, um, sn, uf, e74⟩ := MN_fr (St_M st) f (by decide)
    have := kk h1 f e89
    rw [s_mo_unseenMany_2]
    simp only [S_mo_unseenMany_0, S_mo_unseenMany_1, S_mo_unseenMany_2, e74, MO, SEL, PF, mr_gf_O, mr_rc_O, Option.toList_some, Option.toList_none, List.cons_append, List.nil_append, b2i_0, b2i_1, b2i_a, a_00, a_11, ai_n, si_n, nI_1, q_rl_bit, mr_up_at, Nat.reduceLeDiff, Nat.reduceLT, Nat.reduceEqDiff, Nat.reduceAdd, if_true, if_false, if_pos (show (144 : Int32) ≤ nI 144 by decide)] at this ⊢
    exact this
  | succ d ih =>
    intro k h1 hk e89 f
    obtain ⟨th, ty, tt, tk, pl, va, fa, dn, dr, um, sn, uf, e74⟩ := MN_fr (St_M st) f (by decide)
    have e1 := fk_s (fun _ => 0) C k
    rw [s_mo_unseenMany_2]
    simp only [S_mo_unseenMany_0, S_mo_unseenMany_1, S_mo_unseenMany_2, e74, MO, SEL, PF, mr_gf_O, mr_rc_O, Option.toList_some, Option.toList_none, List.cons_append, List.nil_append, b2i_0, b2i_1, b2i_a, a_00, a_11, ai_n, si_n, nI_1, q_rl_bit, mr_up_at, Nat.reduceLeDiff, Nat.reduceLT, Nat.reduceEqDiff, Nat.reduceAdd, if_true, if_false, if_neg (show ¬ (144 : Int32) ≤ nI k from nI_ge (b := 144) (by omega) (by decide)), e89, show k < 144 by omega, e1]
    exact ih (k + 1) _ (by omega) (up_eq _ _ _) (fr_up _ f (by decide))
theorem l_um3 {A C : Nat → Int32} (st : St h n len us m E K) {x1 x2 x3 : Int32} (e86 : h.1 86 = mr_I 12 A) (kk : ∀ h2, mr_fr h h2 [89] → h2.1 89 = mr_I 144 (fk (fun j => C j + b2i (decide (j / 12 < n) && bt (A (j / 12)) (j % 12))) C 144) → mr_wp 175 164 [.ref 74, .int x1, .int x2, .int x3, .int (nI 144)] [] h2 Q) : ∀ (d k : Nat) (h1 : mr_h), k + d = 144 → h1.1 89 = mr_I 144 (fk (fun j => C j + b2i (decide (j / 12 < n) && bt (A (j / 12)) (j % 12))) C k) → mr_fr h h1 [89] → mr_wp 175 106 [.ref 74, .int x1, .int x2, .int x3, .int (nI k)] [] h1 Q := by
  have hn := (St_E st).1
  intro d
  induction d with
  | zero =>
    intro k h1 hk e89 f
    have : k = 144 := by omega
    subst this
    obtain ⟨th, ty, tt, tk, pl, va, fa, dn, dr, um, sn, uf, e74⟩ := MN_fr (St_M st) f (by decide)
    have := kk h1 f e89
    rw [s_mo_unseenMany_106]
    simp only [S_mo_unseenMany_0, S_mo_unseenMany_1, S_mo_unseenMany_2, e74, MO, SEL, PF, mr_gf_O, mr_rc_O, Option.toList_some, Option.toList_none, List.cons_append, List.nil_append, b2i_0, b2i_1, b2i_a, a_00, a_11, ai_n, si_n, nI_1, q_rl_bit, mr_up_at, Nat.reduceLeDiff, Nat.reduceLT, Nat.reduceEqDiff, Nat.reduceAdd, if_true, if_false, Bool.true_eq_false, Bool.false_eq_true, Bool.true_and, Bool.false_and, Bool.and_true, Bool.and_false, i_10, i_01, i_00, not_true_eq_false, not_false_eq_true, if_pos (show (144 : Int32) ≤ nI 144 by decide)] at this ⊢
    exact this
  | succ d ih =>
    intro k h1 hk e89 f
    obtain ⟨th, ty, tt, tk, pl, va, fa, dn, dr, um, sn, uf, e74⟩ := MN_fr (St_M st) f (by decide)
    have g86 := fr_at f (by decide) e86
    have e1 := fk_s (fun j => C j + b2i (decide (j / 12 < n) && bt (A (j / 12)) (j % 12))) C k
    have e2 : fk (fun j => C j + b2i (decide (j / 12 < n) && bt (A (j / 12)) (j % 12))) C k k = C k := by
      unfold fk
      rw [if_neg (by omega)]
    have d1 : nI k / 12 = nI (k / 12) := pk_div (d := 12) (by omega) (by decide) (by decide)
    have d2 : nI k - nI (k / 12) * 12 = nI (k % 12) := by
      have := pk_rem (a := k) (d := 12) (by omega) (by decide) (by decide)
      rw [← d1]
      exact this
    rw [s_mo_unseenMany_106]
    simp only [S_mo_unseenMany_0, S_mo_unseenMany_1, S_mo_unseenMany_2, e74, MO, SEL, PF, mr_gf_O, mr_rc_O, Option.toList_some, Option.toList_none, List.cons_append, List.nil_append, b2i_0, b2i_1, b2i_a, a_00, a_11, ai_n, si_n, nI_1, q_rl_bit, mr_up_at, Nat.reduceLeDiff, Nat.reduceLT, Nat.reduceEqDiff, Nat.reduceAdd, if_true, if_false, Bool.true_eq_false, Bool.false_eq_true, Bool.true_and, Bool.false_and, Bool.and_true, Bool.and_false, i_10, i_01, i_00, not_true_eq_false, not_false_eq_true, if_neg (show ¬ (144 : Int32) ≤ nI k from nI_ge (b := 144) (by omega) (by decide)), e89, show k < 144 by omega, e2, show ¬ (12 : Int32) = 0 by decide, d1]
    by_cases b1 : k / 12 < n
    · rw [if_neg (nI_ge b1 (by omega))]
      simp only [S_mo_unseenMany_0, S_mo_unseenMany_1, S_mo_unseenMany_2, e74, MO, SEL, PF, mr_gf_O, mr_rc_O, Option.toList_some, Option.toList_none, List.cons_append, List.nil_append, b2i_0, b2i_1, b2i_a, a_00, a_11, ai_n, si_n, nI_1, q_rl_bit, mr_up_at, Nat.reduceLeDiff, Nat.reduceLT, Nat.reduceEqDiff, Nat.reduceAdd, if_true, if_false, Bool.true_eq_false, Bool.false_eq_true, Bool.true_and, Bool.false_and, Bool.and_true, Bool.and_false, i_10, i_01, i_00, not_true_eq_false, not_false_eq_true, e89, g86, show k / 12 < 12 by omega, show ¬ (12 : Int32) = 0 by decide, d1, d2, shr1 (show k % 12 < 32 by omega), show k < 144 by omega]
      simp only [b1, decide_true, Bool.true_and] at e1
      rw [e1]
      exact ih (k + 1) _ (by omega) (up_eq _ _ _) (fr_up _ f (by decide))
    · rw [if_pos (nI_le (by omega) (by omega))]
      simp only [b1, decide_false, Bool.false_and, b2i_f] at e1
      rw [e1]
      exact ih (k + 1) _ (by omega) (up_eq _ _ _) (fr_up _ f (by decide))
/-- the inner loop -/
theorem l_um2 {a c0 : Nat} (ha : a < n) {th tt tk pl va fa dn dr : Int32} {s0 : Option (Nat × Nat)} {B : Nat → Nat} (hc0 : s0 = none ↔ c0 = 0) (hb0 : c0 ≤ 1000)
    (kk : ∀ h2 C v4, h2.2 = h.2 → St h2 n len us m E K → SV h2 n m sf sg cm → h2.1 74 = MO th (nI len) tt tk pl va fa (nI n) dn dr (nI us) (nI m) (fI (us2 (cand E n m sf sg cm) s0 a n)) → h2.1 89 = mr_I 144 C → (∀ j, j < 144 → C j = nI (B j + fb_ct (zb E n (cand E n m sf sg cm) j a) n)) → (us2 (cand E n m sf sg cm) s0 a n = none ↔ c0 + fb_ct (cand E n m sf sg cm a) n = 0) → mr_wp 175 170 [.ref 74, .int (nI (c0 + fb_ct (cand E n m sf sg cm a) n)), .int (nI a), .int (nI n), v4] [] h2 Q) :
    ∀ (d k : Nat) (h1 : mr_h) (C : Nat → Int32) (v4 : Value), k + d = n → h1.2 = h.2 → St h1 n len us m E K → SV h1 n m sf sg cm → h1.1 74 = MO th (nI len) tt tk pl va fa (nI n) dn dr (nI us) (nI m) (fI (us2 (cand E n m sf sg cm) s0 a k)) → h1.1 89 = mr_I 144 C → (∀ j, j < 144 → C j = nI (B j + fb_ct (zb E n (cand E n m sf sg cm) j a) k)) → (us2 (cand E n m sf sg cm) s0 a k = none ↔ c0 + fb_ct (cand E n m sf sg cm a) k = 0) → mr_wp 175 42 [.ref 74, .int (nI (c0 + fb_ct (cand E n m sf sg cm a) k)), .int (nI a), .int (nI k), v4] [] h1 Q := by
  intro d
  induction d with
  | zero =>
    intro k h1 C v4 hk h2 st sv e74 e89 hC hz
    have hn := (St_E st).1
    have : k = n := by omega
    subst this
    have := kk h1 C v4 h2 st sv e74 e89 hC hz
    rw [s_mo_unseenMany_42]
    simp only [S_mo_unseenMany_0, S_mo_unseenMany_1, S_mo_unseenMany_2, e74, MO, SEL, PF, mr_gf_O, mr_rc_O, Option.toList_some, Option.toList_none, List.cons_append, List.nil_append, b2i_0, b2i_1, b2i_a, a_00, a_11, ai_n, si_n, nI_1, q_rl_bit, mr_up_at, Nat.reduceLeDiff, Nat.reduceLT, Nat.reduceEqDiff, Nat.reduceAdd, if_true, if_false, Bool.true_eq_false, Bool.false_eq_true, Bool.true_and, Bool.false_and, Bool.and_true, Bool.and_false, i_10, i_01, i_00, not_true_eq_false, not_false_eq_true, if_pos (nI_le (Nat.le_refl k) (show k < 2 ^ 31 by omega))] at this ⊢
    exact this
  | succ d ih =>
    intro k h1 C v4 hk h2 st sv e74 e89 hC hz
    have hE := St_E st
    have hn := hE.1
    have hkn : k < n := by omega
    have c1 : ¬ nI n ≤ nI k := nI_ge (by omega) (by omega)
    obtain ⟨S, e77, hS⟩ := St_77 st
    have eu : us2 (cand E n m sf sg cm) s0 a (k + 1) = match us2 (cand E n m sf sg cm) s0 a k with
      | some p => some p
      | none => if cand E n m sf sg cm a k then some (a, k) else none := rfl
    have skip : cand E n m sf sg cm a k = false → ∀ h3, h3.2 = h.2 → St h3 n len us m E K → SV h3 n m sf sg cm → h3.1 74 = MO th (nI len) tt tk pl va fa (nI n) dn dr (nI us) (nI m) (fI (us2 (cand E n m sf sg cm) s0 a k)) → h3.1 89 = mr_I 144 C → mr_wp 175 42 [.ref 74, .int (nI (c0 + fb_ct (cand E n m sf sg cm a) k)), .int (nI a), .int (nI (k + 1)), v4] [] h3 Q := by
      intro hc h3 h4 s3 sv3 g74 g89
      have e1 : us2 (cand E n m sf sg cm) s0 a (k + 1) = us2 (cand E n m sf sg cm) s0 a k := by
        rw [eu, hc]
        cases us2 (cand E n m sf sg cm) s0 a k <;> rfl
      have := ih (k + 1) h3 C v4 (by omega) h4 s3 sv3
      rw [e1, ct_n hc] at this
      refine this g74 g89 (fun j hj => ?_) hz
      rw [hC j hj, ct_n (show zb E n (cand E n m sf sg cm) j a k = false by unfold zb; rw [hc]; rfl)]
    rw [s_mo_unseenMany_42]
    simp only [S_mo_unseenMany_0, S_mo_unseenMany_1, S_mo_unseenMany_2, e74, MO, SEL, PF, mr_gf_O, mr_rc_O, Option.toList_some, Option.toList_none, List.cons_append, List.nil_append, b2i_0, b2i_1, b2i_a, a_00, a_11, ai_n, si_n, nI_1, q_rl_bit, mr_up_at, Nat.reduceLeDiff, Nat.reduceLT, Nat.reduceEqDiff, Nat.reduceAdd, if_true, if_false, Bool.true_eq_false, Bool.false_eq_true, Bool.true_and, Bool.false_and, Bool.and_true, Bool.and_false, i_10, i_01, i_00, not_true_eq_false, not_false_eq_true, if_neg c1, nI_eq (show a < 2 ^ 31 by omega) (show k < 2 ^ 31 by omega), e77, z_add, show a < 24 by omega, (hS a ha).1, q_mo_has (show k < 32 by omega)]
    by_cases hak : a = k
    · rw [if_pos hak]
      exact skip (by unfold cand ms; simp [hak]) h1 h2 st sv e74 e89
    · rw [if_neg hak]
      cases hh : bt (E a) k with
      | true =>
        simp only [Bool.true_eq_false, not_false_eq_true, if_true]
        exact skip (by unfold cand ms; simp [hh]) h1 h2 st sv e74 e89
      | false =>
        simp only [not_true_eq_false, if_false]
        refine q_mo_canBe st sv ha hkn hh ?_
        intro h3 A f3 s3 e86 hA
        have g74 := fr_at f3 (by decide) e74
        have g89 := fr_at f3 (by decide) e89
        have sv3 := SV_fr sv f3 (by decide)
        have hcd : cand E n m sf sg cm a k = al (okb E n sf sg cm a k) m := by
          unfold cand ms
          simp [hh, hak]
        simp only [S_mo_unseenMany_0, S_mo_unseenMany_1, S_mo_unseenMany_2, SEL, PF, mr_gf_O, mr_rc_O, Option.toList_some, Option.toList_none, List.cons_append, List.nil_append, b2i_0, b2i_1, b2i_a, a_00, a_11, ai_n, si_n, nI_1, q_rl_bit, mr_up_at, Nat.reduceLeDiff, Nat.reduceLT, Nat.reduceEqDiff, Nat.reduceAdd, if_true, if_false, Bool.true_eq_false, Bool.false_eq_true, Bool.true_and, Bool.false_and, Bool.and_true, Bool.and_false, i_10, i_01, i_00, not_true_eq_false, not_false_eq_true, ← hcd]
        cases hc : cand E n m sf sg cm a k with
        | false =>
          simp only [if_true]
          exact skip hc h3 (f3.1.trans h2) s3 sv3 g74 g89
        | true =>
          simp only [Bool.true_eq_false, if_false]
          have hct : fb_ct (cand E n m sf sg cm a) (k + 1) = fb_ct (cand E n m sf sg cm a) k + 1 := ct_y hc
          have hctle := fb_ct_le (cand E n m sf sg cm a) k
          -- the field and the loop over all pairs
          have go : ∀ x : Int32, x = fI (us2 (cand E n m sf sg cm) s0 a (k + 1)) → mr_wp 175 106 [.ref 74, .int (nI (c0 + fb_ct (cand E n m sf sg cm a) (k + 1))), .int (nI a), .int (nI k), .int (nI 0)] [] (mr_up h3 74 (MO th (nI len) tt tk pl va fa (nI n) dn dr (nI us) (nI m) x)) Q := by
            intro x hx
            subst hx
            have f4 : mr_fr h3 (mr_up h3 74 (MO th (nI len) tt tk pl va fa (nI n) dn dr (nI us) (nI m) (fI (us2 (cand E n m sf sg cm) s0 a (k + 1))))) [74] := fr_up _ (fr_rf _ _) (by decide)
            have s4 := St_mo s3 f4 ⟨_, _, _, _, _, _, _, _, _, up_eq _ _ _⟩
            refine l_um3 (A := A) (C := C) s4 (fr_at f4 (by decide) e86) ?_ 144 0 _ (by decide) (by rw [fk_0]; exact fr_at f4 (by decide) g89) (fr_rf _ _)
            intro h5 f5 g5
            simp only [S_mo_unseenMany_0, S_mo_unseenMany_1, S_mo_unseenMany_2, SEL, PF, mr_gf_O, mr_rc_O, Option.toList_some, Option.toList_none, List.cons_append, List.nil_append, b2i_0, b2i_1, b2i_a, a_00, a_11, ai_n, si_n, nI_1, q_rl_bit, mr_up_at, Nat.reduceLeDiff, Nat.reduceLT, Nat.reduceEqDiff, Nat.reduceAdd, if_true, if_false, Bool.true_eq_false, Bool.false_eq_true, Bool.true_and, Bool.false_and, Bool.and_true, Bool.and_false, i_10, i_01, i_00, not_true_eq_false, not_false_eq_true]
            have s5 : St h5 n len us m E K := St_one s4 f5 (by decide) (by rw [g5]; exact ⟨_, rfl⟩)
            have hnn : us2 (cand E n m sf sg cm) s0 a (k + 1) ≠ none := fun z => by
              rw [eu, hc] at z
              cases e : us2 (cand E n m sf sg cm) s0 a k <;> rw [e] at z <;> cases z
            refine ih (k + 1) h5 _ _ (by omega) (f5.1.trans (f4.1.trans (f3.1.trans h2))) s5 (SV_fr (SV_fr sv3 f4 (by decide)) f5 (by decide)) (fr_at f5 (by decide) (up_eq _ _ _)) g5 (fun j hj => ?_) ⟨fun z => absurd z hnn, fun z => by omega⟩
            rw [fk_in hj, hC j hj]
            have ez : zb E n (cand E n m sf sg cm) j a k = (decide (j / 12 < n) && bt (A (j / 12)) (j % 12)) := by
              unfold zb
              rw [hc, Bool.true_and]
              by_cases hj2 : j / 12 < n
              · rw [hA _ hj2]
                rfl
              · simp [hj2]
            rw [← ez]
            cases e : zb E n (cand E n m sf sg cm) j a k with
            | true => rw [ct_y e, b2i_t, nI_1, Nat.add_assoc]
            | false => rw [ct_n e, b2i_f, Int32.add_zero]
          rw [hct, ← Nat.add_assoc] at go
          by_cases hs : us2 (cand E n m sf sg cm) s0 a k = none
          · have hz0 := hz.mp hs
            simp only [S_mo_unseenMany_0, S_mo_unseenMany_1, S_mo_unseenMany_2, g74, MO, SEL, PF, mr_gf_O, mr_rc_O, Option.toList_some, Option.toList_none, List.cons_append, List.nil_append, b2i_0, b2i_1, b2i_a, a_00, a_11, ai_n, si_n, nI_1, q_rl_bit, mr_up_at, Nat.reduceLeDiff, Nat.reduceLT, Nat.reduceEqDiff, Nat.reduceAdd, if_true, if_false, Bool.true_eq_false, Bool.false_eq_true, Bool.true_and, Bool.false_and, Bool.and_true, Bool.and_false, i_10, i_01, i_00, not_true_eq_false, not_false_eq_true, if_neg (show ¬ ¬ nI (c0 + fb_ct (cand E n m sf sg cm a) k) = 0 by rw [hz0]; decide), t_16]
            refine go _ ?_
            rw [eu, hs, hc]
            rfl
          · have hz0 : ¬ c0 + fb_ct (cand E n m sf sg cm a) k = 0 := fun z => hs (hz.mpr z)
            simp only [S_mo_unseenMany_0, S_mo_unseenMany_1, S_mo_unseenMany_2, g74, MO, SEL, PF, mr_gf_O, mr_rc_O, Option.toList_some, Option.toList_none, List.cons_append, List.nil_append, b2i_0, b2i_1, b2i_a, a_00, a_11, ai_n, si_n, nI_1, q_rl_bit, mr_up_at, Nat.reduceLeDiff, Nat.reduceLT, Nat.reduceEqDiff, Nat.reduceAdd, if_true, if_false, Bool.true_eq_false, Bool.false_eq_true, Bool.true_and, Bool.false_and, Bool.and_true, Bool.and_false, i_10, i_01, i_00, not_true_eq_false, not_false_eq_true, if_pos (show ¬ nI (c0 + fb_ct (cand E n m sf sg cm a) k) = 0 from nI_ne0 (by omega) (by omega))]
            refine go _ ?_
            rw [eu]
            cases e : us2 (cand E n m sf sg cm) s0 a k with
            | none => exact absurd e hs
            | some p => rfl
theorem l_um1 {th tt tk pl va fa dn dr : Int32}
    (kk : ∀ h2 C, h2.2 = h.2 → St h2 n len us m E K → SV h2 n m sf sg cm → h2.1 74 = MO th (nI len) tt tk pl va fa (nI n) dn dr (nI us) (nI m) (fI (us1' (cand E n m sf sg cm) n n)) → h2.1 89 = mr_I 144 C → (∀ j, j < 144 → C j = nI (fc (zb E n (cand E n m sf sg cm) j) n n)) → Q (some (.int (nI (fc (cand E n m sf sg cm) n n)))) h2) :
    ∀ (d k : Nat) (h1 : mr_h) (C : Nat → Int32) (v3 v4 : Value), k + d = n → h1.2 = h.2 → St h1 n len us m E K → SV h1 n m sf sg cm → h1.1 74 = MO th (nI len) tt tk pl va fa (nI n) dn dr (nI us) (nI m) (fI (us1' (cand E n m sf sg cm) n k)) → h1.1 89 = mr_I 144 C → (∀ j, j < 144 → C j = nI (fc (zb E n (cand E n m sf sg cm) j) n k)) → (us1' (cand E n m sf sg cm) n k = none ↔ fc (cand E n m sf sg cm) n k = 0) → mr_wp 175 32 [.ref 74, .int (nI (fc (cand E n m sf sg cm) n k)), .int (nI k), v3, v4] [] h1 Q := by
  intro d
  induction d with
  | zero =>
    intro k h1 C v3 v4 hk h2 st sv e74 e89 hC hz
    have hn := (St_E st).1
    have : k = n := by omega
    subst this
    rw [s_mo_unseenMany_32]
    simp only [S_mo_unseenMany_0, S_mo_unseenMany_1, S_mo_unseenMany_2, e74, MO, SEL, PF, mr_gf_O, mr_rc_O, Option.toList_some, Option.toList_none, List.cons_append, List.nil_append, b2i_0, b2i_1, b2i_a, a_00, a_11, ai_n, si_n, nI_1, q_rl_bit, mr_up_at, Nat.reduceLeDiff, Nat.reduceLT, Nat.reduceEqDiff, Nat.reduceAdd, if_true, if_false, Bool.true_eq_false, Bool.false_eq_true, Bool.true_and, Bool.false_and, Bool.and_true, Bool.and_false, i_10, i_01, i_00, not_true_eq_false, not_false_eq_true, if_pos (nI_le (Nat.le_refl k) (show k < 2 ^ 31 by omega))]
    exact kk h1 C h2 st sv e74 e89 hC
  | succ d ih =>
    intro k h1 C v3 v4 hk h2 st sv e74 e89 hC hz
    have hn := (St_E st).1
    have hkn : k < n := by omega
    have c1 : ¬ nI n ≤ nI k := nI_ge (by omega) (by omega)
    have hb : fc (cand E n m sf sg cm) n k ≤ 1000 := by
      have : fc (cand E n m sf sg cm) n k ≤ k * 12 := fb_sm_bound fun j _ => by have := fb_ct_le (cand E n m sf sg cm j) n; omega
      omega
    rw [s_mo_unseenMany_32]
    simp only [S_mo_unseenMany_0, S_mo_unseenMany_1, S_mo_unseenMany_2, e74, MO, SEL, PF, mr_gf_O, mr_rc_O, Option.toList_some, Option.toList_none, List.cons_append, List.nil_append, b2i_0, b2i_1, b2i_a, a_00, a_11, ai_n, si_n, nI_1, q_rl_bit, mr_up_at, Nat.reduceLeDiff, Nat.reduceLT, Nat.reduceEqDiff, Nat.reduceAdd, if_true, if_false, Bool.true_eq_false, Bool.false_eq_true, Bool.true_and, Bool.false_and, Bool.and_true, Bool.and_false, i_10, i_01, i_00, not_true_eq_false, not_false_eq_true, if_neg c1]
    rw [← nI_0]
    refine l_um2 (h := h) (sf := sf) (sg := sg) (cm := cm) (B := fun j => fc (zb E n (cand E n m sf sg cm) j) n k) (s0 := us1' (cand E n m sf sg cm) n k) hkn hz hb ?_ n 0 h1 C v4 (by omega) h2 st sv e74 e89 hC (by rw [show fb_ct (cand E n m sf sg cm k) 0 = 0 from rfl, Nat.add_zero]; exact hz)
    intro h3 C3 v4 h4 s3 sv3 g74 g89 hC3 hz3
    simp only [S_mo_unseenMany_0, S_mo_unseenMany_1, S_mo_unseenMany_2, SEL, PF, mr_gf_O, mr_rc_O, Option.toList_some, Option.toList_none, List.cons_append, List.nil_append, b2i_0, b2i_1, b2i_a, a_00, a_11, ai_n, si_n, nI_1, q_rl_bit, mr_up_at, Nat.reduceLeDiff, Nat.reduceLT, Nat.reduceEqDiff, Nat.reduceAdd, if_true, if_false, Bool.true_eq_false, Bool.false_eq_true, Bool.true_and, Bool.false_and, Bool.and_true, Bool.and_false, i_10, i_01, i_00, not_true_eq_false, not_false_eq_true]
    exact ih (k + 1) h3 C3 _ _ (by omega) h4 s3 sv3 g74 g89 hC3 hz3
theorem c89 (st : St h n len us m E K) : ∃ A, h.1 89 = mr_I 144 A := by
  have := st.1 89 (by decide)
  simpa [shp, isI] using this
theorem q_mo_unseenMany (st : St h n len us m E K) (sv : SV h n m sf sg cm) (kk : ∀ h2 C th tt tk pl va fa dn dr, h2.2 = h.2 → St h2 n len us m E K → h2.1 74 = MO th (nI len) tt tk pl va fa (nI n) dn dr (nI us) (nI m) (fI (us1' (cand E n m sf sg cm) n n)) → h2.1 89 = mr_I 144 C → (∀ j, j < 144 → C j = nI (fc (zb E n (cand E n m sf sg cm) j) n n)) → Q (some (.int (nI (fc (cand E n m sf sg cm) n n)))) h2) : mr_run 175 [.ref 74] h Q := by
  obtain ⟨C, e89⟩ := c89 st
  obtain ⟨th, tt, tk, pl, va, fa, dn, dr, uf, e74⟩ := id st.2.2.2.2.2.2
  rw [r_mo_unseenMany]
  simp only [S_mo_unseenMany_0, S_mo_unseenMany_1, S_mo_unseenMany_2]
  rw [← nI_0]
  refine l_um0 (C := C) st ?_ 144 0 h (by decide) (by rw [fk_0]; exact e89) (fr_rf _ _)
  intro h2 f2 g89
  have g74 := fr_at f2 (by decide) e74
  simp only [S_mo_unseenMany_0, S_mo_unseenMany_1, S_mo_unseenMany_2, g74, MO, SEL, PF, mr_gf_O, mr_rc_O, Option.toList_some, Option.toList_none, List.cons_append, List.nil_append, b2i_0, b2i_1, b2i_a, a_00, a_11, ai_n, si_n, nI_1, q_rl_bit, mr_up_at, Nat.reduceLeDiff, Nat.reduceLT, Nat.reduceEqDiff, Nat.reduceAdd, if_true, if_false, Bool.true_eq_false, Bool.false_eq_true, Bool.true_and, Bool.false_and, Bool.and_true, Bool.and_false, i_10, i_01, i_00, not_true_eq_false, not_false_eq_true]
  rw [← nI_0]
  have f3 : mr_fr h2 (mr_up h2 74 (MO th (nI len) tt tk pl va fa (nI n) dn dr (nI us) (nI m) (fI none))) [74] := fr_up _ (fr_rf _ _) (by decide)
  have s2 : St h2 n len us m E K := St_one st f2 (by decide) (by rw [g89]; exact ⟨_, rfl⟩)
  refine l_um1 (h := h) (sf := sf) (sg := sg) (cm := cm) (th := th) (tt := tt) (tk := tk) (pl := pl) (va := va) (fa := fa) (dn := dn) (dr := dr) ?_ n 0 (mr_up h2 74 (MO th (nI len) tt tk pl va fa (nI n) dn dr (nI us) (nI m) (fI none))) _ _ _ (by omega) (f3.1.trans f2.1) (St_mo s2 f3 ⟨_, _, _, _, _, _, _, _, _, up_eq _ _ _⟩) (SV_fr (SV_fr sv f2 (by decide)) f3 (by decide)) (up_eq _ _ _) (fr_at f3 (by decide) g89) (fun j hj => by rw [fk_in hj]; rfl) ⟨fun _ => rfl, fun _ => rfl⟩
  intro h3 C3 h4 s3 sv3 k74 k89 hC3
  exact kk h3 C3 th tt tk pl va fa dn dr h4 s3 k74 k89 hC3
theorem b_unseen (hi : Inv h) (w : Int32) : Both 103 174 [.int w] h := by
  obtain ⟨n, len, us, m, E, K, st⟩ := hi
  have hE := St_E st
  have hn := hE.1
  by_cases hw : w = 0 ∨ w = 1
  · obtain ⟨sf, sg, cm, sv⟩ := gV_SV hn st.2.2.2.1
    obtain ⟨h0, ⟨x, e28⟩, -⟩ := id sv
    unfold Both
    rw [r_rl_unseen]
    simp only [S_rl_unseen, q_rl_isChoice, decide_eq_true hw, SEL, PF, mr_gf_O, mr_rc_O, Option.toList_some, Option.toList_none, List.cons_append, List.nil_append, b2i_0, b2i_1, b2i_a, a_00, a_11, ai_n, si_n, nI_1, q_rl_bit, mr_up_at, Nat.reduceLeDiff, Nat.reduceLT, Nat.reduceEqDiff, Nat.reduceAdd, if_true, if_false, Bool.true_eq_false, Bool.false_eq_true, Bool.true_and, Bool.false_and, Bool.and_true, Bool.and_false, i_10, i_01, i_00, not_true_eq_false, not_false_eq_true, St_0 st, RLO, e28]
    refine q_si_sift st sv ?_
    intro h2 F e2 s2 sv2 g28 g32 hF
    simp only [S_rl_unseen, SEL, PF, mr_gf_O, mr_rc_O, Option.toList_some, Option.toList_none, List.cons_append, List.nil_append, b2i_0, b2i_1, b2i_a, a_00, a_11, ai_n, si_n, nI_1, q_rl_bit, mr_up_at, Nat.reduceLeDiff, Nat.reduceLT, Nat.reduceEqDiff, Nat.reduceAdd, if_true, if_false, Bool.true_eq_false, Bool.false_eq_true, Bool.true_and, Bool.false_and, Bool.and_true, Bool.and_false, i_10, i_01, i_00, not_true_eq_false, not_false_eq_true, St_0 s2, RLO, g28]
    -- the class's answer
    have cl : ∀ (Q : Option Value → mr_h → Prop), Q (some (.int (if w = 0 then nI (fc (cand E n m sf sg cm) n n) else fI (us1' (cand E n m sf sg cm) n n)))) h2 → (if ¬ w = 0 then mr_run 107 [.ref 28] h2 (fun v h' => mr_wp 103 45 [.ref 0, .int w] (v.toList ++ []) h' Q) else mr_run 106 [.ref 28] h2 (fun v h' => mr_wp 103 35 [.ref 0, .int w] (v.toList ++ []) h' Q)) := by
      intro Q hq
      rcases hw with rfl | rfl
      · simp only [i_00, not_true_eq_false, if_true, if_false] at hq ⊢
        rw [q_si_fitting hn g28 g32 hF]
        simp only [S_rl_unseen, SEL, PF, mr_gf_O, mr_rc_O, Option.toList_some, Option.toList_none, List.cons_append, List.nil_append, b2i_0, b2i_1, b2i_a, a_00, a_11, ai_n, si_n, nI_1, q_rl_bit, mr_up_at, Nat.reduceLeDiff, Nat.reduceLT, Nat.reduceEqDiff, Nat.reduceAdd, if_true, if_false, Bool.true_eq_false, Bool.false_eq_true, Bool.true_and, Bool.false_and, Bool.and_true, Bool.and_false, i_10, i_01, i_00, not_true_eq_false, not_false_eq_true]
        exact hq
      · simp only [i_10, not_false_eq_true, if_true, if_false] at hq ⊢
        rw [q_si_firstFitting hn g28 g32 hF]
        simp only [S_rl_unseen, SEL, PF, mr_gf_O, mr_rc_O, Option.toList_some, Option.toList_none, List.cons_append, List.nil_append, b2i_0, b2i_1, b2i_a, a_00, a_11, ai_n, si_n, nI_1, q_rl_bit, mr_up_at, Nat.reduceLeDiff, Nat.reduceLT, Nat.reduceEqDiff, Nat.reduceAdd, if_true, if_false, Bool.true_eq_false, Bool.false_eq_true, Bool.true_and, Bool.false_and, Bool.and_true, Bool.and_false, i_10, i_01, i_00, not_true_eq_false, not_false_eq_true]
        exact hq
    have cl2 := cl (fun r1 h1 => mr_run 174 [.ref 74, .int w] h1 (fun r2 h2 => (∃ x : Int32, r1 = some (.int x) ∧ r2 = some (.int x)) ∧ Inv h2 ∧ h2.2 = h.2))
    simp only [S_rl_unseen, SEL, PF, mr_gf_O, mr_rc_O, Option.toList_some, Option.toList_none, List.cons_append, List.nil_append, b2i_0, b2i_1, b2i_a, a_00, a_11, ai_n, si_n, nI_1, q_rl_bit, mr_up_at, Nat.reduceLeDiff, Nat.reduceLT, Nat.reduceEqDiff, Nat.reduceAdd, if_true, if_false, Bool.true_eq_false, Bool.false_eq_true, Bool.true_and, Bool.false_and, Bool.and_true, Bool.and_false, i_10, i_01, i_00, not_true_eq_false, not_false_eq_true] at cl2
    refine cl2 ?_
    obtain ⟨th, tt, tk, pl, va, fa, dn, dr, uf, g74⟩ := id s2.2.2.2.2.2.2
    rw [r_mo_unseen]
    simp only [S_mo_unseen, g74, MO, SEL, PF, mr_gf_O, mr_rc_O, Option.toList_some, Option.toList_none, List.cons_append, List.nil_append, b2i_0, b2i_1, b2i_a, a_00, a_11, ai_n, si_n, nI_1, q_rl_bit, mr_up_at, Nat.reduceLeDiff, Nat.reduceLT, Nat.reduceEqDiff, Nat.reduceAdd, if_true, if_false, Bool.true_eq_false, Bool.false_eq_true, Bool.true_and, Bool.false_and, Bool.and_true, Bool.and_false, i_10, i_01, i_00, not_true_eq_false, not_false_eq_true, q_mo_in, ch_in, decide_eq_true hw]
    have f3 : mr_fr h2 (mr_up h2 74 (MO 0 (nI len) tt tk pl va fa (nI n) dn dr (nI us) (nI m) uf)) [74] := fr_up _ (fr_rf _ _) (by decide)
    refine q_mo_unseenMany (St_mo s2 f3 ⟨_, _, _, _, _, _, _, _, _, up_eq _ _ _⟩) (SV_fr sv2 f3 (by decide)) ?_
    intro h4 C th tt tk pl va fa dn dr e4 s4 k74 k89 hC
    simp only [S_mo_unseen, k74, MO, SEL, PF, mr_gf_O, mr_rc_O, Option.toList_some, Option.toList_none, List.cons_append, List.nil_append, b2i_0, b2i_1, b2i_a, a_00, a_11, ai_n, si_n, nI_1, q_rl_bit, mr_up_at, Nat.reduceLeDiff, Nat.reduceLT, Nat.reduceEqDiff, Nat.reduceAdd, if_true, if_false, Bool.true_eq_false, Bool.false_eq_true, Bool.true_and, Bool.false_and, Bool.and_true, Bool.and_false, i_10, i_01, i_00, not_true_eq_false, not_false_eq_true]
    rcases hw with rfl | rfl
    · simp only [SEL, PF, mr_gf_O, mr_rc_O, Option.toList_some, Option.toList_none, List.cons_append, List.nil_append, b2i_0, b2i_1, b2i_a, a_00, a_11, ai_n, si_n, nI_1, q_rl_bit, mr_up_at, Nat.reduceLeDiff, Nat.reduceLT, Nat.reduceEqDiff, Nat.reduceAdd, if_true, if_false, Bool.true_eq_false, Bool.false_eq_true, Bool.true_and, Bool.false_and, Bool.and_true, Bool.and_false, i_10, i_01, i_00, not_true_eq_false, not_false_eq_true]
      exact ⟨⟨_, rfl, rfl⟩, ⟨_, _, _, _, _, _, s4⟩, e4.trans e2⟩
    · simp only [SEL, PF, mr_gf_O, mr_rc_O, Option.toList_some, Option.toList_none, List.cons_append, List.nil_append, b2i_0, b2i_1, b2i_a, a_00, a_11, ai_n, si_n, nI_1, q_rl_bit, mr_up_at, Nat.reduceLeDiff, Nat.reduceLT, Nat.reduceEqDiff, Nat.reduceAdd, if_true, if_false, Bool.true_eq_false, Bool.false_eq_true, Bool.true_and, Bool.false_and, Bool.and_true, Bool.and_false, i_10, i_01, i_00, not_true_eq_false, not_false_eq_true]
      exact ⟨⟨_, rfl, rfl⟩, ⟨_, _, _, _, _, _, s4⟩, e4.trans e2⟩
  · refine both_ro st (-1) ?_ ?_
    · intro h Q st kk
      rw [r_rl_unseen]
      simp only [S_rl_unseen, q_rl_isChoice, decide_eq_false hw, SEL, PF, mr_gf_O, mr_rc_O, Option.toList_some, Option.toList_none, List.cons_append, List.nil_append, b2i_0, b2i_1, b2i_a, a_00, a_11, ai_n, si_n, nI_1, q_rl_bit, mr_up_at, Nat.reduceLeDiff, Nat.reduceLT, Nat.reduceEqDiff, Nat.reduceAdd, if_true, if_false, Bool.true_eq_false, Bool.false_eq_true, Bool.true_and, Bool.false_and, Bool.and_true, Bool.and_false, i_10, i_01, i_00, not_true_eq_false, not_false_eq_true]
      exact kk h st rfl
    · intro h Q st kk
      obtain ⟨th, tt, tk, pl, va, fa, dn, dr, uf, e74⟩ := id st.2.2.2.2.2.2
      rw [r_mo_unseen]
      simp only [S_mo_unseen, e74, MO, SEL, PF, mr_gf_O, mr_rc_O, Option.toList_some, Option.toList_none, List.cons_append, List.nil_append, b2i_0, b2i_1, b2i_a, a_00, a_11, ai_n, si_n, nI_1, q_rl_bit, mr_up_at, Nat.reduceLeDiff, Nat.reduceLT, Nat.reduceEqDiff, Nat.reduceAdd, if_true, if_false, Bool.true_eq_false, Bool.false_eq_true, Bool.true_and, Bool.false_and, Bool.and_true, Bool.and_false, i_10, i_01, i_00, not_true_eq_false, not_false_eq_true, q_mo_in, ch_in, decide_eq_false hw]
      exact kk _ (St_mo st (fr_up _ (fr_rf _ _) (by decide)) ⟨_, _, _, _, _, _, _, _, _, up_eq _ _ _⟩) rfl
end MUNSEEN
