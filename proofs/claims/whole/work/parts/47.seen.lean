/-! what was seen; the edges that fit it -/
def SV (h : mr_h) (n m : Nat) (sf sg : Nat → Nat) (cm : Nat → Bool) : Prop := m ≤ 6 ∧ (∃ x, h.1 28 = mr_O 8 [.int (nI m), .ref 29, .ref 30, .ref 31, .ref 32, .int x]) ∧ ∃ a b c a2 b2 c2 : Nat → Int32, h.1 29 = mr_I 6 a ∧ h.1 30 = mr_I 6 b ∧ h.1 31 = mr_I 6 c ∧ h.1 82 = mr_I 6 a2 ∧ h.1 83 = mr_I 6 b2 ∧ h.1 84 = mr_I 6 c2 ∧
  ∀ j, j < m → a j = nI (sf j) ∧ b j = nI (sg j) ∧ c j = b2i (cm j) ∧ a2 j = nI (sf j) ∧ b2 j = nI (sg j) ∧ c2 j = b2i (cm j) ∧ sf j < n ∧ sg j < n
theorem gV_SV {h : mr_h} {n m : Nat} (hn : n ≤ 12) (g : gV h n m) : ∃ sf sg cm, SV h n m sf sg cm := by
  obtain ⟨h0, h1, a, b, c, a2, b2, c2, e1, e2, e3, e4, e5, e6, h3⟩ := g
  refine ⟨fun j => (a j).toNatClampNeg, fun j => (b j).toNatClampNeg, fun j => decide (c j = 1), h0, h1, a, b, c, a2, b2, c2, e1, e2, e3, e4, e5, e6, fun j hj => ?_⟩
  obtain ⟨q1, q2, q3, ⟨u, hu, eu⟩, ⟨v, hv, ev⟩, q6⟩ := h3 j hj
  dsimp only
  rw [← q1, ← q2, ← q3, eu, ev, nI_clamp (by omega), nI_clamp (by omega)]
  refine ⟨rfl, rfl, ?_, rfl, rfl, ?_, hu, hv⟩ <;> rcases q6 with z | z <;> rw [z] <;> rfl
theorem SV_gV {h : mr_h} {n m : Nat} {sf sg : Nat → Nat} {cm : Nat → Bool} (g : SV h n m sf sg cm) : gV h n m := by
  obtain ⟨h0, h1, a, b, c, a2, b2, c2, e1, e2, e3, e4, e5, e6, h3⟩ := g
  refine ⟨h0, h1, a, b, c, a2, b2, c2, e1, e2, e3, e4, e5, e6, fun j hj => ?_⟩
  obtain ⟨q1, q2, q3, q4, q5, q6, q7, q8⟩ := h3 j hj
  refine ⟨q1.trans q4.symm, q2.trans q5.symm, q3.trans q6.symm, ⟨_, q7, q1⟩, ⟨_, q8, q2⟩, ?_⟩
  rw [q3]
  cases cm j
  · exact Or.inl rfl
  · exact Or.inr rfl
theorem SV_fr {h h2 : mr_h} {L : List Nat} {n m : Nat} {sf sg : Nat → Nat} {cm : Nat → Bool} (g : SV h n m sf sg cm) (f : mr_fr h h2 L) (hL : ∀ a ∈ [28, 29, 30, 31, 82, 83, 84], a ∉ L) : SV h2 n m sf sg cm := by
  obtain ⟨h0, ⟨x, h1⟩, a, b, c, a2, b2, c2, e1, e2, e3, e4, e5, e6, h3⟩ := g
  exact ⟨h0, ⟨x, fr_at f (hL 28 (by decide)) h1⟩, a, b, c, a2, b2, c2, fr_at f (hL 29 (by decide)) e1, fr_at f (hL 30 (by decide)) e2, fr_at f (hL 31 (by decide)) e3, fr_at f (hL 82 (by decide)) e4, fr_at f (hL 83 (by decide)) e5, fr_at f (hL 84 (by decide)) e6, h3⟩
/-- an edge's addition fits a sight -/
def okb (E : Nat → Int32) (n : Nat) (sf sg : Nat → Nat) (cm : Nat → Bool) (p q i : Nat) : Bool := rr (ad E p q) n (sf i) (sg i) == cm i
def cand (E : Nat → Int32) (n m : Nat) (sf sg : Nat → Nat) (cm : Nat → Bool) (p q : Nat) : Bool := ms E p q && al (okb E n sf sg cm p q) m
theorem ct_mk {f : Nat → Bool} {n : Nat} (hn : n ≤ 12) : ct (mk f n) = fb_ct f n := by
  unfold ct
  have e := fb_ct_split (bt (mk f n)) n (12 - n)
  rw [show n + (12 - n) = 12 by omega] at e
  have z : fb_ct (fun k => bt (mk f n) (n + k)) (12 - n) = 0 := fb_ct_zero.mpr fun k _ => by
    rw [mk_bt (by omega), decide_eq_false (by omega)]
    rfl
  rw [e, fb_ct_cong (q := f) (fun k hk => by rw [mk_bt (by omega)]; simp [hk]), z, Nat.add_zero]
theorem mk_and {f g : Nat → Bool} {n : Nat} {M : Int32} (hn : n ≤ 12) (hM : ∀ q, q < n → bt M q = g q) : mk f n &&& M = mk (fun q => f q && g q) n := by
  apply b_ext
  intro i hi
  rw [b_and, mk_bt (by omega), mk_bt (by omega)]
  by_cases h : i < n
  · simp [h, hM i h]
  · simp [h]
section SEEN
variable {h : mr_h} {Q : Option Value → mr_h → Prop} {n len us m : Nat} {E K : Nat → Int32} {sf sg : Nat → Nat} {cm : Nat → Bool}
theorem q_si_making (st : St h n len us m E K) {p u v : Nat} (hp : p < n) (hu : u < n) (hv : v < n) (kk : ∀ M, (∀ q, q < n → bt M q = rr (ad E p q) n u v) → Q (some (.int M)) h) : mr_run 105 [.ref 9, .int (nI p), .int (nI u), .int (nI v)] h Q := by
  have hE := St_E st
  have hn := hE.1
  obtain ⟨e9, A, B, C, I, O, R, L, e10, e11, e12, e13, e14, e15, e16, hA, hB, hC, hI, hO, hR, hL⟩ := St_D st
  rw [r_si_making]
  simp only [S_si_making, e9, RE, SEL, PF, mr_gf_O, mr_rc_O, Option.toList_some, Option.toList_none, List.cons_append, List.nil_append, b2i_0, b2i_1, b2i_a, a_00, a_11, ai_n, si_n, nI_1, q_rl_bit, mr_up_at, Nat.reduceLeDiff, Nat.reduceLT, Nat.reduceEqDiff, Nat.reduceAdd, if_true, if_false, Bool.true_eq_false, Bool.false_eq_true, Bool.true_and, Bool.false_and, Bool.and_true, Bool.and_false, i_10, i_01, i_00, not_true_eq_false, not_false_eq_true, q_re_leads (show u < 12 by omega) (show v < 32 by omega) e9 e10, q_re_leads (show u < 12 by omega) (show p < 32 by omega) e9 e10, hA u hu, e11, show v < 12 by omega, hB v hv]
  have e1 : bt (RR E n u) v = rr E n u v := rfl
  have e2 : bt (RR E n u) p = rr E n u p := rfl
  rw [e1, e2]
  cases b1 : rr E n u v with
  | true =>
    simp only [Bool.true_eq_false, if_false]
    refine kk (-1) (fun q hq => ?_)
    rw [b_m1 q (by omega), rr_ad hE hp hq hu, b1]
    rfl
  | false =>
    simp only [if_true]
    cases b2 : rr E n u p with
    | true =>
      simp only [Bool.true_eq_false, if_false]
      refine kk _ (fun q hq => ?_)
      rw [rr_ad hE hp hq hu, b1, b2, Bh_bt hn]
      simp [hq]
    | false =>
      simp only [if_true]
      refine kk 0 (fun q hq => ?_)
      rw [rr_ad hE hp hq hu, b1, b2, b_0]
      rfl
theorem al_s (p : Nat → Bool) (k : Nat) : al p (k + 1) = (al p k && p k) := rfl
theorem sift_s {p k : Nat} {M : Int32} (hn : n ≤ 12) (hM : ∀ q, q < n → bt M q = rr (ad E p q) n (sf k) (sg k)) : mk (fun q => ms E p q && al (okb E n sf sg cm p q) k) n &&& (if ¬ b2i (cm k) = 1 then M ^^^ -1 else M) = mk (fun q => ms E p q && al (okb E n sf sg cm p q) (k + 1)) n := by
  rw [mk_and (g := fun q => okb E n sf sg cm p q k) hn]
  · refine mk_cong fun q hq => ?_
    rw [al_s, Bool.and_assoc]
  · intro q hq
    unfold okb
    simp only [b2i_1]
    cases cm k with
    | true =>
      simp only [not_true_eq_false, if_false]
      rw [hM q hq]
      simp
    | false =>
      simp only [Bool.false_eq_true, not_false_eq_true, if_true]
      rw [b_not _ (by omega), hM q hq]
      simp
theorem l_sift2 {p : Nat} (hp : p < n) {f : Nat → Int32} {v5 : Value} (kk : ∀ h2 v5, mr_fr h h2 [32] → St h2 n len us m E K → SV h2 n m sf sg cm → h2.1 28 = mr_O 8 [.int (nI m), .ref 29, .ref 30, .ref 31, .ref 32, .int (nI n)] → h2.1 32 = mr_I 12 (upd f p (mk (cand E n m sf sg cm p) n)) → mr_wp 104 97 [.ref 28, .ref 1, .ref 9, .int (nI p), .int (nI m), v5] [] h2 Q) : ∀ (d k : Nat) (h1 : mr_h) (v5 : Value), k + d = m → mr_fr h h1 [32] → St h1 n len us m E K → SV h1 n m sf sg cm → h1.1 28 = mr_O 8 [.int (nI m), .ref 29, .ref 30, .ref 31, .ref 32, .int (nI n)] → h1.1 32 = mr_I 12 (upd f p (mk (fun q => ms E p q && al (okb E n sf sg cm p q) k) n)) → mr_wp 104 32 [.ref 28, .ref 1, .ref 9, .int (nI p), .int (nI k), v5] [] h1 Q := by
  intro d
  induction d with
  | zero =>
    intro k h1 v5 hk fr st sv e28 e32
    have : k = m := by omega
    subst this
    have hm6 := sv.1
    have := kk h1 v5 fr st sv e28 e32
    rw [s_si_sift_32]
    simp only [S_si_sift_0, S_si_sift_1, e28, SEL, PF, mr_gf_O, mr_rc_O, Option.toList_some, Option.toList_none, List.cons_append, List.nil_append, b2i_0, b2i_1, b2i_a, a_00, a_11, ai_n, si_n, nI_1, q_rl_bit, mr_up_at, Nat.reduceLeDiff, Nat.reduceLT, Nat.reduceEqDiff, Nat.reduceAdd, if_true, if_false, if_pos (nI_le (Nat.le_refl k) (by omega))] at this ⊢
    exact this
  | succ d ih =>
    intro k h1 v5 hk fr st sv e28 e32
    have hn := (St_E st).1
    obtain ⟨h0, hx, a, b, c, a2, b2, c2, e1, e2, e3, e4, e5, e6, h3⟩ := id sv
    obtain ⟨q1, q2, q3, q4, q5, q6, q7, q8⟩ := h3 k (by omega)
    have c1 : ¬ nI m ≤ nI k := nI_ge (by omega) (by omega)
    rw [s_si_sift_32]
    simp only [S_si_sift_0, S_si_sift_1, e28, SEL, PF, mr_gf_O, mr_rc_O, Option.toList_some, Option.toList_none, List.cons_append, List.nil_append, b2i_0, b2i_1, b2i_a, a_00, a_11, ai_n, si_n, nI_1, q_rl_bit, mr_up_at, Nat.reduceLeDiff, Nat.reduceLT, Nat.reduceEqDiff, Nat.reduceAdd, if_true, if_false, if_neg c1, e1, e2, show k < 6 by omega, q1, q2]
    refine q_si_making st hp q7 q8 ?_
    intro M hM
    simp only [S_si_sift_0, S_si_sift_1, e28, SEL, PF, mr_gf_O, mr_rc_O, Option.toList_some, Option.toList_none, List.cons_append, List.nil_append, b2i_0, b2i_1, b2i_a, a_00, a_11, ai_n, si_n, nI_1, q_rl_bit, mr_up_at, Nat.reduceLeDiff, Nat.reduceLT, Nat.reduceEqDiff, Nat.reduceAdd, if_true, if_false, e32, e3, show k < 6 by omega, show p < 12 by omega, q3, upd_at]
    have f2 : mr_fr h1 (mr_up h1 32 (mr_I 12 (upd f p (mk (fun q => ms E p q && al (okb E n sf sg cm p q) (k + 1)) n)))) [32] := fr_up _ (fr_rf _ _) (by decide)
    have fin := ih (k + 1) _ (.int M) (by omega) (fr_tr fr f2 (by decide)) (St_one st f2 (by decide) (shp_12 (up_eq _ _ _) (by decide))) (SV_fr sv f2 (by decide)) (fr_at f2 (by decide) e28) (up_eq _ _ _)
    have es := sift_s (E := E) (sf := sf) (sg := sg) (cm := cm) (p := p) (k := k) (M := M) hn hM
    have ss := @b2i_1 (cm k)
    cases hc : cm k with
    | true =>
      rw [hc] at es
      simp only [b2i_t, not_true_eq_false, if_false] at es
      simp only [Bool.true_eq_false, not_true_eq_false, if_false, es, upd_upd]
      exact fin
    | false =>
      rw [hc] at es
      simp only [b2i_f, i_01, not_false_eq_true, if_true] at es
      simp only [Bool.false_eq_true, not_false_eq_true, if_true, es, upd_upd]
      exact fin
theorem l_sift1 {f : Nat → Int32} (kk : ∀ h2, mr_fr h h2 [32] → St h2 n len us m E K → SV h2 n m sf sg cm → h2.1 28 = mr_O 8 [.int (nI m), .ref 29, .ref 30, .ref 31, .ref 32, .int (nI n)] → h2.1 32 = mr_I 12 (fk (fun p => mk (cand E n m sf sg cm p) n) f n) → Q none h2) : ∀ (d k : Nat) (h1 : mr_h) (v4 v5 : Value), k + d = n → mr_fr h h1 [32] → St h1 n len us m E K → SV h1 n m sf sg cm → h1.1 28 = mr_O 8 [.int (nI m), .ref 29, .ref 30, .ref 31, .ref 32, .int (nI n)] → h1.1 32 = mr_I 12 (fk (fun p => mk (cand E n m sf sg cm p) n) f k) → mr_wp 104 10 [.ref 28, .ref 1, .ref 9, .int (nI k), v4, v5] [] h1 Q := by
  intro d
  induction d with
  | zero =>
    intro k h1 v4 v5 hk fr st sv e28 e32
    have hn := (St_E st).1
    have : k = n := by omega
    subst this
    rw [s_si_sift_10]
    simp only [S_si_sift_0, S_si_sift_1, e28, SEL, PF, mr_gf_O, mr_rc_O, Option.toList_some, Option.toList_none, List.cons_append, List.nil_append, b2i_0, b2i_1, b2i_a, a_00, a_11, ai_n, si_n, nI_1, q_rl_bit, mr_up_at, Nat.reduceLeDiff, Nat.reduceLT, Nat.reduceEqDiff, Nat.reduceAdd, if_true, if_false, if_pos (nI_le (Nat.le_refl k) (by omega))]
    exact kk h1 fr st sv e28 e32
  | succ d ih =>
    intro k h1 v4 v5 hk fr st sv e28 e32
    have hE := St_E st
    have hn := hE.1
    have hkn : k < n := by omega
    have c1 : ¬ nI n ≤ nI k := nI_ge (by omega) (by omega)
    rw [s_si_sift_10]
    simp only [S_si_sift_0, S_si_sift_1, e28, SEL, PF, mr_gf_O, mr_rc_O, Option.toList_some, Option.toList_none, List.cons_append, List.nil_append, b2i_0, b2i_1, b2i_a, a_00, a_11, ai_n, si_n, nI_1, q_rl_bit, mr_up_at, Nat.reduceLeDiff, Nat.reduceLT, Nat.reduceEqDiff, Nat.reduceAdd, if_true, if_false, if_neg c1, St_1 st, NE, q_ne_missingFrom hE hkn (St_1 st) (St_2 st), show k < 12 by omega, e32]
    rw [← nI_0]
    have f2 : mr_fr h1 (mr_up h1 32 (mr_I 12 (upd (fk (fun p => mk (cand E n m sf sg cm p) n) f k) k (mk (ms E k) n)))) [32] := fr_up _ (fr_rf _ _) (by decide)
    refine l_sift2 (sf := sf) (sg := sg) (cm := cm) (m := m) (h := mr_up h1 32 (mr_I 12 (upd (fk (fun p => mk (cand E n m sf sg cm p) n) f k) k (mk (ms E k) n)))) (f := fk (fun p => mk (cand E n m sf sg cm p) n) f k) hkn (v5 := v5) ?_ m 0 _ v5 (by omega) (fr_rf _ _) (St_one st f2 (by decide) (shp_12 (up_eq _ _ _) (by decide))) (SV_fr sv f2 (by decide)) (fr_at f2 (by decide) e28) ?_
    · intro h2 v5 f3 s3 sv3 g28 g32
      simp only [S_si_sift_0, S_si_sift_1, SEL, PF, mr_gf_O, mr_rc_O, Option.toList_some, Option.toList_none, List.cons_append, List.nil_append, b2i_0, b2i_1, b2i_a, a_00, a_11, ai_n, si_n, nI_1, q_rl_bit, mr_up_at, Nat.reduceLeDiff, Nat.reduceLT, Nat.reduceEqDiff, Nat.reduceAdd, if_true, if_false]
      have e := fk_s (fun p => mk (cand E n m sf sg cm p) n) f k
      rw [e] at g32
      exact ih (k + 1) h2 _ _ (by omega) (fr_tr (fr_tr fr f2 (by decide)) f3 (by decide)) s3 sv3 g28 g32
    · rw [up_eq]
      congr 2
      refine mk_cong fun q hq => ?_
      show ms E k q = (ms E k q && true)
      simp
theorem c32 (st : St h n len us m E K) : ∃ A, h.1 32 = mr_I 12 A := by
  have := st.1 32 (by decide)
  simpa [shp, isI] using this
theorem q_si_sift (st : St h n len us m E K) (sv : SV h n m sf sg cm) (kk : ∀ h2 F, h2.2 = h.2 → St h2 n len us m E K → SV h2 n m sf sg cm → h2.1 28 = mr_O 8 [.int (nI m), .ref 29, .ref 30, .ref 31, .ref 32, .int (nI n)] → h2.1 32 = mr_I 12 F → (∀ p, p < n → F p = mk (cand E n m sf sg cm p) n) → Q none h2) : mr_run 104 [.ref 28, .ref 1, .ref 9] h Q := by
  obtain ⟨h0, ⟨x, e28⟩, a, b, c, a2, b2, c2, e1, e2, e3, e4, e5, e6, h3⟩ := id sv
  obtain ⟨f, e32⟩ := c32 st
  rw [r_si_sift]
  simp only [S_si_sift_0, S_si_sift_1, St_1 st, NE, SEL, PF, mr_gf_O, mr_rc_O, Option.toList_some, Option.toList_none, List.cons_append, List.nil_append, b2i_0, b2i_1, b2i_a, a_00, a_11, ai_n, si_n, nI_1, q_rl_bit, mr_up_at, Nat.reduceLeDiff, Nat.reduceLT, Nat.reduceEqDiff, Nat.reduceAdd, if_true, if_false, Bool.true_eq_false, Bool.false_eq_true, Bool.true_and, Bool.false_and, Bool.and_true, Bool.and_false, i_10, i_01, i_00, not_true_eq_false, not_false_eq_true, e28]
  have f1 : mr_fr h (mr_up h 28 (mr_O 8 [.int (nI m), .ref 29, .ref 30, .ref 31, .ref 32, .int (nI n)])) [28] := fr_up _ (fr_rf _ _) (by decide)
  have sv1 : SV (mr_up h 28 (mr_O 8 [.int (nI m), .ref 29, .ref 30, .ref 31, .ref 32, .int (nI n)])) n m sf sg cm := ⟨h0, ⟨_, up_eq _ _ _⟩, a, b, c, a2, b2, c2, fr_at f1 (by decide) e1, fr_at f1 (by decide) e2, fr_at f1 (by decide) e3, fr_at f1 (by decide) e4, fr_at f1 (by decide) e5, fr_at f1 (by decide) e6, h3⟩
  have s1 : St (mr_up h 28 (mr_O 8 [.int (nI m), .ref 29, .ref 30, .ref 31, .ref 32, .int (nI n)])) n len us m E K := by
    obtain ⟨g1, g2, g3, g4, g5, g6, g7⟩ := st
    exact ⟨gS_off g1 f1 (by decide), gN_fr g2 f1 (by decide), gT_fr g3 f1 (by decide), SV_gV sv1, gP_fr g5 f1 (by decide), gA_fr g6 f1 (by decide), gM_fr g7 f1 (by decide)⟩
  rw [← nI_0]
  refine l_sift1 (sf := sf) (sg := sg) (cm := cm) (f := f) ?_ n 0 _ _ _ (by omega) (fr_rf _ _) s1 sv1 (up_eq _ _ _) (by rw [fk_0]; exact fr_at f1 (by decide) e32)
  intro h2 f2 s2 sv2 g28 g32
  exact kk h2 _ (f2.1.trans f1.1) s2 sv2 g28 g32 (fun p hp => fk_in hp)
end SEEN
