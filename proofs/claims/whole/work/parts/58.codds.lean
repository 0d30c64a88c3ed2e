/-! odds: the class's sum and its least terms -/
theorem fc_lt {c : Nat → Nat → Bool} {n a b : Nat} (ha : a < n) (hb : b < n) (h : c a b = true) : fc c n a + fb_ct (c a) b < fc c n n := by
  have h1 : fb_ct (c a) (b + 1) ≤ fb_ct (c a) n := fb_ct_mono _ (by omega)
  rw [ct_y h] at h1
  have h2 := fb_sm_part (fun p => fb_ct (c p) n) ha
  show fb_sm (fun p => fb_ct (c p) n) a + fb_ct (c a) b < fb_sm (fun p => fb_ct (c p) n) n
  have h3 : (fun p => fb_ct (c p) n) a = fb_ct (c a) n := rfl
  omega
theorem nb_pow : ∀ k, k < 10 → nb k = nI (2 ^ k) := by decide +kernel
theorem lc_eq (x y : Int64) : (lg_cmp x y = 0) = (x = y) := by
  unfold lg_cmp
  apply propext
  by_cases h1 : x > y
  · rw [if_pos h1]
    constructor
    · intro z; exact absurd z (by decide)
    · intro z
      subst z
      rw [gt_iff_lt, fa_lt64] at h1
      omega
  · rw [if_neg h1]
    by_cases h2 : x = y
    · rw [if_pos h2]; simp [h2]
    · rw [if_neg h2]
      constructor
      · intro z; exact absurd z (by decide)
      · intro z; exact absurd z h2
theorem lc_le (x y : Int64) : (lg_cmp x y ≤ 0) = ¬ y < x := by
  unfold lg_cmp
  apply propext
  by_cases h1 : x > y
  · rw [if_pos h1]
    constructor
    · intro z; exact absurd z (by decide)
    · intro z; exact absurd h1 z
  · rw [if_neg h1]
    constructor
    · intro _; exact h1
    · intro _
      split <;> decide
section CODDS
variable {h : mr_h} {Q : Option Value → mr_h → Prop} {n len us m K : Nat} {E Ky : Nat → Int32} {ed : Nat → Nat × Nat}
theorem c24 (st : St h n len us m E Ky) : ∃ (u l : Int64) (e : Int32), h.1 24 = mr_O 1 [.long u, .long l, .ref 25, .ref 26, .ref 27, .int e] := by
  have := st.1 24 (by decide)
  simpa [shp] using this
theorem c25 (st : St h n len us m E Ky) : ∃ A, h.1 25 = mr_I 9 A := by
  have := st.1 25 (by decide)
  simpa [shp, isI] using this
theorem c26 (st : St h n len us m E Ky) : ∃ A, h.1 26 = mr_I 9 A := by
  have := st.1 26 (by decide)
  simpa [shp, isI] using this
theorem c27 (st : St h n len us m E Ky) : ∃ A, h.1 27 = mr_J 10 A := by
  have := st.1 27 (by decide)
  simpa [shp, isI] using this
theorem St_ch {h2 : mr_h} (st : St h n len us m E Ky) (f : mr_fr h h2 [24, 25, 26, 27]) (h24 : ∃ (u l : Int64) (e : Int32), h2.1 24 = mr_O 1 [.long u, .long l, .ref 25, .ref 26, .ref 27, .int e]) (h25 : ∃ A, h2.1 25 = mr_I 9 A) (h26 : ∃ A, h2.1 26 = mr_I 9 A) (h27 : ∃ A, h2.1 27 = mr_J 10 A) : St h2 n len us m E Ky := by
  refine St_kp st f (by decide) (fun k hk _ => ?_) (gM_fr st.2.2.2.2.2.2 f (by decide))
  have : k = 24 ∨ k = 25 ∨ k = 26 ∨ k = 27 := by simpa using hk
  rcases this with rfl | rfl | rfl | rfl
  · simpa [shp] using h24
  · simpa [shp, isI] using h25
  · simpa [shp, isI] using h26
  · simpa [shp, isI] using h27
theorem l_power {b t : Nat} (ht : t < 2 ^ 31) : ∀ (d k : Nat), k + d = t → mr_wp 97 5 [.long (lN b), .null, .int (nI t), .long (lN (b ^ k)), .null, .int (nI k)] [] h Q = Q (some (.long (lN (b ^ t)))) h := by
  intro d
  induction d with
  | zero =>
    intro k hk
    have : k = t := by omega
    subst this
    rw [s_ch_power_5]
    simp only [S_ch_power, SEL, PF, mr_gf_O, mr_rc_O, Option.toList_some, Option.toList_none, List.cons_append, List.nil_append, b2i_0, b2i_1, b2i_a, a_00, a_11, ai_n, si_n, nI_1, q_rl_bit, mr_up_at, Nat.reduceLeDiff, Nat.reduceLT, Nat.reduceEqDiff, Nat.reduceAdd, if_true, if_false, Bool.true_eq_false, Bool.false_eq_true, Bool.true_and, Bool.false_and, Bool.and_true, Bool.and_false, i_10, i_01, i_00, not_true_eq_false, not_false_eq_true, if_pos (nI_le (Nat.le_refl k) ht)]
  | succ d ih =>
    intro k hk
    rw [s_ch_power_5]
    simp only [S_ch_power, SEL, PF, mr_gf_O, mr_rc_O, Option.toList_some, Option.toList_none, List.cons_append, List.nil_append, b2i_0, b2i_1, b2i_a, a_00, a_11, ai_n, si_n, nI_1, q_rl_bit, mr_up_at, Nat.reduceLeDiff, Nat.reduceLT, Nat.reduceEqDiff, Nat.reduceAdd, if_true, if_false, Bool.true_eq_false, Bool.false_eq_true, Bool.true_and, Bool.false_and, Bool.and_true, Bool.and_false, i_10, i_01, i_00, not_true_eq_false, not_false_eq_true, if_neg (show ¬ nI t ≤ nI k from nI_ge (by omega) ht), lN_mul, ← Nat.pow_succ]
    exact ih (k + 1) (by omega)
theorem q_ch_power {b t : Nat} (ht : t < 2 ^ 31) : mr_run 97 [.long (lN b), .int (nI t)] h Q = Q (some (.long (lN (b ^ t)))) h := by
  rw [r_ch_power]
  simp only [S_ch_power, SEL, PF, mr_gf_O, mr_rc_O, Option.toList_some, Option.toList_none, List.cons_append, List.nil_append, b2i_0, b2i_1, b2i_a, a_00, a_11, ai_n, si_n, nI_1, q_rl_bit, mr_up_at, Nat.reduceLeDiff, Nat.reduceLT, Nat.reduceEqDiff, Nat.reduceAdd, if_true, if_false, Bool.true_eq_false, Bool.false_eq_true, Bool.true_and, Bool.false_and, Bool.and_true, Bool.and_false, i_10, i_01, i_00, not_true_eq_false, not_false_eq_true]
  have := l_power (h := h) (Q := Q) (b := b) ht t 0 (by omega)
  rw [nI_0] at this
  exact this
/-- the class's state while it takes edges -/
def CT (h h1 : mr_h) (s : Nat × (Nat → Nat × Nat)) : Prop := mr_fr h h1 [24, 25, 26] ∧ (∃ U L : Int64, h1.1 24 = mr_O 1 [.long U, .long L, .ref 25, .ref 26, .ref 27, .int (nI s.1)]) ∧ ∃ F T : Nat → Int32, h1.1 25 = mr_I 9 F ∧ h1.1 26 = mr_I 9 T ∧ ∀ i, i < s.1 → F i = nI (s.2 i).1 ∧ T i = nI (s.2 i).2
def relc (E : Nat → Int32) (x : Int32) (a b : Nat) : Bool := bt (E a) b && (bt x a && bt x b)
theorem l_take2 (hE : nt E n) {x : Int32} (e1 : h.1 1 = NE 1 n) (e2 : h.1 2 = mr_I 12 E) {a : Nat} (ha : a < n) {s : Nat × (Nat → Nat × Nat)} (hs : s.1 = fc (relc E x) n a) (h9 : fc (relc E x) n n ≤ 9) (kk : ∀ h2 v5, CT h h2 (en2 (relc E x) s a n) → mr_wp 95 112 [.ref 24, .ref 1, .int x, .int (nI a), .int (nI n), v5] [] h2 Q) : ∀ (d b : Nat) (h1 : mr_h) (v5 : Value), b + d = n → CT h h1 (en2 (relc E x) s a b) → mr_wp 95 18 [.ref 24, .ref 1, .int x, .int (nI a), .int (nI b), v5] [] h1 Q := by
  have hn := hE.1
  intro d
  induction d with
  | zero =>
    intro b h1 v5 hb ct
    have : b = n := by omega
    subst this
    have g1 := fr_at ct.1 (by decide) e1
    have := kk h1 v5 ct
    rw [s_ch_takeEdges_18]
    simp only [S_ch_takeEdges_0, S_ch_takeEdges_1, g1, NE, SEL, PF, mr_gf_O, mr_rc_O, Option.toList_some, Option.toList_none, List.cons_append, List.nil_append, b2i_0, b2i_1, b2i_a, a_00, a_11, ai_n, si_n, nI_1, q_rl_bit, mr_up_at, Nat.reduceLeDiff, Nat.reduceLT, Nat.reduceEqDiff, Nat.reduceAdd, if_true, if_false, Bool.true_eq_false, Bool.false_eq_true, Bool.true_and, Bool.false_and, Bool.and_true, Bool.and_false, i_10, i_01, i_00, not_true_eq_false, not_false_eq_true, if_pos (nI_le (Nat.le_refl b) (show b < 2 ^ 31 by omega))] at this ⊢
    exact this
  | succ d ih =>
    intro b h1 v5 hb ct
    have hbn : b < n := by omega
    obtain ⟨f, ⟨U, L, e24⟩, F, T, e25, e26, hFT⟩ := id ct
    have g1 := fr_at f (by decide) e1
    have g2 := fr_at f (by decide) e2
    have c1 : ¬ nI n ≤ nI b := nI_ge (by omega) (by omega)
    have e3 : en2 (relc E x) s a (b + 1) = if relc E x a b then ((en2 (relc E x) s a b).1 + 1, upp (en2 (relc E x) s a b).2 (en2 (relc E x) s a b).1 (a, b)) else en2 (relc E x) s a b := rfl
    have skip : relc E x a b = false → ∀ v5, mr_wp 95 18 [.ref 24, .ref 1, .int x, .int (nI a), .int (nI (b + 1)), v5] [] h1 Q := fun hc v5 => by
      rw [hc, if_neg (by decide)] at e3
      exact ih (b + 1) h1 v5 (by omega) (by rw [e3]; exact ct)
    rw [s_ch_takeEdges_18]
    simp only [S_ch_takeEdges_0, S_ch_takeEdges_1, g1, NE, SEL, PF, mr_gf_O, mr_rc_O, Option.toList_some, Option.toList_none, List.cons_append, List.nil_append, b2i_0, b2i_1, b2i_a, a_00, a_11, ai_n, si_n, nI_1, q_rl_bit, mr_up_at, Nat.reduceLeDiff, Nat.reduceLT, Nat.reduceEqDiff, Nat.reduceAdd, if_true, if_false, Bool.true_eq_false, Bool.false_eq_true, Bool.true_and, Bool.false_and, Bool.and_true, Bool.and_false, i_10, i_01, i_00, not_true_eq_false, not_false_eq_true, if_neg c1, q_rl_holds (show a < 32 by omega), q_rl_holds (show b < 32 by omega), q_ne_has (show h1.1 1 = NE 1 n from g1) g2 (show a < 12 by omega) (show b < 32 by omega)]
    cases z1 : bt x a with
    | false =>
      simp only [if_true, S_ch_takeEdges_0, S_ch_takeEdges_1, SEL, PF, mr_gf_O, mr_rc_O, Option.toList_some, Option.toList_none, List.cons_append, List.nil_append, b2i_0, b2i_1, b2i_a, a_00, a_11, ai_n, si_n, nI_1, q_rl_bit, mr_up_at, Nat.reduceLeDiff, Nat.reduceLT, Nat.reduceEqDiff, Nat.reduceAdd, if_true, if_false, Bool.true_eq_false, Bool.false_eq_true, Bool.true_and, Bool.false_and, Bool.and_true, Bool.and_false, i_10, i_01, i_00, not_true_eq_false, not_false_eq_true]
      exact skip (by unfold relc; rw [z1]; simp) _
    | true =>
      simp only [Bool.true_eq_false, if_false]
      cases z2 : bt x b with
      | false =>
        simp only [if_true, S_ch_takeEdges_0, S_ch_takeEdges_1, SEL, PF, mr_gf_O, mr_rc_O, Option.toList_some, Option.toList_none, List.cons_append, List.nil_append, b2i_0, b2i_1, b2i_a, a_00, a_11, ai_n, si_n, nI_1, q_rl_bit, mr_up_at, Nat.reduceLeDiff, Nat.reduceLT, Nat.reduceEqDiff, Nat.reduceAdd, if_true, if_false, Bool.true_eq_false, Bool.false_eq_true, Bool.true_and, Bool.false_and, Bool.and_true, Bool.and_false, i_10, i_01, i_00, not_true_eq_false, not_false_eq_true]
        exact skip (by unfold relc; rw [z2]; simp) _
      | true =>
        simp only [Bool.true_eq_false, if_false]
        cases z3 : bt (E a) b with
        | false =>
          simp only [if_true, S_ch_takeEdges_0, S_ch_takeEdges_1, SEL, PF, mr_gf_O, mr_rc_O, Option.toList_some, Option.toList_none, List.cons_append, List.nil_append, b2i_0, b2i_1, b2i_a, a_00, a_11, ai_n, si_n, nI_1, q_rl_bit, mr_up_at, Nat.reduceLeDiff, Nat.reduceLT, Nat.reduceEqDiff, Nat.reduceAdd, if_true, if_false, Bool.true_eq_false, Bool.false_eq_true, Bool.true_and, Bool.false_and, Bool.and_true, Bool.and_false, i_10, i_01, i_00, not_true_eq_false, not_false_eq_true]
          exact skip (by unfold relc; rw [z3]; simp) _
        | true =>
          have hc : relc E x a b = true := by unfold relc; rw [z1, z2, z3]; rfl
          have hlt : (en2 (relc E x) s a b).1 < 9 := by
            rw [en2_ct, hs]
            have := fc_lt ha hbn hc
            omega
          rw [hc, if_pos rfl] at e3
          simp only [Bool.true_eq_false, if_false, S_ch_takeEdges_0, S_ch_takeEdges_1, SEL, PF, mr_gf_O, mr_rc_O, Option.toList_some, Option.toList_none, List.cons_append, List.nil_append, b2i_0, b2i_1, b2i_a, a_00, a_11, ai_n, si_n, nI_1, q_rl_bit, mr_up_at, Nat.reduceLeDiff, Nat.reduceLT, Nat.reduceEqDiff, Nat.reduceAdd, if_true, if_false, Bool.true_eq_false, Bool.false_eq_true, Bool.true_and, Bool.false_and, Bool.and_true, Bool.and_false, i_10, i_01, i_00, not_true_eq_false, not_false_eq_true, e24, if_neg (show ¬ (9 : Int32) ≤ nI (en2 (relc E x) s a b).1 from nI_ge (b := 9) hlt (by decide)), e25, e26, hlt]
          refine ih (b + 1) _ _ (by omega) ?_
          rw [e3]
          refine ⟨fr_up _ (fr_up _ (fr_up _ f (by decide)) (by decide)) (by decide), ⟨U, L, up_eq _ _ _⟩, upd F (en2 (relc E x) s a b).1 (nI a), upd T (en2 (relc E x) s a b).1 (nI b), by simp only [mr_up_at]; rfl, by simp only [mr_up_at]; rfl, fun i hi => ?_⟩
          show _ = nI (upp _ _ _ i).1 ∧ _ = nI (upp _ _ _ i).2
          unfold upp
          by_cases e : i = (en2 (relc E x) s a b).1
          · subst e
            rw [upd_at, upd_at, if_pos rfl]
            exact ⟨rfl, rfl⟩
          · rw [upd_ne _ _ e, upd_ne _ _ e, if_neg e]
            exact hFT i (by have : i < (en2 (relc E x) s a b).1 + 1 := hi; omega)
theorem l_take1 (hE : nt E n) {x : Int32} (e1 : h.1 1 = NE 1 n) (e2 : h.1 2 = mr_I 12 E) (h9 : fc (relc E x) n n ≤ 9) (kk : ∀ h2, CT h h2 (en1 (relc E x) n n) → Q none h2) : ∀ (d a : Nat) (h1 : mr_h) (v4 v5 : Value), a + d = n → CT h h1 (en1 (relc E x) n a) → mr_wp 95 7 [.ref 24, .ref 1, .int x, .int (nI a), v4, v5] [] h1 Q := by
  have hn := hE.1
  intro d
  induction d with
  | zero =>
    intro a h1 v4 v5 ha ct
    have : a = n := by omega
    subst this
    have g1 := fr_at ct.1 (by decide) e1
    rw [s_ch_takeEdges_7]
    simp only [S_ch_takeEdges_0, S_ch_takeEdges_1, g1, NE, SEL, PF, mr_gf_O, mr_rc_O, Option.toList_some, Option.toList_none, List.cons_append, List.nil_append, b2i_0, b2i_1, b2i_a, a_00, a_11, ai_n, si_n, nI_1, q_rl_bit, mr_up_at, Nat.reduceLeDiff, Nat.reduceLT, Nat.reduceEqDiff, Nat.reduceAdd, if_true, if_false, Bool.true_eq_false, Bool.false_eq_true, Bool.true_and, Bool.false_and, Bool.and_true, Bool.and_false, i_10, i_01, i_00, not_true_eq_false, not_false_eq_true, if_pos (nI_le (Nat.le_refl a) (show a < 2 ^ 31 by omega))]
    exact kk h1 ct
  | succ d ih =>
    intro a h1 v4 v5 ha ct
    have g1 := fr_at ct.1 (by decide) e1
    have c1 : ¬ nI n ≤ nI a := nI_ge (by omega) (by omega)
    rw [s_ch_takeEdges_7]
    simp only [S_ch_takeEdges_0, S_ch_takeEdges_1, g1, NE, SEL, PF, mr_gf_O, mr_rc_O, Option.toList_some, Option.toList_none, List.cons_append, List.nil_append, b2i_0, b2i_1, b2i_a, a_00, a_11, ai_n, si_n, nI_1, q_rl_bit, mr_up_at, Nat.reduceLeDiff, Nat.reduceLT, Nat.reduceEqDiff, Nat.reduceAdd, if_true, if_false, Bool.true_eq_false, Bool.false_eq_true, Bool.true_and, Bool.false_and, Bool.and_true, Bool.and_false, i_10, i_01, i_00, not_true_eq_false, not_false_eq_true, if_neg c1]
    rw [← nI_0]
    refine l_take2 (h := h) hE e1 e2 (show a < n by omega) (s := en1 (relc E x) n a) (en1_ct _ n a) h9 ?_ n 0 h1 v5 (by omega) ct
    intro h2 v5 ct2
    simp only [S_ch_takeEdges_0, S_ch_takeEdges_1, SEL, PF, mr_gf_O, mr_rc_O, Option.toList_some, Option.toList_none, List.cons_append, List.nil_append, b2i_0, b2i_1, b2i_a, a_00, a_11, ai_n, si_n, nI_1, q_rl_bit, mr_up_at, Nat.reduceLeDiff, Nat.reduceLT, Nat.reduceEqDiff, Nat.reduceAdd, if_true, if_false, Bool.true_eq_false, Bool.false_eq_true, Bool.true_and, Bool.false_and, Bool.and_true, Bool.and_false, i_10, i_01, i_00, not_true_eq_false, not_false_eq_true]
    exact ih (a + 1) h2 _ _ (by omega) ct2
theorem q_ch_takeEdges (st : St h n len us m E Ky) {x : Int32} (h9 : fc (relc E x) n n ≤ 9) (kk : ∀ h2, mr_fr h h2 [24, 25, 26] → CE h2 (en1 (relc E x) n n).1 (en1 (relc E x) n n).2 → Q none h2) : mr_run 95 [.ref 24, .ref 1, .int x] h Q := by
  obtain ⟨U, L, e, e24⟩ := c24 st
  obtain ⟨F, e25⟩ := c25 st
  obtain ⟨T, e26⟩ := c26 st
  rw [r_ch_takeEdges]
  simp only [S_ch_takeEdges_0, S_ch_takeEdges_1, SEL, PF, mr_gf_O, mr_rc_O, Option.toList_some, Option.toList_none, List.cons_append, List.nil_append, b2i_0, b2i_1, b2i_a, a_00, a_11, ai_n, si_n, nI_1, q_rl_bit, mr_up_at, Nat.reduceLeDiff, Nat.reduceLT, Nat.reduceEqDiff, Nat.reduceAdd, if_true, if_false, Bool.true_eq_false, Bool.false_eq_true, Bool.true_and, Bool.false_and, Bool.and_true, Bool.and_false, i_10, i_01, i_00, not_true_eq_false, not_false_eq_true, e24]
  rw [← nI_0]
  have f1 : mr_fr h (mr_up h 24 (mr_O 1 [.long U, .long L, .ref 25, .ref 26, .ref 27, .int (nI 0)])) [24, 25, 26] := fr_up _ (fr_rf _ _) (by decide)
  refine l_take1 (h := h) (St_E st) (St_1 st) (St_2 st) h9 (fun h2 ct => kk h2 ct.1 ⟨by rw [en1_ct]; exact h9, ct.2.1, ct.2.2⟩) n 0 _ _ _ (by omega) ⟨f1, ⟨U, L, up_eq _ _ _⟩, F, T, by simp only [mr_up_at]; exact e25, by simp only [mr_up_at]; exact e26, fun i hi => absurd hi (Nat.not_lt_zero i)⟩
theorem l_wc (hK : K ≤ 9) {U L : Int64} {x : Nat} (hx : x ≤ 10) (e24 : h.1 24 = mr_O 1 [.long U, .long L, .ref 25, .ref 26, .ref 27, .int (nI K)]) (kk : ∀ h2 W, mr_fr h h2 [27] → h2.1 27 = mr_J 10 W → (∀ i, i ≤ K → W i = lN ((10 - x) ^ i * x ^ (K - i))) → Q none h2) : ∀ (d k : Nat) (h1 : mr_h) (W : Nat → Int64), k + d = K + 1 → mr_fr h h1 [27] → h1.1 27 = mr_J 10 W → (∀ i, i < k → W i = lN ((10 - x) ^ i * x ^ (K - i))) → mr_wp 96 2 [.ref 24, .int (nI x), .int (nI k)] [] h1 Q := by
  intro d
  induction d with
  | zero =>
    intro k h1 W hk f e27 hW
    have : k = K + 1 := by omega
    subst this
    have g24 := fr_at f (by decide) e24
    rw [s_ch_weighCounts_2]
    simp only [S_ch_weighCounts, g24, SEL, PF, mr_gf_O, mr_rc_O, Option.toList_some, Option.toList_none, List.cons_append, List.nil_append, b2i_0, b2i_1, b2i_a, a_00, a_11, ai_n, si_n, nI_1, q_rl_bit, mr_up_at, Nat.reduceLeDiff, Nat.reduceLT, Nat.reduceEqDiff, Nat.reduceAdd, if_true, if_false, Bool.true_eq_false, Bool.false_eq_true, Bool.true_and, Bool.false_and, Bool.and_true, Bool.and_false, i_10, i_01, i_00, not_true_eq_false, not_false_eq_true, if_pos (show nI K < nI (K + 1) from nI_lt (by omega) (by omega))]
    exact kk h1 W f e27 (fun i hi => hW i (by omega))
  | succ d ih =>
    intro k h1 W hk f e27 hW
    have g24 := fr_at f (by decide) e24
    have e10 : (10 : Int32) - nI x = nI (10 - x) := nI_sub (a := 10) hx
    rw [s_ch_weighCounts_2]
    simp only [S_ch_weighCounts, g24, SEL, PF, mr_gf_O, mr_rc_O, Option.toList_some, Option.toList_none, List.cons_append, List.nil_append, b2i_0, b2i_1, b2i_a, a_00, a_11, ai_n, si_n, nI_1, q_rl_bit, mr_up_at, Nat.reduceLeDiff, Nat.reduceLT, Nat.reduceEqDiff, Nat.reduceAdd, if_true, if_false, Bool.true_eq_false, Bool.false_eq_true, Bool.true_and, Bool.false_and, Bool.and_true, Bool.and_false, i_10, i_01, i_00, not_true_eq_false, not_false_eq_true, if_neg (show ¬ nI K < nI k from nI_nlt (by omega) (by omega)), e10, nI_l (show 10 - x < 2 ^ 31 by omega), nI_l (show x < 2 ^ 31 by omega), q_ch_power (show k < 2 ^ 31 by omega), nI_sub (show k ≤ K by omega), q_ch_power (show K - k < 2 ^ 31 by omega), lN_mul, e27, sj_n (show k < 10 by omega) (show 10 ≤ 1000 by decide)]
    refine ih (k + 1) _ _ (by omega) (fr_up _ f (by decide)) (up_eq _ _ _) (fun i hi => ?_)
    by_cases e : i = k
    · subst e; rw [pk_uLs]
    · rw [pk_uLn e]; exact hW i (by omega)
/-- Euclid's steps -/
theorem l_reduce {U L : Int64} : ∀ (q a b k : Nat) (v6 v7 : Value), a < 2 ^ q → q ≤ 30 → b ≤ a → k + 2 * q + 1 ≤ 100 → (∀ k' v6 v7, mr_wp 99 42 [.ref 24, .long (lN (Nat.gcd a b)), .null, .long (lN 0), .null, .int (nI k'), v6, v7] [] h Q) → mr_wp 99 13 [.ref 24, .long (lN a), .null, .long (lN b), .null, .int (nI k), v6, v7] [] h Q := by
  intro q
  induction q with
  | zero =>
    intro a b k v6 v7 ha _ hb hk kk
    have hb0 : b = 0 := by omega
    have ha0 : a = 0 := by omega
    subst hb0
    subst ha0
    have := kk k v6 v7
    rw [s_ch_reduce_13]
    simp only [S_ch_reduce_0, S_ch_reduce_1, SEL, PF, mr_gf_O, mr_rc_O, Option.toList_some, Option.toList_none, List.cons_append, List.nil_append, b2i_0, b2i_1, b2i_a, a_00, a_11, ai_n, si_n, nI_1, q_rl_bit, mr_up_at, Nat.reduceLeDiff, Nat.reduceLT, Nat.reduceEqDiff, Nat.reduceAdd, if_true, if_false, Bool.true_eq_false, Bool.false_eq_true, Bool.true_and, Bool.false_and, Bool.and_true, Bool.and_false, i_10, i_01, i_00, not_true_eq_false, not_false_eq_true, if_neg (show ¬ (100 : Int32) ≤ nI k from nI_ge (b := 100) (by omega) (by decide)), lc_eq, show (lN 0 : Int64) = 0 from rfl, if_true, Nat.gcd_self] at this ⊢
    exact this
  | succ q ih =>
    intro a b k v6 v7 ha hq hb hk kk
    have p31 : 2 ^ (q + 1) ≤ 2 ^ 30 := Nat.pow_le_pow_right (by decide) hq
    rw [s_ch_reduce_13]
    by_cases b0 : b = 0
    · subst b0
      have := kk k v6 v7
      rw [Nat.gcd_zero_right] at this
      simp only [S_ch_reduce_0, S_ch_reduce_1, SEL, PF, mr_gf_O, mr_rc_O, Option.toList_some, Option.toList_none, List.cons_append, List.nil_append, b2i_0, b2i_1, b2i_a, a_00, a_11, ai_n, si_n, nI_1, q_rl_bit, mr_up_at, Nat.reduceLeDiff, Nat.reduceLT, Nat.reduceEqDiff, Nat.reduceAdd, if_true, if_false, Bool.true_eq_false, Bool.false_eq_true, Bool.true_and, Bool.false_and, Bool.and_true, Bool.and_false, i_10, i_01, i_00, not_true_eq_false, not_false_eq_true, if_neg (show ¬ (100 : Int32) ≤ nI k from nI_ge (b := 100) (by omega) (by decide)), lc_eq, show (lN 0 : Int64) = 0 from rfl, if_true] at this ⊢
      exact this
    · have hb0 : ¬ lN b = 0 := fun z => b0 ((fb_lN_inj (a := b) (b := 0) (by omega) (by decide)).mp z)
      simp only [S_ch_reduce_0, S_ch_reduce_1, SEL, PF, mr_gf_O, mr_rc_O, Option.toList_some, Option.toList_none, List.cons_append, List.nil_append, b2i_0, b2i_1, b2i_a, a_00, a_11, ai_n, si_n, nI_1, q_rl_bit, mr_up_at, Nat.reduceLeDiff, Nat.reduceLT, Nat.reduceEqDiff, Nat.reduceAdd, if_true, if_false, Bool.true_eq_false, Bool.false_eq_true, Bool.true_and, Bool.false_and, Bool.and_true, Bool.and_false, i_10, i_01, i_00, not_true_eq_false, not_false_eq_true, if_neg (show ¬ (100 : Int32) ≤ nI k from nI_ge (b := 100) (by omega) (by decide)), lc_eq, hb0, pk_lRem (show a < 2 ^ 63 by omega) (show 0 < b by omega) (show b < 2 ^ 63 by omega)]
      have hr : a % b < b := Nat.mod_lt _ (by omega)
      have eg : Nat.gcd a b = Nat.gcd b (a % b) := by rw [Nat.gcd_comm a b, Nat.gcd_rec b a, Nat.gcd_comm]
      rw [s_ch_reduce_13]
      by_cases r0 : a % b = 0
      · have := kk (k + 1) (.long (lN (a % b))) .null
        rw [eg, r0, Nat.gcd_zero_right] at this
        rw [r0]
        simp only [S_ch_reduce_0, S_ch_reduce_1, SEL, PF, mr_gf_O, mr_rc_O, Option.toList_some, Option.toList_none, List.cons_append, List.nil_append, b2i_0, b2i_1, b2i_a, a_00, a_11, ai_n, si_n, nI_1, q_rl_bit, mr_up_at, Nat.reduceLeDiff, Nat.reduceLT, Nat.reduceEqDiff, Nat.reduceAdd, if_true, if_false, Bool.true_eq_false, Bool.false_eq_true, Bool.true_and, Bool.false_and, Bool.and_true, Bool.and_false, i_10, i_01, i_00, not_true_eq_false, not_false_eq_true, if_neg (show ¬ (100 : Int32) ≤ nI (k + 1) from nI_ge (b := 100) (by omega) (by decide)), lc_eq, show (lN 0 : Int64) = 0 from rfl, if_true] at this ⊢
        exact this
      · have hr0 : ¬ lN (a % b) = 0 := fun z => r0 ((fb_lN_inj (a := a % b) (b := 0) (by omega) (by decide)).mp z)
        simp only [S_ch_reduce_0, S_ch_reduce_1, SEL, PF, mr_gf_O, mr_rc_O, Option.toList_some, Option.toList_none, List.cons_append, List.nil_append, b2i_0, b2i_1, b2i_a, a_00, a_11, ai_n, si_n, nI_1, q_rl_bit, mr_up_at, Nat.reduceLeDiff, Nat.reduceLT, Nat.reduceEqDiff, Nat.reduceAdd, if_true, if_false, Bool.true_eq_false, Bool.false_eq_true, Bool.true_and, Bool.false_and, Bool.and_true, Bool.and_false, i_10, i_01, i_00, not_true_eq_false, not_false_eq_true, if_neg (show ¬ (100 : Int32) ≤ nI (k + 1) from nI_ge (b := 100) (by omega) (by decide)), lc_eq, hr0, pk_lRem (show b < 2 ^ 63 by omega) (show 0 < a % b by omega) (show a % b < 2 ^ 63 by omega)]
        have hr2 : b % (a % b) < a % b := Nat.mod_lt _ (by omega)
        have half : 2 * (a % b) < a := by
          have := Nat.div_add_mod a b
          have h1 : 1 ≤ a / b := Nat.div_pos hb (by omega)
          have h2 : b * 1 ≤ b * (a / b) := Nat.mul_le_mul_left b h1
          omega
        have eg2 : Nat.gcd b (a % b) = Nat.gcd (a % b) (b % (a % b)) := by rw [Nat.gcd_comm b, Nat.gcd_rec (a % b) b, Nat.gcd_comm]
        refine ih (a % b) (b % (a % b)) (k + 1 + 1) _ _ (by rw [Nat.pow_succ] at ha; omega) (by omega) (by omega) (by omega) ?_
        rw [← eg2, ← eg]
        exact kk
theorem q_ch_reduce {U L : Nat} (hL0 : 0 < L) (hL : L < 2 ^ 30) (hU : U ≤ L) (e24 : h.1 24 = mr_O 1 [.long (lN U), .long (lN L), .ref 25, .ref 26, .ref 27, .int (nI K)]) (kk : ∀ h2, mr_fr h h2 [24] → h2.1 24 = mr_O 1 [.long (lN (U / Nat.gcd U L)), .long (lN (L / Nat.gcd U L)), .ref 25, .ref 26, .ref 27, .int (nI K)] → Q none h2) : mr_run 99 [.ref 24] h Q := by
  have hg0 : 0 < Nat.gcd U L := Nat.gcd_pos_of_pos_right U hL0
  have hgl : Nat.gcd U L ≤ L := Nat.gcd_le_right U hL0
  rw [r_ch_reduce]
  simp only [S_ch_reduce_0, S_ch_reduce_1, SEL, PF, mr_gf_O, mr_rc_O, Option.toList_some, Option.toList_none, List.cons_append, List.nil_append, b2i_0, b2i_1, b2i_a, a_00, a_11, ai_n, si_n, nI_1, q_rl_bit, mr_up_at, Nat.reduceLeDiff, Nat.reduceLT, Nat.reduceEqDiff, Nat.reduceAdd, if_true, if_false, Bool.true_eq_false, Bool.false_eq_true, Bool.true_and, Bool.false_and, Bool.and_true, Bool.and_false, i_10, i_01, i_00, not_true_eq_false, not_false_eq_true, e24]
  rw [← nI_0]
  refine l_reduce (U := 0) (L := 0) 30 L U 0 _ _ hL (Nat.le_refl 30) hU (by decide) ?_
  intro k v6 v7
  rw [Nat.gcd_comm L U]
  simp only [S_ch_reduce_0, S_ch_reduce_1, SEL, PF, mr_gf_O, mr_rc_O, Option.toList_some, Option.toList_none, List.cons_append, List.nil_append, b2i_0, b2i_1, b2i_a, a_00, a_11, ai_n, si_n, nI_1, q_rl_bit, mr_up_at, Nat.reduceLeDiff, Nat.reduceLT, Nat.reduceEqDiff, Nat.reduceAdd, if_true, if_false, Bool.true_eq_false, Bool.false_eq_true, Bool.true_and, Bool.false_and, Bool.and_true, Bool.and_false, i_10, i_01, i_00, not_true_eq_false, not_false_eq_true, lc_le]
  have one : (lN 1 : Int64) = 1 := rfl
  by_cases g1 : 1 < Nat.gcd U L
  · have hlt : (1 : Int64) < lN (Nat.gcd U L) := (lN_lt (a := 1) (by decide) (by omega)).mpr g1
    have hne : ¬ lN (Nat.gcd U L) = 0 := fun z => by have := (fb_lN_inj (a := Nat.gcd U L) (b := 0) (by omega) (by decide)).mp z; omega
    simp only [S_ch_reduce_0, S_ch_reduce_1, SEL, PF, mr_gf_O, mr_rc_O, Option.toList_some, Option.toList_none, List.cons_append, List.nil_append, b2i_0, b2i_1, b2i_a, a_00, a_11, ai_n, si_n, nI_1, q_rl_bit, mr_up_at, Nat.reduceLeDiff, Nat.reduceLT, Nat.reduceEqDiff, Nat.reduceAdd, if_true, if_false, Bool.true_eq_false, Bool.false_eq_true, Bool.true_and, Bool.false_and, Bool.and_true, Bool.and_false, i_10, i_01, i_00, not_true_eq_false, not_false_eq_true, if_neg (show ¬ ¬ (1 : Int64) < lN (Nat.gcd U L) from fun z => z hlt), e24, hne, pk_lDiv (show U < 2 ^ 63 by omega) hg0 (show Nat.gcd U L < 2 ^ 63 by omega), pk_lDiv (show L < 2 ^ 63 by omega) hg0 (show Nat.gcd U L < 2 ^ 63 by omega)]
    exact kk _ (fr_up _ (fr_up _ (fr_rf _ _) (by decide)) (by decide)) (up_eq _ _ _)
  · have e1 : Nat.gcd U L = 1 := by omega
    rw [e1, if_pos (show ¬ (1 : Int64) < lN 1 by decide)]
    refine kk h (fr_rf _ _) ?_
    rw [e1, Nat.div_one, Nat.div_one]
    exact e24
end CODDS
