/-! odds: the reference -/
def allc (E : Nat → Int32) : Nat → Nat → Bool := fun a b => bt (E a) b
def WS (E : Nat → Int32) (n : Nat) (st : Nat → Bool) (t : Nat × (Nat → Nat × Nat)) (W : Nat → Int32) (a b : Nat) : Prop := (∀ a' b', a' < n → (a' < a ∨ (a' = a ∧ b' < b)) → (bt (W a') b' = true ↔ ∃ i, i < t.1 ∧ st i = true ∧ t.2 i = (a', b'))) ∧ (∀ a' b', a' < n → ¬ (a' < a ∨ (a' = a ∧ b' < b)) → bt (W a') b' = bt (E a') b') ∧ (∀ i, i < t.1 → ((t.2 i).1 < a ∨ ((t.2 i).1 = a ∧ (t.2 i).2 < b)) ∧ (t.2 i).2 < n)
section MODDSM
variable {n a b : Nat} {E W : Nat → Int32} {st : Nat → Bool} {t : Nat × (Nat → Nat × Nat)}
theorem WS_no (hc : bt (E a) b = false) (hw : WS E n st t W a b) : WS E n st t W a (b + 1) := by
  obtain ⟨h1, h2, h3⟩ := hw
  refine ⟨fun a' b' ha' hp => ?_, fun a' b' ha' hp => h2 a' b' ha' (by omega), fun i hi => ⟨by have := (h3 i hi).1; omega, (h3 i hi).2⟩⟩
  by_cases e : a' = a ∧ b' = b
  · obtain ⟨rfl, rfl⟩ := e
    rw [h2 a' b' ha' (by omega), hc]
    constructor
    · intro z; exact absurd z (by decide)
    · rintro ⟨i, hi, -, ei⟩
      have := (h3 i hi).1
      rw [ei] at this
      dsimp only at this
      omega
  · exact h1 a' b' ha' (by omega)
theorem WS_yes (hn : n ≤ 12) (hb : b < n) (hc : bt (E a) b = true) (hw : WS E n st t W a b) {W' : Nat → Int32} (hW' : ∀ a', a' < n → W' a' = if a' = a then (if st t.1 then W a else W a ^^^ nb b) else W a') : WS E n st (t.1 + 1, upp t.2 t.1 (a, b)) W' a (b + 1) := by
  obtain ⟨h1, h2, h3⟩ := hw
  have hbit : ∀ a' b', a' < n → bt (W' a') b' = if a' = a ∧ b' = b then (if st t.1 then bt (W a') b' else !bt (W a') b') else bt (W a') b' := fun a' b' ha' => by
    rw [hW' a' ha']
    by_cases e : a' = a
    · subst e
      rw [if_pos rfl]
      cases hs : st t.1 with
      | true => simp
      | false =>
        simp only [Bool.false_eq_true, if_false]
        rw [b_xor, nb_bt (by omega)]
        by_cases e2 : b' = b
        · subst e2; simp
        · simp [e2]
    · rw [if_neg e, if_neg (fun z => e z.1)]
  have hup : ∀ (P : Nat × Nat → Prop) (q : Nat → Prop), (∃ i, i < t.1 + 1 ∧ q i ∧ P (upp t.2 t.1 (a, b) i)) ↔ (q t.1 ∧ P (a, b)) ∨ ∃ i, i < t.1 ∧ q i ∧ P (t.2 i) := fun P q => by
    constructor
    · rintro ⟨i, hi, hq, hp⟩
      unfold upp at hp
      by_cases e : i = t.1
      · rw [if_pos e] at hp; exact Or.inl ⟨e ▸ hq, hp⟩
      · rw [if_neg e] at hp; exact Or.inr ⟨i, by omega, hq, hp⟩
    · rintro (⟨hq, hp⟩ | ⟨i, hi, hq, hp⟩)
      · exact ⟨t.1, by omega, hq, by unfold upp; rw [if_pos rfl]; exact hp⟩
      · exact ⟨i, by omega, hq, by unfold upp; rw [if_neg (by omega)]; exact hp⟩
  refine ⟨fun a' b' ha' hp => ?_, fun a' b' ha' hp => ?_, fun i hi => ?_⟩
  · show _ ↔ ∃ i, i < t.1 + 1 ∧ st i = true ∧ upp t.2 t.1 (a, b) i = (a', b')
    rw [hup (fun p => p = (a', b')) (fun i => st i = true), hbit a' b' ha']
    by_cases e : a' = a ∧ b' = b
    · obtain ⟨rfl, rfl⟩ := e
      rw [if_pos ⟨rfl, rfl⟩, h2 a' b' ha' (by omega), hc]
      cases hs : st t.1 with
      | true => simp
      | false =>
        simp only [Bool.false_eq_true, if_false, Bool.not_true, false_and, false_or, false_iff]
        rintro ⟨i, hi, -, ei⟩
        have := (h3 i hi).1
        rw [ei] at this
        dsimp only at this
        omega
    · rw [if_neg e]
      have hne : ¬ (a, b) = (a', b') := fun z => by
        cases z
        exact e ⟨rfl, rfl⟩
      rw [h1 a' b' ha' (by omega)]
      constructor
      · exact Or.inr
      · rintro (z | z)
        · exact absurd z.2 hne
        · exact z
  · rw [hbit a' b' ha', if_neg (by omega), h2 a' b' ha' (by omega)]
  · show ((upp t.2 t.1 (a, b) i).1 < a ∨ ((upp t.2 t.1 (a, b) i).1 = a ∧ (upp t.2 t.1 (a, b) i).2 < b + 1)) ∧ (upp t.2 t.1 (a, b) i).2 < n
    unfold upp
    by_cases e : i = t.1
    · rw [if_pos e]
      exact ⟨Or.inr ⟨rfl, Nat.lt_succ_self b⟩, hb⟩
    · rw [if_neg e]
      have := h3 i (by have : i < t.1 + 1 := hi; omega)
      exact ⟨by omega, this.2⟩
theorem WS_row (hE : nt E n) (hw : WS E n st t W a n) : WS E n st t W (a + 1) 0 := by
  obtain ⟨h1, h2, h3⟩ := hw
  refine ⟨fun a' b' ha' hp => ?_, fun a' b' ha' hp => h2 a' b' ha' (by omega), fun i hi => ⟨by have := (h3 i hi).1; omega, (h3 i hi).2⟩⟩
  by_cases e : a' = a ∧ n ≤ b'
  · rw [h2 a' b' ha' (by omega)]
    constructor
    · intro z
      have := hE.2 a' ha' b' z
      omega
    · rintro ⟨i, hi, -, ei⟩
      have := (h3 i hi).2
      rw [ei] at this
      dsimp only at this
      omega
  · exact h1 a' b' ha' (by omega)
theorem WS_0 : WS E n st (0, fun _ => (0, 0)) E 0 0 := ⟨fun a' b' _ hp => by omega, fun _ _ _ _ => rfl, fun i hi => absurd hi (Nat.not_lt_zero i)⟩
theorem WS_cong {W' : Nat → Int32} (hw : WS E n st t W a b) (h : ∀ u, u < n → W' u = W u) : WS E n st t W' a b := by
  obtain ⟨h1, h2, h3⟩ := hw
  refine ⟨fun a' b' ha' hp => ?_, fun a' b' ha' hp => ?_, h3⟩
  · rw [h a' ha']; exact h1 a' b' ha' hp
  · rw [h a' ha']; exact h2 a' b' ha' hp
theorem ct_n12 (hE : nt E n) {k : Nat} (hk : k < n) : ct (E k) = fb_ct (bt (E k)) n := by
  have hn := hE.1
  unfold ct
  have e := fb_ct_split (bt (E k)) n (12 - n)
  rw [show n + (12 - n) = 12 by omega] at e
  have z : fb_ct (fun j => bt (E k) (n + j)) (12 - n) = 0 := fb_ct_zero.mpr fun j _ => by
    cases z : bt (E k) (n + j) with
    | false => rfl
    | true => have := hE.2 k hk _ z; omega
  rw [e, z, Nat.add_zero]
theorem esI_nat (hE : nt E n) : ∀ k, k ≤ n → esI E k = nI (fc (allc E) n k)
  | 0, _ => rfl
  | k + 1, hk => by
    show esI E k + nI (ct (E k)) = nI (fc (allc E) n k + fb_ct (allc E k) n)
    rw [esI_nat hE k (by omega), ct_n12 hE (by omega), nI_add]
    rfl
end MODDSM
section MODDS
variable {h : mr_h} {Q : Option Value → mr_h → Prop} {n len us m u v x : Nat} {E Ky : Nat → Int32}
theorem l_gcd {v0 v1 v2 : Value} : ∀ (b a : Nat) (v8 v9 : Value), a < 2 ^ 31 → b < 2 ^ 31 → mr_wp 171 6 [v0, v1, v2, .null, .long (lN a), .null, .long (lN b), .null, v8, v9] [] h Q = Q (some (.long (lN (Nat.gcd a b)))) h := by
  intro b
  induction b using Nat.strongRecOn with
  | _ b ih =>
    intro a v8 v9 ha hb
    rw [s_mo_gcd_6]
    by_cases b0 : b = 0
    · subst b0
      simp only [S_mo_gcd, SEL, PF, mr_gf_O, mr_rc_O, Option.toList_some, Option.toList_none, List.cons_append, List.nil_append, b2i_0, b2i_1, b2i_a, a_00, a_11, ai_n, si_n, nI_1, q_rl_bit, mr_up_at, Nat.reduceLeDiff, Nat.reduceLT, Nat.reduceEqDiff, Nat.reduceAdd, if_true, if_false, Bool.true_eq_false, Bool.false_eq_true, Bool.true_and, Bool.false_and, Bool.and_true, Bool.and_false, i_10, i_01, i_00, not_true_eq_false, not_false_eq_true, lc_eq, show (lN 0 : Int64) = 0 from rfl, if_true, Nat.gcd_zero_right]
    · have hb0 : ¬ lN b = 0 := fun z => b0 ((fb_lN_inj (a := b) (b := 0) (by omega) (by decide)).mp z)
      simp only [S_mo_gcd, SEL, PF, mr_gf_O, mr_rc_O, Option.toList_some, Option.toList_none, List.cons_append, List.nil_append, b2i_0, b2i_1, b2i_a, a_00, a_11, ai_n, si_n, nI_1, q_rl_bit, mr_up_at, Nat.reduceLeDiff, Nat.reduceLT, Nat.reduceEqDiff, Nat.reduceAdd, if_true, if_false, Bool.true_eq_false, Bool.false_eq_true, Bool.true_and, Bool.false_and, Bool.and_true, Bool.and_false, i_10, i_01, i_00, not_true_eq_false, not_false_eq_true, lc_eq, hb0, pk_lRem (show a < 2 ^ 63 by omega) (show 0 < b by omega) (show b < 2 ^ 63 by omega)]
      have hr : a % b < b := Nat.mod_lt _ (by omega)
      rw [ih (a % b) hr b _ _ hb (by omega)]
      have eg : Nat.gcd a b = Nat.gcd b (a % b) := by rw [Nat.gcd_comm a b, Nat.gcd_rec b a, Nat.gcd_comm]
      rw [eg]
theorem q_mo_gcd {a b : Nat} (ha : a < 2 ^ 31) (hb : b < 2 ^ 31) : mr_run 171 [.long (lN a), .long (lN b)] h Q = Q (some (.long (lN (Nat.gcd a b)))) h := by
  rw [r_mo_gcd]
  simp only [S_mo_gcd, SEL, PF, mr_gf_O, mr_rc_O, Option.toList_some, Option.toList_none, List.cons_append, List.nil_append, b2i_0, b2i_1, b2i_a, a_00, a_11, ai_n, si_n, nI_1, q_rl_bit, mr_up_at, Nat.reduceLeDiff, Nat.reduceLT, Nat.reduceEqDiff, Nat.reduceAdd, if_true, if_false, Bool.true_eq_false, Bool.false_eq_true, Bool.true_and, Bool.false_and, Bool.and_true, Bool.and_false, i_10, i_01, i_00, not_true_eq_false, not_false_eq_true]
  exact l_gcd b a _ _ ha hb
theorem l_mo1 {M : Nat} (hM : M ≤ 9) {x1 x2 x3 x4 : Int32} {l6 : Int64} {v11 v12 v13 v14 v15 v16 : Value} : ∀ (d k : Nat), k + d = M → mr_wp 170 93 [.ref 74, .int x1, .int x2, .int x3, .int x4, .int (nI M), .long l6, .null, .long (lN (10 ^ M)), .null, .int (nI M), v11, v12, v13, v14, v15, v16] [] h Q → mr_wp 170 72 [.ref 74, .int x1, .int x2, .int x3, .int x4, .int (nI M), .long l6, .null, .long (lN (10 ^ k)), .null, .int (nI k), v11, v12, v13, v14, v15, v16] [] h Q := by
  intro d
  induction d with
  | zero =>
    intro k hk kk
    have : k = M := by omega
    subst this
    rw [s_mo_odds_72]
    simp only [S_mo_odds_0, S_mo_odds_1, S_mo_odds_2, S_mo_odds_3, SEL, PF, mr_gf_O, mr_rc_O, Option.toList_some, Option.toList_none, List.cons_append, List.nil_append, b2i_0, b2i_1, b2i_a, a_00, a_11, ai_n, si_n, nI_1, q_rl_bit, mr_up_at, Nat.reduceLeDiff, Nat.reduceLT, Nat.reduceEqDiff, Nat.reduceAdd, if_true, if_false, Bool.true_eq_false, Bool.false_eq_true, Bool.true_and, Bool.false_and, Bool.and_true, Bool.and_false, i_10, i_01, i_00, not_true_eq_false, not_false_eq_true, if_pos (nI_le (Nat.le_refl k) (show k < 2 ^ 31 by omega))] at kk ⊢
    exact kk
  | succ d ih =>
    intro k hk kk
    have := ih (k + 1) (by omega) kk
    have e10 : (10 : Int64) = lN 10 := rfl
    rw [s_mo_odds_72]
    simp only [S_mo_odds_0, S_mo_odds_1, S_mo_odds_2, S_mo_odds_3, SEL, PF, mr_gf_O, mr_rc_O, Option.toList_some, Option.toList_none, List.cons_append, List.nil_append, b2i_0, b2i_1, b2i_a, a_00, a_11, ai_n, si_n, nI_1, q_rl_bit, mr_up_at, Nat.reduceLeDiff, Nat.reduceLT, Nat.reduceEqDiff, Nat.reduceAdd, if_true, if_false, Bool.true_eq_false, Bool.false_eq_true, Bool.true_and, Bool.false_and, Bool.and_true, Bool.and_false, i_10, i_01, i_00, not_true_eq_false, not_false_eq_true, if_neg (show ¬ nI M ≤ nI k from nI_ge (by omega) (by omega)), e10, lN_mul, ← Nat.pow_succ]
    exact this
/-- how an edge stands in a set -/
def stm (s i : Nat) : Bool := true ^^ s.testBit i
theorem l_mo4 (hE : nt E n) (hx : x ≤ 10) {M s a : Nat} {x2 x3 x4 : Int32} {l6 l8 : Int64} {S : Nat → Int32} (hS : ∀ w, w < n → S w = E w) (ha : a < n) (h9 : fc (allc E) n n ≤ 9) (hm : MN h n) (e77 : h.1 77 = mr_I 24 S) {t0 : Nat × (Nat → Nat × Nat)} (ht0 : t0.1 = fc (allc E) n a)
    (kk : ∀ h2 W v16, mr_fr h h2 [78] → h2.1 78 = mr_I 24 W → WS E n (stm s) (en2 (allc E) t0 a n) W a n → mr_wp 170 219 [.ref 74, .int (nI x), .int x2, .int x3, .int x4, .int (nI M), .long l6, .null, .long l8, .null, .int (nI s), .long (lN (wf x (10 - x) (stm s) (en2 (allc E) t0 a n).1)), .null, .int (nI (en2 (allc E) t0 a n).1), .int (nI a), .int (nI n), v16] [] h2 Q) :
    ∀ (d b : Nat) (h1 : mr_h) (W : Nat → Int32) (v16 : Value), b + d = n → mr_fr h h1 [78] → h1.1 78 = mr_I 24 W → WS E n (stm s) (en2 (allc E) t0 a b) W a b → mr_wp 170 130 [.ref 74, .int (nI x), .int x2, .int x3, .int x4, .int (nI M), .long l6, .null, .long l8, .null, .int (nI s), .long (lN (wf x (10 - x) (stm s) (en2 (allc E) t0 a b).1)), .null, .int (nI (en2 (allc E) t0 a b).1), .int (nI a), .int (nI b), v16] [] h1 Q := by
  have hn := hE.1
  intro d
  induction d with
  | zero =>
    intro b h1 W v16 hb f e78 hw
    have : b = n := by omega
    subst this
    obtain ⟨th, ty, tt, tk, pl, va, fa, dn, dr, um, sn, uf, e74⟩ := MN_fr hm f (by decide)
    have := kk h1 W v16 f e78 hw
    rw [s_mo_odds_130]
    simp only [S_mo_odds_0, S_mo_odds_1, S_mo_odds_2, S_mo_odds_3, e74, MO, SEL, PF, mr_gf_O, mr_rc_O, Option.toList_some, Option.toList_none, List.cons_append, List.nil_append, b2i_0, b2i_1, b2i_a, a_00, a_11, ai_n, si_n, nI_1, q_rl_bit, mr_up_at, Nat.reduceLeDiff, Nat.reduceLT, Nat.reduceEqDiff, Nat.reduceAdd, if_true, if_false, Bool.true_eq_false, Bool.false_eq_true, Bool.true_and, Bool.false_and, Bool.and_true, Bool.and_false, i_10, i_01, i_00, not_true_eq_false, not_false_eq_true, if_pos (nI_le (Nat.le_refl b) (show b < 2 ^ 31 by omega))] at this ⊢
    exact this
  | succ d ih =>
    intro b h1 W v16 hb f e78 hw
    have hbn : b < n := by omega
    have c1 : ¬ nI n ≤ nI b := nI_ge (by omega) (by omega)
    obtain ⟨th, ty, tt, tk, pl, va, fa, dn, dr, um, sn, uf, e74⟩ := MN_fr hm f (by decide)
    have g77 := fr_at f (by decide) e77
    have e3 : en2 (allc E) t0 a (b + 1) = if bt (E a) b then ((en2 (allc E) t0 a b).1 + 1, upp (en2 (allc E) t0 a b).2 (en2 (allc E) t0 a b).1 (a, b)) else en2 (allc E) t0 a b := rfl
    rw [s_mo_odds_130]
    simp only [S_mo_odds_0, S_mo_odds_1, S_mo_odds_2, S_mo_odds_3, e74, MO, SEL, PF, mr_gf_O, mr_rc_O, Option.toList_some, Option.toList_none, List.cons_append, List.nil_append, b2i_0, b2i_1, b2i_a, a_00, a_11, ai_n, si_n, nI_1, q_rl_bit, mr_up_at, Nat.reduceLeDiff, Nat.reduceLT, Nat.reduceEqDiff, Nat.reduceAdd, if_true, if_false, Bool.true_eq_false, Bool.false_eq_true, Bool.true_and, Bool.false_and, Bool.and_true, Bool.and_false, i_10, i_01, i_00, not_true_eq_false, not_false_eq_true, if_neg c1, g77, z_add, show a < 24 by omega, hS a ha, q_mo_has (show b < 32 by omega)]
    cases z : bt (E a) b with
    | false =>
      rw [z, if_neg (by decide)] at e3
      simp only [if_true]
      have := ih (b + 1) h1 W v16 (by omega) f e78
      rw [e3] at this
      exact this (WS_no z hw)
    | true =>
      rw [z, if_pos rfl] at e3
      simp only [Bool.true_eq_false, if_false]
      have hlt : (en2 (allc E) t0 a b).1 < 9 := by
        rw [en2_ct, ht0]
        have := fc_lt (c := allc E) ha hbn z
        omega
      have hst : stm s (en2 (allc E) t0 a b).1 = !s.testBit (en2 (allc E) t0 a b).1 := by unfold stm; simp
      have e10 : (10 : Int32) - nI x = nI (10 - x) := nI_sub (a := 10) hx
      have ewf : wf x (10 - x) (stm s) ((en2 (allc E) t0 a b).1 + 1) = wf x (10 - x) (stm s) (en2 (allc E) t0 a b).1 * (if stm s (en2 (allc E) t0 a b).1 then 10 - x else x) := rfl
      simp only [S_mo_odds_0, S_mo_odds_1, S_mo_odds_2, S_mo_odds_3, e74, MO, SEL, PF, mr_gf_O, mr_rc_O, Option.toList_some, Option.toList_none, List.cons_append, List.nil_append, b2i_0, b2i_1, b2i_a, a_00, a_11, ai_n, si_n, nI_1, q_rl_bit, mr_up_at, Nat.reduceLeDiff, Nat.reduceLT, Nat.reduceEqDiff, Nat.reduceAdd, if_true, if_false, Bool.true_eq_false, Bool.false_eq_true, Bool.true_and, Bool.false_and, Bool.and_true, Bool.and_false, i_10, i_01, i_00, not_true_eq_false, not_false_eq_true, q_mo_has (show (en2 (allc E) t0 a b).1 < 32 by omega), bt_nI (show (en2 (allc E) t0 a b).1 < 32 by omega), e78, z_add, show a < 24 by omega]
      cases z2 : s.testBit (en2 (allc E) t0 a b).1 with
      | true =>
        rw [z2] at hst
        rw [hst] at ewf
        simp only [Bool.not_true, Bool.false_eq_true, if_false] at ewf
        simp only [Bool.true_eq_false, if_false, S_mo_odds_0, S_mo_odds_1, S_mo_odds_2, S_mo_odds_3, SEL, PF, mr_gf_O, mr_rc_O, Option.toList_some, Option.toList_none, List.cons_append, List.nil_append, b2i_0, b2i_1, b2i_a, a_00, a_11, ai_n, si_n, nI_1, q_rl_bit, mr_up_at, Nat.reduceLeDiff, Nat.reduceLT, Nat.reduceEqDiff, Nat.reduceAdd, if_true, if_false, Bool.true_eq_false, Bool.false_eq_true, Bool.true_and, Bool.false_and, Bool.and_true, Bool.and_false, i_10, i_01, i_00, not_true_eq_false, not_false_eq_true, nb_def, nI_l (show x < 2 ^ 31 by omega), lN_mul, ← ewf]
        have f2 : mr_fr h1 (mr_up h1 78 (mr_I 24 (upd W a (W a ^^^ nb b)))) [78] := fr_up _ (fr_rf _ _) (by decide)
        have := fun v16 => ih (b + 1) _ (upd W a (W a ^^^ nb b)) v16 (by omega) (fr_tr f f2 (by decide)) (up_eq _ _ _)
        rw [e3] at this
        refine this _ (WS_yes hn hbn z hw (fun a' ha' => ?_))
        rw [hst]
        by_cases e : a' = a
        · subst e; rw [upd_at, if_pos rfl]; rfl
        · rw [upd_ne _ _ e, if_neg e]
      | false =>
        rw [z2] at hst
        rw [hst] at ewf
        simp only [Bool.not_false, if_true] at ewf
        have exo : W a ^^^ 0 = W a := b_ext fun i _ => by rw [b_xor, b_0]; simp
        simp only [if_true, S_mo_odds_0, S_mo_odds_1, S_mo_odds_2, S_mo_odds_3, SEL, PF, mr_gf_O, mr_rc_O, Option.toList_some, Option.toList_none, List.cons_append, List.nil_append, b2i_0, b2i_1, b2i_a, a_00, a_11, ai_n, si_n, nI_1, q_rl_bit, mr_up_at, Nat.reduceLeDiff, Nat.reduceLT, Nat.reduceEqDiff, Nat.reduceAdd, if_true, if_false, Bool.true_eq_false, Bool.false_eq_true, Bool.true_and, Bool.false_and, Bool.and_true, Bool.and_false, i_10, i_01, i_00, not_true_eq_false, not_false_eq_true, e10, nI_l (show 10 - x < 2 ^ 31 by omega), lN_mul, ← ewf, exo]
        have f2 : mr_fr h1 (mr_up h1 78 (mr_I 24 (upd W a (W a)))) [78] := fr_up _ (fr_rf _ _) (by decide)
        have := fun v16 => ih (b + 1) _ (upd W a (W a)) v16 (by omega) (fr_tr f f2 (by decide)) (up_eq _ _ _)
        rw [e3] at this
        refine this _ (WS_yes hn hbn z hw (fun a' ha' => ?_))
        rw [hst]
        by_cases e : a' = a
        · subst e; rw [upd_at, if_pos rfl]; rfl
        · rw [upd_ne _ _ e, if_neg e]
theorem l_mo3 (hE : nt E n) (hx : x ≤ 10) {M s : Nat} {x2 x3 x4 : Int32} {l6 l8 : Int64} {S : Nat → Int32} (hS : ∀ w, w < n → S w = E w) (h9 : fc (allc E) n n ≤ 9) (hm : MN h n) (e77 : h.1 77 = mr_I 24 S)
    (kk : ∀ h2 W v14 v15 v16, mr_fr h h2 [78] → h2.1 78 = mr_I 24 W → WS E n (stm s) (en1 (allc E) n n) W n 0 → mr_wp 170 225 [.ref 74, .int (nI x), .int x2, .int x3, .int x4, .int (nI M), .long l6, .null, .long l8, .null, .int (nI s), .long (lN (wf x (10 - x) (stm s) (en1 (allc E) n n).1)), .null, .int (nI (en1 (allc E) n n).1), v14, v15, v16] [] h2 Q) :
    ∀ (d a : Nat) (h1 : mr_h) (W : Nat → Int32) (v15 v16 : Value), a + d = n → mr_fr h h1 [78] → h1.1 78 = mr_I 24 W → WS E n (stm s) (en1 (allc E) n a) W a 0 → mr_wp 170 118 [.ref 74, .int (nI x), .int x2, .int x3, .int x4, .int (nI M), .long l6, .null, .long l8, .null, .int (nI s), .long (lN (wf x (10 - x) (stm s) (en1 (allc E) n a).1)), .null, .int (nI (en1 (allc E) n a).1), .int (nI a), v15, v16] [] h1 Q := by
  have hn := hE.1
  intro d
  induction d with
  | zero =>
    intro a h1 W v15 v16 ha f e78 hw
    have : a = n := by omega
    subst this
    obtain ⟨th, ty, tt, tk, pl, va, fa, dn, dr, um, sn, uf, e74⟩ := MN_fr hm f (by decide)
    have := kk h1 W (.int (nI a)) v15 v16 f e78 hw
    rw [s_mo_odds_118]
    simp only [S_mo_odds_0, S_mo_odds_1, S_mo_odds_2, S_mo_odds_3, e74, MO, SEL, PF, mr_gf_O, mr_rc_O, Option.toList_some, Option.toList_none, List.cons_append, List.nil_append, b2i_0, b2i_1, b2i_a, a_00, a_11, ai_n, si_n, nI_1, q_rl_bit, mr_up_at, Nat.reduceLeDiff, Nat.reduceLT, Nat.reduceEqDiff, Nat.reduceAdd, if_true, if_false, Bool.true_eq_false, Bool.false_eq_true, Bool.true_and, Bool.false_and, Bool.and_true, Bool.and_false, i_10, i_01, i_00, not_true_eq_false, not_false_eq_true, if_pos (nI_le (Nat.le_refl a) (show a < 2 ^ 31 by omega))] at this ⊢
    exact this
  | succ d ih =>
    intro a h1 W v15 v16 ha f e78 hw
    have c1 : ¬ nI n ≤ nI a := nI_ge (by omega) (by omega)
    have m1 := MN_fr hm f (by decide)
    obtain ⟨th, ty, tt, tk, pl, va, fa, dn, dr, um, sn, uf, e74⟩ := id m1
    rw [s_mo_odds_118]
    simp only [S_mo_odds_0, S_mo_odds_1, S_mo_odds_2, S_mo_odds_3, e74, MO, SEL, PF, mr_gf_O, mr_rc_O, Option.toList_some, Option.toList_none, List.cons_append, List.nil_append, b2i_0, b2i_1, b2i_a, a_00, a_11, ai_n, si_n, nI_1, q_rl_bit, mr_up_at, Nat.reduceLeDiff, Nat.reduceLT, Nat.reduceEqDiff, Nat.reduceAdd, if_true, if_false, Bool.true_eq_false, Bool.false_eq_true, Bool.true_and, Bool.false_and, Bool.and_true, Bool.and_false, i_10, i_01, i_00, not_true_eq_false, not_false_eq_true, if_neg c1]
    rw [← nI_0]
    refine l_mo4 (t0 := en1 (allc E) n a) hE hx hS (show a < n by omega) h9 m1 (fr_at f (by decide) e77) (en1_ct _ n a) ?_ n 0 h1 W v16 (by omega) (fr_rf _ _) e78 hw
    intro h2 W2 v16 f2 g78 hw2
    simp only [S_mo_odds_0, S_mo_odds_1, S_mo_odds_2, S_mo_odds_3, SEL, PF, mr_gf_O, mr_rc_O, Option.toList_some, Option.toList_none, List.cons_append, List.nil_append, b2i_0, b2i_1, b2i_a, a_00, a_11, ai_n, si_n, nI_1, q_rl_bit, mr_up_at, Nat.reduceLeDiff, Nat.reduceLT, Nat.reduceEqDiff, Nat.reduceAdd, if_true, if_false, Bool.true_eq_false, Bool.false_eq_true, Bool.true_and, Bool.false_and, Bool.and_true, Bool.and_false, i_10, i_01, i_00, not_true_eq_false, not_false_eq_true]
    exact ih (a + 1) h2 W2 _ _ (by omega) (fr_tr f f2 (by decide)) g78 (WS_row hE hw2)
end MODDS
