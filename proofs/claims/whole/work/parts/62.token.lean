/-! the text's tokens: a pure picture, and both readers of it -/
def lx (T : Nat → Int32) (len j : Nat) : Int32 := if j < len then T j else -1
def dgb (c : Int32) : Bool := decide (¬ c < 48 ∧ ¬ (57 : Int32) < c)
def sgb (c : Int32) : Bool := decide (c = 110 ∨ c = 101 ∨ c = 114 ∨ c = 59)
def tS (L : Nat → Int32) (a : Nat) : Nat := a + fa_first (fun k => !decide (L (a + k) = 32)) 200
def dE (L : Nat → Int32) (s : Nat) : Nat := s + fa_first (fun k => !dgb (L (s + k))) 200
def dv (c : Int32) : Nat := c.toNatClampNeg - 48
def vl (L : Nat → Int32) (s : Nat) : Nat → Nat
  | 0 => 0
  | k + 1 => if 99 < vl L s k then vl L s k else 10 * vl L s k + dv (L (s + k))
def tV (L : Nat → Int32) (a : Nat) : Nat := vl L (tS L a) (dE L (tS L a) - tS L a)
def tT (L : Nat → Int32) (a : Nat) : Int32 := if L (tS L a) < 0 then -2 else if dgb (L (tS L a)) then (if (L (tS L a) = 48 ∧ 1 < dE L (tS L a) - tS L a) ∨ 99 < tV L a then -1 else 48) else if sgb (L (tS L a)) then L (tS L a) else -1
def tE (L : Nat → Int32) (a : Nat) : Nat := if L (tS L a) < 0 then tS L a else if dgb (L (tS L a)) then dE L (tS L a) else tS L a + 1
/-- the reference's word for a token -/
def kd (t : Int32) : Int32 := if t = -2 then 0 else if t = 48 then 2 else if t = 59 then 3 else if t = -1 then 4 else 1
section TOKENS
variable {T : Nat → Int32} {len a s e : Nat}
theorem nI_mulN (a b : Nat) : nI a * nI b = nI (a * b) := (Int32.ofNat_mul a b).symm
theorem lx_in (h : a < len) : lx T len a = T a := if_pos h
theorem lx_out (h : len ≤ a) : lx T len a = -1 := if_neg (by omega)
theorem dg_nI {c : Int32} (h : dgb c = true) : ∃ d, d ≤ 9 ∧ c = nI (48 + d) := by
  unfold dgb at h
  simp only [decide_eq_true_eq] at h
  have h0 : ¬ c < 0 := fun z => h.1 (by
    rw [fa_lt] at z ⊢
    have e1 : (0 : Int32).toInt = 0 := rfl
    have e2 : (48 : Int32).toInt = 48 := rfl
    omega)
  obtain ⟨j, hj, rfl⟩ := nI_of h0
  have h1 : 48 ≤ j := by
    rcases Nat.lt_or_ge j 48 with z | z
    · exact absurd (nI_lt (b := 48) z (by decide)) h.1
    · exact z
  have h2 : j ≤ 57 := by
    rcases Nat.lt_or_ge 57 j with z | z
    · exact absurd (nI_lt (a := 57) z hj) h.2
    · exact z
  exact ⟨j - 48, by omega, by rw [show 48 + (j - 48) = j by omega]⟩
theorem dv_nI {d : Nat} (h : d ≤ 9) : dv (nI (48 + d)) = d := by
  unfold dv
  rw [nI_clamp (by omega)]
  omega
theorem dgb_m1 : dgb (-1) = false := by decide
theorem vl_le (L : Nat → Int32) (s : Nat) : ∀ k, (∀ j, j < k → dgb (L (s + j)) = true) → vl L s k ≤ 999
  | 0, _ => Nat.zero_le _
  | k + 1, h => by
    have ih := vl_le L s k (fun j hj => h j (by omega))
    obtain ⟨d, hd, e⟩ := dg_nI (h k (by omega))
    unfold vl
    rw [e, dv_nI hd]
    split
    · exact ih
    · omega
theorem tS_in (hl : len ≤ 120) (ha : a ≤ len) : a ≤ tS (lx T len) a ∧ tS (lx T len) a ≤ len ∧ (∀ j, a ≤ j → j < tS (lx T len) a → lx T len j = 32) ∧ ¬ lx T len (tS (lx T len) a) = 32 := by
  unfold tS
  generalize hf : fa_first (fun k => !decide (lx T len (a + k) = 32)) 200 = f
  have no := fa_first_no (fun k => !decide (lx T len (a + k) = 32)) 200
  have yes := fa_first_yes (fun k => !decide (lx T len (a + k) = 32)) 200
  rw [hf] at no yes
  have hle : f ≤ len - a := by
    rcases Nat.lt_or_ge (len - a) f with z | z
    · have := no _ z
      rw [show a + (len - a) = len by omega, lx_out (Nat.le_refl len)] at this
      exact absurd this (by decide)
    · exact z
  have := yes (by omega)
  refine ⟨by omega, by omega, fun j h1 h2 => ?_, by simpa using this⟩
  have := no (j - a) (by omega)
  rw [show a + (j - a) = j by omega] at this
  simpa using this
theorem dE_in (hl : len ≤ 120) (hs : s ≤ len) : s ≤ dE (lx T len) s ∧ dE (lx T len) s ≤ len ∧ (∀ j, s ≤ j → j < dE (lx T len) s → dgb (lx T len j) = true) ∧ dgb (lx T len (dE (lx T len) s)) = false := by
  unfold dE
  generalize hf : fa_first (fun k => !dgb (lx T len (s + k))) 200 = f
  have no := fa_first_no (fun k => !dgb (lx T len (s + k))) 200
  have yes := fa_first_yes (fun k => !dgb (lx T len (s + k))) 200
  rw [hf] at no yes
  have hle : f ≤ len - s := by
    rcases Nat.lt_or_ge (len - s) f with z | z
    · have := no _ z
      rw [show s + (len - s) = len by omega, lx_out (Nat.le_refl len), dgb_m1] at this
      exact absurd this (by decide)
    · exact z
  have := yes (by omega)
  refine ⟨by omega, by omega, fun j h1 h2 => ?_, by simpa using this⟩
  have := no (j - s) (by omega)
  rw [show s + (j - s) = j by omega] at this
  simpa using this
theorem dg_lt (h : dgb (lx T len a) = true) : a < len := by
  rcases Nat.lt_or_ge a len with z | z
  · exact z
  · rw [lx_out z, dgb_m1] at h
    exact absurd h (by decide)
theorem dE_gt (hl : len ≤ 120) (hs : dgb (lx T len s) = true) : s < dE (lx T len) s := by
  have h := dE_in (T := T) hl (Nat.le_of_lt (dg_lt hs))
  rcases Nat.lt_or_ge s (dE (lx T len) s) with z | z
  · exact z
  · have e : dE (lx T len) s = s := by omega
    rw [e, hs] at h
    exact absurd h.2.2.2 (by decide)
theorem neg_len (hb : ∀ j, j < len → ¬ T j < 0) (hs : s ≤ len) (h : lx T len s < 0) : s = len := by
  rcases Nat.lt_or_ge s len with z | z
  · rw [lx_in z] at h
    exact absurd h (hb s z)
  · omega
theorem tE_in (hl : len ≤ 120) (ha : a ≤ len) (hb : ∀ j, j < len → ¬ T j < 0) : tS (lx T len) a ≤ tE (lx T len) a ∧ tE (lx T len) a ≤ len ∧ (¬ tT (lx T len) a = -2 → tS (lx T len) a < tE (lx T len) a) := by
  obtain ⟨h1, h2, h3, h4⟩ := tS_in (T := T) hl ha
  unfold tE tT
  by_cases c1 : lx T len (tS (lx T len) a) < 0
  · rw [if_pos c1, if_pos c1]
    exact ⟨Nat.le_refl _, h2, fun z => absurd rfl z⟩
  · rw [if_neg c1, if_neg c1]
    cases c2 : dgb (lx T len (tS (lx T len) a)) with
    | true =>
      have := dE_gt hl c2
      have := dE_in (T := T) hl h2
      exact ⟨by simpa using this.1, by simpa using this.2.1, fun _ => by simpa using dE_gt hl c2⟩
    | false =>
      have : tS (lx T len) a < len := by
        rcases Nat.lt_or_ge (tS (lx T len) a) len with z | z
        · exact z
        · rw [lx_out z] at c1
          exact absurd (by decide : (-1 : Int32) < 0) c1
      simp only [Bool.false_eq_true, if_false]
      exact ⟨by omega, by omega, fun _ => by omega⟩
theorem tV_99 (h : tT (lx T len) a = 48) : tV (lx T len) a ≤ 99 := by
  unfold tT at h
  split at h
  · exact absurd h (by decide)
  · split at h
    · split at h
      · exact absurd h (by decide)
      · rename_i z
        omega
    · rename_i z1 z2
      split at h
      · rename_i z3
        rw [h] at z3
        exact absurd z3 (by decide)
      · exact absurd h (by decide)
end TOKENS
section READERS
variable {h : mr_h} {Q : Option Value → mr_h → Prop} {T : Nat → Int32} {len : Nat}
theorem q_sc_isDigit (c : Int32) : mr_run 32 [.int c] h Q = Q (some (.int (b2i (dgb c)))) h := by
  rw [r_sc_isDigit]
  simp only [S_sc_isDigit, a_00, a_11]
  unfold dgb
  by_cases h1 : c < 48
  · simp [h1, b2i]
  · by_cases h2 : (57 : Int32) < c <;> simp [h1, h2, b2i]
theorem q_sc_isSign (c : Int32) : mr_run 33 [.int c] h Q = Q (some (.int (b2i (sgb c)))) h := by
  rw [r_sc_isSign]
  simp only [S_sc_isSign, a_00, a_11]
  unfold sgb
  by_cases h1 : c = 110
  · simp [h1, b2i]
  · by_cases h2 : c = 101
    · simp [h2, b2i]
    · by_cases h3 : c = 114
      · simp [h3, b2i]
      · by_cases h4 : c = 59 <;> simp [h1, h2, h3, h4, b2i]
theorem l_rt0 (hl : len ≤ 120) (e8 : h.1 8 = mr_I 120 T) {s : Nat} (hs : s ≤ len) (hne : ¬ lx T len s = 32) {b c d e : Int32} {v1 v2 : Value} (kk : ∀ h2, mr_fr h h2 [7] → h2.1 7 = SC len (nI s) b c d e → mr_wp 31 38 [.ref 7, v1, v2] [] h2 Q) : ∀ (k a : Nat) (h1 : mr_h), a + k = s → (∀ j, a ≤ j → j < s → lx T len j = 32) → mr_fr h h1 [7] → h1.1 7 = SC len (nI a) b c d e → mr_wp 31 0 [.ref 7, v1, v2] [] h1 Q := by
  intro k
  induction k with
  | zero =>
    intro a h1 hk _ f e7
    have : a = s := by omega
    subst this
    have g8 := fr_at f (by decide) e8
    rw [s_sc_readToken_0]
    by_cases z : a < len
    · rw [lx_in z] at hne
      have := kk h1 f e7
      simp only [S_sc_readToken_0, S_sc_readToken_1, S_sc_readToken_2, e7, SC, SEL, PF, mr_gf_O, mr_rc_O, Option.toList_some, Option.toList_none, List.cons_append, List.nil_append, b2i_0, b2i_1, b2i_a, a_00, a_11, ai_n, si_n, nI_1, q_rl_bit, mr_up_at, Nat.reduceLeDiff, Nat.reduceLT, Nat.reduceEqDiff, Nat.reduceAdd, if_true, if_false, Bool.true_eq_false, Bool.false_eq_true, Bool.true_and, Bool.false_and, Bool.and_true, Bool.and_false, i_10, i_01, i_00, not_true_eq_false, not_false_eq_true, if_neg (show ¬ nI len ≤ nI a from nI_ge z (by omega)), g8, show a < 120 by omega, if_pos hne] at this ⊢
      exact this
    · have := kk h1 f e7
      simp only [S_sc_readToken_0, S_sc_readToken_1, S_sc_readToken_2, e7, SC, SEL, PF, mr_gf_O, mr_rc_O, Option.toList_some, Option.toList_none, List.cons_append, List.nil_append, b2i_0, b2i_1, b2i_a, a_00, a_11, ai_n, si_n, nI_1, q_rl_bit, mr_up_at, Nat.reduceLeDiff, Nat.reduceLT, Nat.reduceEqDiff, Nat.reduceAdd, if_true, if_false, Bool.true_eq_false, Bool.false_eq_true, Bool.true_and, Bool.false_and, Bool.and_true, Bool.and_false, i_10, i_01, i_00, not_true_eq_false, not_false_eq_true, if_pos (show nI len ≤ nI a from nI_le (by omega) (by omega))] at this ⊢
      exact this
  | succ k ih =>
    intro a h1 hk hbl f e7
    have g8 := fr_at f (by decide) e8
    have ha := hbl a (Nat.le_refl a) (by omega)
    have z : a < len := by
      rcases Nat.lt_or_ge a len with z | z
      · exact z
      · rw [lx_out z] at ha
        exact absurd ha (by decide)
    rw [lx_in z] at ha
    rw [s_sc_readToken_0]
    simp only [S_sc_readToken_0, S_sc_readToken_1, S_sc_readToken_2, e7, SC, SEL, PF, mr_gf_O, mr_rc_O, Option.toList_some, Option.toList_none, List.cons_append, List.nil_append, b2i_0, b2i_1, b2i_a, a_00, a_11, ai_n, si_n, nI_1, q_rl_bit, mr_up_at, Nat.reduceLeDiff, Nat.reduceLT, Nat.reduceEqDiff, Nat.reduceAdd, if_true, if_false, Bool.true_eq_false, Bool.false_eq_true, Bool.true_and, Bool.false_and, Bool.and_true, Bool.and_false, i_10, i_01, i_00, not_true_eq_false, not_false_eq_true, if_neg (show ¬ nI len ≤ nI a from nI_ge z (by omega)), g8, show a < 120 by omega, ha]
    exact ih (a + 1) _ (by omega) (fun j h1 h2 => hbl j (by omega) h2) (fr_up _ f (by decide)) (up_eq _ _ _)
theorem l_rt1 (hl : len ≤ 120) (e8 : h.1 8 = mr_I 120 T) {s e : Nat} (he : e ≤ len) (hd : ∀ j, s ≤ j → j < e → dgb (lx T len j) = true) (hnd : dgb (lx T len e) = false) {b c r : Int32} {v1 v2 : Value} (kk : ∀ h2, mr_fr h h2 [7] → h2.1 7 = SC len (nI e) b c (nI (min (vl (lx T len) s (e - s)) 100)) r → mr_wp 31 184 [.ref 7, v1, v2] [] h2 Q) : ∀ (d k : Nat) (h1 : mr_h), s + k + d = e → mr_fr h h1 [7] → h1.1 7 = SC len (nI (s + k)) b c (nI (min (vl (lx T len) s k) 100)) r → mr_wp 31 116 [.ref 7, v1, v2] [] h1 Q := by
  intro d
  induction d with
  | zero =>
    intro k h1 hk f e7
    have : e = s + k := by omega
    subst this
    have g8 := fr_at f (by decide) e8
    have kk' := kk h1 f (by rw [show s + k - s = k by omega]; exact e7)
    rw [s_sc_readToken_116]
    by_cases z : s + k < len
    · rw [lx_in z] at hnd
      simp only [S_sc_readToken_0, S_sc_readToken_1, S_sc_readToken_2, e7, SC, SEL, PF, mr_gf_O, mr_rc_O, Option.toList_some, Option.toList_none, List.cons_append, List.nil_append, b2i_0, b2i_1, b2i_a, a_00, a_11, ai_n, si_n, nI_1, q_rl_bit, mr_up_at, Nat.reduceLeDiff, Nat.reduceLT, Nat.reduceEqDiff, Nat.reduceAdd, if_true, if_false, Bool.true_eq_false, Bool.false_eq_true, Bool.true_and, Bool.false_and, Bool.and_true, Bool.and_false, i_10, i_01, i_00, not_true_eq_false, not_false_eq_true, if_neg (show ¬ nI len ≤ nI (s + k) from nI_ge z (by omega)), g8, show s + k < 120 by omega, q_sc_isDigit, hnd] at kk' ⊢
      exact kk'
    · simp only [S_sc_readToken_0, S_sc_readToken_1, S_sc_readToken_2, e7, SC, SEL, PF, mr_gf_O, mr_rc_O, Option.toList_some, Option.toList_none, List.cons_append, List.nil_append, b2i_0, b2i_1, b2i_a, a_00, a_11, ai_n, si_n, nI_1, q_rl_bit, mr_up_at, Nat.reduceLeDiff, Nat.reduceLT, Nat.reduceEqDiff, Nat.reduceAdd, if_true, if_false, Bool.true_eq_false, Bool.false_eq_true, Bool.true_and, Bool.false_and, Bool.and_true, Bool.and_false, i_10, i_01, i_00, not_true_eq_false, not_false_eq_true, if_pos (show nI len ≤ nI (s + k) from nI_le (by omega) (by omega))] at kk' ⊢
      exact kk'
  | succ d ih =>
    intro k h1 hk f e7
    have g8 := fr_at f (by decide) e8
    have hdk := hd (s + k) (by omega) (by omega)
    have z : s + k < len := by omega
    obtain ⟨x, hx, ex⟩ := dg_nI hdk
    have hv := vl_le (lx T len) s k (fun j hj => hd (s + j) (by omega) (by omega))
    have ev : vl (lx T len) s (k + 1) = if 99 < vl (lx T len) s k then vl (lx T len) s k else 10 * vl (lx T len) s k + x := by
      show (if 99 < vl (lx T len) s k then vl (lx T len) s k else 10 * vl (lx T len) s k + dv (lx T len (s + k))) = _
      rw [ex, dv_nI hx]
    have hdk' := hdk
    rw [lx_in z] at ex hdk'
    have e48 : (48 : Int32) = nI 48 := rfl
    have e10 : (10 : Int32) = nI 10 := rfl
    have e100 : (100 : Int32) = nI 100 := rfl
    have q := nI_sub (a := 10 * min (vl (lx T len) s k) 100 + (48 + x)) (b := 48) (by omega)
    rw [s_sc_readToken_116]
    simp only [S_sc_readToken_0, S_sc_readToken_1, S_sc_readToken_2, e7, SC, SEL, PF, mr_gf_O, mr_rc_O, Option.toList_some, Option.toList_none, List.cons_append, List.nil_append, b2i_0, b2i_1, b2i_a, a_00, a_11, ai_n, si_n, nI_1, q_rl_bit, mr_up_at, Nat.reduceLeDiff, Nat.reduceLT, Nat.reduceEqDiff, Nat.reduceAdd, if_true, if_false, Bool.true_eq_false, Bool.false_eq_true, Bool.true_and, Bool.false_and, Bool.and_true, Bool.and_false, i_10, i_01, i_00, not_true_eq_false, not_false_eq_true, if_neg (show ¬ nI len ≤ nI (s + k) from nI_ge z (by omega)), g8, show s + k < 120 by omega, q_sc_isDigit, hdk']
    rw [ex, e48, e10, e100, nI_mulN, nI_add, q]
    have em : (if nI 100 < nI (10 * min (vl (lx T len) s k) 100 + (48 + x) - 48) then nI 100 else nI (10 * min (vl (lx T len) s k) 100 + (48 + x) - 48)) = nI (min (vl (lx T len) s (k + 1)) 100) := by
      rw [ev]
      by_cases c1 : 99 < vl (lx T len) s k
      · rw [if_pos c1, if_pos (nI_lt (by omega) (by omega))]
        exact congrArg nI (by omega)
      · rw [if_neg c1]
        by_cases c2 : 100 < 10 * vl (lx T len) s k + x
        · rw [if_pos (nI_lt (by omega) (by omega))]
          exact congrArg nI (by omega)
        · rw [if_neg (nI_nlt (by omega) (by omega))]
          exact congrArg nI (by omega)
    rw [em]
    exact ih (k + 1) _ (by omega) (fr_up _ (fr_up _ f (by decide)) (by decide)) (up_eq _ _ _)
theorem q_sc_readToken (hl : len ≤ 120) (e8 : h.1 8 = mr_I 120 T) {a : Nat} (ha : a ≤ len) (hb : ∀ j, j < len → ¬ T j < 0) {b c d r : Int32} (e7 : h.1 7 = SC len (nI a) b c d r) (kk : ∀ h2 va, mr_fr h h2 [7] → h2.1 7 = SC len (nI (tE (lx T len) a)) (nI (tS (lx T len) a)) (tT (lx T len) a) va r → (tT (lx T len) a = 48 → va = nI (tV (lx T len) a)) → Q none h2) : mr_run 31 [.ref 7] h Q := by
  obtain ⟨h1, h2, h3, h4⟩ := tS_in (T := T) hl ha
  have hE : tE (lx T len) a = if lx T len (tS (lx T len) a) < 0 then tS (lx T len) a else if dgb (lx T len (tS (lx T len) a)) then dE (lx T len) (tS (lx T len) a) else tS (lx T len) a + 1 := rfl
  have hT : tT (lx T len) a = if lx T len (tS (lx T len) a) < 0 then -2 else if dgb (lx T len (tS (lx T len) a)) then (if (lx T len (tS (lx T len) a) = 48 ∧ 1 < dE (lx T len) (tS (lx T len) a) - tS (lx T len) a) ∨ 99 < tV (lx T len) a then -1 else 48) else if sgb (lx T len (tS (lx T len) a)) then lx T len (tS (lx T len) a) else -1 := rfl
  have hV : tV (lx T len) a = vl (lx T len) (tS (lx T len) a) (dE (lx T len) (tS (lx T len) a) - tS (lx T len) a) := rfl
  generalize hs : tS (lx T len) a = s at *
  rw [r_sc_readToken]
  refine l_rt0 hl e8 h2 h4 ?_ (s - a) a h (by omega) h3 (fr_rf _ _) e7
  intro h5 f5 g7
  have g8 := fr_at f5 (by decide) e8
  by_cases z : s < len
  · have hn0 : ¬ lx T len s < 0 := by rw [lx_in z]; exact hb s z
    rw [if_neg hn0] at hE hT
    simp only [S_sc_readToken_0, S_sc_readToken_1, S_sc_readToken_2, g7, SC, SEL, PF, mr_gf_O, mr_rc_O, Option.toList_some, Option.toList_none, List.cons_append, List.nil_append, b2i_0, b2i_1, b2i_a, a_00, a_11, ai_n, si_n, nI_1, q_rl_bit, mr_up_at, Nat.reduceLeDiff, Nat.reduceLT, Nat.reduceEqDiff, Nat.reduceAdd, if_true, if_false, Bool.true_eq_false, Bool.false_eq_true, Bool.true_and, Bool.false_and, Bool.and_true, Bool.and_false, i_10, i_01, i_00, not_true_eq_false, not_false_eq_true, if_pos (show nI s < nI len from nI_lt z (by omega)), g8, show s < 120 by omega, q_sc_isDigit]
    rw [show T s = lx T len s from (lx_in z).symm]
    cases hd : dgb (lx T len s) with
    | false =>
      rw [hd, if_neg (by decide)] at hE hT
      simp only [S_sc_readToken_0, S_sc_readToken_1, S_sc_readToken_2, SEL, PF, mr_gf_O, mr_rc_O, Option.toList_some, Option.toList_none, List.cons_append, List.nil_append, b2i_0, b2i_1, b2i_a, a_00, a_11, ai_n, si_n, nI_1, q_rl_bit, mr_up_at, Nat.reduceLeDiff, Nat.reduceLT, Nat.reduceEqDiff, Nat.reduceAdd, if_true, if_false, Bool.true_eq_false, Bool.false_eq_true, Bool.true_and, Bool.false_and, Bool.and_true, Bool.and_false, i_10, i_01, i_00, not_true_eq_false, not_false_eq_true, q_sc_isSign]
      have kk' := fun h2 va f e => kk h2 va f e (fun z => by
        rw [hT] at z
        split at z
        · rename_i z2
          rw [z] at z2
          exact absurd z2 (by decide)
        · exact absurd z (by decide))
      rw [hE, hT] at kk'
      cases hg : sgb (lx T len s) with
      | false =>
        rw [hg, if_neg (by decide)] at kk'
        simp only [S_sc_readToken_0, S_sc_readToken_1, S_sc_readToken_2, SEL, PF, mr_gf_O, mr_rc_O, Option.toList_some, Option.toList_none, List.cons_append, List.nil_append, b2i_0, b2i_1, b2i_a, a_00, a_11, ai_n, si_n, nI_1, q_rl_bit, mr_up_at, Nat.reduceLeDiff, Nat.reduceLT, Nat.reduceEqDiff, Nat.reduceAdd, if_true, if_false, Bool.true_eq_false, Bool.false_eq_true, Bool.true_and, Bool.false_and, Bool.and_true, Bool.and_false, i_10, i_01, i_00, not_true_eq_false, not_false_eq_true]
        exact kk' _ d (fr_up _ (fr_up _ (fr_up _ f5 (by decide)) (by decide)) (by decide)) (up_eq _ _ _)
      | true =>
        rw [hg, if_pos rfl] at kk'
        simp only [S_sc_readToken_0, S_sc_readToken_1, S_sc_readToken_2, SEL, PF, mr_gf_O, mr_rc_O, Option.toList_some, Option.toList_none, List.cons_append, List.nil_append, b2i_0, b2i_1, b2i_a, a_00, a_11, ai_n, si_n, nI_1, q_rl_bit, mr_up_at, Nat.reduceLeDiff, Nat.reduceLT, Nat.reduceEqDiff, Nat.reduceAdd, if_true, if_false, Bool.true_eq_false, Bool.false_eq_true, Bool.true_and, Bool.false_and, Bool.and_true, Bool.and_false, i_10, i_01, i_00, not_true_eq_false, not_false_eq_true]
        exact kk' _ d (fr_up _ (fr_up _ (fr_up _ f5 (by decide)) (by decide)) (by decide)) (up_eq _ _ _)
    | true =>
      rw [hd, if_pos rfl] at hE hT
      obtain ⟨x, hx, ex⟩ := dg_nI hd
      obtain ⟨d1, d2, d3, d4⟩ := dE_in (T := T) hl h2
      have dgt := dE_gt hl hd
      generalize hee : dE (lx T len) s = e at *
      have e48 : (48 : Int32) = nI 48 := rfl
      have q := nI_sub (a := 48 + x) (b := 48) (by omega)
      have ev : vl (lx T len) s 1 = x := by
        have e1 : vl (lx T len) s 1 = if 99 < vl (lx T len) s 0 then vl (lx T len) s 0 else 10 * vl (lx T len) s 0 + dv (lx T len (s + 0)) := rfl
        rw [e1, if_neg (show ¬ 99 < vl (lx T len) s 0 from (by decide : ¬ 99 < 0)), Nat.add_zero, ex, dv_nI hx]
        show 10 * 0 + x = x
        omega
      have e1 : lx T len s - 48 = nI (min (vl (lx T len) s 1) 100) := by
        rw [ex, e48, q, ev]
        exact congrArg nI (by omega)
      simp only [S_sc_readToken_0, S_sc_readToken_1, S_sc_readToken_2, SEL, PF, mr_gf_O, mr_rc_O, Option.toList_some, Option.toList_none, List.cons_append, List.nil_append, b2i_0, b2i_1, b2i_a, a_00, a_11, ai_n, si_n, nI_1, q_rl_bit, mr_up_at, Nat.reduceLeDiff, Nat.reduceLT, Nat.reduceEqDiff, Nat.reduceAdd, if_true, if_false, Bool.true_eq_false, Bool.false_eq_true, Bool.true_and, Bool.false_and, Bool.and_true, Bool.and_false, i_10, i_01, i_00, not_true_eq_false, not_false_eq_true, e1]
      refine l_rt1 (s := s) (e := e) hl (show _ = mr_I 120 T by simp only [mr_up_at, Nat.reduceEqDiff, if_false]; exact g8) d2 d3 d4 ?_ (e - (s + 1)) 1 _ (by omega) (fr_rf _ _) (up_eq _ _ _)
      intro h6 f6 k7
      rw [← hV] at k7
      have F6 : mr_fr h h6 [7] := fr_tr (fr_up _ (fr_up _ (fr_up _ f5 (by decide)) (by decide)) (by decide)) f6 (by decide)
      have hv9 : vl (lx T len) s (e - s) ≤ 999 := vl_le _ _ _ (fun j hj => d3 (s + j) (by omega) (by omega))
      rw [← hV] at hv9
      rw [hE, hT] at kk
      generalize tV (lx T len) a = V at *
      have c99 : (nI (min (V) 100) ≤ 99) = (V ≤ 99) := propext (by
        rw [show (99 : Int32) = nI 99 from rfl, nI_leI (by omega) (by decide)]
        omega)
      have wr : 99 < V ∨ (lx T len s = 48 ∧ 1 < e - s) → Q none (mr_up h6 7 (SC len (nI e) (nI s) (-1) (nI (min (V) 100)) r)) := fun z => by
        rw [if_pos (by rcases z with z | z; exact Or.inr z; exact Or.inl z)] at kk
        exact kk _ _ (fr_up _ F6 (by decide)) (up_eq _ _ _) (fun z => absurd z (by decide))
      have ok : V ≤ 99 → ¬ (lx T len s = 48 ∧ 1 < e - s) → Q none (mr_up h6 7 (SC len (nI e) (nI s) 48 (nI (min (V) 100)) r)) := fun z1 z2 => by
        rw [if_neg (by rintro (z | z); exact z2 z; omega)] at kk
        exact kk _ _ (fr_up _ F6 (by decide)) (up_eq _ _ _) (fun _ => congrArg nI (by omega))
      have fin : ¬ (lx T len s = 48 ∧ 1 < e - s) → (if V ≤ 99 then Q none (mr_up h6 7 (SC len (nI e) (nI s) 48 (nI (min (V) 100)) r)) else Q none (mr_up h6 7 (SC len (nI e) (nI s) (-1) (nI (min (V) 100)) r))) := fun z => by
        by_cases c : V ≤ 99
        · rw [if_pos c]; exact ok c z
        · rw [if_neg c]; exact wr (Or.inl (by omega))
      by_cases c48 : lx T len s = 48
      · by_cases c1 : e - s ≤ 1
        · simp only [S_sc_readToken_0, S_sc_readToken_1, S_sc_readToken_2, SEL, PF, mr_gf_O, mr_rc_O, Option.toList_some, Option.toList_none, List.cons_append, List.nil_append, b2i_0, b2i_1, b2i_a, a_00, a_11, ai_n, si_n, nI_1, q_rl_bit, mr_up_at, Nat.reduceLeDiff, Nat.reduceLT, Nat.reduceEqDiff, Nat.reduceAdd, if_true, if_false, Bool.true_eq_false, Bool.false_eq_true, Bool.true_and, Bool.false_and, Bool.and_true, Bool.and_false, i_10, i_01, i_00, not_true_eq_false, not_false_eq_true, k7, SC, c48, nI_sub d1, if_pos (show nI (e - s) ≤ 1 from nI_le (b := 1) c1 (by decide)), c99]
          have := fin (fun z => by omega)
          simpa only [SC] using this
        · simp only [S_sc_readToken_0, S_sc_readToken_1, S_sc_readToken_2, SEL, PF, mr_gf_O, mr_rc_O, Option.toList_some, Option.toList_none, List.cons_append, List.nil_append, b2i_0, b2i_1, b2i_a, a_00, a_11, ai_n, si_n, nI_1, q_rl_bit, mr_up_at, Nat.reduceLeDiff, Nat.reduceLT, Nat.reduceEqDiff, Nat.reduceAdd, if_true, if_false, Bool.true_eq_false, Bool.false_eq_true, Bool.true_and, Bool.false_and, Bool.and_true, Bool.and_false, i_10, i_01, i_00, not_true_eq_false, not_false_eq_true, k7, SC, c48, nI_sub d1, if_neg (show ¬ nI (e - s) ≤ 1 from nI_ge (a := 1) (by omega) (by omega)), c99]
          have := wr (Or.inr ⟨c48, by omega⟩)
          simpa only [SC] using this
      · simp only [S_sc_readToken_0, S_sc_readToken_1, S_sc_readToken_2, SEL, PF, mr_gf_O, mr_rc_O, Option.toList_some, Option.toList_none, List.cons_append, List.nil_append, b2i_0, b2i_1, b2i_a, a_00, a_11, ai_n, si_n, nI_1, q_rl_bit, mr_up_at, Nat.reduceLeDiff, Nat.reduceLT, Nat.reduceEqDiff, Nat.reduceAdd, if_true, if_false, Bool.true_eq_false, Bool.false_eq_true, Bool.true_and, Bool.false_and, Bool.and_true, Bool.and_false, i_10, i_01, i_00, not_true_eq_false, not_false_eq_true, k7, SC, if_pos c48, c99]
        have := fin (fun z => c48 z.1)
        simpa only [SC] using this
  · have es : s = len := by omega
    have hn0 : lx T len s < 0 := by rw [lx_out (by omega)]; decide
    rw [if_pos hn0] at hE hT
    rw [hE, hT] at kk
    simp only [S_sc_readToken_0, S_sc_readToken_1, S_sc_readToken_2, g7, SC, SEL, PF, mr_gf_O, mr_rc_O, Option.toList_some, Option.toList_none, List.cons_append, List.nil_append, b2i_0, b2i_1, b2i_a, a_00, a_11, ai_n, si_n, nI_1, q_rl_bit, mr_up_at, Nat.reduceLeDiff, Nat.reduceLT, Nat.reduceEqDiff, Nat.reduceAdd, if_true, if_false, Bool.true_eq_false, Bool.false_eq_true, Bool.true_and, Bool.false_and, Bool.and_true, Bool.and_false, i_10, i_01, i_00, not_true_eq_false, not_false_eq_true, if_neg (show ¬ nI s < nI len from nI_nlt (by omega) (by omega))]
    exact kk _ d (fr_up _ (fr_up _ f5 (by decide)) (by decide)) (up_eq _ _ _) (fun z => absurd z (by decide))
end READERS
