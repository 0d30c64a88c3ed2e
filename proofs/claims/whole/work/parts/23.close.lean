/-! closing rows: ReachLabels.close, the reference's comesBy -/
theorem or_self32 (x : Int32) : x ||| x = x := b_ext fun i _ => by rw [b_or, Bool.or_self]
theorem upd_ext {f g : Nat → Int32} {k : Nat} {x : Int32} (h1 : x = g k) (h2 : ∀ j, j ≠ k → f j = g j) : upd f k x = g := by
  funext j
  unfold upd
  by_cases e : j = k
  · subst e; simp [h1]
  · simp [e, h2 j e]
theorem lt_s_ne {j k : Nat} (e : j ≠ k) : (j < k + 1) = (j < k) := propext (by omega)
/-- the array behind k nodes; behind i rows of the next -/
def gk (f : Nat → Int32) (n k : Nat) : Nat → Int32 := fun j => if j < n then cl (fun u => f u ||| nb u) k j else f j
def gi (f : Nat → Int32) (n k i : Nat) : Nat → Int32 := fun j => if j < i then gk f n (k + 1) j else gk f n k j
theorem cl_kk (f : Nat → Int32) (k : Nat) : cl f (k + 1) k = cl f k k := by
  show cw k (cl f k) k = _
  unfold cw
  split
  · exact or_self32 _
  · rfl
theorem gk_kk {f : Nat → Int32} {n k : Nat} : gk f n (k + 1) k = gk f n k k := by
  unfold gk
  rw [cl_kk]
theorem gi_k (f : Nat → Int32) (n k i : Nat) : gi f n k i k = gk f n k k := by
  unfold gi
  split
  · exact gk_kk
  · rfl
theorem gi_i (f : Nat → Int32) (n k i : Nat) : gi f n k i i = gk f n k i := by
  unfold gi
  rw [if_neg (Nat.lt_irrefl i)]
theorem gi_0 (f : Nat → Int32) (n k : Nat) : gi f n k 0 = gk f n k := rfl
theorem gi_n (f : Nat → Int32) (n k : Nat) : gi f n k n = gk f n (k + 1) := by
  funext j
  unfold gi
  split
  · rfl
  · rename_i e
    unfold gk
    rw [if_neg e, if_neg e]
theorem gi_yes {f : Nat → Int32} {n k i : Nat} (hi : i < n) (hk : k < n) (hb : bt (gk f n k i) k = true) : upd (gi f n k i) i (gk f n k i ||| gk f n k k) = gi f n k (i + 1) := by
  refine upd_ext ?_ (fun j e => ?_)
  · unfold gi
    rw [if_pos (Nat.lt_succ_self i)]
    unfold gk at hb ⊢
    rw [if_pos hi] at hb ⊢
    rw [if_pos hk, if_pos hi]
    show _ = cw k _ i
    unfold cw
    rw [if_pos hb]
  · unfold gi
    simp only [lt_s_ne e]
theorem gi_no {f : Nat → Int32} {n k i : Nat} (hi : i < n) (hb : bt (gk f n k i) k = false) : gi f n k (i + 1) = gi f n k i := by
  funext j
  by_cases e : j = i
  · subst e
    rw [gi_i]
    unfold gi
    rw [if_pos (Nat.lt_succ_self j)]
    unfold gk at hb ⊢
    rw [if_pos hi] at hb
    rw [if_pos hi, if_pos hi]
    show cw k _ j = _
    unfold cw
    rw [if_neg (by rw [hb]; decide)]
  · unfold gi
    simp only [lt_s_ne e]
section CLOSE
variable {h : mr_h} {Q : Option Value → mr_h → Prop} {a n : Nat}
theorem l_close1 (hn : n ≤ 12) {f : Nat → Int32} {v3 : Value} : ∀ (d k : Nat) (h1 : mr_h), k + d = n → h1.1 a = mr_I 12 (fun j => if j < k then f j ||| nb j else f j) → mr_fr h h1 [a] →
    (∀ h2, mr_fr h h2 [a] → h2.1 a = mr_I 12 (fun j => if j < n then f j ||| nb j else f j) → mr_wp 15 25 [.ref a, .int (nI n), .int 0, v3] [] h2 Q) → mr_wp 15 2 [.ref a, .int (nI n), .int (nI k), v3] [] h1 Q := by
  intro d
  induction d with
  | zero =>
    intro k h1 hk he hf kk
    have : k = n := by omega
    subst this
    rw [s_rl_close_2]
    simp only [S_rl_close_0, if_pos (nI_le (Nat.le_refl k) (by omega))]
    exact kk h1 hf he
  | succ d ih =>
    intro k h1 hk he hf kk
    have c1 : ¬ nI n ≤ nI k := nI_ge (by omega) (by omega)
    have hk12 : k < 12 := by omega
    rw [s_rl_close_2]
    simp only [S_rl_close_0, if_neg c1, he, SEL, PF, mr_gf_O, mr_rc_O, Option.toList_some, Option.toList_none, List.cons_append, List.nil_append, b2i_0, b2i_1, b2i_a, a_00, a_11, ai_n, si_n, nI_1, q_rl_bit, mr_up_at, Nat.reduceLeDiff, Nat.reduceLT, Nat.reduceEqDiff, Nat.reduceAdd, if_true, if_false, hk12, Nat.lt_irrefl, if_false]
    refine ih (k + 1) _ (by omega) ?_ (fr_up _ hf (List.mem_singleton.mpr rfl)) kk
    rw [up_eq]
    congr 1
    exact upd_ext (by simp) (fun j e => by simp only [lt_s_ne e])
theorem l_close3 (hn : n ≤ 12) {f : Nat → Int32} {k : Nat} (hkn : k < n) : ∀ (d i : Nat) (h1 : mr_h), i + d = n → h1.1 a = mr_I 12 (gi f n k i) → mr_fr h h1 [a] →
    (∀ h2, mr_fr h h2 [a] → h2.1 a = mr_I 12 (gk f n (k + 1)) → mr_wp 15 25 [.ref a, .int (nI n), .int (nI (k + 1)), .int (nI n)] [] h2 Q) → mr_wp 15 32 [.ref a, .int (nI n), .int (nI k), .int (nI i)] [] h1 Q := by
  intro d
  induction d with
  | zero =>
    intro i h1 hk he hf kk
    have : i = n := by omega
    subst this
    rw [s_rl_close_32]
    simp only [S_rl_close_0, S_rl_close_1, if_pos (nI_le (Nat.le_refl i) (by omega)), nI_1]
    exact kk h1 hf (by rw [he, gi_n])
  | succ d ih =>
    intro i h1 hk he hf kk
    have c1 : ¬ nI n ≤ nI i := nI_ge (by omega) (by omega)
    have hi12 : i < 12 := by omega
    have hk12 : k < 12 := by omega
    have hk32 : k < 32 := by omega
    rw [s_rl_close_32]
    simp only [S_rl_close_0, S_rl_close_1, if_neg c1, he, SEL, PF, mr_gf_O, mr_rc_O, Option.toList_some, Option.toList_none, List.cons_append, List.nil_append, b2i_0, b2i_1, b2i_a, a_00, a_11, ai_n, si_n, nI_1, q_rl_bit, mr_up_at, Nat.reduceLeDiff, Nat.reduceLT, Nat.reduceEqDiff, Nat.reduceAdd, if_true, if_false, hi12, hk12, q_rl_holds hk32, gi_i, gi_k]
    by_cases hb : bt (gk f n k i) k = true
    · simp only [hb, Bool.true_eq_false, if_false]
      refine ih (i + 1) _ (by omega) ?_ (fr_up _ hf (List.mem_singleton.mpr rfl)) kk
      rw [up_eq, gi_yes (by omega) hkn hb]
    · have hb' : bt (gk f n k i) k = false := by simpa using hb
      simp only [hb', if_true]
      exact ih (i + 1) h1 (by omega) (by rw [he, gi_no (by omega) hb']) hf kk
theorem l_close2 (hn : n ≤ 12) {f : Nat → Int32} : ∀ (d k : Nat) (h1 : mr_h) (v3 : Value), k + d = n → h1.1 a = mr_I 12 (gk f n k) → mr_fr h h1 [a] →
    (∀ h2, mr_fr h h2 [a] → h2.1 a = mr_I 12 (gk f n n) → Q none h2) → mr_wp 15 25 [.ref a, .int (nI n), .int (nI k), v3] [] h1 Q := by
  intro d
  induction d with
  | zero =>
    intro k h1 v3 hk he hf kk
    have : k = n := by omega
    subst this
    rw [s_rl_close_25]
    simp only [S_rl_close_0, S_rl_close_1, if_pos (nI_le (Nat.le_refl k) (by omega))]
    exact kk h1 hf he
  | succ d ih =>
    intro k h1 v3 hk he hf kk
    have c1 : ¬ nI n ≤ nI k := nI_ge (by omega) (by omega)
    rw [s_rl_close_25]
    simp only [S_rl_close_0, S_rl_close_1, if_neg c1]
    rw [← nI_0]
    exact l_close3 hn (by omega) n 0 h1 (by omega) (by rw [he]; rfl) hf (fun h2 f2 e2 => ih (k + 1) h2 _ (by omega) e2 f2 kk)
theorem q_rl_close (hn : n ≤ 12) {f : Nat → Int32} (ha : h.1 a = mr_I 12 f) (kk : ∀ h2, mr_fr h h2 [a] → h2.1 a = mr_I 12 (fun j => if j < n then RR f n j else f j) → Q none h2) : mr_run 15 [.ref a, .int (nI n)] h Q := by
  rw [r_rl_close]
  simp only [S_rl_close_0]
  rw [← nI_0]
  refine l_close1 (f := f) hn n 0 h (by omega) (by rw [ha]; simp) (fr_rf _ _) (fun h2 f2 e2 => ?_)
  rw [← nI_0]
  exact l_close2 hn n 0 h2 _ (by omega) e2 f2 kk
end CLOSE
