/-! the reference: comesBy, comingTo, ringOf, nameOf, names; sums of bits -/
theorem z_add (x : Int32) : (0 : Int32) + x = x := Int32.zero_add x
theorem t_12 (k : Nat) : (12 : Int32) + nI k = nI (12 + k) := nI_add 12 k
theorem nb_def (k : Nat) : (1 : Int32) <<< (nI k &&& 31) = nb k := rfl
theorem or_0 (x : Int32) : x ||| 0 = x := b_ext fun i _ => by rw [b_or, b_0, Bool.or_false]
theorem mk_yes {p : Nat → Bool} {k : Nat} (h : p k = true) : mk p k ||| nb k = mk p (k + 1) := by
  show _ = if p k then _ else _
  rw [if_pos h]
theorem mk_no {p : Nat → Bool} {k : Nat} (h : p k = false) : mk p k = mk p (k + 1) := by
  show _ = if p k then _ else _
  rw [if_neg (by rw [h]; decide)]
section COMES
variable {h : mr_h} {Q : Option Value → mr_h → Prop} {a r n : Nat}
/-- the first loop writes f j ||| nb j below k, keeps g above -/
def g1 (f g : Nat → Int32) (k : Nat) : Nat → Int32 := fun j => if j < k then f j ||| nb j else g j
theorem g1_s (f g : Nat → Int32) (k : Nat) : upd (g1 f g k) k (nb k ||| f k) = g1 f g (k + 1) := by
  refine upd_ext ?_ (fun j e => ?_)
  · unfold g1
    rw [if_pos (Nat.lt_succ_self k)]
    exact b_ext fun i _ => by rw [b_or, b_or, Bool.or_comm]
  · unfold g1
    simp only [lt_s_ne e]
/-- rows below n closed so far, g above -/
def h1k (f g : Nat → Int32) (n k : Nat) : Nat → Int32 := fun j => if j < n then cl (fun u => f u ||| nb u) k j else g j
def h1i (f g : Nat → Int32) (n k i : Nat) : Nat → Int32 := fun j => if j < i then h1k f g n (k + 1) j else h1k f g n k j
theorem h1k_0 (f g : Nat → Int32) (n : Nat) : h1k f g n 0 = g1 f g n := rfl
theorem h1i_k (f g : Nat → Int32) (n k i : Nat) : h1i f g n k i k = h1k f g n k k := by
  unfold h1i
  split
  · unfold h1k; rw [cl_kk]
  · rfl
theorem h1i_i (f g : Nat → Int32) (n k i : Nat) : h1i f g n k i i = h1k f g n k i := by
  unfold h1i
  rw [if_neg (Nat.lt_irrefl i)]
theorem h1i_n (f g : Nat → Int32) (n k : Nat) : h1i f g n k n = h1k f g n (k + 1) := by
  funext j
  unfold h1i
  split
  · rfl
  · rename_i e
    unfold h1k
    rw [if_neg e, if_neg e]
theorem h1i_s {f g : Nat → Int32} {n k i : Nat} (hi : i < n) (hk : k < n) : upd (h1i f g n k i) i (h1k f g n k i ||| (if bt (h1k f g n k i) k = true then h1k f g n k k else 0)) = h1i f g n k (i + 1) := by
  refine upd_ext ?_ (fun j e => ?_)
  · unfold h1i
    rw [if_pos (Nat.lt_succ_self i)]
    unfold h1k
    rw [if_pos hi, if_pos hk, if_pos hi]
    show _ = cw k _ i
    unfold cw
    split
    · rfl
    · exact or_0 _
  · unfold h1i
    simp only [lt_s_ne e]
theorem l_comesBy1 (hn : n ≤ 12) (hr : r ≠ 74) (har : a ≠ r) {f g : Nat → Int32} {v4 : Value} (hm : MN h n) (ha : h.1 a = mr_I 24 f) : ∀ (d k : Nat) (h1 : mr_h), k + d = n → h1.1 r = mr_I 12 (g1 f g k) → mr_fr h h1 [r] →
    (∀ h2, mr_fr h h2 [r] → h2.1 r = mr_I 12 (g1 f g n) → mr_wp 133 30 [.ref 74, .ref a, .ref r, .int 0, v4] [] h2 Q) → mr_wp 133 2 [.ref 74, .ref a, .ref r, .int (nI k), v4] [] h1 Q := by
  intro d
  induction d with
  | zero =>
    intro k h1 hk he hf kk
    have : k = n := by omega
    subst this
    obtain ⟨th, ty, tt, tk, pl, va, fa, dn, dr, um, sn, uf, e74⟩ := MN_fr hm hf (by simpa using hr.symm)
    rw [s_mo_comesBy_2]
    simp only [S_mo_comesBy_0, e74, MO, SEL, PF, mr_gf_O, mr_rc_O, Option.toList_some, Option.toList_none, List.cons_append, List.nil_append, b2i_0, b2i_1, b2i_a, a_00, a_11, ai_n, si_n, nI_1, q_rl_bit, mr_up_at, Nat.reduceLeDiff, Nat.reduceLT, Nat.reduceEqDiff, Nat.reduceAdd, if_true, if_false, if_pos (nI_le (Nat.le_refl k) (by omega))]
    exact kk h1 hf he
  | succ d ih =>
    intro k h1 hk he hf kk
    have c1 : ¬ nI n ≤ nI k := nI_ge (by omega) (by omega)
    have hk12 : k < 12 := by omega
    have hk24 : k < 24 := by omega
    have ea := fr_at hf (by simpa using har) ha
    obtain ⟨th, ty, tt, tk, pl, va, fa, dn, dr, um, sn, uf, e74⟩ := MN_fr hm hf (by simpa using hr.symm)
    rw [s_mo_comesBy_2]
    simp only [S_mo_comesBy_0, e74, MO, if_neg c1, he, ea, SEL, PF, mr_gf_O, mr_rc_O, Option.toList_some, Option.toList_none, List.cons_append, List.nil_append, b2i_0, b2i_1, b2i_a, a_00, a_11, ai_n, si_n, nI_1, q_rl_bit, mr_up_at, Nat.reduceLeDiff, Nat.reduceLT, Nat.reduceEqDiff, Nat.reduceAdd, if_true, if_false, hk12, hk24, z_add, nb_def, g1_s]
    exact ih (k + 1) _ (by omega) (up_eq _ _ _) (fr_up _ hf (List.mem_singleton.mpr rfl)) kk
theorem l_comesBy3 (hn : n ≤ 12) (hr : r ≠ 74) {f g : Nat → Int32} {k : Nat} (hkn : k < n) (hm : MN h n) : ∀ (d i : Nat) (h1 : mr_h), i + d = n → h1.1 r = mr_I 12 (h1i f g n k i) → mr_fr h h1 [r] →
    (∀ h2, mr_fr h h2 [r] → h2.1 r = mr_I 12 (h1k f g n (k + 1)) → mr_wp 133 30 [.ref 74, .ref a, .ref r, .int (nI (k + 1)), .int (nI n)] [] h2 Q) → mr_wp 133 41 [.ref 74, .ref a, .ref r, .int (nI k), .int (nI i)] [] h1 Q := by
  intro d
  induction d with
  | zero =>
    intro i h1 hk he hf kk
    have : i = n := by omega
    subst this
    obtain ⟨th, ty, tt, tk, pl, va, fa, dn, dr, um, sn, uf, e74⟩ := MN_fr hm hf (by simpa using hr.symm)
    rw [s_mo_comesBy_41]
    simp only [S_mo_comesBy_0, S_mo_comesBy_1, e74, MO, SEL, PF, mr_gf_O, mr_rc_O, Option.toList_some, Option.toList_none, List.cons_append, List.nil_append, b2i_0, b2i_1, b2i_a, a_00, a_11, ai_n, si_n, nI_1, q_rl_bit, mr_up_at, Nat.reduceLeDiff, Nat.reduceLT, Nat.reduceEqDiff, Nat.reduceAdd, if_true, if_false, if_pos (nI_le (Nat.le_refl i) (by omega))]
    exact kk h1 hf (by rw [he, h1i_n])
  | succ d ih =>
    intro i h1 hk he hf kk
    have c1 : ¬ nI n ≤ nI i := nI_ge (by omega) (by omega)
    have hi12 : i < 12 := by omega
    have hk12 : k < 12 := by omega
    obtain ⟨th, ty, tt, tk, pl, va, fa, dn, dr, um, sn, uf, e74⟩ := MN_fr hm hf (by simpa using hr.symm)
    rw [s_mo_comesBy_41]
    simp only [S_mo_comesBy_0, S_mo_comesBy_1, e74, MO, if_neg c1, he, SEL, PF, mr_gf_O, mr_rc_O, Option.toList_some, Option.toList_none, List.cons_append, List.nil_append, b2i_0, b2i_1, b2i_a, a_00, a_11, ai_n, si_n, nI_1, q_rl_bit, mr_up_at, Nat.reduceLeDiff, Nat.reduceLT, Nat.reduceEqDiff, Nat.reduceAdd, if_true, if_false, hi12, hk12, q_mo_has (show k < 32 by omega), h1i_i, h1i_k]
    have key := h1i_s (f := f) (g := g) (show i < n by omega) hkn
    by_cases hb : bt (h1k f g n k i) k = true
    · rw [if_pos hb] at key
      simp only [hb, Bool.true_eq_false, if_false, key]
      exact ih (i + 1) _ (by omega) (up_eq _ _ _) (fr_up _ hf (List.mem_singleton.mpr rfl)) kk
    · have hb' : bt (h1k f g n k i) k = false := by simpa using hb
      rw [if_neg hb] at key
      simp only [hb', if_true, key]
      exact ih (i + 1) _ (by omega) (up_eq _ _ _) (fr_up _ hf (List.mem_singleton.mpr rfl)) kk
theorem l_comesBy2 (hn : n ≤ 12) (hr : r ≠ 74) {f g : Nat → Int32} (hm : MN h n) : ∀ (d k : Nat) (h1 : mr_h) (v4 : Value), k + d = n → h1.1 r = mr_I 12 (h1k f g n k) → mr_fr h h1 [r] →
    (∀ h2, mr_fr h h2 [r] → h2.1 r = mr_I 12 (h1k f g n n) → Q none h2) → mr_wp 133 30 [.ref 74, .ref a, .ref r, .int (nI k), v4] [] h1 Q := by
  intro d
  induction d with
  | zero =>
    intro k h1 v4 hk he hf kk
    have : k = n := by omega
    subst this
    obtain ⟨th, ty, tt, tk, pl, va, fa, dn, dr, um, sn, uf, e74⟩ := MN_fr hm hf (by simpa using hr.symm)
    rw [s_mo_comesBy_30]
    simp only [S_mo_comesBy_0, S_mo_comesBy_1, e74, MO, SEL, PF, mr_gf_O, mr_rc_O, Option.toList_some, Option.toList_none, List.cons_append, List.nil_append, b2i_0, b2i_1, b2i_a, a_00, a_11, ai_n, si_n, nI_1, q_rl_bit, mr_up_at, Nat.reduceLeDiff, Nat.reduceLT, Nat.reduceEqDiff, Nat.reduceAdd, if_true, if_false, if_pos (nI_le (Nat.le_refl k) (by omega))]
    exact kk h1 hf he
  | succ d ih =>
    intro k h1 v4 hk he hf kk
    have c1 : ¬ nI n ≤ nI k := nI_ge (by omega) (by omega)
    obtain ⟨th, ty, tt, tk, pl, va, fa, dn, dr, um, sn, uf, e74⟩ := MN_fr hm hf (by simpa using hr.symm)
    rw [s_mo_comesBy_30]
    simp only [S_mo_comesBy_0, S_mo_comesBy_1, e74, MO, SEL, PF, mr_gf_O, mr_rc_O, Option.toList_some, Option.toList_none, List.cons_append, List.nil_append, b2i_0, b2i_1, b2i_a, a_00, a_11, ai_n, si_n, nI_1, q_rl_bit, mr_up_at, Nat.reduceLeDiff, Nat.reduceLT, Nat.reduceEqDiff, Nat.reduceAdd, if_true, if_false, if_neg c1]
    rw [← nI_0]
    exact l_comesBy3 hn hr (by omega) hm n 0 h1 (by omega) he hf (fun h2 f2 e2 => ih (k + 1) h2 _ (by omega) e2 f2 kk)
theorem q_mo_comesBy (hn : n ≤ 12) (hr : r ≠ 74) (har : a ≠ r) {f g : Nat → Int32} (hm : MN h n) (ha : h.1 a = mr_I 24 f) (hg : h.1 r = mr_I 12 g) (kk : ∀ h2, mr_fr h h2 [r] → h2.1 r = mr_I 12 (fun j => if j < n then RR f n j else g j) → Q none h2) : mr_run 133 [.ref 74, .ref a, .ref r] h Q := by
  rw [r_mo_comesBy]
  simp only [S_mo_comesBy_0]
  rw [← nI_0]
  refine l_comesBy1 (f := f) (g := g) hn hr har hm ha n 0 h (by omega) (by rw [hg]; unfold g1; simp) (fr_rf _ _) (fun h2 f2 e2 => ?_)
  rw [← nI_0]
  exact l_comesBy2 hn hr hm n 0 h2 _ (by omega) e2 f2 kk
theorem l_mo_comingTo (hn : n ≤ 12) {A : Nat → Int32} {v : Nat} (hv : v < 12) (hm : MN h n) (e85 : h.1 85 = mr_I 12 A) : ∀ (d k : Nat), k + d = n →
    mr_wp 136 4 [.ref 74, .int (nI v), .int (mk (fun u => bt (A u) v) k), .int (nI k)] [] h Q = Q (some (.int (mk (fun u => bt (A u) v) n))) h := by
  obtain ⟨th, ty, tt, tk, pl, va, fa, dn, dr, um, sn, uf, e74⟩ := hm
  intro d
  induction d with
  | zero =>
    intro k hk
    have : k = n := by omega
    subst this
    rw [s_mo_comingTo_4]
    simp only [S_mo_comingTo, e74, MO, SEL, PF, mr_gf_O, mr_rc_O, Option.toList_some, Option.toList_none, List.cons_append, List.nil_append, b2i_0, b2i_1, b2i_a, a_00, a_11, ai_n, si_n, nI_1, q_rl_bit, mr_up_at, Nat.reduceLeDiff, Nat.reduceLT, Nat.reduceEqDiff, Nat.reduceAdd, if_true, if_false, if_pos (nI_le (Nat.le_refl k) (by omega))]
  | succ d ih =>
    intro k hk
    have c1 : ¬ nI n ≤ nI k := nI_ge (by omega) (by omega)
    have hk12 : k < 12 := by omega
    rw [s_mo_comingTo_4]
    simp only [S_mo_comingTo, e74, MO, if_neg c1, e85, SEL, PF, mr_gf_O, mr_rc_O, Option.toList_some, Option.toList_none, List.cons_append, List.nil_append, b2i_0, b2i_1, b2i_a, a_00, a_11, ai_n, si_n, nI_1, q_rl_bit, mr_up_at, Nat.reduceLeDiff, Nat.reduceLT, Nat.reduceEqDiff, Nat.reduceAdd, if_true, if_false, hk12, q_mo_has (show v < 32 by omega), nb_def, or_0]
    by_cases hb : bt (A k) v = true
    · simp only [hb, Bool.true_eq_false, if_false, mk_yes (p := fun u => bt (A u) v) hb]
      exact ih (k + 1) (by omega)
    · have hb' : bt (A k) v = false := by simpa using hb
      simp only [hb', if_true]
      rw [mk_no (p := fun u => bt (A u) v) hb']
      exact ih (k + 1) (by omega)
theorem q_mo_comingTo (hn : n ≤ 12) {A : Nat → Int32} {v : Nat} (hv : v < 12) (hm : MN h n) (e85 : h.1 85 = mr_I 12 A) : mr_run 136 [.ref 74, .int (nI v)] h Q = Q (some (.int (mk (fun u => bt (A u) v) n))) h := by
  rw [r_mo_comingTo]
  simp only [S_mo_comingTo]
  have := l_mo_comingTo (Q := Q) hn hv hm e85 n 0 (by omega)
  rw [nI_0] at this
  exact this
theorem q_mo_ringOf (hn : n ≤ 12) {A : Nat → Int32} {v : Nat} (hv : v < 12) (hm : MN h n) (e85 : h.1 85 = mr_I 12 A) : mr_run 135 [.ref 74, .int (nI v)] h Q = Q (some (.int (A v &&& mk (fun u => bt (A u) v) n))) h := by
  obtain ⟨th, ty, tt, tk, pl, va, fa, dn, dr, um, sn, uf, e74⟩ := id hm
  rw [r_mo_ringOf]
  simp only [S_mo_ringOf, e74, MO, e85, SEL, PF, mr_gf_O, mr_rc_O, Option.toList_some, Option.toList_none, List.cons_append, List.nil_append, b2i_0, b2i_1, b2i_a, a_00, a_11, ai_n, si_n, nI_1, q_rl_bit, mr_up_at, Nat.reduceLeDiff, Nat.reduceLT, Nat.reduceEqDiff, Nat.reduceAdd, if_true, if_false, hv]
  rw [q_mo_comingTo hn hv hm e85]
  simp only [S_mo_ringOf, SEL, PF, mr_gf_O, mr_rc_O, Option.toList_some, Option.toList_none, List.cons_append, List.nil_append, b2i_0, b2i_1, b2i_a, a_00, a_11, ai_n, si_n, nI_1, q_rl_bit, mr_up_at, Nat.reduceLeDiff, Nat.reduceLT, Nat.reduceEqDiff, Nat.reduceAdd, if_true, if_false]
end COMES
