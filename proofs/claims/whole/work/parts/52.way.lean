/-! a shortest way -/
def Wk (E : Nat → Int32) (n v : Nat) : Nat → Int32
  | 0 => nb v
  | j + 1 => mk (fun u => decide (¬ E u &&& Wk E n v j = 0)) n
def ds (E : Nat → Int32) (n v x : Nat) : Nat := fa_first (fun j => bt (Wk E n v j) x) n
theorem Wk_s {E : Nat → Int32} {n v j x : Nat} (hn : n ≤ 12) : bt (Wk E n v (j + 1)) x = true ↔ x < n ∧ ∃ y, y < 32 ∧ bt (E x) y = true ∧ bt (Wk E n v j) y = true := by
  show bt (mk (fun u => decide (¬ E u &&& Wk E n v j = 0)) n) x = true ↔ _
  rw [mk_bt (by omega), Bool.and_eq_true, decide_eq_true_eq, decide_eq_true_eq, nz_iff]
  simp only [b_and, Bool.and_eq_true]
theorem Wk_lt {E : Nat → Int32} {n v x : Nat} (hn : n ≤ 12) (hv : v < n) : ∀ {j : Nat}, bt (Wk E n v j) x = true → x < n
  | 0, h => by
    have : bt (nb v) x = true := h
    rw [nb_bt (by omega)] at this
    have : x = v := by simpa using this
    omega
  | j + 1, h => ((Wk_s hn).mp h).1
theorem ds_le {E : Nat → Int32} {n v x j : Nat} (hj : j < n) (h : bt (Wk E n v j) x = true) : ds E n v x ≤ j := first_lt hj h
theorem ds_yes {E : Nat → Int32} {n v x : Nat} (h : ds E n v x < n) : bt (Wk E n v (ds E n v x)) x = true := fa_first_yes _ n h
theorem ds_no {E : Nat → Int32} {n v x j : Nat} (h : j < ds E n v x) : bt (Wk E n v j) x = false := fa_first_no _ n j h
/-- an edge shortens by one at most -/
theorem ds_edge {E : Nat → Int32} {n v x y : Nat} (hE : nt E n) (hv : v < n) (hx : x < n) (hxy : bt (E x) y = true) (h : ds E n v y + 1 < n) : ds E n v x ≤ ds E n v y + 1 := by
  have hn := hE.1
  have hy := hE.2 x hx y hxy
  exact ds_le h ((Wk_s hn).mpr ⟨hx, y, by omega, hxy, ds_yes (by omega)⟩)
/-- where a step leads on -/
theorem ds_on {E : Nat → Int32} {n v x y r : Nat} (hE : nt E n) (hv : v < n) (hx : x < n) (hd : ds E n v x = r + 1) (hr : r + 1 < n) (hxy : bt (E x) y = true) : bt (Wk E n v r) y = true ↔ ds E n v y = r := by
  constructor
  · intro h
    have h1 : ds E n v y ≤ r := ds_le (by omega) h
    have h2 := ds_edge hE hv hx hxy (by omega)
    omega
  · intro h
    have := ds_yes (E := E) (n := n) (v := v) (x := y) (by omega)
    rwa [h] at this
theorem ds_ex {E : Nat → Int32} {n v x r : Nat} (hE : nt E n) (hv : v < n) (hx : x < n) (hd : ds E n v x = r + 1) (hr : r + 1 < n) : ∃ y, y < n ∧ bt (E x) y = true ∧ bt (Wk E n v r) y = true := by
  have h := ds_yes (E := E) (n := n) (v := v) (x := x) (by omega)
  rw [hd] at h
  obtain ⟨-, y, -, h1, h2⟩ := (Wk_s hE.1).mp h
  exact ⟨y, hE.2 x hx y h1, h1, h2⟩
theorem ds_0 {E : Nat → Int32} {n v x : Nat} (hn : n ≤ 12) (h1 : 1 ≤ n) (hv : v < n) : ds E n v x = 0 ↔ x = v := by
  have e : ∀ x, bt (Wk E n v 0) x = decide (x = v) := fun x => nb_bt (by omega) x
  constructor
  · intro h
    have := ds_yes (E := E) (n := n) (v := v) (x := x) (by omega)
    rw [h, e] at this
    simpa using this
  · intro h
    have := ds_le (E := E) (n := n) (v := v) (x := x) (j := 0) (by omega) (by rw [e, h]; simp)
    omega
def FR (E : Nat → Int32) (n v r x : Nat) : Int32 := if ds E n v x ≤ r then nI (ds E n v x) else -1
theorem nI_m1 {j : Nat} (h : j < 13) : ¬ nI j = -1 := by
  revert j; decide +kernel
theorem ds_n (E : Nat → Int32) (n v x : Nat) : ds E n v x ≤ n := fa_first_le _ n
theorem FR_eq {E : Nat → Int32} {n v r s x : Nat} (hn : n ≤ 12) (hs : s ≤ r) (hr : r < 13) : (FR E n v r x = nI s) ↔ ds E n v x = s := by
  have := ds_n E n v x
  unfold FR
  by_cases h : ds E n v x ≤ r
  · rw [if_pos h, nI_eq (by omega) (by omega)]
  · rw [if_neg h]
    constructor
    · intro z
      exact absurd z.symm (nI_m1 (by omega))
    · intro z
      omega
/-- the nodes of the way -/
def nd (E : Nat → Int32) (n v u d : Nat) : Nat → Nat
  | 0 => u
  | s + 1 => lwz (E (nd E n v u d s) &&& Wk E n v (d - (s + 1)))
theorem nd_ok {E : Nat → Int32} {n v u d : Nat} (hE : nt E n) (hv : v < n) (hu : u < n) (hd : ds E n v u = d) (hdn : d < n) : ∀ s, s ≤ d → nd E n v u d s < n ∧ ds E n v (nd E n v u d s) = d - s
  | 0, _ => ⟨hu, hd⟩
  | s + 1, hs => by
    have hn := hE.1
    obtain ⟨i1, i2⟩ := nd_ok hE hv hu hd hdn s (by omega)
    obtain ⟨y, hy, h1, h2⟩ := ds_ex (r := d - (s + 1)) hE hv i1 (by omega) (by omega)
    have hf : fa_first (bt (E (nd E n v u d s) &&& Wk E n v (d - (s + 1)))) 12 < 12 := by
      have := first_lt (p := bt (E (nd E n v u d s) &&& Wk E n v (d - (s + 1)))) (n := 12) (k := y) (by omega) (by rw [b_and, h1, h2]; rfl)
      omega
    have hyes := fa_first_yes _ 12 hf
    show lwz (E (nd E n v u d s) &&& Wk E n v (d - (s + 1))) < n ∧ ds E n v (lwz (E (nd E n v u d s) &&& Wk E n v (d - (s + 1)))) = d - (s + 1)
    unfold lwz
    rw [if_pos hf]
    rw [b_and, Bool.and_eq_true] at hyes
    exact ⟨hE.2 _ i1 _ hyes.1, (ds_on hE hv i1 (by omega) (by omega) hyes.1).mp hyes.2⟩
section WAY
variable {h : mr_h} {Q : Option Value → mr_h → Prop} {n len us m : Nat} {E K G : Nat → Int32}
theorem l_leadingTo (hn : n ≤ 12) {x : Int32} (e1 : h.1 1 = NE 1 n) (e2 : h.1 2 = mr_I 12 E) : ∀ (d k : Nat), k + d = n → mr_wp 79 4 [.ref 1, .int x, .int (mk (fun u => decide (¬ E u &&& x = 0)) k), .int (nI k)] [] h Q = Q (some (.int (mk (fun u => decide (¬ E u &&& x = 0)) n))) h := by
  intro d
  induction d with
  | zero =>
    intro k hk
    have : k = n := by omega
    subst this
    rw [s_wa_leadingTo_4]
    simp only [S_wa_leadingTo, e1, NE, SEL, PF, mr_gf_O, mr_rc_O, Option.toList_some, Option.toList_none, List.cons_append, List.nil_append, b2i_0, b2i_1, b2i_a, a_00, a_11, ai_n, si_n, nI_1, q_rl_bit, mr_up_at, Nat.reduceLeDiff, Nat.reduceLT, Nat.reduceEqDiff, Nat.reduceAdd, if_true, if_false, Bool.true_eq_false, Bool.false_eq_true, Bool.true_and, Bool.false_and, Bool.and_true, Bool.and_false, i_10, i_01, i_00, not_true_eq_false, not_false_eq_true, if_pos (nI_le (Nat.le_refl k) (show k < 2 ^ 31 by omega))]
  | succ d ih =>
    intro k hk
    have c1 : ¬ nI n ≤ nI k := nI_ge (by omega) (by omega)
    rw [s_wa_leadingTo_4]
    simp only [S_wa_leadingTo, e1, NE, SEL, PF, mr_gf_O, mr_rc_O, Option.toList_some, Option.toList_none, List.cons_append, List.nil_append, b2i_0, b2i_1, b2i_a, a_00, a_11, ai_n, si_n, nI_1, q_rl_bit, mr_up_at, Nat.reduceLeDiff, Nat.reduceLT, Nat.reduceEqDiff, Nat.reduceAdd, if_true, if_false, Bool.true_eq_false, Bool.false_eq_true, Bool.true_and, Bool.false_and, Bool.and_true, Bool.and_false, i_10, i_01, i_00, not_true_eq_false, not_false_eq_true, if_neg c1, e2, show k < 12 by omega]
    have := ih (k + 1) (by omega)
    by_cases z : E k &&& x = 0
    · rw [← mk_no (k := k) (p := fun u => decide (¬ E u &&& x = 0)) (by simp [z])] at this
      rw [if_pos z]
      exact this
    · rw [← mk_yes (k := k) (p := fun u => decide (¬ E u &&& x = 0)) (by simp [z])] at this
      rw [if_neg z]
      exact this
theorem q_wa_leadingTo (hn : n ≤ 12) {x : Int32} (e1 : h.1 1 = NE 1 n) (e2 : h.1 2 = mr_I 12 E) : mr_run 79 [.ref 1, .int x] h Q = Q (some (.int (mk (fun u => decide (¬ E u &&& x = 0)) n))) h := by
  rw [r_wa_leadingTo]
  simp only [S_wa_leadingTo]
  have := l_leadingTo (x := x) (Q := Q) hn e1 e2 n 0 (by omega)
  rw [nI_0] at this
  exact this
theorem l_shortest (st : St h n len us m E K) {u v : Nat} (hu : u < n) (hv : v < n) (kk : ∀ h2 F, mr_fr h h2 [21] → h2.1 21 = mr_I 12 F → (∀ j, j ≤ ds E n v u → j < n → F j = Wk E n v j) → Q (some (.int (if ds E n v u < n then nI (ds E n v u) else -9))) h2) : ∀ (d k : Nat) (h1 : mr_h), k + d = n → mr_fr h h1 [21] → h1.1 21 = mr_I 12 (fk (Wk E n v) G k) → (∀ j, j < k → bt (Wk E n v j) u = false) → mr_wp 78 9 [.ref 20, .ref 1, .int (nI u), .int (nI v), .int (Wk E n v k), .int (nI k)] [] h1 Q := by
  have hE := St_E st
  have hn := hE.1
  intro d
  induction d with
  | zero =>
    intro k h1 hk f e21 hno
    have : k = n := by omega
    subst this
    have g1 := fr_at f (by decide) (St_1 st)
    rw [s_wa_shortest_9]
    simp only [S_wa_shortest, g1, NE, SEL, PF, mr_gf_O, mr_rc_O, Option.toList_some, Option.toList_none, List.cons_append, List.nil_append, b2i_0, b2i_1, b2i_a, a_00, a_11, ai_n, si_n, nI_1, q_rl_bit, mr_up_at, Nat.reduceLeDiff, Nat.reduceLT, Nat.reduceEqDiff, Nat.reduceAdd, if_true, if_false, Bool.true_eq_false, Bool.false_eq_true, Bool.true_and, Bool.false_and, Bool.and_true, Bool.and_false, i_10, i_01, i_00, not_true_eq_false, not_false_eq_true, if_pos (nI_le (Nat.le_refl k) (show k < 2 ^ 31 by omega))]
    have := kk h1 _ f e21 (fun j _ hj => fk_in hj)
    have e : ¬ ds E k v u < k := fun z => by
      have := ds_yes z
      rw [hno _ z] at this
      exact absurd this (by decide)
    rw [if_neg e] at this
    exact this
  | succ d ih =>
    intro k h1 hk f e21 hno
    have hkn : k < n := by omega
    have c1 : ¬ nI n ≤ nI k := nI_ge (by omega) (by omega)
    have g1 := fr_at f (by decide) (St_1 st)
    have g2 := fr_at f (by decide) (St_2 st)
    have g20 := fr_at f (by decide) (c20 st)
    have f2 : mr_fr h1 (mr_up h1 21 (mr_I 12 (fk (Wk E n v) G (k + 1)))) [21] := fr_up _ (fr_rf _ _) (by decide)
    rw [s_wa_shortest_9]
    simp only [S_wa_shortest, g1, NE, SEL, PF, mr_gf_O, mr_rc_O, Option.toList_some, Option.toList_none, List.cons_append, List.nil_append, b2i_0, b2i_1, b2i_a, a_00, a_11, ai_n, si_n, nI_1, q_rl_bit, mr_up_at, Nat.reduceLeDiff, Nat.reduceLT, Nat.reduceEqDiff, Nat.reduceAdd, if_true, if_false, Bool.true_eq_false, Bool.false_eq_true, Bool.true_and, Bool.false_and, Bool.and_true, Bool.and_false, i_10, i_01, i_00, not_true_eq_false, not_false_eq_true, if_neg c1, g20, e21, show k < 12 by omega, fk_s, q_rl_holds (show u < 32 by omega)]
    cases b1 : bt (Wk E n v k) u with
    | true =>
      simp only [Bool.true_eq_false, if_false]
      have e : ds E n v u = k := first_eq hno b1 hkn
      have := kk _ _ (fr_tr f f2 (by decide)) (up_eq _ _ _) (fun j hj hjn => fk_in (by omega))
      rw [e, if_pos hkn] at this
      exact this
    | false =>
      simp only [if_true]
      rw [q_wa_leadingTo hn (fr_at f2 (by decide) g1) (fr_at f2 (by decide) g2)]
      simp only [S_wa_shortest, SEL, PF, mr_gf_O, mr_rc_O, Option.toList_some, Option.toList_none, List.cons_append, List.nil_append, b2i_0, b2i_1, b2i_a, a_00, a_11, ai_n, si_n, nI_1, q_rl_bit, mr_up_at, Nat.reduceLeDiff, Nat.reduceLT, Nat.reduceEqDiff, Nat.reduceAdd, if_true, if_false, Bool.true_eq_false, Bool.false_eq_true, Bool.true_and, Bool.false_and, Bool.and_true, Bool.and_false, i_10, i_01, i_00, not_true_eq_false, not_false_eq_true]
      refine ih (k + 1) _ (by omega) (fr_tr f f2 (by decide)) (up_eq _ _ _) (fun j hj => ?_)
      by_cases e : j = k
      · subst e; exact b1
      · exact hno j (by omega)
theorem c21 (st : St h n len us m E K) : ∃ A, h.1 21 = mr_I 12 A := by
  have := st.1 21 (by decide)
  simpa [shp, isI] using this
theorem q_wa_shortest (st : St h n len us m E K) {u v : Nat} (hu : u < n) (hv : v < n) (kk : ∀ h2 F, mr_fr h h2 [21] → St h2 n len us m E K → h2.1 21 = mr_I 12 F → (∀ j, j ≤ ds E n v u → j < n → F j = Wk E n v j) → Q (some (.int (if ds E n v u < n then nI (ds E n v u) else -9))) h2) : mr_run 78 [.ref 20, .ref 1, .int (nI u), .int (nI v)] h Q := by
  obtain ⟨G, e21⟩ := c21 st
  rw [r_wa_shortest]
  simp only [S_wa_shortest, SEL, PF, mr_gf_O, mr_rc_O, Option.toList_some, Option.toList_none, List.cons_append, List.nil_append, b2i_0, b2i_1, b2i_a, a_00, a_11, ai_n, si_n, nI_1, q_rl_bit, mr_up_at, Nat.reduceLeDiff, Nat.reduceLT, Nat.reduceEqDiff, Nat.reduceAdd, if_true, if_false, Bool.true_eq_false, Bool.false_eq_true, Bool.true_and, Bool.false_and, Bool.and_true, Bool.and_false, i_10, i_01, i_00, not_true_eq_false, not_false_eq_true]
  rw [← nI_0]
  exact l_shortest (G := G) st hu hv (fun h2 F f2 e h3 => kk h2 F f2 (St_one st f2 (by decide) (shp_12 e (by decide))) e h3) n 0 h (by omega) (fr_rf _ _) (by rw [fk_0]; exact e21) (fun j hj => absurd hj (Nat.not_lt_zero j))
theorem l_nodeOf (st : St h n len us m E K) {u v dd k : Nat} {F : Nat → Int32} (hu : u < n) (hv : v < n) (hd : ds E n v u = dd) (hdn : dd < n) (hk : k ≤ dd) (e21 : h.1 21 = mr_I 12 F) (hF : ∀ j, j ≤ dd → F j = Wk E n v j) : ∀ (d s : Nat), s + d = k → mr_wp 80 6 [.ref 20, .ref 1, .int (nI u), .int (nI dd), .int (nI k), .int (nI (nd E n v u dd s)), .int (nI (s + 1))] [] h Q = Q (some (.int (nI (nd E n v u dd k)))) h := by
  have hE := St_E st
  have hn := hE.1
  intro d
  induction d with
  | zero =>
    intro s hs
    have : s = k := by omega
    subst this
    rw [s_wa_nodeOfShortest_6]
    simp only [S_wa_nodeOfShortest, SEL, PF, mr_gf_O, mr_rc_O, Option.toList_some, Option.toList_none, List.cons_append, List.nil_append, b2i_0, b2i_1, b2i_a, a_00, a_11, ai_n, si_n, nI_1, q_rl_bit, mr_up_at, Nat.reduceLeDiff, Nat.reduceLT, Nat.reduceEqDiff, Nat.reduceAdd, if_true, if_false, Bool.true_eq_false, Bool.false_eq_true, Bool.true_and, Bool.false_and, Bool.and_true, Bool.and_false, i_10, i_01, i_00, not_true_eq_false, not_false_eq_true, if_pos (show nI s < nI (s + 1) from nI_lt (by omega) (by omega))]
  | succ d ih =>
    intro s hs
    obtain ⟨i1, i2⟩ := nd_ok hE hv hu hd hdn s (by omega)
    rw [s_wa_nodeOfShortest_6]
    simp only [S_wa_nodeOfShortest, SEL, PF, mr_gf_O, mr_rc_O, Option.toList_some, Option.toList_none, List.cons_append, List.nil_append, b2i_0, b2i_1, b2i_a, a_00, a_11, ai_n, si_n, nI_1, q_rl_bit, mr_up_at, Nat.reduceLeDiff, Nat.reduceLT, Nat.reduceEqDiff, Nat.reduceAdd, if_true, if_false, Bool.true_eq_false, Bool.false_eq_true, Bool.true_and, Bool.false_and, Bool.and_true, Bool.and_false, i_10, i_01, i_00, not_true_eq_false, not_false_eq_true, if_neg (show ¬ nI k < nI (s + 1) from nI_nlt (by omega) (by omega)), if_neg (show ¬ nI dd < nI (s + 1) from nI_nlt (by omega) (by omega)), St_1 st, NE, St_2 st, show nd E n v u dd s < 12 by omega, c20 st, e21, nI_sub (show s + 1 ≤ dd by omega), show dd - (s + 1) < 12 by omega, hF (dd - (s + 1)) (by omega), q_rl_lowest]
    exact ih (s + 1) (by omega)
/-! the reference's distances -/
theorem l_ms4 {u v r : Nat} (hE : nt E n) (hu : u < n) (hv : v < n) (hr : r + 1 < n) (hd : ¬ ds E n v u ≤ r) {S : Nat → Int32} (hS : ∀ w, w < n → S w = E w) (hm : MN h n) (e77 : h.1 77 = mr_I 24 S) {x1 : Int32} {f : Nat → Int32} (hf : ∀ i, i < n → i ≠ u → (f i = nI r ↔ ds E n v i = r)) (hfu : f u = -1)
    (kk : ∀ h2 x4, mr_fr h h2 [88] → h2.1 88 = mr_I 12 (upd f u (FR E n v (r + 1) u)) → mr_wp 165 124 [.ref 74, .int x1, .int (nI (r + 1)), .int (nI u), .int x4] [] h2 Q) : ∀ (d k : Nat) (h1 : mr_h), k + d = n → mr_fr h h1 [88] → h1.1 88 = mr_I 12 f → (∀ j, j < k → bt (E u) j = true → ds E n v j ≠ r) → mr_wp 165 55 [.ref 74, .int x1, .int (nI (r + 1)), .int (nI u), .int (nI k)] [] h1 Q := by
  have hn := hE.1
  intro d
  induction d with
  | zero =>
    intro k h1 hk fr e88 hno
    have : k = n := by omega
    subst this
    obtain ⟨th, ty, tt, tk, pl, va, fa, dn, dr, um, sn, uf, e74⟩ := MN_fr hm fr (by decide)
    have ef : upd f u (FR E k v (r + 1) u) = f := by
      refine fa_upd_same ?_
      unfold FR
      rw [if_neg, hfu]
      intro z
      have : ds E k v u = r + 1 := by omega
      obtain ⟨y, hy, h1, h2⟩ := ds_ex hE hv hu this hr
      exact hno y hy h1 ((ds_on hE hv hu this hr h1).mp h2)
    rw [ef] at kk
    have := kk h1 (nI k) fr e88
    rw [s_mo_measures_55]
    simp only [S_mo_measures_0, S_mo_measures_1, e74, MO, SEL, PF, mr_gf_O, mr_rc_O, Option.toList_some, Option.toList_none, List.cons_append, List.nil_append, b2i_0, b2i_1, b2i_a, a_00, a_11, ai_n, si_n, nI_1, q_rl_bit, mr_up_at, Nat.reduceLeDiff, Nat.reduceLT, Nat.reduceEqDiff, Nat.reduceAdd, if_true, if_false, Bool.true_eq_false, Bool.false_eq_true, Bool.true_and, Bool.false_and, Bool.and_true, Bool.and_false, i_10, i_01, i_00, not_true_eq_false, not_false_eq_true, if_pos (nI_le (Nat.le_refl k) (show k < 2 ^ 31 by omega))] at this ⊢
    exact this
  | succ d ih =>
    intro k h1 hk fr e88 hno
    have hkn : k < n := by omega
    have c1 : ¬ nI n ≤ nI k := nI_ge (by omega) (by omega)
    obtain ⟨th, ty, tt, tk, pl, va, fa, dn, dr, um, sn, uf, e74⟩ := MN_fr hm fr (by decide)
    have g77 := fr_at fr (by decide) e77
    rw [s_mo_measures_55]
    have hsame : upd f u (-1) = f := fa_upd_same hfu
    simp only [S_mo_measures_0, S_mo_measures_1, e74, MO, SEL, PF, mr_gf_O, mr_rc_O, Option.toList_some, Option.toList_none, List.cons_append, List.nil_append, b2i_0, b2i_1, b2i_a, a_00, a_11, ai_n, si_n, nI_1, q_rl_bit, mr_up_at, Nat.reduceLeDiff, Nat.reduceLT, Nat.reduceEqDiff, Nat.reduceAdd, if_true, if_false, Bool.true_eq_false, Bool.false_eq_true, Bool.true_and, Bool.false_and, Bool.and_true, Bool.and_false, i_10, i_01, i_00, not_true_eq_false, not_false_eq_true, if_neg c1, e88, show u < 12 by omega, hfu, if_neg (show ¬ (0 : Int32) ≤ -1 by decide), g77, z_add, show u < 24 by omega, hS u hu, q_mo_has (show k < 32 by omega), show k < 12 by omega, nI_pred, hsame]
    have f2 : mr_fr h1 (mr_up h1 88 (mr_I 12 f)) [88] := fr_up _ (fr_rf _ _) (by decide)
    have go := fun hq => ih (k + 1) _ (by omega) (fr_tr fr f2 (by decide)) (up_eq _ _ _) hq
    cases b1 : bt (E u) k with
    | false =>
      simp only [if_true]
      refine go (fun j hj hb => ?_)
      by_cases e : j = k
      · subst e; rw [b1] at hb; exact absurd hb (by decide)
      · exact hno j (by omega) hb
    | true =>
      simp only [Bool.true_eq_false, if_false]
      have huk : k ≠ u ∨ k = u := by omega
      have hfk : f k = nI r ↔ ds E n v k = r := by
        rcases huk with z | z
        · exact hf k hkn z
        · subst z
          rw [hfu]
          constructor
          · intro z; exact absurd z.symm (nI_m1 (by omega))
          · intro z; omega
      by_cases b2 : f k = nI r
      · rw [if_neg (by simpa using b2)]
        have hdu : ds E n v u = r + 1 := by
          have h5 := hfk.mp b2
          have := ds_edge hE hv hu b1 (by omega)
          omega
        have f3 : mr_fr h1 (mr_up h1 88 (mr_I 12 (upd f u (nI (r + 1))))) [88] := fr_up _ (fr_rf _ _) (by decide)
        obtain ⟨th, ty, tt, tk, pl, va, fa, dn, dr, um, sn, uf, k74⟩ := MN_fr hm (fr_tr fr f3 (by decide)) (by decide)
        have eFR : FR E n v (r + 1) u = nI (r + 1) := by
          unfold FR
          rw [if_pos (by omega), hdu]
        have := kk _ (nI (k + 1)) (fr_tr fr f3 (by decide)) (by rw [up_eq, eFR])
        rw [s_mo_measures_55]
        by_cases b3 : k + 1 < n
        · simp only [S_mo_measures_0, S_mo_measures_1, e74, MO, SEL, PF, mr_gf_O, mr_rc_O, Option.toList_some, Option.toList_none, List.cons_append, List.nil_append, b2i_0, b2i_1, b2i_a, a_00, a_11, ai_n, si_n, nI_1, q_rl_bit, mr_up_at, Nat.reduceLeDiff, Nat.reduceLT, Nat.reduceEqDiff, Nat.reduceAdd, if_true, if_false, Bool.true_eq_false, Bool.false_eq_true, Bool.true_and, Bool.false_and, Bool.and_true, Bool.and_false, i_10, i_01, i_00, not_true_eq_false, not_false_eq_true, if_neg (show ¬ nI n ≤ nI (k + 1) from nI_ge b3 (by omega)), show u < 12 by omega, upd_at, if_pos (show (0 : Int32) ≤ nI (r + 1) from nI_pos' (by omega))] at this ⊢
          exact this
        · simp only [S_mo_measures_0, S_mo_measures_1, e74, MO, SEL, PF, mr_gf_O, mr_rc_O, Option.toList_some, Option.toList_none, List.cons_append, List.nil_append, b2i_0, b2i_1, b2i_a, a_00, a_11, ai_n, si_n, nI_1, q_rl_bit, mr_up_at, Nat.reduceLeDiff, Nat.reduceLT, Nat.reduceEqDiff, Nat.reduceAdd, if_true, if_false, Bool.true_eq_false, Bool.false_eq_true, Bool.true_and, Bool.false_and, Bool.and_true, Bool.and_false, i_10, i_01, i_00, not_true_eq_false, not_false_eq_true, if_pos (show nI n ≤ nI (k + 1) from nI_le (by omega) (by omega))] at this ⊢
          exact this
      · rw [if_pos b2]
        refine go (fun j hj hb => ?_)
        by_cases e : j = k
        · subst e; exact fun z => b2 (hfk.mpr z)
        · exact hno j (by omega) hb
theorem l_ms3 {v r : Nat} (hE : nt E n) (hv : v < n) (hr : r + 1 < n) {S : Nat → Int32} (hS : ∀ w, w < n → S w = E w) (hm : MN h n) (e77 : h.1 77 = mr_I 24 S) {x1 : Int32}
    (kk : ∀ h2 f x3 v4, mr_fr h h2 [88] → h2.1 88 = mr_I 12 f → (∀ i, i < n → f i = FR E n v (r + 1) i) → mr_wp 165 130 [.ref 74, .int x1, .int (nI (r + 1)), .int x3, v4] [] h2 Q) : ∀ (d k : Nat) (h1 : mr_h) (f : Nat → Int32) (v4 : Value), k + d = n → mr_fr h h1 [88] → h1.1 88 = mr_I 12 f → (∀ i, i < k → f i = FR E n v (r + 1) i) → (∀ i, k ≤ i → i < n → f i = FR E n v r i) → mr_wp 165 44 [.ref 74, .int x1, .int (nI (r + 1)), .int (nI k), v4] [] h1 Q := by
  have hn := hE.1
  intro d
  induction d with
  | zero =>
    intro k h1 f v4 hk fr e88 h2 h3
    have : k = n := by omega
    subst this
    obtain ⟨th, ty, tt, tk, pl, va, fa, dn, dr, um, sn, uf, e74⟩ := MN_fr hm fr (by decide)
    have := kk h1 f (nI k) v4 fr e88 h2
    rw [s_mo_measures_44]
    simp only [S_mo_measures_0, S_mo_measures_1, e74, MO, SEL, PF, mr_gf_O, mr_rc_O, Option.toList_some, Option.toList_none, List.cons_append, List.nil_append, b2i_0, b2i_1, b2i_a, a_00, a_11, ai_n, si_n, nI_1, q_rl_bit, mr_up_at, Nat.reduceLeDiff, Nat.reduceLT, Nat.reduceEqDiff, Nat.reduceAdd, if_true, if_false, Bool.true_eq_false, Bool.false_eq_true, Bool.true_and, Bool.false_and, Bool.and_true, Bool.and_false, i_10, i_01, i_00, not_true_eq_false, not_false_eq_true, if_pos (nI_le (Nat.le_refl k) (show k < 2 ^ 31 by omega))] at this ⊢
    exact this
  | succ d ih =>
    intro k h1 f v4 hk fr e88 h2 h3
    have hkn : k < n := by omega
    have c1 : ¬ nI n ≤ nI k := nI_ge (by omega) (by omega)
    have m1 := MN_fr hm fr (by decide)
    obtain ⟨th, ty, tt, tk, pl, va, fa, dn, dr, um, sn, uf, e74⟩ := id m1
    rw [s_mo_measures_44]
    simp only [S_mo_measures_0, S_mo_measures_1, e74, MO, SEL, PF, mr_gf_O, mr_rc_O, Option.toList_some, Option.toList_none, List.cons_append, List.nil_append, b2i_0, b2i_1, b2i_a, a_00, a_11, ai_n, si_n, nI_1, q_rl_bit, mr_up_at, Nat.reduceLeDiff, Nat.reduceLT, Nat.reduceEqDiff, Nat.reduceAdd, if_true, if_false, Bool.true_eq_false, Bool.false_eq_true, Bool.true_and, Bool.false_and, Bool.and_true, Bool.and_false, i_10, i_01, i_00, not_true_eq_false, not_false_eq_true, if_neg c1]
    rw [← nI_0]
    have hfk := h3 k (Nat.le_refl k) hkn
    by_cases b1 : ds E n v k ≤ r
    · have e1 : f k = nI (ds E n v k) := by rw [hfk]; unfold FR; rw [if_pos b1]
      rw [s_mo_measures_55]
      simp only [S_mo_measures_0, S_mo_measures_1, e74, MO, SEL, PF, mr_gf_O, mr_rc_O, Option.toList_some, Option.toList_none, List.cons_append, List.nil_append, b2i_0, b2i_1, b2i_a, a_00, a_11, ai_n, si_n, nI_1, q_rl_bit, mr_up_at, Nat.reduceLeDiff, Nat.reduceLT, Nat.reduceEqDiff, Nat.reduceAdd, if_true, if_false, Bool.true_eq_false, Bool.false_eq_true, Bool.true_and, Bool.false_and, Bool.and_true, Bool.and_false, i_10, i_01, i_00, not_true_eq_false, not_false_eq_true, if_neg (show ¬ nI n ≤ nI 0 from nI_ge (by omega) (by omega)), e88, show k < 12 by omega, e1, if_pos (show (0 : Int32) ≤ nI (ds E n v k) from nI_pos' (by omega))]
      refine ih (k + 1) h1 f _ (by omega) fr e88 (fun i hi => ?_) (fun i hi hin => h3 i (by omega) hin)
      by_cases e : i = k
      · subst e
        rw [e1]
        unfold FR
        rw [if_pos (by omega)]
      · exact h2 i (by omega)
    · refine l_ms4 (f := f) hE hkn hv hr b1 hS m1 (fr_at fr (by decide) e77) (fun i hi hik => ?_) (by rw [hfk]; unfold FR; rw [if_neg b1]) ?_ n 0 h1 (by omega) (fr_rf _ _) e88 (fun j hj => absurd hj (Nat.not_lt_zero j))
      · by_cases z : i < k
        · rw [h2 i z]; exact FR_eq hn (by omega) (by omega)
        · rw [h3 i (by omega) hi]; exact FR_eq hn (Nat.le_refl r) (by omega)
      · intro h4 x4 f4 g88
        simp only [S_mo_measures_0, S_mo_measures_1, SEL, PF, mr_gf_O, mr_rc_O, Option.toList_some, Option.toList_none, List.cons_append, List.nil_append, b2i_0, b2i_1, b2i_a, a_00, a_11, ai_n, si_n, nI_1, q_rl_bit, mr_up_at, Nat.reduceLeDiff, Nat.reduceLT, Nat.reduceEqDiff, Nat.reduceAdd, if_true, if_false, Bool.true_eq_false, Bool.false_eq_true, Bool.true_and, Bool.false_and, Bool.and_true, Bool.and_false, i_10, i_01, i_00, not_true_eq_false, not_false_eq_true]
        refine ih (k + 1) h4 _ _ (by omega) (fr_tr fr f4 (by decide)) g88 (fun i hi => ?_) (fun i hi hin => ?_)
        · by_cases e : i = k
          · subst e; rw [upd_at]
          · rw [upd_ne _ _ e]; exact h2 i (by omega)
        · rw [upd_ne _ _ (by omega)]; exact h3 i (by omega) hin
theorem l_ms2 {v : Nat} (hE : nt E n) (hv : v < n) {S : Nat → Int32} (hS : ∀ w, w < n → S w = E w) (hm : MN h n) (e77 : h.1 77 = mr_I 24 S) {x1 : Int32}
    (kk : ∀ h2 f, mr_fr h h2 [88] → h2.1 88 = mr_I 12 f → (∀ i, i < n → f i = FR E n v (n - 1) i) → Q none h2) : ∀ (d r : Nat) (h1 : mr_h) (f : Nat → Int32) (v3 v4 : Value), r + 1 + d = n → mr_fr h h1 [88] → h1.1 88 = mr_I 12 f → (∀ i, i < n → f i = FR E n v r i) → mr_wp 165 34 [.ref 74, .int x1, .int (nI (r + 1)), v3, v4] [] h1 Q := by
  have hn := hE.1
  intro d
  induction d with
  | zero =>
    intro r h1 f v3 v4 hk fr e88 h2
    have e : r + 1 = n := by omega
    obtain ⟨th, ty, tt, tk, pl, va, fa, dn, dr, um, sn, uf, e74⟩ := MN_fr hm fr (by decide)
    rw [s_mo_measures_34]
    simp only [S_mo_measures_0, S_mo_measures_1, e74, MO, SEL, PF, mr_gf_O, mr_rc_O, Option.toList_some, Option.toList_none, List.cons_append, List.nil_append, b2i_0, b2i_1, b2i_a, a_00, a_11, ai_n, si_n, nI_1, q_rl_bit, mr_up_at, Nat.reduceLeDiff, Nat.reduceLT, Nat.reduceEqDiff, Nat.reduceAdd, if_true, if_false, Bool.true_eq_false, Bool.false_eq_true, Bool.true_and, Bool.false_and, Bool.and_true, Bool.and_false, i_10, i_01, i_00, not_true_eq_false, not_false_eq_true, if_pos (show nI n ≤ nI (r + 1) from nI_le (by omega) (by omega))]
    exact kk h1 f fr e88 (by rw [show n - 1 = r by omega]; exact h2)
  | succ d ih =>
    intro r h1 f v3 v4 hk fr e88 h2
    have c1 : ¬ nI n ≤ nI (r + 1) := nI_ge (by omega) (by omega)
    have m1 := MN_fr hm fr (by decide)
    obtain ⟨th, ty, tt, tk, pl, va, fa, dn, dr, um, sn, uf, e74⟩ := id m1
    rw [s_mo_measures_34]
    simp only [S_mo_measures_0, S_mo_measures_1, e74, MO, SEL, PF, mr_gf_O, mr_rc_O, Option.toList_some, Option.toList_none, List.cons_append, List.nil_append, b2i_0, b2i_1, b2i_a, a_00, a_11, ai_n, si_n, nI_1, q_rl_bit, mr_up_at, Nat.reduceLeDiff, Nat.reduceLT, Nat.reduceEqDiff, Nat.reduceAdd, if_true, if_false, Bool.true_eq_false, Bool.false_eq_true, Bool.true_and, Bool.false_and, Bool.and_true, Bool.and_false, i_10, i_01, i_00, not_true_eq_false, not_false_eq_true, if_neg c1]
    rw [← nI_0]
    refine l_ms3 hE hv (show r + 1 < n by omega) hS m1 (fr_at fr (by decide) e77) ?_ n 0 h1 f v4 (by omega) (fr_rf _ _) e88 (fun i hi => absurd hi (Nat.not_lt_zero i)) (fun i _ hi => h2 i hi)
    intro h4 f4 x3 v4 fr4 g88 h5
    simp only [S_mo_measures_0, S_mo_measures_1, SEL, PF, mr_gf_O, mr_rc_O, Option.toList_some, Option.toList_none, List.cons_append, List.nil_append, b2i_0, b2i_1, b2i_a, a_00, a_11, ai_n, si_n, nI_1, q_rl_bit, mr_up_at, Nat.reduceLeDiff, Nat.reduceLT, Nat.reduceEqDiff, Nat.reduceAdd, if_true, if_false, Bool.true_eq_false, Bool.false_eq_true, Bool.true_and, Bool.false_and, Bool.and_true, Bool.and_false, i_10, i_01, i_00, not_true_eq_false, not_false_eq_true]
    exact ih (r + 1) h4 f4 _ _ (by omega) (fr_tr fr fr4 (by decide)) g88 h5
theorem l_ms1 {v : Nat} (hE : nt E n) (h1n : 1 ≤ n) (hv : v < n) (hm : MN h n) {v3 v4 : Value}
    (kk : ∀ h2 f, mr_fr h h2 [88] → h2.1 88 = mr_I 12 f → (∀ i, i < n → f i = FR E n v 0 i) → mr_wp 165 32 [.ref 74, .int (nI v), .int (nI n), v3, v4] [] h2 Q) : ∀ (d k : Nat) (h1 : mr_h), k + d = n → mr_fr h h1 [88] → h1.1 88 = mr_I 12 (fk (FR E n v 0) G k) → mr_wp 165 2 [.ref 74, .int (nI v), .int (nI k), v3, v4] [] h1 Q := by
  have hn := hE.1
  intro d
  induction d with
  | zero =>
    intro k h1 hk fr e88
    have : k = n := by omega
    subst this
    obtain ⟨th, ty, tt, tk, pl, va, fa, dn, dr, um, sn, uf, e74⟩ := MN_fr hm fr (by decide)
    have := kk h1 _ fr e88 (fun i hi => fk_in hi)
    rw [s_mo_measures_2]
    simp only [S_mo_measures_0, S_mo_measures_1, e74, MO, SEL, PF, mr_gf_O, mr_rc_O, Option.toList_some, Option.toList_none, List.cons_append, List.nil_append, b2i_0, b2i_1, b2i_a, a_00, a_11, ai_n, si_n, nI_1, q_rl_bit, mr_up_at, Nat.reduceLeDiff, Nat.reduceLT, Nat.reduceEqDiff, Nat.reduceAdd, if_true, if_false, Bool.true_eq_false, Bool.false_eq_true, Bool.true_and, Bool.false_and, Bool.and_true, Bool.and_false, i_10, i_01, i_00, not_true_eq_false, not_false_eq_true, if_pos (nI_le (Nat.le_refl k) (show k < 2 ^ 31 by omega))] at this ⊢
    exact this
  | succ d ih =>
    intro k h1 hk fr e88
    have hkn : k < n := by omega
    have c1 : ¬ nI n ≤ nI k := nI_ge (by omega) (by omega)
    obtain ⟨th, ty, tt, tk, pl, va, fa, dn, dr, um, sn, uf, e74⟩ := MN_fr hm fr (by decide)
    have e1 := fk_s (FR E n v 0) G k
    rw [s_mo_measures_2]
    simp only [S_mo_measures_0, S_mo_measures_1, e74, MO, SEL, PF, mr_gf_O, mr_rc_O, Option.toList_some, Option.toList_none, List.cons_append, List.nil_append, b2i_0, b2i_1, b2i_a, a_00, a_11, ai_n, si_n, nI_1, q_rl_bit, mr_up_at, Nat.reduceLeDiff, Nat.reduceLT, Nat.reduceEqDiff, Nat.reduceAdd, if_true, if_false, Bool.true_eq_false, Bool.false_eq_true, Bool.true_and, Bool.false_and, Bool.and_true, Bool.and_false, i_10, i_01, i_00, not_true_eq_false, not_false_eq_true, if_neg c1, nI_eq (show k < 2 ^ 31 by omega) (show v < 2 ^ 31 by omega), e88, show k < 12 by omega]
    by_cases b1 : k = v
    · have e2 : FR E n v 0 k = 0 := by
        unfold FR
        rw [if_pos (by have := (ds_0 (E := E) (x := k) hn h1n hv).mpr b1; omega), (ds_0 hn h1n hv).mpr b1]
        rfl
      rw [if_neg (by simpa using b1), ← e2, e1]
      exact ih (k + 1) _ (by omega) (fr_up _ fr (by decide)) (up_eq _ _ _)
    · have e2 : FR E n v 0 k = -1 := by
        unfold FR
        rw [if_neg]
        intro z
        exact b1 ((ds_0 (E := E) hn h1n hv).mp (by omega))
      rw [if_pos b1, ← e2, e1]
      exact ih (k + 1) _ (by omega) (fr_up _ fr (by decide)) (up_eq _ _ _)
theorem c88 (st : St h n len us m E K) : ∃ A, h.1 88 = mr_I 12 A := by
  have := st.1 88 (by decide)
  simpa [shp, isI] using this
theorem q_mo_measures (st : St h n len us m E K) {v : Nat} (hv : v < n) (kk : ∀ h2 f, mr_fr h h2 [88] → St h2 n len us m E K → h2.1 88 = mr_I 12 f → (∀ i, i < n → f i = FR E n v (n - 1) i) → Q none h2) : mr_run 165 [.ref 74, .int (nI v)] h Q := by
  have hE := St_E st
  have h1n := St_n st
  obtain ⟨G, e88⟩ := c88 st
  obtain ⟨S, e77, hS⟩ := St_77 st
  rw [r_mo_measures]
  simp only [S_mo_measures_0, S_mo_measures_1, SEL, PF, mr_gf_O, mr_rc_O, Option.toList_some, Option.toList_none, List.cons_append, List.nil_append, b2i_0, b2i_1, b2i_a, a_00, a_11, ai_n, si_n, nI_1, q_rl_bit, mr_up_at, Nat.reduceLeDiff, Nat.reduceLT, Nat.reduceEqDiff, Nat.reduceAdd, if_true, if_false, Bool.true_eq_false, Bool.false_eq_true, Bool.true_and, Bool.false_and, Bool.and_true, Bool.and_false, i_10, i_01, i_00, not_true_eq_false, not_false_eq_true]
  rw [← nI_0]
  refine l_ms1 (G := G) hE h1n hv (St_M st) ?_ n 0 h (by omega) (fr_rf _ _) (by rw [fk_0]; exact e88)
  intro h2 f f2 g88 hf
  simp only [S_mo_measures_0, S_mo_measures_1, SEL, PF, mr_gf_O, mr_rc_O, Option.toList_some, Option.toList_none, List.cons_append, List.nil_append, b2i_0, b2i_1, b2i_a, a_00, a_11, ai_n, si_n, nI_1, q_rl_bit, mr_up_at, Nat.reduceLeDiff, Nat.reduceLT, Nat.reduceEqDiff, Nat.reduceAdd, if_true, if_false, Bool.true_eq_false, Bool.false_eq_true, Bool.true_and, Bool.false_and, Bool.and_true, Bool.and_false, i_10, i_01, i_00, not_true_eq_false, not_false_eq_true]
  have := l_ms2 (Q := Q) (x1 := nI v) hE hv (fun w hw => (hS w hw).1) (MN_fr (St_M st) f2 (by decide)) (fr_at f2 (by decide) e77) (fun h3 f3 fr3 e3 hf3 => kk h3 f3 (fr_tr f2 fr3 (by decide)) (St_one st (fr_tr f2 fr3 (by decide)) (by decide) (shp_12 e3 (by decide))) e3 hf3) (n - 1) 0 h2 f (.int (nI 0)) (.int (nI 0)) (by omega) (fr_rf _ _) g88 hf
  rw [show nI (0 + 1) = (1 : Int32) from rfl] at this
  exact l_ms2 (Q := Q) (x1 := nI v) hE hv (fun w hw => (hS w hw).1) (MN_fr (St_M st) f2 (by decide)) (fr_at f2 (by decide) e77) (fun h3 f3 fr3 e3 hf3 => kk h3 f3 (fr_tr f2 fr3 (by decide)) (St_one st (fr_tr f2 fr3 (by decide)) (by decide) (shp_12 e3 (by decide))) e3 hf3) (n - 1) 0 h2 f _ _ (by omega) (fr_rf _ _) g88 hf
theorem l_mway2 {v its r : Nat} (hE : nt E n) (hv : v < n) (hi : its < n) (hd : ds E n v its = r + 1) (hr : r + 1 < n) {S : Nat → Int32} (hS : ∀ w, w < n → S w = E w) (hm : MN h n) (e77 : h.1 77 = mr_I 24 S) {f : Nat → Int32} (e88 : h.1 88 = mr_I 12 f) (hf : ∀ i, i < n → f i = FR E n v (n - 1) i) {x1 x2 x3 x5 : Int32} (hy : ∃ y, y < n ∧ bt (E its) y = true ∧ bt (Wk E n v r) y = true) : ∀ (d k : Nat), k + d = n → (∀ j, j < k → bt (E its &&& Wk E n v r) j = false) → mr_wp 164 81 [.ref 74, .int x1, .int x2, .int x3, .int (nI its), .int x5, .int (nI k)] [] h Q = mr_wp 164 123 [.ref 74, .int x1, .int x2, .int x3, .int (nI its), .int x5, .int (nI (lwz (E its &&& Wk E n v r)))] [] h Q := by
  have hn := hE.1
  obtain ⟨th, ty, tt, tk, pl, va, fa, dn, dr, um, sn, uf, e74⟩ := id hm
  have fi : f its - 1 = nI r := by
    rw [hf its hi]
    unfold FR
    rw [if_pos (by omega), hd, nI_pred]
  intro d
  induction d with
  | zero =>
    intro k hk hno
    exfalso
    obtain ⟨y, h1, h2, h3⟩ := hy
    have := hno y (by omega)
    rw [b_and, h2, h3] at this
    exact absurd this (by decide)
  | succ d ih =>
    intro k hk hno
    have hkn : k < n := by omega
    rw [s_mo_way_81]
    simp only [S_mo_way_0, S_mo_way_1, e74, MO, SEL, PF, mr_gf_O, mr_rc_O, Option.toList_some, Option.toList_none, List.cons_append, List.nil_append, b2i_0, b2i_1, b2i_a, a_00, a_11, ai_n, si_n, nI_1, q_rl_bit, mr_up_at, Nat.reduceLeDiff, Nat.reduceLT, Nat.reduceEqDiff, Nat.reduceAdd, if_true, if_false, Bool.true_eq_false, Bool.false_eq_true, Bool.true_and, Bool.false_and, Bool.and_true, Bool.and_false, i_10, i_01, i_00, not_true_eq_false, not_false_eq_true, e77, z_add, show its < 24 by omega, hS its hi, q_mo_has (show k < 32 by omega), e88, show k < 12 by omega, show its < 12 by omega, fi]
    have next : bt (E its &&& Wk E n v r) k = false → mr_wp 164 81 [.ref 74, .int x1, .int x2, .int x3, .int (nI its), .int x5, .int (nI (k + 1))] [] h Q = mr_wp 164 123 [.ref 74, .int x1, .int x2, .int x3, .int (nI its), .int x5, .int (nI (lwz (E its &&& Wk E n v r)))] [] h Q := fun hq => ih (k + 1) (by omega) (fun j hj => by
      by_cases e : j = k
      · subst e; exact hq
      · exact hno j (by omega))
    simp only [S_mo_way_0, S_mo_way_1, SEL, PF, mr_gf_O, mr_rc_O, Option.toList_some, Option.toList_none, List.cons_append, List.nil_append, b2i_0, b2i_1, b2i_a, a_00, a_11, ai_n, si_n, nI_1, q_rl_bit, mr_up_at, Nat.reduceLeDiff, Nat.reduceLT, Nat.reduceEqDiff, Nat.reduceAdd, if_true, if_false, Bool.true_eq_false, Bool.false_eq_true, Bool.true_and, Bool.false_and, Bool.and_true, Bool.and_false, i_10, i_01, i_00, not_true_eq_false, not_false_eq_true] at next
    cases b1 : bt (E its) k with
    | false =>
      simp only [if_true]
      exact next (by rw [b_and, b1]; rfl)
    | true =>
      simp only [Bool.true_eq_false, if_false]
      have hk2 : f k = nI r ↔ bt (Wk E n v r) k = true := by
        rw [hf k hkn, FR_eq hn (by omega) (by omega)]
        exact (ds_on hE hv hi hd hr b1).symm
      by_cases b2 : f k = nI r
      · rw [if_pos b2]
        have hb : bt (E its &&& Wk E n v r) k = true := by rw [b_and, b1, hk2.mp b2]; rfl
        have e : fa_first (bt (E its &&& Wk E n v r)) 12 = k := first_eq hno hb (by omega)
        have el : lwz (E its &&& Wk E n v r) = k := by
          unfold lwz
          rw [e, if_pos (by omega)]
        rw [el]
      · rw [if_neg b2]
        refine next ?_
        rw [b_and, b1, Bool.true_and]
        cases z : bt (Wk E n v r) k with
        | false => rfl
        | true => exact absurd (hk2.mpr z) b2
theorem l_mway1 {u v dd k : Nat} (hE : nt E n) (hv : v < n) (hu : u < n) (hd : ds E n v u = dd) (hdn : dd < n) (hk : k ≤ dd) {S : Nat → Int32} (hS : ∀ w, w < n → S w = E w) (hm : MN h n) (e77 : h.1 77 = mr_I 24 S) {f : Nat → Int32} (e88 : h.1 88 = mr_I 12 f) (hf : ∀ i, i < n → f i = FR E n v (n - 1) i) {x1 x2 : Int32} : ∀ (d s : Nat) (v6 : Value), s + d = k → mr_wp 164 72 [.ref 74, .int x1, .int x2, .int (nI k), .int (nI (nd E n v u dd s)), .int (nI s), v6] [] h Q = Q (some (.int (nI (nd E n v u dd k)))) h := by
  have hn := hE.1
  obtain ⟨th, ty, tt, tk, pl, va, fa, dn, dr, um, sn, uf, e74⟩ := id hm
  intro d
  induction d with
  | zero =>
    intro s v6 hs
    have : s = k := by omega
    subst this
    rw [s_mo_way_72]
    simp only [S_mo_way_0, S_mo_way_1, e74, MO, SEL, PF, mr_gf_O, mr_rc_O, Option.toList_some, Option.toList_none, List.cons_append, List.nil_append, b2i_0, b2i_1, b2i_a, a_00, a_11, ai_n, si_n, nI_1, q_rl_bit, mr_up_at, Nat.reduceLeDiff, Nat.reduceLT, Nat.reduceEqDiff, Nat.reduceAdd, if_true, if_false, Bool.true_eq_false, Bool.false_eq_true, Bool.true_and, Bool.false_and, Bool.and_true, Bool.and_false, i_10, i_01, i_00, not_true_eq_false, not_false_eq_true, if_pos (nI_le (Nat.le_refl s) (show s < 2 ^ 31 by omega))]
  | succ d ih =>
    intro s v6 hs
    obtain ⟨i1, i2⟩ := nd_ok hE hv hu hd hdn s (by omega)
    obtain ⟨y, hy⟩ := ds_ex (r := dd - (s + 1)) hE hv i1 (by omega) (by omega)
    rw [s_mo_way_72]
    simp only [S_mo_way_0, S_mo_way_1, e74, MO, SEL, PF, mr_gf_O, mr_rc_O, Option.toList_some, Option.toList_none, List.cons_append, List.nil_append, b2i_0, b2i_1, b2i_a, a_00, a_11, ai_n, si_n, nI_1, q_rl_bit, mr_up_at, Nat.reduceLeDiff, Nat.reduceLT, Nat.reduceEqDiff, Nat.reduceAdd, if_true, if_false, Bool.true_eq_false, Bool.false_eq_true, Bool.true_and, Bool.false_and, Bool.and_true, Bool.and_false, i_10, i_01, i_00, not_true_eq_false, not_false_eq_true, if_neg (show ¬ nI k ≤ nI s from nI_ge (by omega) (by omega))]
    rw [← nI_0, l_mway2 hE hv i1 (show ds E n v (nd E n v u dd s) = dd - (s + 1) + 1 by omega) (by omega) hS hm e77 e88 hf ⟨y, hy⟩ n 0 (by omega) (fun j hj => absurd hj (Nat.not_lt_zero j))]
    simp only [S_mo_way_0, S_mo_way_1, SEL, PF, mr_gf_O, mr_rc_O, Option.toList_some, Option.toList_none, List.cons_append, List.nil_append, b2i_0, b2i_1, b2i_a, a_00, a_11, ai_n, si_n, nI_1, q_rl_bit, mr_up_at, Nat.reduceLeDiff, Nat.reduceLT, Nat.reduceEqDiff, Nat.reduceAdd, if_true, if_false, Bool.true_eq_false, Bool.false_eq_true, Bool.true_and, Bool.false_and, Bool.and_true, Bool.and_false, i_10, i_01, i_00, not_true_eq_false, not_false_eq_true]
    exact ih (s + 1) _ (by omega)
theorem b_way (hi : Inv h) (u v k : Int32) : Both 77 164 [.int u, .int v, .int k] h := by
  obtain ⟨n, len, us, m, E, K, st⟩ := hi
  have hE := St_E st
  have hn := hE.1
  have h1n := St_n st
  by_cases ok : (inN u n && inN v n && decide ((-1 : Int32) ≤ k)) = true
  · have hu : inN u n = true := by revert ok; cases inN u n <;> simp
    have hv : inN v n = true := by revert ok; cases inN v n <;> simp
    have hk : (-1 : Int32) ≤ k := by simpa [hu, hv] using ok
    obtain ⟨a, ha, rfl⟩ := inN_yes hn hu
    obtain ⟨b, hb, rfl⟩ := inN_yes hn hv
    have hk0 : k < 0 ↔ k = -1 := by
      rw [fa_lt, fa_eq]
      rw [fa_le] at hk
      have e1 : (-1 : Int32).toInt = -1 := by decide
      have e0 : (0 : Int32).toInt = 0 := by decide
      omega
    refine both_ro st (if ds E n b a < n then (if nI (ds E n b a) < k then -9 else if k = -1 then nI (ds E n b a) else nI (nd E n b a (ds E n b a) k.toNatClampNeg)) else -9) ?_ ?_
    · intro h Q st kk
      rw [r_rl_way]
      simp only [S_rl_way, St_0 st, RLO, SEL, PF, mr_gf_O, mr_rc_O, Option.toList_some, Option.toList_none, List.cons_append, List.nil_append, b2i_0, b2i_1, b2i_a, a_00, a_11, ai_n, si_n, nI_1, q_rl_bit, mr_up_at, Nat.reduceLeDiff, Nat.reduceLT, Nat.reduceEqDiff, Nat.reduceAdd, if_true, if_false, Bool.true_eq_false, Bool.false_eq_true, Bool.true_and, Bool.false_and, Bool.and_true, Bool.and_false, i_10, i_01, i_00, not_true_eq_false, not_false_eq_true, q_rl_areNodes (St_0 st) (St_1 st), hu, hv, if_pos hk, c20 st]
      refine q_wa_shortest st ha hb ?_
      intro h2 F f2 s2 e21 hF
      have kk0 := kk h2 s2 f2.1
      simp only [S_rl_way, SEL, PF, mr_gf_O, mr_rc_O, Option.toList_some, Option.toList_none, List.cons_append, List.nil_append, b2i_0, b2i_1, b2i_a, a_00, a_11, ai_n, si_n, nI_1, q_rl_bit, mr_up_at, Nat.reduceLeDiff, Nat.reduceLT, Nat.reduceEqDiff, Nat.reduceAdd, if_true, if_false, Bool.true_eq_false, Bool.false_eq_true, Bool.true_and, Bool.false_and, Bool.and_true, Bool.and_false, i_10, i_01, i_00, not_true_eq_false, not_false_eq_true]
      by_cases hd : ds E n b a < n
      · simp only [if_pos hd] at kk0 ⊢
        rw [if_neg (nI_pos (by omega))]
        by_cases b2 : nI (ds E n b a) < k
        · rw [if_pos b2] at kk0
          rw [if_neg (fa_of_lt b2).2.1]
          exact kk0
        · rw [if_neg b2] at kk0
          rw [if_pos (fa_of_nlt b2)]
          by_cases b3 : k = -1
          · rw [if_pos b3] at kk0
            rw [if_neg (by simpa using b3)]
            exact kk0
          · rw [if_neg b3] at kk0
            rw [if_pos b3]
            obtain ⟨j, hj, rfl⟩ := nI_of (fun z => b3 (hk0.mp z))
            have hjd : j ≤ ds E n b a := by
              rcases Nat.lt_or_ge (ds E n b a) j with z | z
              · exact absurd (nI_lt z hj) b2
              · exact z
            rw [nI_clamp hj] at kk0
            simp only [S_rl_way, SEL, PF, mr_gf_O, mr_rc_O, Option.toList_some, Option.toList_none, List.cons_append, List.nil_append, b2i_0, b2i_1, b2i_a, a_00, a_11, ai_n, si_n, nI_1, q_rl_bit, mr_up_at, Nat.reduceLeDiff, Nat.reduceLT, Nat.reduceEqDiff, Nat.reduceAdd, if_true, if_false, Bool.true_eq_false, Bool.false_eq_true, Bool.true_and, Bool.false_and, Bool.and_true, Bool.and_false, i_10, i_01, i_00, not_true_eq_false, not_false_eq_true, St_0 s2, RLO, c20 s2]
            rw [r_wa_nodeOfShortest]
            simp only [S_wa_nodeOfShortest, SEL, PF, mr_gf_O, mr_rc_O, Option.toList_some, Option.toList_none, List.cons_append, List.nil_append, b2i_0, b2i_1, b2i_a, a_00, a_11, ai_n, si_n, nI_1, q_rl_bit, mr_up_at, Nat.reduceLeDiff, Nat.reduceLT, Nat.reduceEqDiff, Nat.reduceAdd, if_true, if_false, Bool.true_eq_false, Bool.false_eq_true, Bool.true_and, Bool.false_and, Bool.and_true, Bool.and_false, i_10, i_01, i_00, not_true_eq_false, not_false_eq_true]
            have := l_nodeOf (Q := fun v h' => mr_wp 77 70 [.ref 0, .int (nI a), .int (nI b), .int (nI j), .int (nI (ds E n b a))] (v.toList ++ []) h' Q) s2 ha hb rfl hd hjd e21 (fun i hi => hF i hi (by omega)) j 0 (by omega)
            refine this.mpr ?_
            simp only [S_rl_way, SEL, PF, mr_gf_O, mr_rc_O, Option.toList_some, Option.toList_none, List.cons_append, List.nil_append, b2i_0, b2i_1, b2i_a, a_00, a_11, ai_n, si_n, nI_1, q_rl_bit, mr_up_at, Nat.reduceLeDiff, Nat.reduceLT, Nat.reduceEqDiff, Nat.reduceAdd, if_true, if_false, Bool.true_eq_false, Bool.false_eq_true, Bool.true_and, Bool.false_and, Bool.and_true, Bool.and_false, i_10, i_01, i_00, not_true_eq_false, not_false_eq_true]
            exact kk0
      · simp only [if_neg hd] at kk0 ⊢
        rw [if_pos (show (-9 : Int32) < 0 by decide)]
        exact kk0
    · intro h Q st kk
      obtain ⟨th, tt, tk, pl, va, fa, dn, dr, uf, e74⟩ := id st.2.2.2.2.2.2
      rw [r_mo_way]
      simp only [S_mo_way_0, S_mo_way_1, e74, MO, SEL, PF, mr_gf_O, mr_rc_O, Option.toList_some, Option.toList_none, List.cons_append, List.nil_append, b2i_0, b2i_1, b2i_a, a_00, a_11, ai_n, si_n, nI_1, q_rl_bit, mr_up_at, Nat.reduceLeDiff, Nat.reduceLT, Nat.reduceEqDiff, Nat.reduceAdd, if_true, if_false, Bool.true_eq_false, Bool.false_eq_true, Bool.true_and, Bool.false_and, Bool.and_true, Bool.and_false, i_10, i_01, i_00, not_true_eq_false, not_false_eq_true]
      refine St_th (k := fun hh => mr_run 132 [.ref 74, .int (nI a)] hh _) st (fun h2 s2 e2 => ?_) e74 rfl
      obtain ⟨th, tt, tk, pl, va, fa, dn, dr, uf, g74⟩ := id s2.2.2.2.2.2.2
      simp only [S_mo_way_0, S_mo_way_1, q_mo_isNode hn h1n (St_M s2), hu, hv, SEL, PF, mr_gf_O, mr_rc_O, Option.toList_some, Option.toList_none, List.cons_append, List.nil_append, b2i_0, b2i_1, b2i_a, a_00, a_11, ai_n, si_n, nI_1, q_rl_bit, mr_up_at, Nat.reduceLeDiff, Nat.reduceLT, Nat.reduceEqDiff, Nat.reduceAdd, if_true, if_false, Bool.true_eq_false, Bool.false_eq_true, Bool.true_and, Bool.false_and, Bool.and_true, Bool.and_false, i_10, i_01, i_00, not_true_eq_false, not_false_eq_true, g74, MO, if_pos hk]
      refine q_mo_measures s2 hb ?_
      intro h3 f f3 s3 e88 hf
      have kk0 := kk h3 s3 (f3.1.trans e2)
      obtain ⟨th, tt, tk, pl, va, fa, dn, dr, uf, k74⟩ := id s3.2.2.2.2.2.2
      simp only [S_mo_way_0, S_mo_way_1, SEL, PF, mr_gf_O, mr_rc_O, Option.toList_some, Option.toList_none, List.cons_append, List.nil_append, b2i_0, b2i_1, b2i_a, a_00, a_11, ai_n, si_n, nI_1, q_rl_bit, mr_up_at, Nat.reduceLeDiff, Nat.reduceLT, Nat.reduceEqDiff, Nat.reduceAdd, if_true, if_false, Bool.true_eq_false, Bool.false_eq_true, Bool.true_and, Bool.false_and, Bool.and_true, Bool.and_false, i_10, i_01, i_00, not_true_eq_false, not_false_eq_true, k74, MO, e88, show a < 12 by omega]
      have hfa := hf a ha
      unfold FR at hfa
      by_cases hd : ds E n b a < n
      · rw [if_pos (by omega)] at hfa
        rw [if_pos hd] at kk0
        rw [hfa, if_neg (nI_pos (by omega))]
        by_cases b2 : nI (ds E n b a) < k
        · rw [if_pos b2] at kk0
          rw [if_neg (fa_of_lt b2).2.1]
          exact kk0
        · rw [if_neg b2] at kk0
          rw [if_pos (fa_of_nlt b2)]
          by_cases b3 : k = -1
          · rw [if_pos b3] at kk0
            rw [if_neg (by rw [b3]; decide)]
            exact kk0
          · rw [if_neg b3] at kk0
            obtain ⟨j, hj, rfl⟩ := nI_of (fun z => b3 (hk0.mp z))
            have hjd : j ≤ ds E n b a := by
              rcases Nat.lt_or_ge (ds E n b a) j with z | z
              · exact absurd (nI_lt z hj) b2
              · exact z
            rw [nI_clamp hj] at kk0
            rw [if_pos (nI_pos' hj), ← nI_0]
            obtain ⟨S, e77, hS⟩ := St_77 s3
            have := fun v6 => l_mway1 (Q := Q) hE hb ha rfl hd hjd (fun w hw => (hS w hw).1) (St_M s3) e77 e88 hf (x1 := nI a) (x2 := nI b) j 0 v6 (by omega)
            exact (this _).mpr kk0
      · rw [if_neg (by omega)] at hfa
        rw [if_neg hd] at kk0
        rw [hfa, if_pos (show (-1 : Int32) < 0 by decide)]
        exact kk0
  · have ok' : (inN u n && inN v n && decide ((-1 : Int32) ≤ k)) = false := by simpa using ok
    refine both_ro st (-1) ?_ ?_
    · intro h Q st kk
      rw [r_rl_way]
      have := kk h st rfl
      simp only [S_rl_way, St_0 st, RLO, SEL, PF, mr_gf_O, mr_rc_O, Option.toList_some, Option.toList_none, List.cons_append, List.nil_append, b2i_0, b2i_1, b2i_a, a_00, a_11, ai_n, si_n, nI_1, q_rl_bit, mr_up_at, Nat.reduceLeDiff, Nat.reduceLT, Nat.reduceEqDiff, Nat.reduceAdd, if_true, if_false, Bool.true_eq_false, Bool.false_eq_true, Bool.true_and, Bool.false_and, Bool.and_true, Bool.and_false, i_10, i_01, i_00, not_true_eq_false, not_false_eq_true, q_rl_areNodes (St_0 st) (St_1 st)]
      cases hab : (inN u n && inN v n) with
      | false => simpa only [SEL, PF, mr_gf_O, mr_rc_O, Option.toList_some, Option.toList_none, List.cons_append, List.nil_append, b2i_0, b2i_1, b2i_a, a_00, a_11, ai_n, si_n, nI_1, q_rl_bit, mr_up_at, Nat.reduceLeDiff, Nat.reduceLT, Nat.reduceEqDiff, Nat.reduceAdd, if_true, if_false, Bool.true_eq_false, Bool.false_eq_true, Bool.true_and, Bool.false_and, Bool.and_true, Bool.and_false, i_10, i_01, i_00, not_true_eq_false, not_false_eq_true] using this
      | true =>
        rw [hab, Bool.true_and] at ok'
        have hk : ¬ (-1 : Int32) ≤ k := by simpa using ok'
        simp only [SEL, PF, mr_gf_O, mr_rc_O, Option.toList_some, Option.toList_none, List.cons_append, List.nil_append, b2i_0, b2i_1, b2i_a, a_00, a_11, ai_n, si_n, nI_1, q_rl_bit, mr_up_at, Nat.reduceLeDiff, Nat.reduceLT, Nat.reduceEqDiff, Nat.reduceAdd, if_true, if_false, Bool.true_eq_false, Bool.false_eq_true, Bool.true_and, Bool.false_and, Bool.and_true, Bool.and_false, i_10, i_01, i_00, not_true_eq_false, not_false_eq_true, if_neg hk]
        exact this
    · intro h Q st kk
      obtain ⟨th, tt, tk, pl, va, fa, dn, dr, uf, e74⟩ := id st.2.2.2.2.2.2
      rw [r_mo_way]
      simp only [S_mo_way_0, S_mo_way_1, e74, MO, SEL, PF, mr_gf_O, mr_rc_O, Option.toList_some, Option.toList_none, List.cons_append, List.nil_append, b2i_0, b2i_1, b2i_a, a_00, a_11, ai_n, si_n, nI_1, q_rl_bit, mr_up_at, Nat.reduceLeDiff, Nat.reduceLT, Nat.reduceEqDiff, Nat.reduceAdd, if_true, if_false, Bool.true_eq_false, Bool.false_eq_true, Bool.true_and, Bool.false_and, Bool.and_true, Bool.and_false, i_10, i_01, i_00, not_true_eq_false, not_false_eq_true]
      refine St_th (k := fun hh => mr_run 132 [.ref 74, .int u] hh _) st (fun h2 s2 e2 => ?_) e74 rfl
      obtain ⟨th, tt, tk, pl, va, fa, dn, dr, uf, g74⟩ := id s2.2.2.2.2.2.2
      have := kk h2 s2 e2
      simp only [S_mo_way_0, S_mo_way_1, q_mo_isNode hn h1n (St_M s2), SEL, PF, mr_gf_O, mr_rc_O, Option.toList_some, Option.toList_none, List.cons_append, List.nil_append, b2i_0, b2i_1, b2i_a, a_00, a_11, ai_n, si_n, nI_1, q_rl_bit, mr_up_at, Nat.reduceLeDiff, Nat.reduceLT, Nat.reduceEqDiff, Nat.reduceAdd, if_true, if_false, Bool.true_eq_false, Bool.false_eq_true, Bool.true_and, Bool.false_and, Bool.and_true, Bool.and_false, i_10, i_01, i_00, not_true_eq_false, not_false_eq_true, g74, MO]
      cases hu : inN u n with
      | false => simpa only [SEL, PF, mr_gf_O, mr_rc_O, Option.toList_some, Option.toList_none, List.cons_append, List.nil_append, b2i_0, b2i_1, b2i_a, a_00, a_11, ai_n, si_n, nI_1, q_rl_bit, mr_up_at, Nat.reduceLeDiff, Nat.reduceLT, Nat.reduceEqDiff, Nat.reduceAdd, if_true, if_false, Bool.true_eq_false, Bool.false_eq_true, Bool.true_and, Bool.false_and, Bool.and_true, Bool.and_false, i_10, i_01, i_00, not_true_eq_false, not_false_eq_true] using this
      | true => cases hv : inN v n with
        | false => simpa only [SEL, PF, mr_gf_O, mr_rc_O, Option.toList_some, Option.toList_none, List.cons_append, List.nil_append, b2i_0, b2i_1, b2i_a, a_00, a_11, ai_n, si_n, nI_1, q_rl_bit, mr_up_at, Nat.reduceLeDiff, Nat.reduceLT, Nat.reduceEqDiff, Nat.reduceAdd, if_true, if_false, Bool.true_eq_false, Bool.false_eq_true, Bool.true_and, Bool.false_and, Bool.and_true, Bool.and_false, i_10, i_01, i_00, not_true_eq_false, not_false_eq_true] using this
        | true =>
          rw [hu, hv] at ok'
          have hk : ¬ (-1 : Int32) ≤ k := by simpa using ok'
          simp only [SEL, PF, mr_gf_O, mr_rc_O, Option.toList_some, Option.toList_none, List.cons_append, List.nil_append, b2i_0, b2i_1, b2i_a, a_00, a_11, ai_n, si_n, nI_1, q_rl_bit, mr_up_at, Nat.reduceLeDiff, Nat.reduceLT, Nat.reduceEqDiff, Nat.reduceAdd, if_true, if_false, Bool.true_eq_false, Bool.false_eq_true, Bool.true_and, Bool.false_and, Bool.and_true, Bool.and_false, i_10, i_01, i_00, not_true_eq_false, not_false_eq_true, if_neg hk]
          exact this
end WAY
