/-! rings, names, as masks; both sides -/
def Bh (E : Nat → Int32) (n v : Nat) : Int32 := mk (fun u => rr E n u v) n
def rg (E : Nat → Int32) (n v w : Nat) : Bool := rr E n v w && rr E n w v
def Rg (E : Nat → Int32) (n v : Nat) : Int32 := mk (rg E n v) n
def Nm (E : Nat → Int32) (n v : Nat) : Nat := fa_first (rg E n v) n
def orb (f : Nat → Nat) : Nat → Int32
  | 0 => 0
  | k + 1 => orb f k ||| nb (f k)
def Ns (E : Nat → Int32) (n : Nat) : Int32 := orb (Nm E n) n
theorem Bh_bt {E : Nat → Int32} {n v i : Nat} (hn : n ≤ 12) : bt (Bh E n v) i = (decide (i < n) && rr E n i v) := mk_bt (by omega) i
theorem Rg_bt {E : Nat → Int32} {n v i : Nat} (hn : n ≤ 12) : bt (Rg E n v) i = (decide (i < n) && rg E n v i) := mk_bt (by omega) i
theorem rg_self {E : Nat → Int32} {n v : Nat} (hE : nt E n) (hv : v < n) : rg E n v v = true := by
  unfold rg
  rw [rr_refl hE hv]
  rfl
theorem rg_symm (E : Nat → Int32) (n v w : Nat) : rg E n v w = rg E n w v := by
  unfold rg
  rw [Bool.and_comm]
theorem rg_tr {E : Nat → Int32} {n u v w : Nat} (hv : v < n) (h1 : rg E n u v = true) (h2 : rg E n v w = true) : rg E n u w = true := by
  unfold rg at *
  simp only [Bool.and_eq_true] at *
  exact ⟨rr_tr hv h1.1 h2.1, rr_tr hv h2.2 h1.2⟩
theorem first_lt {p : Nat → Bool} {n k : Nat} (hk : k < n) (h : p k = true) : fa_first p n ≤ k := by
  rcases Nat.lt_or_ge k (fa_first p n) with z | z
  · have := fa_first_no p n k z
    rw [h] at this
    cases this
  · exact z
theorem Nm_le {E : Nat → Int32} {n v : Nat} (hE : nt E n) (hv : v < n) : Nm E n v ≤ v := first_lt hv (rg_self hE hv)
theorem Nm_lt {E : Nat → Int32} {n v : Nat} (hE : nt E n) (hv : v < n) : Nm E n v < n := Nat.lt_of_le_of_lt (Nm_le hE hv) hv
theorem Nm_rg {E : Nat → Int32} {n v : Nat} (hE : nt E n) (hv : v < n) : rg E n v (Nm E n v) = true := fa_first_yes _ n (Nm_lt hE hv)
theorem Nm_no {E : Nat → Int32} {n v k : Nat} (h : k < Nm E n v) : rg E n v k = false := fa_first_no _ n k h
theorem Nm_cong {E : Nat → Int32} {n u v : Nat} (hE : nt E n) (hu : u < n) (hv : v < n) (h : rg E n u v = true) : Nm E n u = Nm E n v := by
  have key : ∀ a b, a < n → b < n → rg E n a b = true → Nm E n b ≤ Nm E n a := fun a b ha hb hab =>
    first_lt (Nm_lt hE ha) (rg_tr ha (by rw [rg_symm]; exact hab) (Nm_rg hE ha))
  exact Nat.le_antisymm (key v u hv hu (by rw [rg_symm]; exact h)) (key u v hu hv h)
theorem Nm_Nm {E : Nat → Int32} {n v : Nat} (hE : nt E n) (hv : v < n) : Nm E n (Nm E n v) = Nm E n v := (Nm_cong hE hv (Nm_lt hE hv) (Nm_rg hE hv)).symm
theorem orb_bt (f : Nat → Nat) : ∀ (n : Nat), (∀ k, k < n → f k < 32) → ∀ i, bt (orb f n) i = true ↔ ∃ k, k < n ∧ f k = i
  | 0, _, i => by simp [orb, b_0]
  | n + 1, hf, i => by
    have ih := orb_bt f n (fun k hk => hf k (by omega)) i
    show bt (orb f n ||| nb (f n)) i = true ↔ _
    rw [b_or, nb_bt (hf n (by omega))]
    simp only [Bool.or_eq_true, decide_eq_true_eq]
    constructor
    · rintro (h | h)
      · obtain ⟨k, h1, h2⟩ := ih.mp h
        exact ⟨k, by omega, h2⟩
      · exact ⟨n, by omega, h.symm⟩
    · rintro ⟨k, h1, h2⟩
      by_cases e : k = n
      · subst e; exact Or.inr h2.symm
      · exact Or.inl (ih.mpr ⟨k, by omega, h2⟩)
/-- is it a name -/
def ns (E : Nat → Int32) (n h : Nat) : Bool := bt (Ns E n) h
theorem ns_iff {E : Nat → Int32} {n h : Nat} (hE : nt E n) : ns E n h = true ↔ h < n ∧ Nm E n h = h := by
  have hn := hE.1
  unfold ns Ns
  rw [orb_bt _ n (fun k hk => by have := Nm_lt hE hk; omega)]
  constructor
  · rintro ⟨k, h1, h2⟩
    subst h2
    exact ⟨Nm_lt hE h1, Nm_Nm hE h1⟩
  · rintro ⟨h1, h2⟩
    exact ⟨h, h1, h2⟩
theorem Ns_sm {E : Nat → Int32} {n : Nat} (hE : nt E n) : sm (Ns E n) := by
  intro i hi
  cases h : bt (Ns E n) i with
  | false => rfl
  | true => have := ((ns_iff hE).mp h).1; have := hE.1; omega
theorem ns_Nm {E : Nat → Int32} {n v : Nat} (hE : nt E n) (hv : v < n) : ns E n (Nm E n v) = true := (ns_iff hE).mpr ⟨Nm_lt hE hv, Nm_Nm hE hv⟩
theorem lwz_mk {p : Nat → Bool} {n : Nat} (hn : n ≤ 12) (h : fa_first p n < n) : lwz (mk p n) = fa_first p n ∧ fa_first (bt (mk p n)) 12 < 12 := by
  have e : fa_first (bt (mk p n)) 12 = fa_first p n := by
    refine first_eq (fun j hj => ?_) ?_ (by omega)
    · rw [mk_bt (by omega), fa_first_no p n j hj, Bool.and_false]
    · rw [mk_bt (by omega), fa_first_yes p n h, decide_eq_true h]
      rfl
  unfold lwz
  rw [e, if_pos (by omega)]
  exact ⟨rfl, by omega⟩
theorem lwz_Rg {E : Nat → Int32} {n v : Nat} (hE : nt E n) (hv : v < n) : lwz (Rg E n v) = Nm E n v ∧ fa_first (bt (Rg E n v)) 12 < 12 := lwz_mk hE.1 (Nm_lt hE hv)
/-- a row of the closure with the column: the ring -/
theorem ring_and {E : Nat → Int32} {n v : Nat} {A : Nat → Int32} (hE : nt E n) (hA : ∀ j, j < n → A j = RR E n j) (hv : v < n) : A v &&& mk (fun u => bt (A u) v) n = Rg E n v := by
  have hn := hE.1
  refine sm_ext (sm_and2 (mk_sm hn)) (mk_sm hn) (fun i _ => ?_)
  rw [b_and, mk_bt (by omega), Rg_bt hn, hA v hv]
  by_cases hi : i < n
  · rw [hA i hi]
    simp only [decide_eq_true hi, Bool.true_and]
    rfl
  · simp [hi]
theorem col_eq {E : Nat → Int32} {n v : Nat} {A : Nat → Int32} (hA : ∀ j, j < n → A j = RR E n j) : mk (fun u => bt (A u) v) n = Bh E n v := mk_cong fun k hk => by rw [hA k hk]; rfl
theorem ring_and2 {E : Nat → Int32} {n v : Nat} (hE : nt E n) (hv : v < n) : RR E n v &&& Bh E n v = Rg E n v := by
  have := ring_and (A := RR E n) hE (fun _ _ => rfl) hv
  rwa [col_eq (fun _ _ => rfl)] at this
section RINGS
variable {h : mr_h} {Q : Option Value → mr_h → Prop} {n : Nat} {E A : Nat → Int32}
theorem q_mo_ring (hE : nt E n) (hA : ∀ j, j < n → A j = RR E n j) {v : Nat} (hv : v < n) (hm : MN h n) (e85 : h.1 85 = mr_I 12 A) : mr_run 135 [.ref 74, .int (nI v)] h Q = Q (some (.int (Rg E n v))) h := by
  rw [q_mo_ringOf hE.1 (by have := hE.1; omega) hm e85, ring_and hE hA hv]
theorem q_mo_behind (hE : nt E n) (hA : ∀ j, j < n → A j = RR E n j) {v : Nat} (hv : v < n) (hm : MN h n) (e85 : h.1 85 = mr_I 12 A) : mr_run 136 [.ref 74, .int (nI v)] h Q = Q (some (.int (Bh E n v))) h := by
  rw [q_mo_comingTo hE.1 (by have := hE.1; omega) hm e85, col_eq hA]
theorem q_mo_nameOf (hE : nt E n) (hA : ∀ j, j < n → A j = RR E n j) {v : Nat} (hv : v < n) (hm : MN h n) (e85 : h.1 85 = mr_I 12 A) : mr_run 134 [.ref 74, .int (nI v)] h Q = Q (some (.int (nI (Nm E n v)))) h := by
  obtain ⟨th, ty, tt, tk, pl, va, fa, dn, dr, um, sn, uf, e74⟩ := id hm
  have := lwz_Rg hE hv
  rw [r_mo_nameOf]
  simp only [S_mo_nameOf, e74, MO, SEL, PF, mr_gf_O, mr_rc_O, Option.toList_some, Option.toList_none, List.cons_append, List.nil_append, b2i_0, b2i_1, b2i_a, a_00, a_11, ai_n, si_n, nI_1, q_rl_bit, mr_up_at, Nat.reduceLeDiff, Nat.reduceLT, Nat.reduceEqDiff, Nat.reduceAdd, if_true, if_false, q_mo_ring hE hA hv hm e85, q_mo_lowest this.2, this.1]
theorem l_mo_names (hE : nt E n) (hA : ∀ j, j < n → A j = RR E n j) (hm : MN h n) (e85 : h.1 85 = mr_I 12 A) : ∀ (d k : Nat), k + d = n →
    mr_wp 138 4 [.ref 74, .int (orb (Nm E n) k), .int (nI k)] [] h Q = Q (some (.int (Ns E n))) h := by
  obtain ⟨th, ty, tt, tk, pl, va, fa, dn, dr, um, sn, uf, e74⟩ := id hm
  have hn := hE.1
  intro d
  induction d with
  | zero =>
    intro k hk
    have : k = n := by omega
    subst this
    rw [s_mo_names_4]
    simp only [S_mo_names, e74, MO, SEL, PF, mr_gf_O, mr_rc_O, Option.toList_some, Option.toList_none, List.cons_append, List.nil_append, b2i_0, b2i_1, b2i_a, a_00, a_11, ai_n, si_n, nI_1, q_rl_bit, mr_up_at, Nat.reduceLeDiff, Nat.reduceLT, Nat.reduceEqDiff, Nat.reduceAdd, if_true, if_false, if_pos (nI_le (Nat.le_refl k) (by omega))]
    rfl
  | succ d ih =>
    intro k hk
    have c1 : ¬ nI n ≤ nI k := nI_ge (by omega) (by omega)
    have hkn : k < n := by omega
    rw [s_mo_names_4]
    simp only [S_mo_names, e74, MO, if_neg c1, SEL, PF, mr_gf_O, mr_rc_O, Option.toList_some, Option.toList_none, List.cons_append, List.nil_append, b2i_0, b2i_1, b2i_a, a_00, a_11, ai_n, si_n, nI_1, q_rl_bit, mr_up_at, Nat.reduceLeDiff, Nat.reduceLT, Nat.reduceEqDiff, Nat.reduceAdd, if_true, if_false, q_mo_nameOf hE hA hkn hm e85, nb_def]
    exact ih (k + 1) (by omega)
theorem q_mo_names (hE : nt E n) (hA : ∀ j, j < n → A j = RR E n j) (hm : MN h n) (e85 : h.1 85 = mr_I 12 A) : mr_run 138 [.ref 74] h Q = Q (some (.int (Ns E n))) h := by
  rw [r_mo_names]
  simp only [S_mo_names]
  have := l_mo_names (Q := Q) hE hA hm e85 n 0 (by omega)
  rw [nI_0] at this
  exact this
/-! the class -/
theorem q_re_ringOf {B : Nat → Int32} {nm : Int32} {v : Nat} (hv : v < 12) (e9 : h.1 9 = RE n nm) (e10 : h.1 10 = mr_I 12 A) (e11 : h.1 11 = mr_I 12 B) : mr_run 20 [.ref 9, .int (nI v)] h Q = Q (some (.int (A v &&& B v))) h := by
  rw [r_re_ringOf]
  simp only [S_re_ringOf, e9, RE, e10, e11, SEL, PF, mr_gf_O, mr_rc_O, Option.toList_some, Option.toList_none, List.cons_append, List.nil_append, b2i_0, b2i_1, b2i_a, a_00, a_11, ai_n, si_n, nI_1, q_rl_bit, mr_up_at, Nat.reduceLeDiff, Nat.reduceLT, Nat.reduceEqDiff, Nat.reduceAdd, if_true, if_false, hv]
theorem q_re_leads {nm : Int32} {u v : Nat} (hu : u < 12) (hv : v < 32) (e9 : h.1 9 = RE n nm) (e10 : h.1 10 = mr_I 12 A) : mr_run 25 [.ref 9, .int (nI u), .int (nI v)] h Q = Q (some (.int (b2i (bt (A u) v)))) h := by
  rw [r_re_leads]
  simp only [S_re_leads, e9, RE, e10, SEL, PF, mr_gf_O, mr_rc_O, Option.toList_some, Option.toList_none, List.cons_append, List.nil_append, b2i_0, b2i_1, b2i_a, a_00, a_11, ai_n, si_n, nI_1, q_rl_bit, mr_up_at, Nat.reduceLeDiff, Nat.reduceLT, Nat.reduceEqDiff, Nat.reduceAdd, if_true, if_false, hu, q_rl_holds hv]
theorem l_turn2 (hn : n ≤ 12) {B : Nat → Int32} {nm : Int32} {v : Nat} (hvn : v < n) (e9 : h.1 9 = RE n nm) (e10 : h.1 10 = mr_I 12 A) : ∀ (d k : Nat) (h1 : mr_h), k + d = n → h1.1 11 = mr_I 12 (upd B v (mk (fun u => bt (A u) v) k)) → mr_fr h h1 [11] →
    (∀ h2, mr_fr h h2 [11] → h2.1 11 = mr_I 12 (upd B v (mk (fun u => bt (A u) v) n)) → mr_wp 18 2 [.ref 9, .int (nI (v + 1)), .int (nI n)] [] h2 Q) → mr_wp 18 19 [.ref 9, .int (nI v), .int (nI k)] [] h1 Q := by
  intro d
  induction d with
  | zero =>
    intro k h1 hk he hf kk
    have : k = n := by omega
    subst this
    have f9 := fr_at hf (by decide) e9
    rw [s_re_turnAround_19]
    simp only [S_re_turnAround, f9, RE, SEL, PF, mr_gf_O, mr_rc_O, Option.toList_some, Option.toList_none, List.cons_append, List.nil_append, b2i_0, b2i_1, b2i_a, a_00, a_11, ai_n, si_n, nI_1, q_rl_bit, mr_up_at, Nat.reduceLeDiff, Nat.reduceLT, Nat.reduceEqDiff, Nat.reduceAdd, if_true, if_false, if_pos (nI_le (Nat.le_refl k) (by omega))]
    exact kk h1 hf he
  | succ d ih =>
    intro k h1 hk he hf kk
    have c1 : ¬ nI n ≤ nI k := nI_ge (by omega) (by omega)
    have f9 := fr_at hf (by decide) e9
    have f10 := fr_at hf (by decide) e10
    have hk12 : k < 12 := by omega
    have hv12 : v < 12 := by omega
    have ev : upd B v (mk (fun u => bt (A u) v) k) v = mk (fun u => bt (A u) v) k := by simp [upd]
    rw [s_re_turnAround_19]
    simp only [S_re_turnAround, f9, RE, f10, he, SEL, PF, mr_gf_O, mr_rc_O, Option.toList_some, Option.toList_none, List.cons_append, List.nil_append, b2i_0, b2i_1, b2i_a, a_00, a_11, ai_n, si_n, nI_1, q_rl_bit, mr_up_at, Nat.reduceLeDiff, Nat.reduceLT, Nat.reduceEqDiff, Nat.reduceAdd, if_true, if_false, if_neg c1, hk12, hv12, q_rl_holds (show v < 32 by omega), ev]
    by_cases hb : bt (A k) v = true
    · simp only [hb, Bool.true_eq_false, if_false, mk_yes (p := fun u => bt (A u) v) hb]
      exact ih (k + 1) _ (by omega) (by rw [up_eq]; congr 1; funext j; by_cases e : j = v <;> simp [upd, e]) (fr_up _ hf (by decide)) kk
    · have hb' : bt (A k) v = false := by simpa using hb
      simp only [hb', if_true]
      exact ih (k + 1) h1 (by omega) (by rw [he, mk_no (p := fun u => bt (A u) v) hb']) hf kk
def tb (A B : Nat → Int32) (n k : Nat) : Nat → Int32 := fun v => if v < k then mk (fun u => bt (A u) v) n else B v
theorem tb_s (A B : Nat → Int32) (n k : Nat) : upd (tb A B n k) k (mk (fun u => bt (A u) k) n) = tb A B n (k + 1) := by
  refine upd_ext ?_ (fun j e => ?_)
  · unfold tb
    rw [if_pos (Nat.lt_succ_self k)]
  · unfold tb
    simp only [lt_s_ne e]
theorem l_turn1 (hn : n ≤ 12) {B : Nat → Int32} {nm : Int32} (e9 : h.1 9 = RE n nm) (e10 : h.1 10 = mr_I 12 A) : ∀ (d k : Nat) (h1 : mr_h) (v2 : Value), k + d = n → h1.1 11 = mr_I 12 (tb A B n k) → mr_fr h h1 [11] →
    (∀ h2, mr_fr h h2 [11] → h2.1 11 = mr_I 12 (tb A B n n) → Q none h2) → mr_wp 18 2 [.ref 9, .int (nI k), v2] [] h1 Q := by
  intro d
  induction d with
  | zero =>
    intro k h1 v2 hk he hf kk
    have : k = n := by omega
    subst this
    have f9 := fr_at hf (by decide) e9
    rw [s_re_turnAround_2]
    simp only [S_re_turnAround, f9, RE, SEL, PF, mr_gf_O, mr_rc_O, Option.toList_some, Option.toList_none, List.cons_append, List.nil_append, b2i_0, b2i_1, b2i_a, a_00, a_11, ai_n, si_n, nI_1, q_rl_bit, mr_up_at, Nat.reduceLeDiff, Nat.reduceLT, Nat.reduceEqDiff, Nat.reduceAdd, if_true, if_false, if_pos (nI_le (Nat.le_refl k) (by omega))]
    exact kk h1 hf he
  | succ d ih =>
    intro k h1 v2 hk he hf kk
    have c1 : ¬ nI n ≤ nI k := nI_ge (by omega) (by omega)
    have f9 := fr_at hf (by decide) e9
    have hk12 : k < 12 := by omega
    rw [s_re_turnAround_2]
    simp only [S_re_turnAround, f9, RE, he, SEL, PF, mr_gf_O, mr_rc_O, Option.toList_some, Option.toList_none, List.cons_append, List.nil_append, b2i_0, b2i_1, b2i_a, a_00, a_11, ai_n, si_n, nI_1, q_rl_bit, mr_up_at, Nat.reduceLeDiff, Nat.reduceLT, Nat.reduceEqDiff, Nat.reduceAdd, if_true, if_false, if_neg c1, hk12]
    rw [← nI_0]
    refine l_turn2 (B := tb A B n k) hn (by omega) e9 e10 n 0 _ (by omega) (by rw [up_eq, nI_0]; rfl) (fr_up _ hf (by decide)) (fun h2 f2 e2 => ?_)
    exact ih (k + 1) h2 _ (by omega) (by rw [e2, tb_s]) f2 kk
theorem q_re_turnAround (hn : n ≤ 12) {B : Nat → Int32} {nm : Int32} (e9 : h.1 9 = RE n nm) (e10 : h.1 10 = mr_I 12 A) (e11 : h.1 11 = mr_I 12 B) (kk : ∀ h2, mr_fr h h2 [11] → h2.1 11 = mr_I 12 (tb A B n n) → Q none h2) : mr_run 18 [.ref 9] h Q := by
  rw [r_re_turnAround]
  simp only [S_re_turnAround]
  rw [← nI_0]
  exact l_turn1 hn e9 e10 n 0 h _ (by omega) (by rw [e11]; unfold tb; simp) (fr_rf _ _) kk
def nf (F : Nat → Nat) (C : Nat → Int32) (k : Nat) : Nat → Int32 := fun j => if j < k then nI (F j) else C j
theorem nf_s (F : Nat → Nat) (C : Nat → Int32) (k : Nat) : upd (nf F C k) k (nI (F k)) = nf F C (k + 1) := by
  refine upd_ext ?_ (fun j e => ?_)
  · unfold nf
    rw [if_pos (Nat.lt_succ_self k)]
  · unfold nf
    simp only [lt_s_ne e]
theorem nf_at (F : Nat → Nat) (C : Nat → Int32) (k : Nat) : nf F C (k + 1) k = nI (F k) := by
  unfold nf
  rw [if_pos (Nat.lt_succ_self k)]
theorem l_nameRings (hE : nt E n) {B C : Nat → Int32} (hA : ∀ j, j < n → A j = RR E n j) (hB : ∀ j, j < n → B j = Bh E n j) (e10 : h.1 10 = mr_I 12 A) (e11 : h.1 11 = mr_I 12 B) : ∀ (d k : Nat) (h1 : mr_h), k + d = n → h1.1 9 = RE n (orb (Nm E n) k) → h1.1 12 = mr_I 12 (nf (Nm E n) C k) → mr_fr h h1 [9, 12] →
    (∀ h2, mr_fr h h2 [9, 12] → h2.1 9 = RE n (Ns E n) → h2.1 12 = mr_I 12 (nf (Nm E n) C n) → Q none h2) → mr_wp 19 7 [.ref 9, .int (nI k)] [] h1 Q := by
  have hn := hE.1
  intro d
  induction d with
  | zero =>
    intro k h1 hk h9 he hf kk
    have : k = n := by omega
    subst this
    rw [s_re_nameRings_7]
    simp only [S_re_nameRings, h9, RE, SEL, PF, mr_gf_O, mr_rc_O, Option.toList_some, Option.toList_none, List.cons_append, List.nil_append, b2i_0, b2i_1, b2i_a, a_00, a_11, ai_n, si_n, nI_1, q_rl_bit, mr_up_at, Nat.reduceLeDiff, Nat.reduceLT, Nat.reduceEqDiff, Nat.reduceAdd, if_true, if_false, if_pos (nI_le (Nat.le_refl k) (by omega))]
    exact kk h1 hf h9 he
  | succ d ih =>
    intro k h1 hk h9 he hf kk
    have c1 : ¬ nI n ≤ nI k := nI_ge (by omega) (by omega)
    have f10 := fr_at hf (by decide) e10
    have f11 := fr_at hf (by decide) e11
    have hkn : k < n := by omega
    have hk12 : k < 12 := by omega
    have hl := (lwz_Rg hE hkn).1
    rw [s_re_nameRings_7]
    simp only [S_re_nameRings, h9, RE, SEL, PF, mr_gf_O, mr_rc_O, Option.toList_some, Option.toList_none, List.cons_append, List.nil_append, b2i_0, b2i_1, b2i_a, a_00, a_11, ai_n, si_n, nI_1, q_rl_bit, mr_up_at, Nat.reduceLeDiff, Nat.reduceLT, Nat.reduceEqDiff, Nat.reduceAdd, if_true, if_false, if_neg c1, hk12, he, q_re_ringOf (n := n) (nm := orb (Nm E n) k) hk12 h9 f10 f11, q_rl_lowest, hA k hkn, hB k hkn, ring_and2 hE hkn, hl, nf_s, nf_at]
    exact ih (k + 1) _ (by omega) (by rw [up_eq]; rfl) (by rw [mr_up_at, if_neg (by decide), up_eq]) (fr_up _ (fr_up _ hf (by decide)) (by decide)) kk
theorem q_re_nameRings (hE : nt E n) {B C : Nat → Int32} {nm : Int32} (hA : ∀ j, j < n → A j = RR E n j) (hB : ∀ j, j < n → B j = Bh E n j) (e9 : h.1 9 = RE n nm) (e10 : h.1 10 = mr_I 12 A) (e11 : h.1 11 = mr_I 12 B) (e12 : h.1 12 = mr_I 12 C)
    (kk : ∀ h2, mr_fr h h2 [9, 12] → h2.1 9 = RE n (Ns E n) → h2.1 12 = mr_I 12 (nf (Nm E n) C n) → Q none h2) : mr_run 19 [.ref 9] h Q := by
  rw [r_re_nameRings]
  simp only [S_re_nameRings, e9, RE, SEL, PF, mr_gf_O, mr_rc_O, Option.toList_some, Option.toList_none, List.cons_append, List.nil_append, b2i_0, b2i_1, b2i_a, a_00, a_11, ai_n, si_n, nI_1, q_rl_bit, mr_up_at, Nat.reduceLeDiff, Nat.reduceLT, Nat.reduceEqDiff, Nat.reduceAdd, if_true, if_false]
  rw [← nI_0]
  exact l_nameRings hE hA hB e10 e11 n 0 _ (by omega) (by rw [up_eq, nI_0]; rfl) (by rw [mr_up_at, if_neg (by decide), e12]; unfold nf; simp) (fr_up _ (fr_rf _ _) (by decide)) kk
end RINGS
