/-! ranks of rings, labels -/
def mnI (p : Nat → Bool) (K : Nat → Int32) (i0 : Int32) : Nat → Int32
  | 0 => i0
  | k + 1 => if p k then (if K k < mnI p K i0 k then K k else mnI p K i0 k) else mnI p K i0 k
theorem mnI_le0 (p : Nat → Bool) (K : Nat → Int32) (i0 : Int32) : ∀ n, mnI p K i0 n ≤ i0
  | 0 => Int32.le_refl _
  | n + 1 => by
    have ih := mnI_le0 p K i0 n
    unfold mnI
    split
    · split
      · rename_i h; rw [fa_le] at *; rw [fa_lt] at h; omega
      · exact ih
    · exact ih
theorem mnI_le (p : Nat → Bool) (K : Nat → Int32) (i0 : Int32) : ∀ n k, k < n → p k = true → mnI p K i0 n ≤ K k
  | 0, _, h, _ => absurd h (Nat.not_lt_zero _)
  | n + 1, k, h, hp => by
    unfold mnI
    by_cases e : k = n
    · subst e
      rw [if_pos hp]
      split
      · exact Int32.le_refl _
      · rename_i z; rw [fa_lt] at z; rw [fa_le]; omega
    · have ih := mnI_le p K i0 n k (by omega) hp
      split
      · split
        · rename_i z; rw [fa_le] at *; rw [fa_lt] at z; omega
        · exact ih
      · exact ih
theorem mnI_is (p : Nat → Bool) (K : Nat → Int32) (i0 : Int32) : ∀ n, mnI p K i0 n = i0 ∨ ∃ k, k < n ∧ p k = true ∧ mnI p K i0 n = K k
  | 0 => Or.inl rfl
  | n + 1 => by
    have ih := mnI_is p K i0 n
    have up : (mnI p K i0 n = i0 ∨ ∃ k, k < n + 1 ∧ p k = true ∧ mnI p K i0 n = K k) := ih.elim Or.inl (fun ⟨k, h1, h2, h3⟩ => Or.inr ⟨k, by omega, h2, h3⟩)
    unfold mnI
    split
    · rename_i hp
      split
      · exact Or.inr ⟨n, by omega, hp, rfl⟩
      · exact up
    · exact up
theorem le_anti {x y : Int32} (h1 : x ≤ y) (h2 : y ≤ x) : x = y := by
  rw [fa_eq]
  rw [fa_le] at h1 h2
  omega
theorem mnI_99 {p : Nat → Bool} {K : Nat → Int32} {n h : Nat} (hh : h < n) (hp : p h = true) (hK : K h ≤ 99) : mnI p K 99 n = mnI p K (K h) n := by
  apply le_anti
  · rcases mnI_is p K (K h) n with z | ⟨k, h1, h2, h3⟩
    · rw [z]; exact mnI_le p K 99 n h hh hp
    · rw [h3]; exact mnI_le p K 99 n k h1 h2
  · rcases mnI_is p K 99 n with z | ⟨k, h1, h2, h3⟩
    · rw [z]
      exact Int32.le_trans (mnI_le0 p K (K h) n) hK
    · rw [h3]; exact mnI_le p K (K h) n k h1 h2
def rkk (E K : Nat → Int32) (n h : Nat) : Int32 := mnI (rg E n h) K (K h) n
def lrb (E K : Nat → Int32) (n h u : Nat) : Bool := !decide (rkk E K n h ≤ K u)
def LRm (E K : Nat → Int32) (n h : Nat) : Int32 := mk (lrb E K n h) n
def inb (E K : Nat → Int32) (n c h : Nat) : Bool := ns E n h && (rr E n h c && decide (RR E n h &&& Bh E n c &&& LRm E K n h = 0))
def otb (E K : Nat → Int32) (n c h : Nat) : Bool := ns E n h && (rr E n c h && decide (RR E n c &&& Bh E n h &&& LRm E K n h = 0))
def In (E K : Nat → Int32) (n c : Nat) : Int32 := mk (inb E K n c) n
def Ot (E K : Nat → Int32) (n c : Nat) : Int32 := mk (otb E K n c) n
def Lc (E K : Nat → Int32) (n : Nat) : Nat → Int32
  | 0 => 0
  | k + 1 => if ns E n k then Lc E K n k + (nI (ct (In E K n k)) + nI (ct (Ot E K n k))) else Lc E K n k
theorem z_mask {E K : Nat → Int32} {n a b h : Nat} (hE : nt E n) : RR E n a &&& Bh E n b &&& LRm E K n h = 0 ↔ ∀ w, w < n → ¬ (rr E n a w = true ∧ rr E n w b = true ∧ ¬ rkk E K n h ≤ K w) := by
  have hn := hE.1
  constructor
  · intro z w hw ⟨h1, h2, h3⟩
    have : bt (RR E n a &&& Bh E n b &&& LRm E K n h) w = true := by
      rw [b_and, b_and, Bh_bt hn, show bt (RR E n a) w = true from h1, h2, decide_eq_true hw]
      unfold LRm lrb
      rw [mk_bt (by omega), decide_eq_true hw]
      simp [h3]
    rw [z, b_0] at this
    cases this
  · intro z
    apply b_ext
    intro i _
    rw [b_0]
    cases hb : bt (RR E n a &&& Bh E n b &&& LRm E K n h) i with
    | false => rfl
    | true =>
      rw [b_and, b_and, Bh_bt hn] at hb
      unfold LRm lrb at hb
      rw [mk_bt (by omega)] at hb
      simp only [Bool.and_eq_true, decide_eq_true_eq, Bool.not_eq_true', decide_eq_false_iff_not] at hb
      exact absurd ⟨hb.1.1, hb.1.2.2, hb.2.2⟩ (z i hb.1.2.1)
section LABELS
variable {h : mr_h} {Q : Option Value → mr_h → Prop} {n r : Nat} {E A B K : Nat → Int32}
def fk (F : Nat → Int32) (C : Nat → Int32) (k : Nat) : Nat → Int32 := fun j => if j < k then F j else C j
theorem fk_s (F C : Nat → Int32) (k : Nat) : upd (fk F C k) k (F k) = fk F C (k + 1) := by
  refine upd_ext ?_ (fun j e => ?_)
  · unfold fk
    rw [if_pos (Nat.lt_succ_self k)]
  · unfold fk
    simp only [lt_s_ne e]
theorem fk_0 (F C : Nat → Int32) : fk F C 0 = C := by
  funext j
  unfold fk
  simp
theorem fk_in {F C : Nat → Int32} {k j : Nat} (h : j < k) : fk F C k j = F j := by
  unfold fk
  rw [if_pos h]
theorem upd_upd (f : Nat → Int32) (k : Nat) (x y : Int32) : upd (upd f k x) k y = upd f k y := by
  funext j
  by_cases e : j = k <;> simp [upd, e]
theorem upd_at (f : Nat → Int32) (k : Nat) (x : Int32) : upd f k x k = x := by simp [upd]
theorem Rg_b {E : Nat → Int32} {n v i : Nat} (hn : n ≤ 12) (hi : i < n) : bt (Rg E n v) i = rg E n v i := by
  rw [Rg_bt hn, decide_eq_true hi]
  rfl
theorem l_rank2 (hE : nt E n) {nm : Int32} {C D : Nat → Int32} {c : Nat} (hcn : c < n) (hr : r ≠ 15) (hA : ∀ j, j < n → A j = RR E n j) (hB : ∀ j, j < n → B j = Bh E n j) (e9 : h.1 9 = RE n nm) (e10 : h.1 10 = mr_I 12 A) (e11 : h.1 11 = mr_I 12 B) (e16 : h.1 16 = mr_I 12 D) (er : h.1 r = mr_I 12 K) : ∀ (d k : Nat) (h1 : mr_h), k + d = n → h1.1 15 = mr_I 12 (upd C c (mnI (rg E n c) K (K c) k)) → mr_fr h h1 [15] →
    (∀ h2, mr_fr h h2 [15] → h2.1 15 = mr_I 12 (upd C c (rkk E K n c)) → mr_wp 22 74 [.ref 9, .ref r, .int (nI c), .int 0] [] (mr_up h2 16 (mr_I 12 (upd D c 0))) Q) → mr_wp 22 21 [.ref 9, .ref r, .int (nI c), .int (nI k)] [] h1 Q := by
  have hn := hE.1
  intro d
  induction d with
  | zero =>
    intro k h1 hk he hf kk
    have : k = n := by omega
    subst this
    have f9 := fr_at hf (by decide) e9
    have f16 := fr_at hf (by decide) e16
    have hc12 : c < 12 := by omega
    rw [s_re_rankRings_21]
    simp only [S_re_rankRings_0, S_re_rankRings_1, f9, f16, RE, SEL, PF, mr_gf_O, mr_rc_O, Option.toList_some, Option.toList_none, List.cons_append, List.nil_append, b2i_0, b2i_1, b2i_a, a_00, a_11, ai_n, si_n, nI_1, q_rl_bit, mr_up_at, Nat.reduceLeDiff, Nat.reduceLT, Nat.reduceEqDiff, Nat.reduceAdd, if_true, if_false, hc12, if_pos (nI_le (Nat.le_refl k) (by omega))]
    exact kk h1 hf he
  | succ d ih =>
    intro k h1 hk he hf kk
    have c1 : ¬ nI n ≤ nI k := nI_ge (by omega) (by omega)
    have f9 := fr_at hf (by decide) e9
    have f10 := fr_at hf (by decide) e10
    have f11 := fr_at hf (by decide) e11
    have fr' := fr_at hf (by simpa using hr) er
    have hc12 : c < 12 := by omega
    have hk12 : k < 12 := by omega
    have hkn : k < n := by omega
    rw [s_re_rankRings_21]
    simp only [S_re_rankRings_0, S_re_rankRings_1, f9, fr', he, RE, SEL, PF, mr_gf_O, mr_rc_O, Option.toList_some, Option.toList_none, List.cons_append, List.nil_append, b2i_0, b2i_1, b2i_a, a_00, a_11, ai_n, si_n, nI_1, q_rl_bit, mr_up_at, Nat.reduceLeDiff, Nat.reduceLT, Nat.reduceEqDiff, Nat.reduceAdd, if_true, if_false, hc12, hk12, if_neg c1, q_re_ringOf (n := n) (nm := nm) hc12 f9 f10 f11, hA c hcn, hB c hcn, ring_and2 hE hcn, q_rl_holds (show k < 32 by omega), Rg_b hn hkn, upd_at, upd_upd]
    by_cases hb : rg E n c k = true
    · have em : mnI (rg E n c) K (K c) (k + 1) = if K k < mnI (rg E n c) K (K c) k then K k else mnI (rg E n c) K (K c) k := by
        show (if rg E n c k then _ else _) = _
        rw [if_pos hb]
      simp only [hb, Bool.true_eq_false, if_false]
      exact ih (k + 1) _ (by omega) (by rw [up_eq, em]) (fr_up _ hf (by decide)) kk
    · have hb' : rg E n c k = false := by simpa using hb
      have em : mnI (rg E n c) K (K c) (k + 1) = mnI (rg E n c) K (K c) k := by
        show (if rg E n c k then _ else _) = _
        rw [if_neg hb]
      simp only [hb', if_true]
      exact ih (k + 1) h1 (by omega) (by rw [he, em]) hf kk
theorem l_rank3 (hE : nt E n) {nm : Int32} {C D : Nat → Int32} {c : Nat} (hcn : c < n) (hr : r ≠ 16) (e9 : h.1 9 = RE n nm) (e15 : h.1 15 = mr_I 12 C) (hC : C c = rkk E K n c) (er : h.1 r = mr_I 12 K) : ∀ (d k : Nat) (h1 : mr_h), k + d = n → h1.1 16 = mr_I 12 (upd D c (mk (lrb E K n c) k)) → mr_fr h h1 [16] →
    (∀ h2, mr_fr h h2 [16] → h2.1 16 = mr_I 12 (upd D c (LRm E K n c)) → mr_wp 22 2 [.ref 9, .ref r, .int (nI (c + 1)), .int (nI n)] [] h2 Q) → mr_wp 22 74 [.ref 9, .ref r, .int (nI c), .int (nI k)] [] h1 Q := by
  have hn := hE.1
  intro d
  induction d with
  | zero =>
    intro k h1 hk he hf kk
    have : k = n := by omega
    subst this
    have f9 := fr_at hf (by decide) e9
    rw [s_re_rankRings_74]
    simp only [S_re_rankRings_0, S_re_rankRings_1, f9, RE, SEL, PF, mr_gf_O, mr_rc_O, Option.toList_some, Option.toList_none, List.cons_append, List.nil_append, b2i_0, b2i_1, b2i_a, a_00, a_11, ai_n, si_n, nI_1, q_rl_bit, mr_up_at, Nat.reduceLeDiff, Nat.reduceLT, Nat.reduceEqDiff, Nat.reduceAdd, if_true, if_false, if_pos (nI_le (Nat.le_refl k) (by omega))]
    exact kk h1 hf he
  | succ d ih =>
    intro k h1 hk he hf kk
    have c1 : ¬ nI n ≤ nI k := nI_ge (by omega) (by omega)
    have f9 := fr_at hf (by decide) e9
    have f15 := fr_at hf (by decide) e15
    have fr' := fr_at hf (by simpa using hr) er
    have hc12 : c < 12 := by omega
    have hk12 : k < 12 := by omega
    rw [s_re_rankRings_74]
    simp only [S_re_rankRings_0, S_re_rankRings_1, f9, fr', f15, he, RE, SEL, PF, mr_gf_O, mr_rc_O, Option.toList_some, Option.toList_none, List.cons_append, List.nil_append, b2i_0, b2i_1, b2i_a, a_00, a_11, ai_n, si_n, nI_1, q_rl_bit, mr_up_at, Nat.reduceLeDiff, Nat.reduceLT, Nat.reduceEqDiff, Nat.reduceAdd, if_true, if_false, hc12, hk12, if_neg c1, hC, upd_at, upd_upd]
    by_cases hb : rkk E K n c ≤ K k
    · have hb' : lrb E K n c k = false := by simp [lrb, hb]
      simp only [hb, if_true]
      exact ih (k + 1) h1 (by omega) (by rw [he, mk_no (p := lrb E K n c) hb']) hf kk
    · have hb' : lrb E K n c k = true := by simp [lrb, hb]
      simp only [hb, if_false, mk_yes (p := lrb E K n c) hb']
      exact ih (k + 1) _ (by omega) (up_eq _ _ _) (fr_up _ hf (by decide)) kk
theorem l_rank1 (hE : nt E n) {nm : Int32} {C D : Nat → Int32} (hr : r ≠ 15) (hr2 : r ≠ 16) (hA : ∀ j, j < n → A j = RR E n j) (hB : ∀ j, j < n → B j = Bh E n j) (e9 : h.1 9 = RE n nm) (e10 : h.1 10 = mr_I 12 A) (e11 : h.1 11 = mr_I 12 B) (er : h.1 r = mr_I 12 K) : ∀ (d k : Nat) (h1 : mr_h) (v3 : Value), k + d = n → h1.1 15 = mr_I 12 (fk (rkk E K n) C k) → h1.1 16 = mr_I 12 (fk (LRm E K n) D k) → mr_fr h h1 [15, 16] →
    (∀ h2, mr_fr h h2 [15, 16] → h2.1 15 = mr_I 12 (fk (rkk E K n) C n) → h2.1 16 = mr_I 12 (fk (LRm E K n) D n) → Q none h2) → mr_wp 22 2 [.ref 9, .ref r, .int (nI k), v3] [] h1 Q := by
  have hn := hE.1
  intro d
  induction d with
  | zero =>
    intro k h1 v3 hk h15 h16 hf kk
    have : k = n := by omega
    subst this
    have f9 := fr_at hf (by decide) e9
    rw [s_re_rankRings_2]
    simp only [S_re_rankRings_0, S_re_rankRings_1, f9, RE, SEL, PF, mr_gf_O, mr_rc_O, Option.toList_some, Option.toList_none, List.cons_append, List.nil_append, b2i_0, b2i_1, b2i_a, a_00, a_11, ai_n, si_n, nI_1, q_rl_bit, mr_up_at, Nat.reduceLeDiff, Nat.reduceLT, Nat.reduceEqDiff, Nat.reduceAdd, if_true, if_false, if_pos (nI_le (Nat.le_refl k) (by omega))]
    exact kk h1 hf h15 h16
  | succ d ih =>
    intro k h1 v3 hk h15 h16 hf kk
    have c1 : ¬ nI n ≤ nI k := nI_ge (by omega) (by omega)
    have f9 := fr_at hf (by decide) e9
    have f10 := fr_at hf (by decide) e10
    have f11 := fr_at hf (by decide) e11
    have fr' := fr_at hf (by simp [hr, hr2]) er
    have hk12 : k < 12 := by omega
    rw [s_re_rankRings_2]
    simp only [S_re_rankRings_0, S_re_rankRings_1, f9, fr', h15, RE, SEL, PF, mr_gf_O, mr_rc_O, Option.toList_some, Option.toList_none, List.cons_append, List.nil_append, b2i_0, b2i_1, b2i_a, a_00, a_11, ai_n, si_n, nI_1, q_rl_bit, mr_up_at, Nat.reduceLeDiff, Nat.reduceLT, Nat.reduceEqDiff, Nat.reduceAdd, if_true, if_false, hk12, if_neg c1]
    rw [← nI_0]
    refine l_rank2 (h := mr_up h1 15 (mr_I 12 (upd (fk (rkk E K n) C k) k (K k)))) (C := fk (rkk E K n) C k) (D := fk (LRm E K n) D k) (nm := nm) hE (show k < n by omega) hr hA hB (by rw [mr_up_at, if_neg (by decide)]; exact f9) (by rw [mr_up_at, if_neg (by decide)]; exact f10) (by rw [mr_up_at, if_neg (by decide)]; exact f11) (by rw [mr_up_at, if_neg (by decide)]; exact h16) (by rw [mr_up_at, if_neg hr]; exact fr') n 0 _ (by omega) (up_eq _ _ _) (fr_rf _ _) ?_
    intro h2 f2 e2
    have g1 : mr_fr h h2 [15, 16] := fr_tr (fr_up _ hf (by decide)) f2 (by decide)
    have g9 := fr_at g1 (by decide) e9
    have gr := fr_at g1 (by simp [hr, hr2]) er
    have g16 : h2.1 16 = mr_I 12 (fk (LRm E K n) D k) := fr_at f2 (by decide) (by rw [mr_up_at, if_neg (by decide)]; exact h16)
    rw [← nI_0]
    refine l_rank3 (h := mr_up h2 16 (mr_I 12 (upd (fk (LRm E K n) D k) k 0))) (E := E) (C := upd (fk (rkk E K n) C k) k (rkk E K n k)) (D := fk (LRm E K n) D k) (nm := nm) hE (show k < n by omega) hr2 (by rw [mr_up_at, if_neg (by decide)]; exact g9) (by rw [mr_up_at, if_neg (by decide)]; exact e2) (upd_at _ _ _) (by rw [mr_up_at, if_neg hr2]; exact gr) n 0 _ (by omega) (by rw [nI_0]; exact up_eq _ _ _) (fr_rf _ _) ?_
    intro h3 f3 e3
    exact ih (k + 1) h3 _ (by omega) (by rw [f3.2 15 (by decide), mr_up_at, if_neg (by decide), e2, fk_s]) (by rw [e3, fk_s]) (fr_tr (fr_up _ g1 (by decide)) f3 (by decide)) kk
theorem q_re_rankRings (hE : nt E n) {nm : Int32} {C D : Nat → Int32} (hr : r ≠ 15) (hr2 : r ≠ 16) (hA : ∀ j, j < n → A j = RR E n j) (hB : ∀ j, j < n → B j = Bh E n j) (e9 : h.1 9 = RE n nm) (e10 : h.1 10 = mr_I 12 A) (e11 : h.1 11 = mr_I 12 B) (e15 : h.1 15 = mr_I 12 C) (e16 : h.1 16 = mr_I 12 D) (er : h.1 r = mr_I 12 K)
    (kk : ∀ h2, mr_fr h h2 [15, 16] → h2.1 15 = mr_I 12 (fk (rkk E K n) C n) → h2.1 16 = mr_I 12 (fk (LRm E K n) D n) → Q none h2) : mr_run 22 [.ref 9, .ref r] h Q := by
  rw [r_re_rankRings]
  simp only [S_re_rankRings_0]
  rw [← nI_0]
  exact l_rank1 hE hr hr2 hA hB e9 e10 e11 er n 0 h _ (by omega) (by rw [e15, fk_0]) (by rw [e16, fk_0]) (fr_rf _ _) kk
end LABELS
