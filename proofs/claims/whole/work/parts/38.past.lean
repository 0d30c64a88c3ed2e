/-! Nets that become others; what may be undone -/
theorem t_24 (k : Nat) : (24 : Int32) * nI k = nI (24 * k) := (Int32.ofNat_mul 24 k).symm
theorem p_24 (k : Nat) : nI k + 24 = nI (k + 24) := nI_add k 24
theorem nt_cong {E F : Nat → Int32} {n : Nat} (h : nt E n) (e : ∀ u, u < n → F u = E u) : nt F n := ⟨h.1, fun u hu v hv => h.2 u hu v (by rwa [e u hu] at hv)⟩
theorem rkok_cong {K L : Nat → Int32} {n : Nat} (h : rkok K n) (e : ∀ u, u < n → L u = K u) : rkok L n := fun u hu => by
  obtain ⟨j, h1, h2⟩ := h u hu
  exact ⟨j, h1, by rw [e u hu, h2]⟩
theorem rks_cong {E K F L : Nat → Int32} {n : Nat} (h : rks E K n) (e1 : ∀ u, u < n → F u = E u) (e : ∀ u, u < n → L u = K u) : rks F L n := ⟨rkok_cong h.1 e, fun u hu => by rw [e1 u hu]; exact h.2 u hu⟩
def nkc (h : mr_h) (a n : Nat) (e k : Nat → Int32) : Prop := h.1 a = NE a n ∧ ∃ E K, h.1 (a + 1) = mr_I 12 E ∧ h.1 (a + 2) = mr_I 12 K ∧ nt E n ∧ rks E K n ∧ (∀ u, u < n → e u = E u ∧ k u = K u)
theorem nkc_cong {h : mr_h} {a n : Nat} {e k e2 k2 : Nat → Int32} (g : nkc h a n e k) (c : ∀ u, u < n → e2 u = e u ∧ k2 u = k u) : nkc h a n e2 k2 := by
  obtain ⟨g1, E, K, g2, g3, g4, g5, g6⟩ := g
  exact ⟨g1, E, K, g2, g3, g4, g5, fun u hu => ⟨(c u hu).1.trans (g6 u hu).1, (c u hu).2.trans (g6 u hu).2⟩⟩
theorem nkc_fr {h h2 : mr_h} {L : List Nat} {a n : Nat} {e k : Nat → Int32} (g : nkc h a n e k) (f : mr_fr h h2 L) (h0 : a ∉ L) (h1 : a + 1 ∉ L) (h3 : a + 2 ∉ L) : nkc h2 a n e k := by
  obtain ⟨g1, E, K, g2, g3, g4⟩ := g
  exact ⟨fr_at f h0 g1, E, K, fr_at f h1 g2, fr_at f h3 g3, g4⟩
theorem nkc_nshp {h : mr_h} {a n : Nat} {e k : Nat → Int32} (g : nkc h a n e k) : nshp h a := by
  obtain ⟨g1, E, K, g2, g3, -⟩ := g
  exact ⟨_, E, K, g1, g2, g3⟩
def gPc (h : mr_h) (n us : Nat) (e k : Nat → Nat → Int32) : Prop := us ≤ 10 ∧ h.1 33 = mr_O 4 [.int (nI us), .ref 34] ∧ ∃ (P : Nat → Nat) (F : Nat → Option Nat), h.1 34 = mr_A 10 F ∧ (∀ i, i < 10 → F i = some (35 + 3 * P i) ∧ P i < 10) ∧ (∀ i j, i < 10 → j < 10 → P i = P j → i = j) ∧
  (∀ i, i < 10 → nshp h (35 + 3 * i)) ∧ ∀ i, i < us → nkc h (35 + 3 * P i) n (e i) (k i)
theorem gP_c {h : mr_h} {n us : Nat} : gP h n us ↔ ∃ D, h.1 81 = mr_I 240 D ∧ gPc h n us (fun i u => D (24 * i + u)) (fun i u => D (24 * i + 12 + u)) := by
  constructor
  · rintro ⟨h0, h1, P, F, D, e34, hF, hi, e81, hs, hk⟩
    exact ⟨D, e81, h0, h1, P, F, e34, hF, hi, hs, hk⟩
  · rintro ⟨D, e81, h0, h1, P, F, e34, hF, hi, hs, hk⟩
    exact ⟨h0, h1, P, F, D, e34, hF, hi, e81, hs, hk⟩
theorem gPc_cong {h : mr_h} {n us : Nat} {e k e2 k2 : Nat → Nat → Int32} (g : gPc h n us e k) (c : ∀ i, i < us → ∀ u, u < n → e2 i u = e i u ∧ k2 i u = k i u) : gPc h n us e2 k2 := by
  obtain ⟨h0, h1, P, F, e34, hF, hi, hs, hk⟩ := g
  exact ⟨h0, h1, P, F, e34, hF, hi, hs, fun i hi' => nkc_cong (hk i hi') (c i hi')⟩
abbrev offC (L : List Nat) : Prop := ∀ a ∈ L, ¬ (33 ≤ a ∧ a ≤ 64)
theorem gPc_fr {h h2 : mr_h} {L : List Nat} {n us : Nat} {e k : Nat → Nat → Int32} (g : gPc h n us e k) (f : mr_fr h h2 L) (hL : offC L) : gPc h2 n us e k := by
  have out : ∀ a, (33 ≤ a ∧ a ≤ 64) → a ∉ L := fun a ha hm => hL a hm ha
  obtain ⟨h0, h1, P, F, e34, hF, hi, hs, hk⟩ := g
  refine ⟨h0, fr_at f (out _ (by omega)) h1, P, F, fr_at f (out _ (by omega)) e34, hF, hi, fun i hi' => ?_, fun i hi' => ?_⟩
  · exact nshp_fr (hs i hi') f (out _ (by omega)) (out _ (by omega)) (out _ (by omega))
  · have := (hF i (by omega)).2
    exact nkc_fr (hk i hi') f (out _ (by omega)) (out _ (by omega)) (out _ (by omega))
def us1 (us : Nat) : Nat := if us = 10 then 9 else us
def pu (us : Nat) (e : Nat → Nat → Int32) (x : Nat → Int32) : Nat → Nat → Int32 := fun i u => if i = us1 us then x u else if us = 10 then e (i + 1) u else e i u
def Fk (F : Nat → Option Nat) (k : Nat) : Nat → Option Nat := fun i => if i < k then F (i + 1) else F i
theorem Fk_s (F : Nat → Option Nat) (k : Nat) : va_up (Fk F k) k (F (k + 1)) = Fk F (k + 1) := by
  funext j
  unfold va_up Fk
  by_cases e : j = k
  · subst e; simp
  · simp only [if_neg e, lt_s_ne e]
section PAST
variable {h : mr_h} {Q : Option Value → mr_h → Prop} {n us : Nat}
theorem q_ne_become {a b : Nat} {x : Int32} {E0 K0 E K : Nat → Int32} (hab : a + 2 < b ∨ b + 2 < a) (ea : h.1 a = mr_O 3 [.int x, .ref (a + 1), .ref (a + 2)]) (ea1 : h.1 (a + 1) = mr_I 12 E0) (ea2 : h.1 (a + 2) = mr_I 12 K0) (eb : h.1 b = NE b n) (eb1 : h.1 (b + 1) = mr_I 12 E) (eb2 : h.1 (b + 2) = mr_I 12 K)
    (kk : ∀ h2 E' K', mr_fr h h2 [a, a + 1, a + 2] → h2.1 a = NE a n → h2.1 (a + 1) = mr_I 12 E' → h2.1 (a + 2) = mr_I 12 K' → (∀ u, u < 12 → E' u = E u ∧ K' u = K u) → Q none h2) : mr_run 41 [.ref a, .ref b] h Q := by
  rw [r_ne_become]
  have i1 : ¬ b = a := by omega
  have i2 : ¬ b + 1 = a := by omega
  have i3 : ¬ a + 1 = b + 1 := by omega
  have i4 : ¬ b = a + 1 := by omega
  have i5 : ¬ b + 2 = a + 1 := by omega
  have i6 : ¬ b + 2 = a := by omega
  have i7 : ¬ a + 2 = b + 2 := by omega
  have i8 : ¬ a = a + 1 := by omega
  have i9 : ¬ a + 2 = a + 1 := by omega
  have i10 : ¬ a + 2 = a := by omega
  have i11 : ¬ a + 1 = a := by omega
  have c1 := fun K => cpy_n (n := 12) (K := K) (f := E) (g := E0) i3 (Nat.le_refl 12) (Nat.le_refl 12) (by decide)
  have c2 := fun K1 => cpy_n (n := 12) (K := K1) (f := K) (g := K0) i7 (Nat.le_refl 12) (Nat.le_refl 12) (by decide)
  rw [show (nI 12 : Int32) = 12 from rfl] at c1 c2
  simp only [S_ne_become, ea, eb, NE, SEL, PF, mr_gf_O, mr_rc_O, Option.toList_some, Option.toList_none, List.cons_append, List.nil_append, b2i_0, b2i_1, b2i_a, a_00, a_11, ai_n, si_n, nI_1, q_rl_bit, mr_up_at, Nat.reduceLeDiff, Nat.reduceLT, Nat.reduceEqDiff, Nat.reduceAdd, if_true, if_false, i1, i2, i3, i4, i5, i6, i7, i8, i9, i10, i11, ea1, eb1, ea2, eb2, c1, c2]
  refine kk _ (va_cpy E E0 0 0 12) (va_cpy K K0 0 0 12) (fr_up _ (fr_up _ (fr_up _ (fr_rf _ _) (by simp)) (by simp)) (by simp)) ?_ ?_ (up_eq _ _ _) (fun u hu => ⟨va_cpy_in hu, va_cpy_in hu⟩)
  · simp only [mr_up_at, i8, show ¬ a = a + 2 by omega, if_false, if_true]
    rfl
  · simp only [mr_up_at, show ¬ a + 1 = a + 2 by omega, if_false, if_true]
theorem l_drop {F : Nat → Option Nat} {P : Nat → Nat} {a0 : Nat} {us : Int32} (e33 : h.1 33 = mr_O 4 [.int us, .ref 34]) (hF : ∀ i, i < 10 → F i = some (35 + 3 * P i) ∧ P i < 10) (hs : ∀ i, i < 10 → nshp h (35 + 3 * i)) (ha0 : ∃ i, i < 10 ∧ a0 = 35 + 3 * i) (kk : ∀ h2, mr_fr h h2 [33, 34] → h2.1 33 = mr_O 4 [.int (us - 1), .ref 34] → h2.1 34 = mr_A 10 (va_up (Fk F 9) 9 (some a0)) → Q none h2) :
    ∀ (d k : Nat) (h1 : mr_h), k + 1 + d = 10 → h1.1 34 = mr_A 10 (Fk F k) → mr_fr h h1 [34] → mr_wp 64 9 [.ref 33, .ref a0, .int (nI (k + 1))] [] h1 Q := by
  intro d
  induction d with
  | zero =>
    intro k h1 hk e34 f
    have : k = 9 := by omega
    subst this
    obtain ⟨i, hi, rfl⟩ := ha0
    obtain ⟨x, E, K, en, -⟩ := hs i hi
    have en' := fr_at f (by simp; omega) en
    have g33 := fr_at f (by decide) e33
    rw [s_pa_dropOldest_9]
    have c9 := fun K => sq_n (n := 10) (k := 9) (v := 35 + 3 * i) (f := Fk F 9) (fs := [.int x, .ref (35 + 3 * i + 1), .ref (35 + 3 * i + 2)]) (K := K) (by decide) (by decide)
    rw [show (nI 9 : Int32) = 9 from rfl] at c9
    simp only [S_pa_dropOldest, SEL, PF, mr_gf_O, mr_rc_O, Option.toList_some, Option.toList_none, List.cons_append, List.nil_append, b2i_0, b2i_1, b2i_a, a_00, a_11, ai_n, si_n, nI_1, q_rl_bit, mr_up_at, Nat.reduceLeDiff, Nat.reduceLT, Nat.reduceEqDiff, Nat.reduceAdd, if_true, if_false, if_pos (show (10 : Int32) ≤ nI (9 + 1) by decide), g33, e34, en', c9]
    exact kk _ (fr_up _ (fr_up _ (fr_wk f (by decide)) (by decide)) (by decide)) (up_eq _ _ _) (by simp only [mr_up_at]; rfl)
  | succ d ih =>
    intro k h1 hk e34 f
    have hk9 : k < 10 := by omega
    have hk10 : k + 1 < 10 := by omega
    have g33 := fr_at f (by decide) e33
    obtain ⟨hP1, hP2⟩ := hF (k + 1) hk10
    have hFk : Fk F k (k + 1) = some (35 + 3 * P (k + 1)) := by
      unfold Fk
      rw [if_neg (by omega)]
      exact hP1
    obtain ⟨x, E, K, en, -⟩ := hs _ hP2
    have en' := fr_at f (by simp; omega) en
    rw [s_pa_dropOldest_9]
    simp only [S_pa_dropOldest, SEL, PF, mr_gf_O, mr_rc_O, Option.toList_some, Option.toList_none, List.cons_append, List.nil_append, b2i_0, b2i_1, b2i_a, a_00, a_11, ai_n, si_n, nI_1, q_rl_bit, mr_up_at, Nat.reduceLeDiff, Nat.reduceLT, Nat.reduceEqDiff, Nat.reduceAdd, if_true, if_false, if_neg (show ¬ (10 : Int32) ≤ nI (k + 1) from nI_ge (b := 10) hk10 (by decide)), g33, e34, aq_n hk10 (show 10 ≤ 1000 by decide) hFk, nI_pred, en', sq_n hk9 (show 10 ≤ 1000 by decide), ← hP1, Fk_s]
    exact ih (k + 1) _ (by omega) (up_eq _ _ _) (fr_up _ f (by decide))
theorem q_pa_remember {e k : Nat → Nat → Int32} {E K : Nat → Int32} (hp : gPc h n us e k) (hE : nt E n) (hK : rks E K n) (e1 : h.1 1 = NE 1 n) (e2 : h.1 2 = mr_I 12 E) (e3 : h.1 3 = mr_I 12 K)
    (kk : ∀ h2 L, mr_fr h h2 L → (∀ a ∈ L, 33 ≤ a ∧ a ≤ 64) → gPc h2 n (us1 us + 1) (pu us e E) (pu us k K) → Q none h2) : mr_run 63 [.ref 33, .ref 1] h Q := by
  obtain ⟨h0, e33, P, F, e34, hF, hi, hs, hk⟩ := hp
  -- the end of it, at a state whose past has room
  have fin : ∀ (h1 : mr_h) (u1 : Nat) (P : Nat → Nat) (F : Nat → Option Nat) (L : List Nat), u1 < 10 → mr_fr h h1 L → (∀ a ∈ L, a = 33 ∨ a = 34) → h1.1 33 = mr_O 4 [.int (nI u1), .ref 34] → h1.1 34 = mr_A 10 F → (∀ i, i < 10 → F i = some (35 + 3 * P i) ∧ P i < 10) → (∀ i j, i < 10 → j < 10 → P i = P j → i = j) → u1 = us1 us → (∀ i, i < u1 → nkc h1 (35 + 3 * P i) n (pu us e E i) (pu us k K i)) → mr_wp 63 13 [.ref 33, .ref 1] [] h1 Q := by
    intro h1 u1 P F L hu f hL g33 g34 hF hi hus hk
    have out : ∀ a, (a ≠ 33 ∧ a ≠ 34) → a ∉ L := fun a ha hm => (hL a hm).elim ha.1 ha.2
    have g1 := fr_at f (out 1 (by decide)) e1
    have g2 := fr_at f (out 2 (by decide)) e2
    have g3 := fr_at f (out 3 (by decide)) e3
    obtain ⟨hP1, hP2⟩ := hF u1 hu
    obtain ⟨x, E0, K0, n1, n2, n3⟩ := hs _ hP2
    have n1' := fr_at f (out _ (by omega)) n1
    have n2' := fr_at f (out _ (by omega)) n2
    have n3' := fr_at f (out _ (by omega)) n3
    simp only [S_pa_remember, g33, g34, SEL, PF, mr_gf_O, mr_rc_O, Option.toList_some, Option.toList_none, List.cons_append, List.nil_append, b2i_0, b2i_1, b2i_a, a_00, a_11, ai_n, si_n, nI_1, q_rl_bit, mr_up_at, Nat.reduceLeDiff, Nat.reduceLT, Nat.reduceEqDiff, Nat.reduceAdd, if_true, if_false, aq_n hu (show 10 ≤ 1000 by decide) hP1, n1']
    refine q_ne_become (by omega) n1' n2' n3' g1 g2 g3 ?_
    intro h2 E' K' f2 m1 m2 m3 hEK
    have k33 := fr_at f2 (by simp; omega) g33
    have k34 := fr_at f2 (by simp; omega) g34
    simp only [S_pa_remember, k33, SEL, PF, mr_gf_O, mr_rc_O, Option.toList_some, Option.toList_none, List.cons_append, List.nil_append, b2i_0, b2i_1, b2i_a, a_00, a_11, ai_n, si_n, nI_1, q_rl_bit, mr_up_at, Nat.reduceLeDiff, Nat.reduceLT, Nat.reduceEqDiff, Nat.reduceAdd, if_true, if_false]
    have f3 : mr_fr h2 (mr_up h2 33 (mr_O 4 [.int (nI (u1 + 1)), .ref 34])) [33] := fr_up _ (fr_rf _ _) (by decide)
    have F3 : mr_fr h (mr_up h2 33 (mr_O 4 [.int (nI (u1 + 1)), .ref 34])) [33, 34, 35 + 3 * P u1, 35 + 3 * P u1 + 1, 35 + 3 * P u1 + 2] := by
      refine fr_up _ (fr_tr (fr_wk f (fun a ha => ?_)) f2 (fun a ha => ?_)) (by simp)
      · rcases hL a ha with z | z <;> simp [z]
      · simp at ha
        rcases ha with z | z | z <;> simp [z]
    refine kk _ _ F3 (fun a ha => ?_) ⟨by omega, by rw [← hus]; exact up_eq _ _ _, P, F, fr_at f3 (by decide) k34, hF, hi, fun i hi' => ?_, fun i hi' => ?_⟩
    · simp only [List.mem_cons, List.not_mem_nil, or_false] at ha
      omega
    · by_cases ei : i = P u1
      · subst ei
        exact ⟨_, E', K', fr_at f3 (by simp; omega) m1, fr_at f3 (by simp; omega) m2, fr_at f3 (by simp; omega) m3⟩
      · exact nshp_fr (hs i hi') F3 (by simp; omega) (by simp; omega) (by simp; omega)
    · by_cases ei : i = u1
      · subst ei
        refine ⟨fr_at f3 (by simp; omega) m1, E', K', fr_at f3 (by simp; omega) m2, fr_at f3 (by simp; omega) m3, nt_cong hE (fun u hu => (hEK u (by have := hE.1; omega)).1), rks_cong hK (fun u hu => (hEK u (by have := hE.1; omega)).1) (fun u hu => (hEK u (by have := hE.1; omega)).2), fun u hu => ?_⟩
        unfold pu
        rw [if_pos hus, if_pos hus]
        have := hEK u (by have := hE.1; omega)
        exact ⟨this.1.symm, this.2.symm⟩
      · have hi2 : i < u1 := by omega
        have hne : P i ≠ P u1 := fun z => ei (hi i u1 (by omega) hu z)
        have := (hF i (by omega)).2
        exact nkc_fr (nkc_fr (hk i hi2) f2 (by simp; omega) (by simp; omega) (by simp; omega)) f3 (by simp; omega) (by simp; omega) (by simp; omega)
  rw [r_pa_remember]
  by_cases hu : us = 10
  · subst hu
    simp only [S_pa_remember, e33, SEL, PF, mr_gf_O, mr_rc_O, Option.toList_some, Option.toList_none, List.cons_append, List.nil_append, b2i_0, b2i_1, b2i_a, a_00, a_11, ai_n, si_n, nI_1, q_rl_bit, mr_up_at, Nat.reduceLeDiff, Nat.reduceLT, Nat.reduceEqDiff, Nat.reduceAdd, if_true, if_false, show (nI 10 : Int32) = 10 from rfl, not_true_eq_false]
    rw [r_pa_dropOldest]
    have c0 := fun K => aq_n (n := 10) (k := 0) (K := K) (by decide) (show 10 ≤ 1000 by decide) (hF 0 (by decide)).1
    rw [nI_0] at c0
    simp only [S_pa_dropOldest, e33, SEL, PF, mr_gf_O, mr_rc_O, Option.toList_some, Option.toList_none, List.cons_append, List.nil_append, b2i_0, b2i_1, b2i_a, a_00, a_11, ai_n, si_n, nI_1, q_rl_bit, mr_up_at, Nat.reduceLeDiff, Nat.reduceLT, Nat.reduceEqDiff, Nat.reduceAdd, if_true, if_false, e34, c0]
    refine l_drop (us := 10) (P := P) e33 hF hs ⟨P 0, (hF 0 (by decide)).2, rfl⟩ ?_ 9 0 h (by decide) (by rw [e34]; rfl) (fr_rf _ _)
    intro h2 f2 g33 g34
    have hF9 : ∀ i, i < 10 → va_up (Fk F 9) 9 (some (35 + 3 * P 0)) i = some (35 + 3 * (if i = 9 then P 0 else P (i + 1))) ∧ (if i = 9 then P 0 else P (i + 1)) < 10 := by
      intro i hi
      unfold va_up Fk
      by_cases e9 : i = 9
      · simp only [e9, if_true]
        exact ⟨trivial, (hF 0 (by decide)).2⟩
      · simp only [e9, if_false, show i < 9 by omega, if_true]
        exact hF (i + 1) (by omega)
    have fi : mr_wp 63 13 [.ref 33, .ref 1] [] h2 Q := by
      refine fin h2 9 (fun i => if i = 9 then P 0 else P (i + 1)) _ [33, 34] (by decide) f2 (by simp) g33 g34 hF9 ?_ rfl ?_
      · intro i j hi' hj' hij
        by_cases e1 : i = 9
        · by_cases e2 : j = 9
          · omega
          · rw [if_pos e1, if_neg e2] at hij
            have := hi 0 (j + 1) (by omega) (by omega) hij
            omega
        · by_cases e2 : j = 9
          · rw [if_neg e1, if_pos e2] at hij
            have := hi (i + 1) 0 (by omega) (by omega) hij
            omega
          · rw [if_neg e1, if_neg e2] at hij
            have := hi (i + 1) (j + 1) (by omega) (by omega) hij
            omega
      · intro i hi9
        rw [if_neg (by omega)]
        have hP := (hF (i + 1) (by omega)).2
        refine nkc_fr (nkc_cong (hk (i + 1) (by omega)) (fun u hu => ?_)) f2 (by simp; omega) (by simp; omega) (by simp; omega)
        unfold pu us1
        rw [if_pos rfl, if_neg (by omega), if_pos rfl, if_neg (by omega), if_pos rfl]
        exact ⟨rfl, rfl⟩
    simpa only [S_pa_remember, g33, SEL, PF, mr_gf_O, mr_rc_O, Option.toList_some, Option.toList_none, List.cons_append, List.nil_append, b2i_0, b2i_1, b2i_a, a_00, a_11, ai_n, si_n, nI_1, q_rl_bit, mr_up_at, Nat.reduceLeDiff, Nat.reduceLT, Nat.reduceEqDiff, Nat.reduceAdd, if_true, if_false] using fi
  · have c1 : ¬ nI us = 10 := fun z => hu ((nI_eq (by omega) (by decide)).mp z)
    have hu1 : us1 us = us := by unfold us1; rw [if_neg hu]
    simp only [S_pa_remember, e33, SEL, PF, mr_gf_O, mr_rc_O, Option.toList_some, Option.toList_none, List.cons_append, List.nil_append, b2i_0, b2i_1, b2i_a, a_00, a_11, ai_n, si_n, nI_1, q_rl_bit, mr_up_at, Nat.reduceLeDiff, Nat.reduceLT, Nat.reduceEqDiff, Nat.reduceAdd, if_true, if_false, c1, not_false_eq_true]
    have := fin h us P F [] (by omega) (fr_rf _ _) (by simp) e33 e34 hF hi hu1.symm (fun i hi' => nkc_cong (hk i hi') (fun u hu' => by
      unfold pu
      rw [hu1, if_neg (by omega), if_neg hu, if_neg (by omega), if_neg hu]
      exact ⟨rfl, rfl⟩))
    simpa only [S_pa_remember, e33, SEL, PF, mr_gf_O, mr_rc_O, Option.toList_some, Option.toList_none, List.cons_append, List.nil_append, b2i_0, b2i_1, b2i_a, a_00, a_11, ai_n, si_n, nI_1, q_rl_bit, mr_up_at, Nat.reduceLeDiff, Nat.reduceLT, Nat.reduceEqDiff, Nat.reduceAdd, if_true, if_false] using this
end PAST
