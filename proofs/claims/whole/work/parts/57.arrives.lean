/-! odds: the class -/
theorem bt_nI {s i : Nat} (hi : i < 32) : bt (nI s) i = s.testBit i := by
  unfold bt
  show (BitVec.ofNat 32 s).getLsbD i = _
  rw [BitVec.getLsbD_ofNat]
  simp [hi]
def rin (ed : Nat → Nat × Nat) (st : Nat → Bool) (R : Int32) : Nat → Int32
  | 0 => R
  | e + 1 => if st e && bt (rin ed st R e) (ed e).1 then rin ed st R e ||| nb (ed e).2 else rin ed st R e
theorem rin_mono (ed : Nat → Nat × Nat) (st : Nat → Bool) (R : Int32) : ∀ (d e : Nat) {x : Nat}, bt (rin ed st R e) x = true → bt (rin ed st R (e + d)) x = true
  | 0, _, _, h => h
  | d + 1, e, x, h => by
    have ih := rin_mono ed st R d e h
    show bt (if st (e + d) && bt (rin ed st R (e + d)) (ed (e + d)).1 then rin ed st R (e + d) ||| nb (ed (e + d)).2 else rin ed st R (e + d)) x = true
    split
    · rw [b_or, ih]; rfl
    · exact ih
theorem rin_closed {ed : Nat → Nat × Nat} {st : Nat → Bool} {R : Int32} {K : Nat} (hed : ∀ i, i < K → (ed i).2 < 32) (h : rin ed st R K = R) {e : Nat} (he : e < K) (hs : st e = true) (hb : bt R (ed e).1 = true) : bt R (ed e).2 = true := by
  have e1 : bt (rin ed st R e) (ed e).1 = true := by
    have := rin_mono ed st R e 0 hb
    rwa [Nat.zero_add] at this
  have e2 : bt (rin ed st R (e + 1)) (ed e).2 = true := by
    show bt (if _ then _ else _) _ = true
    rw [hs, e1, Bool.and_self, if_pos rfl, b_or, nb_bt (hed e he)]
    simp
  have := rin_mono ed st R (K - (e + 1)) (e + 1) e2
  rw [show e + 1 + (K - (e + 1)) = K by omega, h] at this
  exact this
theorem rin_ind {ed : Nat → Nat × Nat} {st : Nat → Bool} {R : Int32} {K : Nat} (hed : ∀ i, i < K → (ed i).2 < 32) (T : Nat → Prop) (h0 : ∀ x, bt R x = true → T x) (h1 : ∀ e, e < K → st e = true → T (ed e).1 → T (ed e).2) : ∀ e, e ≤ K → ∀ x, bt (rin ed st R e) x = true → T x
  | 0, _, x, h => h0 x h
  | e + 1, he, x, h => by
    have ih := rin_ind hed T h0 h1 e (by omega)
    have h' : bt (if st e && bt (rin ed st R e) (ed e).1 then rin ed st R e ||| nb (ed e).2 else rin ed st R e) x = true := h
    split at h'
    · rename_i hc
      simp only [Bool.and_eq_true] at hc
      rw [b_or, nb_bt (hed e (by omega))] at h'
      simp only [Bool.or_eq_true, decide_eq_true_eq] at h'
      rcases h' with h' | h'
      · exact ih x h'
      · subst h'
        exact h1 e (by omega) hc.1 (ih _ hc.2)
    · exact ih x h'
def zz (ed : Nat → Nat × Nat) (u : Nat) : Nat → Int32
  | 0 => nb u
  | e + 1 => zz ed u e ||| nb (ed e).2
theorem ct_or_nb {x : Int32} {t : Nat} (ht : t < 12) : ct (x ||| nb t) ≤ ct x + 1 := by
  cases h : bt x t with
  | true =>
    have : x ||| nb t = x := b_ext fun i _ => by
      rw [b_or, nb_bt (by omega)]
      by_cases e : i = t
      · subst e; rw [h]; rfl
      · simp [e]
    rw [this]
    omega
  | false =>
    have e := fb_ct_upd (bt x) true (i := t) (n := 12) ht
    rw [h] at e
    have c : ct (x ||| nb t) = fb_ct (fun k => if k = t then true else bt x k) 12 := fb_ct_cong fun k _ => by
      rw [b_or, nb_bt (by omega)]
      by_cases e : k = t
      · simp [e]
      · simp [e]
    rw [c]
    unfold ct
    simp only [Bool.false_eq_true, if_false, if_true, Nat.add_zero] at e
    omega
theorem zz_ct {ed : Nat → Nat × Nat} {u : Nat} (hu : u < 12) : ∀ K, (∀ i, i < K → (ed i).2 < 12) → ct (zz ed u K) ≤ K + 1
  | 0, _ => by
    have := ct_or_nb (x := 0) (t := u) hu
    have e : (0 : Int32) ||| nb u = nb u := b_ext fun i _ => by rw [b_or, b_0]; rfl
    rw [e] at this
    have e0 : ct 0 = 0 := by decide +kernel
    show ct (nb u) ≤ 0 + 1
    omega
  | K + 1, h => by
    have := zz_ct hu K (fun i hi => h i (by omega))
    have := ct_or_nb (x := zz ed u K) (h K (by omega))
    show ct (zz ed u K ||| nb (ed K).2) ≤ K + 1 + 1
    omega
theorem zz_in {ed : Nat → Nat × Nat} {u : Nat} (hu : u < 32) : ∀ K, (∀ i, i < K → (ed i).2 < 32) → ∀ x, (bt (zz ed u K) x = true ↔ x = u ∨ ∃ i, i < K ∧ (ed i).2 = x)
  | 0, _, x => by
    show bt (nb u) x = true ↔ _
    rw [nb_bt hu]
    constructor
    · intro h; exact Or.inl (by simpa using h)
    · rintro (h | ⟨i, hi, -⟩)
      · simp [h]
      · omega
  | K + 1, h, x => by
    show bt (zz ed u K ||| nb (ed K).2) x = true ↔ _
    rw [b_or, nb_bt (h K (by omega)), Bool.or_eq_true, zz_in hu K (fun i hi => h i (by omega)) x, decide_eq_true_eq]
    constructor
    · rintro ((h | ⟨i, hi, h⟩) | h)
      · exact Or.inl h
      · exact Or.inr ⟨i, by omega, h⟩
      · exact Or.inr ⟨K, by omega, h.symm⟩
    · rintro (h1 | ⟨i, hi, h1⟩)
      · exact Or.inl (Or.inl h1)
      · by_cases e : i = K
        · rw [e] at h1; exact Or.inr h1.symm
        · exact Or.inl (Or.inr ⟨i, by omega, h1⟩)
/-- the class's edges -/
def CE (h : mr_h) (K : Nat) (ed : Nat → Nat × Nat) : Prop := K ≤ 9 ∧ (∃ U L : Int64, h.1 24 = mr_O 1 [.long U, .long L, .ref 25, .ref 26, .ref 27, .int (nI K)]) ∧ ∃ F T : Nat → Int32, h.1 25 = mr_I 9 F ∧ h.1 26 = mr_I 9 T ∧ ∀ i, i < K → F i = nI (ed i).1 ∧ T i = nI (ed i).2
section ARRIVES
variable {h : mr_h} {Q : Option Value → mr_h → Prop} {n K s u v : Nat} {ed : Nat → Nat × Nat}
theorem l_arr2 (ce : CE h K ed) (hed : ∀ i, i < K → (ed i).1 < 12 ∧ (ed i).2 < 12) {R : Int32} {x2 x3 x5 x6 : Int32} : ∀ (d e : Nat), e + d = K → (mr_wp 98 88 [.ref 24, .int (nI s), .int x2, .int x3, .int (rin ed (fun i => s.testBit i) R K), .int x5, .int x6, .int (nI K)] [] h Q) → mr_wp 98 34 [.ref 24, .int (nI s), .int x2, .int x3, .int (rin ed (fun i => s.testBit i) R e), .int x5, .int x6, .int (nI e)] [] h Q := by
  obtain ⟨hK, ⟨U, L, e24⟩, F, T, e25, e26, hFT⟩ := ce
  intro d
  induction d with
  | zero =>
    intro e he kk
    have : e = K := by omega
    subst this
    rw [s_ch_arrives_34]
    simp only [S_ch_arrives_0, S_ch_arrives_1, e24, SEL, PF, mr_gf_O, mr_rc_O, Option.toList_some, Option.toList_none, List.cons_append, List.nil_append, b2i_0, b2i_1, b2i_a, a_00, a_11, ai_n, si_n, nI_1, q_rl_bit, mr_up_at, Nat.reduceLeDiff, Nat.reduceLT, Nat.reduceEqDiff, Nat.reduceAdd, if_true, if_false, Bool.true_eq_false, Bool.false_eq_true, Bool.true_and, Bool.false_and, Bool.and_true, Bool.and_false, i_10, i_01, i_00, not_true_eq_false, not_false_eq_true, if_pos (nI_le (Nat.le_refl e) (show e < 2 ^ 31 by omega))] at kk ⊢
    exact kk
  | succ d ih =>
    intro e he kk
    have c1 : ¬ nI K ≤ nI e := nI_ge (by omega) (by omega)
    obtain ⟨q1, q2⟩ := hFT e (by omega)
    obtain ⟨b1, b2⟩ := hed e (by omega)
    have e1 : rin ed (fun i => s.testBit i) R (e + 1) = if s.testBit e && bt (rin ed (fun i => s.testBit i) R e) (ed e).1 then rin ed (fun i => s.testBit i) R e ||| nb (ed e).2 else rin ed (fun i => s.testBit i) R e := rfl
    have := ih (e + 1) (by omega) kk
    rw [s_ch_arrives_34]
    simp only [S_ch_arrives_0, S_ch_arrives_1, e24, SEL, PF, mr_gf_O, mr_rc_O, Option.toList_some, Option.toList_none, List.cons_append, List.nil_append, b2i_0, b2i_1, b2i_a, a_00, a_11, ai_n, si_n, nI_1, q_rl_bit, mr_up_at, Nat.reduceLeDiff, Nat.reduceLT, Nat.reduceEqDiff, Nat.reduceAdd, if_true, if_false, Bool.true_eq_false, Bool.false_eq_true, Bool.true_and, Bool.false_and, Bool.and_true, Bool.and_false, i_10, i_01, i_00, not_true_eq_false, not_false_eq_true, if_neg c1, q_rl_holds (show e < 32 by omega), bt_nI (show e < 32 by omega), e25, e26, show e < 9 by omega, q1, q2, q_rl_holds (show (ed e).1 < 32 by omega)]
    cases z1 : s.testBit e with
    | false =>
      rw [e1, z1, Bool.false_and, if_neg (by decide)] at this
      simp only [if_true]
      exact this
    | true =>
      simp only [Bool.true_eq_false, if_false]
      cases z2 : bt (rin ed (fun i => s.testBit i) R e) (ed e).1 with
      | false =>
        rw [e1, z1, z2, Bool.and_false, if_neg (by decide)] at this
        simp only [if_true]
        exact this
      | true =>
        rw [e1, z1, z2, Bool.and_self, if_pos rfl] at this
        simp only [Bool.true_eq_false, if_false]
        exact this
theorem l_arr1 (ce : CE h K ed) (hn : n ≤ 12) (hu : u < n) (hv : v < n) (hed : ∀ i, i < K → (ed i).1 < n ∧ (ed i).2 < n) {W : Nat → Int32} (hW : ∀ a b, bt (W a) b = true ↔ ∃ i, i < K ∧ s.testBit i = true ∧ ed i = (a, b)) (kk : Q (some (.int (b2i (rr W n u v)))) h) : ∀ (d r : Nat) (R : Int32) (v6 v7 : Value), r + d = K + 1 → bt R u = true → (∀ x, bt R x = true → x < n ∧ rr W n u x = true ∧ bt (zz ed u K) x = true) → r + 1 ≤ ct R → mr_wp 98 9 [.ref 24, .int (nI s), .int (nI u), .int (nI v), .int R, .int (nI r), v6, v7] [] h Q := by
  obtain ⟨hK, ⟨U, L, e24⟩, -⟩ := id ce
  have hWn : nt W n := ⟨hn, fun a ha b hb => by
    obtain ⟨i, hi, -, e⟩ := (hW a b).mp hb
    have := (hed i hi).2
    rw [e] at this
    exact this⟩
  have h32 : ∀ i, i < K → (ed i).2 < 32 := fun i hi => by have := (hed i hi).2; omega
  have hedge : ∀ e, e < K → s.testBit e = true → bt (W (ed e).1) (ed e).2 = true := fun e he hs => (hW _ _).mpr ⟨e, he, hs, rfl⟩
  -- the answer, once a set is closed or holds the end
  have fin : ∀ (R : Int32), (∀ x, bt R x = true → x < n ∧ rr W n u x = true ∧ bt (zz ed u K) x = true) → bt R u = true → (bt R v = true ∨ rin ed (fun i => s.testBit i) R K = R) → b2i (bt R v) = b2i (rr W n u v) := by
    intro R h1 h2 h3
    congr 1
    cases z : bt R v with
    | true => exact ((h1 v z).2.1).symm
    | false =>
      have hc : rin ed (fun i => s.testBit i) R K = R := h3.resolve_left (by rw [z]; decide)
      cases z2 : rr W n u v with
      | false => rfl
      | true =>
        exfalso
        have := rr_min hWn (fun a b => bt R a = true → bt R b = true) (fun _ _ z => z) (fun a b ha hb hab hra => by
          obtain ⟨i, hi, hs, e⟩ := (hW a b).mp hab
          have := rin_closed (e := i) h32 hc hi hs (by rw [e]; exact hra)
          rw [e] at this
          exact this) (fun _ _ _ _ _ z1 z2 z => z2 (z1 z)) hu z2 h2
        rw [z] at this
        exact absurd this (by decide)
  intro d
  induction d with
  | zero =>
    intro r R v6 v7 hr h1 h2 h3
    exfalso
    have : ct R ≤ ct (zz ed u K) := ct_mono fun i hi => (h2 i hi).2.2
    have := zz_ct (ed := ed) (u := u) (by omega) K (fun i hi => by have := (hed i hi).2; omega)
    omega
  | succ d ih =>
    intro r R v6 v7 hr h1 h2 h3
    rw [s_ch_arrives_9]
    simp only [S_ch_arrives_0, S_ch_arrives_1, e24, SEL, PF, mr_gf_O, mr_rc_O, Option.toList_some, Option.toList_none, List.cons_append, List.nil_append, b2i_0, b2i_1, b2i_a, a_00, a_11, ai_n, si_n, nI_1, q_rl_bit, mr_up_at, Nat.reduceLeDiff, Nat.reduceLT, Nat.reduceEqDiff, Nat.reduceAdd, if_true, if_false, Bool.true_eq_false, Bool.false_eq_true, Bool.true_and, Bool.false_and, Bool.and_true, Bool.and_false, i_10, i_01, i_00, not_true_eq_false, not_false_eq_true, if_neg (show ¬ nI K < nI r from nI_nlt (by omega) (by omega)), q_rl_holds (show v < 32 by omega)]
    cases z : bt R v with
    | true =>
      simp only [Bool.true_eq_false, not_false_eq_true, if_true]
      have := fin R h2 h1 (Or.inl z)
      rw [z] at this
      rw [this]
      exact kk
    | false =>
      simp only [not_true_eq_false, if_false]
      rw [← nI_0]
      refine l_arr2 (R := R) ce (fun i hi => ⟨by have := (hed i hi).1; omega, by have := (hed i hi).2; omega⟩) K 0 (by omega) ?_
      simp only [S_ch_arrives_0, S_ch_arrives_1, SEL, PF, mr_gf_O, mr_rc_O, Option.toList_some, Option.toList_none, List.cons_append, List.nil_append, b2i_0, b2i_1, b2i_a, a_00, a_11, ai_n, si_n, nI_1, q_rl_bit, mr_up_at, Nat.reduceLeDiff, Nat.reduceLT, Nat.reduceEqDiff, Nat.reduceAdd, if_true, if_false, Bool.true_eq_false, Bool.false_eq_true, Bool.true_and, Bool.false_and, Bool.and_true, Bool.and_false, i_10, i_01, i_00, not_true_eq_false, not_false_eq_true]
      by_cases z2 : rin ed (fun i => s.testBit i) R K = R
      · rw [if_neg (by simpa using z2), z2]
        simp only [S_ch_arrives_0, S_ch_arrives_1, SEL, PF, mr_gf_O, mr_rc_O, Option.toList_some, Option.toList_none, List.cons_append, List.nil_append, b2i_0, b2i_1, b2i_a, a_00, a_11, ai_n, si_n, nI_1, q_rl_bit, mr_up_at, Nat.reduceLeDiff, Nat.reduceLT, Nat.reduceEqDiff, Nat.reduceAdd, if_true, if_false, Bool.true_eq_false, Bool.false_eq_true, Bool.true_and, Bool.false_and, Bool.and_true, Bool.and_false, i_10, i_01, i_00, not_true_eq_false, not_false_eq_true, q_rl_holds (show v < 32 by omega)]
        rw [fin R h2 h1 (Or.inr z2)]
        exact kk
      · rw [if_pos z2]
        have sub : ∀ x, bt R x = true → bt (rin ed (fun i => s.testBit i) R K) x = true := fun x hx => by
          have := rin_mono ed (fun i => s.testBit i) R K 0 hx
          rwa [Nat.zero_add] at this
        have h2' : ∀ x, bt (rin ed (fun i => s.testBit i) R K) x = true → x < n ∧ rr W n u x = true ∧ bt (zz ed u K) x = true := rin_ind h32 (fun x => x < n ∧ rr W n u x = true ∧ bt (zz ed u K) x = true) h2 (fun e he hs ht => ⟨(hed e he).2, rr_tr ht.1 ht.2.1 (rr_edge (hedge e he hs)), (zz_in (by omega) K h32 _).mpr (Or.inr ⟨e, he, rfl⟩)⟩) K (Nat.le_refl K)
        refine ih (r + 1) _ _ _ (by omega) (sub u h1) h2' ?_
        have new : ∃ j, j < 12 ∧ bt R j = false ∧ bt (rin ed (fun i => s.testBit i) R K) j = true := by
          by_cases hx : ∃ j, j < 12 ∧ bt R j = false ∧ bt (rin ed (fun i => s.testBit i) R K) j = true
          · exact hx
          · exfalso
            apply z2
            apply b_ext
            intro i hi
            cases e1 : bt (rin ed (fun i => s.testBit i) R K) i with
            | false =>
              cases e2 : bt R i with
              | false => rfl
              | true => rw [sub i e2] at e1; exact absurd e1 (by decide)
            | true =>
              cases e2 : bt R i with
              | true => rfl
              | false => exact absurd ⟨i, by have := (h2' i e1).1; omega, e2, e1⟩ hx
        obtain ⟨j, hj, hj1, hj2⟩ := new
        have := ct_lt hj sub hj1 hj2
        omega
theorem q_ch_arrives (ce : CE h K ed) (hn : n ≤ 12) (hu : u < n) (hv : v < n) (hed : ∀ i, i < K → (ed i).1 < n ∧ (ed i).2 < n) {W : Nat → Int32} (hW : ∀ a b, bt (W a) b = true ↔ ∃ i, i < K ∧ s.testBit i = true ∧ ed i = (a, b)) (kk : Q (some (.int (b2i (rr W n u v)))) h) : mr_run 98 [.ref 24, .int (nI s), .int (nI u), .int (nI v)] h Q := by
  have hWn : nt W n := ⟨hn, fun a ha b hb => by
    obtain ⟨i, hi, -, e⟩ := (hW a b).mp hb
    have := (hed i hi).2
    rw [e] at this
    exact this⟩
  have hb : ∀ x, bt (nb u) x = true ↔ x = u := fun x => by rw [nb_bt (by omega)]; simp
  rw [r_ch_arrives]
  simp only [S_ch_arrives_0, S_ch_arrives_1, SEL, PF, mr_gf_O, mr_rc_O, Option.toList_some, Option.toList_none, List.cons_append, List.nil_append, b2i_0, b2i_1, b2i_a, a_00, a_11, ai_n, si_n, nI_1, q_rl_bit, mr_up_at, Nat.reduceLeDiff, Nat.reduceLT, Nat.reduceEqDiff, Nat.reduceAdd, if_true, if_false, Bool.true_eq_false, Bool.false_eq_true, Bool.true_and, Bool.false_and, Bool.and_true, Bool.and_false, i_10, i_01, i_00, not_true_eq_false, not_false_eq_true]
  rw [← nI_0]
  refine l_arr1 ce hn hu hv hed hW kk (K + 1) 0 (nb u) _ _ (by omega) ((hb u).mpr rfl) (fun x hx => ?_) (ct_pos (i := u) (by omega) ((hb u).mpr rfl))
  have := (hb x).mp hx
  subst this
  exact ⟨hu, rr_refl hWn hu, (zz_in (by omega) K (fun i hi => by have := (hed i hi).2; omega) x).mpr (Or.inl rfl)⟩
end ARRIVES
