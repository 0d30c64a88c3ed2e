/-! spread: all that is come to, some nodes avoided -/
def wd (E : Nat → Int32) (R : Int32) : Nat → Int32
  | 0 => R
  | k + 1 => if bt R k then wd E R k ||| E k else wd E R k
theorem wd_iff (E : Nat → Int32) (R : Int32) : ∀ k y, bt (wd E R k) y = true ↔ bt R y = true ∨ ∃ u, u < k ∧ bt R u = true ∧ bt (E u) y = true
  | 0, y => by
    show bt R y = true ↔ _
    constructor
    · exact Or.inl
    · rintro (h | ⟨u, hu, -⟩)
      · exact h
      · omega
  | k + 1, y => by
    have ih := wd_iff E R k y
    unfold wd
    split
    · rename_i hb
      rw [b_or, Bool.or_eq_true, ih]
      constructor
      · rintro ((h | ⟨u, hu, h⟩) | h)
        · exact Or.inl h
        · exact Or.inr ⟨u, by omega, h⟩
        · exact Or.inr ⟨k, by omega, hb, h⟩
      · rintro (h | ⟨u, hu, h⟩)
        · exact Or.inl (Or.inl h)
        · by_cases e : u = k
          · subst e; exact Or.inr h.2
          · exact Or.inl (Or.inr ⟨u, by omega, h⟩)
    · rename_i hb
      rw [ih]
      constructor
      · rintro (h | ⟨u, hu, h⟩)
        · exact Or.inl h
        · exact Or.inr ⟨u, by omega, h⟩
      · rintro (h | ⟨u, hu, h⟩)
        · exact Or.inl h
        · by_cases e : u = k
          · subst e; exact absurd h.1 hb
          · exact Or.inr ⟨u, by omega, h⟩
theorem b_not (x : Int32) {i : Nat} (hi : i < 32) : bt (x ^^^ -1) i = !bt x i := by
  rw [b_xor, b_m1 i hi]
  simp
/-- what spread answers -/
def SPR (E : Nat → Int32) (n : Nat) (from' avoid R : Int32) : Prop :=
  (∀ x, bt R x = true → x < n ∧ bt avoid x = false) ∧ (∀ x, bt from' x = true → bt avoid x = false → bt R x = true) ∧ (∀ x y, bt R x = true → bt (E x) y = true → bt avoid y = false → bt R y = true) ∧
  (∀ P : Nat → Prop, (∀ x, bt from' x = true → bt avoid x = false → P x) → (∀ x y, x < n → P x → bt (E x) y = true → bt avoid y = false → P y) → ∀ x, bt R x = true → P x)
section SPREAD
variable {h : mr_h} {Q : Option Value → mr_h → Prop} {n len us m : Nat} {E K : Nat → Int32}
theorem l_spread2 (hn : n ≤ 12) {fr av R : Int32} {v4 : Int32} (e1 : h.1 1 = NE 1 n) (e2 : h.1 2 = mr_I 12 E) (kk : mr_wp 57 60 [.ref 1, .int fr, .int av, .int R, .int v4, .int (wd E R n), .int (nI n)] [] h Q) : ∀ (d k : Nat), k + d = n → mr_wp 57 24 [.ref 1, .int fr, .int av, .int R, .int v4, .int (wd E R k), .int (nI k)] [] h Q := by
  intro d
  induction d with
  | zero =>
    intro k hk
    have : k = n := by omega
    subst this
    rw [s_ne_spread_24]
    simp only [S_ne_spread_0, S_ne_spread_1, e1, NE, SEL, PF, mr_gf_O, mr_rc_O, Option.toList_some, Option.toList_none, List.cons_append, List.nil_append, b2i_0, b2i_1, b2i_a, a_00, a_11, ai_n, si_n, nI_1, q_rl_bit, mr_up_at, Nat.reduceLeDiff, Nat.reduceLT, Nat.reduceEqDiff, Nat.reduceAdd, if_true, if_false, if_pos (nI_le (Nat.le_refl k) (by omega))] at kk ⊢
    exact kk
  | succ d ih =>
    intro k hk
    have c1 : ¬ nI n ≤ nI k := nI_ge (by omega) (by omega)
    rw [s_ne_spread_24]
    simp only [S_ne_spread_0, S_ne_spread_1, e1, NE, SEL, PF, mr_gf_O, mr_rc_O, Option.toList_some, Option.toList_none, List.cons_append, List.nil_append, b2i_0, b2i_1, b2i_a, a_00, a_11, ai_n, si_n, nI_1, q_rl_bit, mr_up_at, Nat.reduceLeDiff, Nat.reduceLT, Nat.reduceEqDiff, Nat.reduceAdd, if_true, if_false, if_neg c1, q_rl_holds (show k < 32 by omega), e2, show k < 12 by omega]
    have := ih (k + 1) (by omega)
    have e : wd E R (k + 1) = if bt R k then wd E R k ||| E k else wd E R k := rfl
    cases b1 : bt R k with
    | true =>
      rw [e, if_pos b1] at this
      simp only [Bool.true_eq_false, if_false]
      exact this
    | false =>
      rw [e, if_neg (by rw [b1]; decide)] at this
      simp only [if_true]
      exact this
theorem l_spread1 (hE : nt E n) {fr av : Int32} (hf : ∀ x, bt fr x = true → x < n) (e1 : h.1 1 = NE 1 n) (e2 : h.1 2 = mr_I 12 E) (kk : ∀ R, SPR E n fr av R → Q (some (.int R)) h) : ∀ (d k : Nat) (R : Int32) (v5 v6 : Value), k + d = n → (∀ x, bt R x = true → x < n ∧ bt av x = false) → (∀ x, bt fr x = true → bt av x = false → bt R x = true) → (∀ P : Nat → Prop, (∀ x, bt fr x = true → bt av x = false → P x) → (∀ x y, x < n → P x → bt (E x) y = true → bt av y = false → P y) → ∀ x, bt R x = true → P x) → (R = 0 ∨ k + 1 ≤ ct R) → mr_wp 57 9 [.ref 1, .int fr, .int av, .int R, .int (nI k), v5, v6] [] h Q := by
  have hn := hE.1
  intro d
  induction d with
  | zero =>
    intro k R v5 v6 hk h1 h2 h3 h4
    have : k = n := by omega
    subst this
    rw [s_ne_spread_9]
    simp only [S_ne_spread_0, S_ne_spread_1, e1, NE, SEL, PF, mr_gf_O, mr_rc_O, Option.toList_some, Option.toList_none, List.cons_append, List.nil_append, b2i_0, b2i_1, b2i_a, a_00, a_11, ai_n, si_n, nI_1, q_rl_bit, mr_up_at, Nat.reduceLeDiff, Nat.reduceLT, Nat.reduceEqDiff, Nat.reduceAdd, if_true, if_false, if_pos (nI_le (Nat.le_refl k) (by omega))]
    rcases h4 with h4 | h4
    · subst h4
      refine kk 0 ⟨h1, h2, fun x y hx => ?_, h3⟩
      rw [b_0] at hx
      exact absurd hx (by decide)
    · exfalso
      have : ct R ≤ k := by
        have e := fb_ct_split (bt R) k (12 - k)
        have z : fb_ct (fun j => bt R (k + j)) (12 - k) = 0 := fb_ct_zero.mpr fun j _ => by
          cases e : bt R (k + j) with
          | false => rfl
          | true => have := (h1 _ e).1; omega
        rw [z, show k + (12 - k) = 12 by omega] at e
        have := fb_ct_le (bt R) k
        unfold ct
        omega
      omega
  | succ d ih =>
    intro k R v5 v6 hk h1 h2 h3 h4
    have c1 : ¬ nI n ≤ nI k := nI_ge (by omega) (by omega)
    rw [s_ne_spread_9]
    simp only [S_ne_spread_0, S_ne_spread_1, e1, NE, SEL, PF, mr_gf_O, mr_rc_O, Option.toList_some, Option.toList_none, List.cons_append, List.nil_append, b2i_0, b2i_1, b2i_a, a_00, a_11, ai_n, si_n, nI_1, q_rl_bit, mr_up_at, Nat.reduceLeDiff, Nat.reduceLT, Nat.reduceEqDiff, Nat.reduceAdd, if_true, if_false, if_neg c1]
    rw [← nI_0]
    refine l_spread2 hn e1 e2 ?_ n 0 (by omega)
    simp only [S_ne_spread_0, S_ne_spread_1, e1, NE, SEL, PF, mr_gf_O, mr_rc_O, Option.toList_some, Option.toList_none, List.cons_append, List.nil_append, b2i_0, b2i_1, b2i_a, a_00, a_11, ai_n, si_n, nI_1, q_rl_bit, mr_up_at, Nat.reduceLeDiff, Nat.reduceLT, Nat.reduceEqDiff, Nat.reduceAdd, if_true, if_false]
    have hw : ∀ y, bt (wd E R n &&& (av ^^^ -1)) y = true ↔ (bt R y = true ∨ ∃ u, u < n ∧ bt R u = true ∧ bt (E u) y = true) ∧ bt av y = false := fun y => by
      rw [b_and, Bool.and_eq_true, wd_iff]
      by_cases hy : y < 32
      · rw [b_not av hy]
        simp
      · constructor
        · rintro ⟨h5 | ⟨u, hu, h6, h7⟩, -⟩
          · have := (h1 y h5).1; omega
          · have := hE.2 u hu y h7; omega
        · rintro ⟨h5 | ⟨u, hu, h6, h7⟩, -⟩
          · have := (h1 y h5).1; omega
          · have := hE.2 u hu y h7; omega
    by_cases c2 : wd E R n &&& (av ^^^ -1) = R
    · rw [if_neg (by simpa using c2)]
      refine kk R ⟨h1, h2, fun x y hx hy ha => ?_, h3⟩
      rw [← c2, hw]
      exact ⟨Or.inr ⟨x, (h1 x hx).1, hx, hy⟩, ha⟩
    · rw [if_pos c2]
      generalize hR2 : wd E R n &&& (av ^^^ -1) = R2 at *
      have sub : ∀ x, bt R x = true → bt R2 x = true := fun x hx => (hw x).mpr ⟨Or.inl hx, (h1 x hx).2⟩
      refine ih (k + 1) R2 _ _ (by omega) (fun x hx => ?_) (fun x hx ha => sub x (h2 x hx ha)) (fun P p1 p2 x hx => ?_) ?_
      · obtain ⟨hx1, hx2⟩ := (hw x).mp hx
        refine ⟨?_, hx2⟩
        rcases hx1 with hx1 | ⟨u, hu, -, hx1⟩
        · exact (h1 x hx1).1
        · exact hE.2 u hu x hx1
      · obtain ⟨hx1, hx2⟩ := (hw x).mp hx
        rcases hx1 with hx1 | ⟨u, hu, hu1, hx1⟩
        · exact h3 P p1 p2 x hx1
        · exact p2 u x hu (h3 P p1 p2 u hu1) hx1 hx2
      · -- it has grown
        have new : ∃ j, j < 12 ∧ bt R j = false ∧ bt R2 j = true := by
          by_cases hx : ∃ j, j < 12 ∧ bt R j = false ∧ bt R2 j = true
          · exact hx
          · exfalso
            apply c2
            apply b_ext
            intro i hi
            cases e1 : bt R2 i with
            | false =>
              cases e2 : bt R i with
              | false => rfl
              | true => rw [sub i e2] at e1; exact absurd e1 (by decide)
            | true =>
              cases e2 : bt R i with
              | true => rfl
              | false =>
                refine absurd ⟨i, ?_, e2, e1⟩ hx
                obtain ⟨hx1, -⟩ := (hw i).mp e1
                rcases hx1 with hx1 | ⟨u, hu, -, hx1⟩
                · have := (h1 i hx1).1; omega
                · have := hE.2 u hu i hx1; omega
        obtain ⟨j, hj, hj1, hj2⟩ := new
        have lt := ct_lt hj sub hj1 hj2
        rcases h4 with h4 | h4
        · -- nothing comes of nothing
          exfalso
          subst h4
          obtain ⟨hx1, -⟩ := (hw j).mp hj2
          rcases hx1 with hx1 | ⟨u, hu, hx2, -⟩
          · rw [b_0] at hx1; exact absurd hx1 (by decide)
          · rw [b_0] at hx2; exact absurd hx2 (by decide)
        · exact Or.inr (by omega)
theorem q_ne_spread (hE : nt E n) {fr av : Int32} (hf : ∀ x, bt fr x = true → x < n) (e1 : h.1 1 = NE 1 n) (e2 : h.1 2 = mr_I 12 E) (kk : ∀ R, SPR E n fr av R → Q (some (.int R)) h) : mr_run 57 [.ref 1, .int fr, .int av] h Q := by
  have hn := hE.1
  rw [r_ne_spread]
  simp only [S_ne_spread_0, S_ne_spread_1]
  rw [← nI_0]
  have hb : ∀ y, bt (fr &&& (av ^^^ -1)) y = true ↔ bt fr y = true ∧ bt av y = false := fun y => by
    rw [b_and, Bool.and_eq_true]
    by_cases hy : y < 32
    · rw [b_not av hy]
      simp
    · constructor
      · rintro ⟨h5, -⟩
        have := hf y h5; omega
      · rintro ⟨h5, -⟩
        have := hf y h5; omega
  refine l_spread1 hE hf e1 e2 kk n 0 _ _ _ (by omega) (fun x hx => ?_) (fun x hx ha => (hb x).mpr ⟨hx, ha⟩) (fun P p1 _ x hx => p1 x ((hb x).mp hx).1 ((hb x).mp hx).2) ?_
  · obtain ⟨hx1, hx2⟩ := (hb x).mp hx
    exact ⟨hf x hx1, hx2⟩
  · by_cases z : fr &&& (av ^^^ -1) = 0
    · exact Or.inl z
    · obtain ⟨i, hi, e⟩ := nz_iff.mp z
      have := hf i ((hb i).mp e).1
      exact Or.inr (ct_pos (i := i) (by omega) e)
/-- an edge is spare where its end is come to without it -/
theorem spare_iff (hE : nt E n) {a b : Nat} (ha : a < n) (hb : b < n) (hab : a ≠ b) (hh : bt (E a) b = true) {R : Int32} (hR : SPR E n (E a &&& (nb b ^^^ -1)) (nb a) R) : bt R b = rr (fl E a b) n a b := by
  have hn := hE.1
  have hF := fl_nt (a := a) hE hb
  obtain ⟨r1, r2, r3, r4⟩ := hR
  have hf : ∀ u v, bt (fl E a b u) v = true ↔ bt (E u) v = true ∧ ¬ (u = a ∧ v = b) := fun u v => by
    rw [fl_bt (by omega)]
    by_cases e : u = a ∧ v = b
    · rw [e.1, e.2, hh]; simp
    · have : (decide (u = a) && decide (v = b)) = false := by
        simp only [Bool.and_eq_false_iff, decide_eq_false_iff_not]
        by_cases z : u = a
        · exact Or.inr (fun z2 => e ⟨z, z2⟩)
        · exact Or.inl z
      rw [this]
      simp [e]
  have hfr : ∀ x, bt (E a &&& (nb b ^^^ -1)) x = true ↔ bt (fl E a b a) x = true := fun x => by
    rw [hf, b_and, Bool.and_eq_true]
    by_cases hx : x < 32
    · rw [b_not _ hx, nb_bt (by omega)]
      simp
    · constructor
      · rintro ⟨h5, -⟩
        have := hE.2 a ha x h5; omega
      · rintro ⟨h5, -⟩
        have := hE.2 a ha x h5; omega
  apply Bool.eq_iff_iff.mpr
  constructor
  · intro h
    refine r4 (fun x => x < n ∧ x ≠ a ∧ rr (fl E a b) n a x = true) ?_ ?_ b h |>.2.2
    · intro x hx hav
      have hx2 := (hfr x).mp hx
      rw [nb_bt (by omega)] at hav
      exact ⟨hF.2 a ha x hx2, by simpa using hav, rr_edge hx2⟩
    · intro x y hx hp hy hav
      rw [nb_bt (by omega)] at hav
      refine ⟨hE.2 x hx y hy, by simpa using hav, rr_tr hx hp.2.2 (rr_edge ((hf x y).mpr ⟨hy, fun z => hp.2.1 z.1⟩))⟩
  · intro h
    have key : ∀ u v, u < n → rr (fl E a b) n u v = true → (u = a ∨ bt R u = true) → (v = a ∨ bt R v = true) := fun u v hu huv => by
      refine rr_min hF (fun u v => (u = a ∨ bt R u = true) → (v = a ∨ bt R v = true)) (fun _ _ z => z) (fun x y hx hy hxy z => ?_) (fun _ _ _ _ _ z1 z2 z => z2 (z1 z)) hu huv
      by_cases e : y = a
      · exact Or.inl e
      · right
        have av : bt (nb a) y = false := by rw [nb_bt (by omega)]; simp [e]
        rcases z with z | z
        · subst z
          exact r2 y ((hfr y).mpr hxy) av
        · exact r3 x y z ((hf x y).mp hxy).1 av
    rcases key a b ha h (Or.inl rfl) with z | z
    · exact absurd z.symm hab
    · exact z
theorem q_cg_isSpare (st : St h n len us m E K) {a b : Nat} (ha : a < n) (hb : b < n) (hab : a ≠ b) (hh : bt (E a) b = true) (kk : Q (some (.int (b2i (rr (fl E a b) n a b)))) h) : mr_run 56 [.ref 22, .ref 1, .int (nI a), .int (nI b)] h Q := by
  have hE := St_E st
  have hn := hE.1
  rw [r_cg_isSpare]
  simp only [S_cg_isSpare, St_1 st, NE, SEL, PF, mr_gf_O, mr_rc_O, Option.toList_some, Option.toList_none, List.cons_append, List.nil_append, b2i_0, b2i_1, b2i_a, a_00, a_11, ai_n, si_n, nI_1, q_rl_bit, mr_up_at, Nat.reduceLeDiff, Nat.reduceLT, Nat.reduceEqDiff, Nat.reduceAdd, if_true, if_false, Bool.true_eq_false, Bool.false_eq_true, Bool.true_and, Bool.false_and, Bool.and_true, Bool.and_false, i_10, i_01, i_00, not_true_eq_false, not_false_eq_true, St_2 st, show a < 12 by omega]
  refine q_ne_spread hE (fun x hx => ?_) (St_1 st) (St_2 st) ?_
  · rw [b_and, Bool.and_eq_true] at hx
    exact hE.2 a ha x hx.1
  · intro R hR
    simp only [S_cg_isSpare, SEL, PF, mr_gf_O, mr_rc_O, Option.toList_some, Option.toList_none, List.cons_append, List.nil_append, b2i_0, b2i_1, b2i_a, a_00, a_11, ai_n, si_n, nI_1, q_rl_bit, mr_up_at, Nat.reduceLeDiff, Nat.reduceLT, Nat.reduceEqDiff, Nat.reduceAdd, if_true, if_false, Bool.true_eq_false, Bool.false_eq_true, Bool.true_and, Bool.false_and, Bool.and_true, Bool.and_false, i_10, i_01, i_00, not_true_eq_false, not_false_eq_true, q_rl_holds (show b < 32 by omega), spare_iff hE ha hb hab hh hR]
    exact kk
def spp (E : Nat → Int32) (n u v : Nat) : Bool := bt (E u) v && rr (fl E u v) n u v
end SPREAD
