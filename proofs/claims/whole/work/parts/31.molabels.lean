/-! labels: the reference -/
def al (p : Nat → Bool) : Nat → Bool
  | 0 => true
  | k + 1 => al p k && p k
theorem al_iff (p : Nat → Bool) : ∀ n, al p n = true ↔ ∀ k, k < n → p k = true
  | 0 => by simp [al]
  | n + 1 => by
    have ih := al_iff p n
    show (al p n && p n) = true ↔ _
    rw [Bool.and_eq_true, ih]
    constructor
    · rintro ⟨h1, h2⟩ k hk
      by_cases e : k = n
      · subst e; exact h2
      · exact h1 k (by omega)
    · intro h
      exact ⟨fun k hk => h k (by omega), h n (by omega)⟩
theorem al_false {p : Nat → Bool} {k : Nat} (h : al p k = false) : ∀ n, k ≤ n → al p n = false
  | 0, hn => by
    have : k = 0 := by omega
    subst this
    exact h
  | n + 1, hn => by
    by_cases e : k = n + 1
    · subst e; exact h
    · show (al p n && p n) = false
      rw [al_false h n (by omega)]
      rfl
def bad (E K : Nat → Int32) (n hh fr to g : Nat) : Bool := ns E n g && (!decide (g = hh) && (!decide (rkk E K n hh ≤ rkk E K n g) && (rr E n fr g && rr E n g to)))
def lb (E K : Nat → Int32) (n hh fr to : Nat) : Bool := rr E n fr to && al (fun g => !bad E K n hh fr to g) n
theorem rkk_le {E K : Nat → Int32} {n h w : Nat} (hw : w < n) (h1 : rg E n h w = true) : rkk E K n h ≤ K w := mnI_le _ K _ n w hw h1
theorem rkk_is {E K : Nat → Int32} {n h : Nat} (hE : nt E n) (hh : h < n) : ∃ w, w < n ∧ rg E n h w = true ∧ rkk E K n h = K w := by
  rcases mnI_is (rg E n h) K (K h) n with z | z
  · exact ⟨h, hh, rg_self hE hh, z⟩
  · exact z
theorem rr_ring {E : Nat → Int32} {n a u v : Nat} (hu : u < n) (hv : v < n) (h : rg E n u v = true) : rr E n a u = rr E n a v := by
  unfold rg at h
  simp only [Bool.and_eq_true] at h
  apply Bool.eq_iff_iff.mpr
  exact ⟨fun z => rr_tr hu z h.1, fun z => rr_tr hv z h.2⟩
theorem rr_ring2 {E : Nat → Int32} {n a u v : Nat} (hu : u < n) (hv : v < n) (h : rg E n u v = true) : rr E n u a = rr E n v a := by
  unfold rg at h
  simp only [Bool.and_eq_true] at h
  apply Bool.eq_iff_iff.mpr
  exact ⟨fun z => rr_tr hu h.2 z, fun z => rr_tr hv h.1 z⟩
/-- a ring of a lower rank between, told by nodes or by rings -/
theorem bad_iff {E K : Nat → Int32} {n hh fr to : Nat} (hE : nt E n) (hn : ns E n hh = true) : al (fun g => !bad E K n hh fr to g) n = true ↔ ∀ w, w < n → ¬ (rr E n fr w = true ∧ rr E n w to = true ∧ ¬ rkk E K n hh ≤ K w) := by
  have hlt := ((ns_iff hE).mp hn).1
  rw [al_iff]
  constructor
  · rintro h w hw ⟨h1, h2, h3⟩
    have hg := Nm_lt hE hw
    have hr := Nm_rg hE hw
    have h4 := h (Nm E n w) hg
    have h5 : rkk E K n (Nm E n w) ≤ K w := rkk_le hw (by rw [rg_symm]; exact hr)
    have h6 : ¬ rkk E K n hh ≤ rkk E K n (Nm E n w) := fun z => h3 (Int32.le_trans z h5)
    have h7 : ¬ Nm E n w = hh := fun z => h6 (by rw [z]; exact Int32.le_refl _)
    have h8 : bad E K n hh fr to (Nm E n w) = true := by
      unfold bad
      rw [ns_Nm hE hw, ← rr_ring hw hg hr, ← rr_ring2 hw hg hr, h1, h2]
      simp [h7, h6]
    rw [h8] at h4
    cases h4
  · intro h g hg
    cases hb : bad E K n hh fr to g with
    | false => rfl
    | true =>
      unfold bad at hb
      simp only [Bool.and_eq_true, Bool.not_eq_true', decide_eq_false_iff_not] at hb
      obtain ⟨b1, b2, b3, b4, b5⟩ := hb
      obtain ⟨w, hw, hr, e⟩ := rkk_is (K := K) hE hg
      exact absurd ⟨by rw [← rr_ring hg hw hr]; exact b4, by rw [← rr_ring2 hg hw hr]; exact b5, by rw [← e]; exact b3⟩ (h w hw)
theorem in_eq {E K : Nat → Int32} {n u : Nat} (hE : nt E n) (hu : u < n) : mk (fun hh => ns E n hh && lb E K n hh hh (Nm E n u)) n = In E K n u := by
  refine mk_cong fun k hk => ?_
  unfold inb
  cases hn : ns E n k with
  | false => rfl
  | true =>
    rw [Bool.true_and, Bool.true_and]
    unfold lb
    have hg := Nm_lt hE hu
    have hr := Nm_rg hE hu
    rw [← rr_ring hu hg hr]
    congr 1
    apply Bool.eq_iff_iff.mpr
    rw [bad_iff hE hn, decide_eq_true_eq, z_mask hE]
    constructor
    · exact fun h w hw z => h w hw ⟨z.1, by rw [← rr_ring hu hg hr]; exact z.2.1, z.2.2⟩
    · exact fun h w hw z => h w hw ⟨z.1, by rw [rr_ring hu hg hr]; exact z.2.1, z.2.2⟩
theorem ot_eq {E K : Nat → Int32} {n u : Nat} (hE : nt E n) (hu : u < n) : mk (fun hh => ns E n hh && lb E K n hh (Nm E n u) hh) n = Ot E K n u := by
  refine mk_cong fun k hk => ?_
  unfold otb
  cases hn : ns E n k with
  | false => rfl
  | true =>
    rw [Bool.true_and, Bool.true_and]
    unfold lb
    have hg := Nm_lt hE hu
    have hr := Nm_rg hE hu
    rw [← rr_ring2 hu hg hr]
    congr 1
    apply Bool.eq_iff_iff.mpr
    rw [bad_iff hE hn, decide_eq_true_eq, z_mask hE]
    constructor
    · exact fun h w hw z => h w hw ⟨by rw [← rr_ring2 hu hg hr]; exact z.1, z.2.1, z.2.2⟩
    · exact fun h w hw z => h w hw ⟨by rw [rr_ring2 hu hg hr]; exact z.1, z.2.1, z.2.2⟩
section MOLAB
variable {h : mr_h} {Q : Option Value → mr_h → Prop} {n : Nat} {E A f : Nat → Int32}
theorem l_mo_ringRank (hE : nt E n) (hm : MN h n) (e77 : h.1 77 = mr_I 24 f) {v : Nat} : ∀ (d k : Nat), k + d = n →
    mr_wp 141 12 [.ref 74, .int (nI v), .int (Rg E n v), .int (mnI (rg E n v) (fun k => f (12 + k)) 99 k), .int (nI k)] [] h Q = Q (some (.int (mnI (rg E n v) (fun k => f (12 + k)) 99 n))) h := by
  obtain ⟨th, ty, tt, tk, pl, va, fa, dn, dr, um, sn, uf, e74⟩ := id hm
  have hn := hE.1
  intro d
  induction d with
  | zero =>
    intro k hk
    have : k = n := by omega
    subst this
    rw [s_mo_ringRank_12]
    simp only [S_mo_ringRank, e74, MO, SEL, PF, mr_gf_O, mr_rc_O, Option.toList_some, Option.toList_none, List.cons_append, List.nil_append, b2i_0, b2i_1, b2i_a, a_00, a_11, ai_n, si_n, nI_1, q_rl_bit, mr_up_at, Nat.reduceLeDiff, Nat.reduceLT, Nat.reduceEqDiff, Nat.reduceAdd, if_true, if_false, if_pos (nI_le (Nat.le_refl k) (by omega))]
  | succ d ih =>
    intro k hk
    have c1 : ¬ nI n ≤ nI k := nI_ge (by omega) (by omega)
    have hkn : k < n := by omega
    have hk24 : 12 + k < 24 := by omega
    rw [s_mo_ringRank_12]
    simp only [S_mo_ringRank, e74, MO, SEL, PF, mr_gf_O, mr_rc_O, Option.toList_some, Option.toList_none, List.cons_append, List.nil_append, b2i_0, b2i_1, b2i_a, a_00, a_11, ai_n, si_n, nI_1, q_rl_bit, mr_up_at, Nat.reduceLeDiff, Nat.reduceLT, Nat.reduceEqDiff, Nat.reduceAdd, if_true, if_false, if_neg c1, q_mo_has (show k < 32 by omega), Rg_b hn hkn, e77, t_12, hk24]
    by_cases hb : rg E n v k = true
    · by_cases hl : f (12 + k) < mnI (rg E n v) (fun k => f (12 + k)) 99 k
      · have em : mnI (rg E n v) (fun k => f (12 + k)) 99 (k + 1) = f (12 + k) := by
          show (if rg E n v k then (if f (12 + k) < _ then _ else _) else _) = _
          rw [if_pos hb, if_pos hl]
        have hl' : ¬ mnI (rg E n v) (fun k => f (12 + k)) 99 k ≤ f (12 + k) := by rw [fa_le]; rw [fa_lt] at hl; omega
        simp only [hb, Bool.true_eq_false, if_false, hl']
        rw [← em]
        exact ih (k + 1) (by omega)
      · have em : mnI (rg E n v) (fun k => f (12 + k)) 99 (k + 1) = mnI (rg E n v) (fun k => f (12 + k)) 99 k := by
          show (if rg E n v k then (if f (12 + k) < _ then _ else _) else _) = _
          rw [if_pos hb, if_neg hl]
        have hl' : mnI (rg E n v) (fun k => f (12 + k)) 99 k ≤ f (12 + k) := by rw [fa_le]; rw [fa_lt] at hl; omega
        simp only [hb, Bool.true_eq_false, if_false, hl', if_true]
        rw [← em]
        exact ih (k + 1) (by omega)
    · have hb' : rg E n v k = false := by simpa using hb
      have em : mnI (rg E n v) (fun k => f (12 + k)) 99 (k + 1) = mnI (rg E n v) (fun k => f (12 + k)) 99 k := by
        show (if rg E n v k then _ else _) = _
        rw [if_neg hb]
      simp only [hb', if_true]
      rw [← em]
      exact ih (k + 1) (by omega)
theorem q_mo_ringRank (hE : nt E n) (hA : ∀ j, j < n → A j = RR E n j) {v : Nat} (hv : v < n) (hm : MN h n) (e85 : h.1 85 = mr_I 12 A) (e77 : h.1 77 = mr_I 24 f) (hK : ∀ u, u < n → f (12 + u) ≤ 99) : mr_run 141 [.ref 74, .int (nI v)] h Q = Q (some (.int (rkk E (fun k => f (12 + k)) n v))) h := by
  obtain ⟨th, ty, tt, tk, pl, va, fa, dn, dr, um, sn, uf, e74⟩ := id hm
  rw [r_mo_ringRank]
  simp only [S_mo_ringRank, e74, MO, SEL, PF, mr_gf_O, mr_rc_O, Option.toList_some, Option.toList_none, List.cons_append, List.nil_append, b2i_0, b2i_1, b2i_a, a_00, a_11, ai_n, si_n, nI_1, q_rl_bit, mr_up_at, Nat.reduceLeDiff, Nat.reduceLT, Nat.reduceEqDiff, Nat.reduceAdd, if_true, if_false, q_mo_ring hE hA hv hm e85]
  have := l_mo_ringRank (Q := Q) hE hm e77 (v := v) n 0 (by omega)
  rw [nI_0, mnI_99 hv (rg_self hE hv) (hK v hv)] at this
  exact this
theorem l_mo_isLabel (hE : nt E n) (hA : ∀ j, j < n → A j = RR E n j) {a b c : Nat} (ha : a < n) (hb : b < n) (hc : c < n) (hm : MN h n) (e85 : h.1 85 = mr_I 12 A) (e77 : h.1 77 = mr_I 24 f) (hK : ∀ u, u < n → f (12 + u) ≤ 99) : ∀ (d k : Nat), k + d = n →
    mr_wp 140 15 [.ref 74, .int (nI a), .int (nI b), .int (nI c), .int (Ns E n), .int (b2i (rr E n b c && al (fun g => !bad E (fun k => f (12 + k)) n a b c g) k)), .int (nI k)] [] h Q = Q (some (.int (b2i (lb E (fun k => f (12 + k)) n a b c)))) h := by
  obtain ⟨th, ty, tt, tk, pl, va, fa, dn, dr, um, sn, uf, e74⟩ := id hm
  have hn := hE.1
  intro d
  induction d with
  | zero =>
    intro k hk
    have : k = n := by omega
    subst this
    rw [s_mo_isLabel_15]
    simp only [S_mo_isLabel_0, S_mo_isLabel_1, e74, MO, SEL, PF, mr_gf_O, mr_rc_O, Option.toList_some, Option.toList_none, List.cons_append, List.nil_append, b2i_0, b2i_1, b2i_a, a_00, a_11, ai_n, si_n, nI_1, q_rl_bit, mr_up_at, Nat.reduceLeDiff, Nat.reduceLT, Nat.reduceEqDiff, Nat.reduceAdd, if_true, if_false, if_pos (nI_le (Nat.le_refl k) (by omega))]
    rfl
  | succ d ih =>
    intro k hk
    have c1 : ¬ nI n ≤ nI k := nI_ge (by omega) (by omega)
    have hkn : k < n := by omega
    have hk32 : k < 32 := by omega
    have hb12 : b < 12 := by omega
    have hk12 : k < 12 := by omega
    have hc32 : c < 32 := by omega
    rw [s_mo_isLabel_15]
    simp only [S_mo_isLabel_0, S_mo_isLabel_1, e74, MO, SEL, PF, mr_gf_O, mr_rc_O, Option.toList_some, Option.toList_none, List.cons_append, List.nil_append, b2i_0, b2i_1, b2i_a, a_00, a_11, ai_n, si_n, nI_1, q_rl_bit, mr_up_at, Nat.reduceLeDiff, Nat.reduceLT, Nat.reduceEqDiff, Nat.reduceAdd, if_true, if_false, if_neg c1]
    by_cases hz : (rr E n b c && al (fun g => !bad E (fun k => f (12 + k)) n a b c g) k) = true
    · have hz2 : (rr E n b c && al (fun g => !bad E (fun k => f (12 + k)) n a b c g) (k + 1)) = !bad E (fun k => f (12 + k)) n a b c k := by
        simp only [Bool.and_eq_true] at hz
        show (rr E n b c && (al _ k && _)) = _
        rw [hz.1, hz.2]
        simp
      have ihk := ih (k + 1) (by omega)
      rw [hz2] at ihk
      rw [hz]
      simp only [Bool.true_eq_false, if_false, q_mo_has hk32, S_mo_isLabel_0, S_mo_isLabel_1, e74, MO, SEL, PF, mr_gf_O, mr_rc_O, Option.toList_some, Option.toList_none, List.cons_append, List.nil_append, b2i_0, b2i_1, b2i_a, a_00, a_11, ai_n, si_n, nI_1, q_rl_bit, mr_up_at, Nat.reduceLeDiff, Nat.reduceLT, Nat.reduceEqDiff, Nat.reduceAdd, if_true, if_false]
      by_cases b1 : bt (Ns E n) k = true
      · simp only [b1, Bool.true_eq_false, if_false]
        by_cases b2 : k = a
        · have hbad : bad E (fun k => f (12 + k)) n a b c k = false := by simp [bad, b2]
          rw [hbad] at ihk
          simp only [b2, if_true]
          rw [b2] at ihk
          exact ihk
        · have b2' : ¬ nI k = nI a := fun z => b2 ((nI_eq (by omega) (by omega)).mp z)
          simp only [b2', if_false, q_mo_ringRank hE hA hkn hm e85 e77 hK, q_mo_ringRank hE hA ha hm e85 e77 hK, S_mo_isLabel_0, S_mo_isLabel_1, e74, MO, SEL, PF, mr_gf_O, mr_rc_O, Option.toList_some, Option.toList_none, List.cons_append, List.nil_append, b2i_0, b2i_1, b2i_a, a_00, a_11, ai_n, si_n, nI_1, q_rl_bit, mr_up_at, Nat.reduceLeDiff, Nat.reduceLT, Nat.reduceEqDiff, Nat.reduceAdd, if_true, if_false]
          by_cases b3 : rkk E (fun k => f (12 + k)) n a ≤ rkk E (fun k => f (12 + k)) n k
          · have hbad : bad E (fun k => f (12 + k)) n a b c k = false := by simp [bad, b3]
            rw [hbad] at ihk
            simp only [b3, if_true]
            exact ihk
          · simp only [b3, if_false, e85, hb12, hk12, hA b hb, hA k hkn, q_mo_has hk32, q_mo_has hc32, S_mo_isLabel_0, S_mo_isLabel_1, e74, MO, SEL, PF, mr_gf_O, mr_rc_O, Option.toList_some, Option.toList_none, List.cons_append, List.nil_append, b2i_0, b2i_1, b2i_a, a_00, a_11, ai_n, si_n, nI_1, q_rl_bit, mr_up_at, Nat.reduceLeDiff, Nat.reduceLT, Nat.reduceEqDiff, Nat.reduceAdd, if_true, if_false]
            by_cases b4 : bt (RR E n b) k = true
            · simp only [b4, Bool.true_eq_false, if_false]
              by_cases b5 : bt (RR E n k) c = true
              · have hbad : bad E (fun k => f (12 + k)) n a b c k = true := by simp [bad, ns, rr, b1, b2, b3, b4, b5]
                rw [hbad] at ihk
                simp only [b5, Bool.true_eq_false, not_false_eq_true, if_true]
                exact ihk
              · have b5' : bt (RR E n k) c = false := by simpa using b5
                have hbad : bad E (fun k => f (12 + k)) n a b c k = false := by simp [bad, rr, b5']
                rw [hbad] at ihk
                simp only [b5', not_true_eq_false, if_false]
                exact ihk
            · have b4' : bt (RR E n b) k = false := by simpa using b4
              have hbad : bad E (fun k => f (12 + k)) n a b c k = false := by simp [bad, rr, b4']
              rw [hbad] at ihk
              simp only [b4', if_true]
              exact ihk
      · have b1' : bt (Ns E n) k = false := by simpa using b1
        have hbad : bad E (fun k => f (12 + k)) n a b c k = false := by simp [bad, ns, b1']
        rw [hbad] at ihk
        simp only [b1', if_true]
        exact ihk
    · have hz' : (rr E n b c && al (fun g => !bad E (fun k => f (12 + k)) n a b c g) k) = false := by simpa using hz
      have hl : lb E (fun k => f (12 + k)) n a b c = false := by
        unfold lb
        cases hr : rr E n b c with
        | false => rfl
        | true =>
          rw [hr, Bool.true_and] at hz'
          rw [al_false hz' n (by omega)]
          rfl
      rw [hz', hl]
      simp only [if_true]
theorem q_mo_isLabel (hE : nt E n) (hA : ∀ j, j < n → A j = RR E n j) {a b c : Nat} (ha : a < n) (hb : b < n) (hc : c < n) (hm : MN h n) (e85 : h.1 85 = mr_I 12 A) (e77 : h.1 77 = mr_I 24 f) (hK : ∀ u, u < n → f (12 + u) ≤ 99) :
    mr_run 140 [.ref 74, .int (nI a), .int (nI b), .int (nI c), .int (Ns E n)] h Q = Q (some (.int (b2i (lb E (fun k => f (12 + k)) n a b c)))) h := by
  obtain ⟨th, ty, tt, tk, pl, va, fa, dn, dr, um, sn, uf, e74⟩ := id hm
  have hn := hE.1
  have hb12 : b < 12 := by omega
  rw [r_mo_isLabel]
  simp only [S_mo_isLabel_0, S_mo_isLabel_1, e74, MO, SEL, PF, mr_gf_O, mr_rc_O, Option.toList_some, Option.toList_none, List.cons_append, List.nil_append, b2i_0, b2i_1, b2i_a, a_00, a_11, ai_n, si_n, nI_1, q_rl_bit, mr_up_at, Nat.reduceLeDiff, Nat.reduceLT, Nat.reduceEqDiff, Nat.reduceAdd, if_true, if_false, e85, hb12, q_mo_has (show c < 32 by omega), hA b hb]
  have := l_mo_isLabel (Q := Q) hE hA ha hb hc hm e85 e77 hK n 0 (by omega)
  rw [nI_0, show al (fun g => !bad E (fun k => f (12 + k)) n a b c g) 0 = true from rfl, Bool.and_true] at this
  exact this
end MOLAB
