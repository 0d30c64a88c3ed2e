/-! lone rings; chains of rings -/
def mxN (f : Nat → Nat) : Nat → Nat
  | 0 => 0
  | k + 1 => if mxN f k < f k then f k else mxN f k
theorem le_mx (f : Nat → Nat) : ∀ n k, k < n → f k ≤ mxN f n
  | n + 1, k, h => by
    unfold mxN
    by_cases e : k = n
    · subst e; split <;> omega
    · have := le_mx f n k (by omega)
      split <;> omega
theorem mx_le {f : Nat → Nat} {b : Nat} : ∀ {n : Nat}, (∀ k, k < n → f k ≤ b) → mxN f n ≤ b
  | 0, _ => Nat.zero_le b
  | n + 1, h => by
    have h1 := mx_le (f := f) (b := b) (n := n) (fun k hk => h k (by omega))
    have h2 := h n (by omega)
    unfold mxN
    split <;> omega
theorem mx_is (f : Nat → Nat) : ∀ n, mxN f n = 0 ∨ ∃ k, k < n ∧ mxN f n = f k
  | 0 => Or.inl rfl
  | n + 1 => by
    unfold mxN
    by_cases h : mxN f n < f n
    · rw [if_pos h]; exact Or.inr ⟨n, by omega, rfl⟩
    · rw [if_neg h]
      rcases mx_is f n with z | ⟨k, hk, z⟩
      · exact Or.inl z
      · exact Or.inr ⟨k, by omega, z⟩
theorem mx_cong {f g : Nat → Nat} : ∀ {n : Nat}, (∀ k, k < n → f k = g k) → mxN f n = mxN g n
  | 0, _ => rfl
  | n + 1, h => by
    unfold mxN
    rw [mx_cong (fun k hk => h k (by omega)), h n (by omega)]
/-- a ring leads on to another -/
def ld (E : Nat → Int32) (n c d : Nat) : Bool := ns E n d && (!decide (c = d) && rr E n c d)
def LL (E : Nat → Int32) (n : Nat) : Nat → Nat → Nat
  | 0, _ => 0
  | s + 1, c => 1 + mxN (fun d => if ld E n c d then LL E n s d else 0) n
def Lx (E : Nat → Int32) (n c : Nat) : Nat := LL E n (ct (RR E n c)) c
theorem name_one {E : Nat → Int32} {n c d : Nat} (hE : nt E n) (hc : ns E n c = true) (hd : ns E n d = true) (h : rg E n c d = true) : c = d := by
  obtain ⟨h1, h2⟩ := (ns_iff hE).mp hc
  obtain ⟨h3, h4⟩ := (ns_iff hE).mp hd
  rw [← h2, ← h4]
  exact Nm_cong hE h1 h3 h
theorem ld_ct {E : Nat → Int32} {n c d : Nat} (hE : nt E n) (hc : ns E n c = true) (h : ld E n c d = true) : ct (RR E n d) < ct (RR E n c) := by
  have hn := hE.1
  unfold ld at h
  simp only [Bool.and_eq_true, Bool.not_eq_true', decide_eq_false_iff_not] at h
  obtain ⟨hd, hne, hr⟩ := h
  obtain ⟨h1, -⟩ := (ns_iff hE).mp hc
  obtain ⟨h3, -⟩ := (ns_iff hE).mp hd
  refine ct_lt (j := c) (by omega) (fun i hi => rr_tr h3 hr hi) ?_ (rr_refl hE h1)
  cases z : bt (RR E n d) c with
  | false => rfl
  | true => exact absurd (name_one hE hc hd (by unfold rg; rw [hr]; exact z)) hne
theorem LL_st {E : Nat → Int32} {n : Nat} (hE : nt E n) : ∀ (b c s : Nat), ct (RR E n c) ≤ b → ns E n c = true → ct (RR E n c) ≤ s → LL E n s c = Lx E n c
  | 0, c, s, h, hc, _ => by
    have := RR_pos hE ((ns_iff hE).mp hc).1
    omega
  | b + 1, c, s, h, hc, hs => by
    have p := RR_pos hE ((ns_iff hE).mp hc).1
    obtain ⟨s', rfl⟩ : ∃ s', s = s' + 1 := ⟨s - 1, by omega⟩
    obtain ⟨t, ht⟩ : ∃ t, ct (RR E n c) = t + 1 := ⟨ct (RR E n c) - 1, by omega⟩
    unfold Lx
    rw [ht]
    unfold LL
    congr 1
    refine mx_cong fun d hd => ?_
    cases z : ld E n c d with
    | false => rfl
    | true =>
      have lt := ld_ct hE hc z
      have nd : ns E n d = true := by
        unfold ld at z
        simp only [Bool.and_eq_true] at z
        exact z.1
      simp only [if_true]
      rw [LL_st hE b d s' (by omega) nd (by omega), LL_st hE b d t (by omega) nd (by omega)]
theorem Lx_eq {E : Nat → Int32} {n c : Nat} (hE : nt E n) (hc : ns E n c = true) : Lx E n c = 1 + mxN (fun d => if ld E n c d then Lx E n d else 0) n := by
  have p := RR_pos hE ((ns_iff hE).mp hc).1
  obtain ⟨t, ht⟩ : ∃ t, ct (RR E n c) = t + 1 := ⟨ct (RR E n c) - 1, by omega⟩
  unfold Lx
  rw [ht]
  show 1 + mxN (fun d => if ld E n c d then LL E n t d else 0) n = _
  congr 1
  refine mx_cong fun d hd => ?_
  cases z : ld E n c d with
  | false => rfl
  | true =>
    have lt := ld_ct hE hc z
    have nd : ns E n d = true := by
      unfold ld at z
      simp only [Bool.and_eq_true] at z
      exact z.1
    simp only [if_true]
    exact LL_st hE _ d t (Nat.le_refl _) nd (by omega)
theorem LL_le (E : Nat → Int32) (n : Nat) : ∀ s c, LL E n s c ≤ s
  | 0, _ => Nat.le_refl 0
  | s + 1, c => by
    unfold LL
    have : mxN (fun d => if ld E n c d then LL E n s d else 0) n ≤ s := mx_le fun k _ => by
      have := LL_le E n s k
      split <;> omega
    omega
theorem Lx_le {E : Nat → Int32} {n c : Nat} (hE : nt E n) (hc : c < n) : Lx E n c ≤ n := by
  have h1 := LL_le E n (ct (RR E n c)) c
  have h2 : ct (RR E n c) ≤ n := by
    have e := fb_ct_split (bt (RR E n c)) n (12 - n)
    have hn := hE.1
    have z : fb_ct (fun j => bt (RR E n c) (n + j)) (12 - n) = 0 := fb_ct_zero.mpr fun j _ => by
      cases e : bt (RR E n c) (n + j) with
      | false => rfl
      | true => have := rr_lt hE hc e; omega
    rw [z, show n + (12 - n) = 12 by omega] at e
    have := fb_ct_le (bt (RR E n c)) n
    unfold ct
    omega
  unfold Lx
  omega
theorem Lx_pos {E : Nat → Int32} {n c : Nat} (hE : nt E n) (hc : ns E n c = true) : 1 ≤ Lx E n c := by
  rw [Lx_eq hE hc]
  omega
theorem Lx_ld {E : Nat → Int32} {n c d : Nat} (hE : nt E n) (hc : ns E n c = true) (hd : d < n) (h : ld E n c d = true) : Lx E n d + 1 ≤ Lx E n c := by
  have := le_mx (fun d => if ld E n c d then Lx E n d else 0) n d hd
  simp only [h, if_true] at this
  rw [Lx_eq hE hc]
  omega
/-- all of it -/
def ML (E : Nat → Int32) (n : Nat) : Nat := mxN (fun c => if ns E n c then Lx E n c else 0) n
theorem ML_ge {E : Nat → Int32} {n c : Nat} (hc : c < n) (h : ns E n c = true) : Lx E n c ≤ ML E n := by
  have := le_mx (fun c => if ns E n c then Lx E n c else 0) n c hc
  simp only [h, if_true] at this
  exact this
theorem ML_le {E : Nat → Int32} {n y : Nat} (h : ∀ c, c < n → ns E n c = true → Lx E n c ≤ y) : ML E n ≤ y := mx_le fun k hk => by
  cases z : ns E n k with
  | false => exact Nat.zero_le y
  | true => simp only [if_true]; exact h k hk z
theorem nI_max {a b : Nat} (ha : a < 2 ^ 31) (hb : b < 2 ^ 31) : (if nI a < nI b then nI b else nI a) = nI (if a < b then b else a) := by
  by_cases h : a < b
  · rw [if_pos h, if_pos (nI_lt h hb)]
  · rw [if_neg h, if_neg (nI_nlt (by omega) ha)]
section CHAIN
variable {h : mr_h} {Q : Option Value → mr_h → Prop} {n len us m : Nat} {E K F : Nat → Int32} {x : Nat → Nat}
theorem l_longestFrom (hn : n ≤ 12) {nm rs : Int32} (e9 : h.1 9 = RE n nm) (e17 : h.1 17 = mr_I 12 F) (hF : ∀ d, d < n → bt rs d = true → F d = nI (x d) ∧ x d ≤ 12) : ∀ (d k : Nat), k + d = n → mr_wp 61 4 [.ref 9, .int rs, .int (nI (mxN (fun d => if bt rs d then x d else 0) k)), .int (nI k)] [] h Q = Q (some (.int (nI (mxN (fun d => if bt rs d then x d else 0) n)))) h := by
  intro d
  induction d with
  | zero =>
    intro k hk
    have : k = n := by omega
    subst this
    rw [s_re_longestFrom_4]
    simp only [S_re_longestFrom, e9, RE, SEL, PF, mr_gf_O, mr_rc_O, Option.toList_some, Option.toList_none, List.cons_append, List.nil_append, b2i_0, b2i_1, b2i_a, a_00, a_11, ai_n, si_n, nI_1, q_rl_bit, mr_up_at, Nat.reduceLeDiff, Nat.reduceLT, Nat.reduceEqDiff, Nat.reduceAdd, if_true, if_false, Bool.true_eq_false, Bool.false_eq_true, Bool.true_and, Bool.false_and, Bool.and_true, Bool.and_false, i_10, i_01, i_00, not_true_eq_false, not_false_eq_true, if_pos (nI_le (Nat.le_refl k) (show k < 2 ^ 31 by omega))]
  | succ d ih =>
    intro k hk
    have hkn : k < n := by omega
    have c1 : ¬ nI n ≤ nI k := nI_ge (by omega) (by omega)
    have e1 : mxN (fun d => if bt rs d then x d else 0) (k + 1) = if mxN (fun d => if bt rs d then x d else 0) k < (if bt rs k then x k else 0) then (if bt rs k then x k else 0) else mxN (fun d => if bt rs d then x d else 0) k := rfl
    have bnd : mxN (fun d => if bt rs d then x d else 0) k ≤ 12 := mx_le fun j hj => by
      cases z : bt rs j with
      | false => simp
      | true => simp only [if_true]; exact (hF j (by omega) z).2
    rw [s_re_longestFrom_4]
    simp only [S_re_longestFrom, e9, RE, SEL, PF, mr_gf_O, mr_rc_O, Option.toList_some, Option.toList_none, List.cons_append, List.nil_append, b2i_0, b2i_1, b2i_a, a_00, a_11, ai_n, si_n, nI_1, q_rl_bit, mr_up_at, Nat.reduceLeDiff, Nat.reduceLT, Nat.reduceEqDiff, Nat.reduceAdd, if_true, if_false, Bool.true_eq_false, Bool.false_eq_true, Bool.true_and, Bool.false_and, Bool.and_true, Bool.and_false, i_10, i_01, i_00, not_true_eq_false, not_false_eq_true, if_neg c1, q_rl_holds (show k < 32 by omega), e17, show k < 12 by omega]
    have := ih (k + 1) (by omega)
    cases z : bt rs k with
    | false =>
      rw [e1, z] at this
      simp only [Bool.false_eq_true, if_false, Nat.not_lt_zero] at this
      simp only [if_true]
      exact this
    | true =>
      obtain ⟨h1, h2⟩ := hF k hkn z
      rw [e1, z] at this
      simp only [if_true] at this
      simp only [Bool.true_eq_false, if_false, h1, nI_max (show mxN (fun d => if bt rs d then x d else 0) k < 2 ^ 31 by omega) (show x k < 2 ^ 31 by omega)]
      exact this
theorem q_re_longestFrom (hn : n ≤ 12) {nm rs : Int32} (e9 : h.1 9 = RE n nm) (e17 : h.1 17 = mr_I 12 F) (hF : ∀ d, d < n → bt rs d = true → F d = nI (x d) ∧ x d ≤ 12) : mr_run 61 [.ref 9, .int rs] h Q = Q (some (.int (nI (mxN (fun d => if bt rs d then x d else 0) n)))) h := by
  rw [r_re_longestFrom]
  simp only [S_re_longestFrom, SEL, PF, mr_gf_O, mr_rc_O, Option.toList_some, Option.toList_none, List.cons_append, List.nil_append, b2i_0, b2i_1, b2i_a, a_00, a_11, ai_n, si_n, nI_1, q_rl_bit, mr_up_at, Nat.reduceLeDiff, Nat.reduceLT, Nat.reduceEqDiff, Nat.reduceAdd, if_true, if_false, Bool.true_eq_false, Bool.false_eq_true, Bool.true_and, Bool.false_and, Bool.and_true, Bool.and_false, i_10, i_01, i_00, not_true_eq_false, not_false_eq_true]
  have := l_longestFrom (Q := Q) hn e9 e17 hF n 0 (by omega)
  rw [nI_0] at this
  exact this
theorem c17 (st : St h n len us m E K) : ∃ A, h.1 17 = mr_I 12 A := by
  have := st.1 17 (by decide)
  simpa [shp, isI] using this
theorem l_chain2 {s : Nat} (hs : s + 1 ≤ n) (kk : ∀ h2 F y, mr_fr h h2 [17] → St h2 n len us m E K → h2.1 17 = mr_I 12 F → (∀ c, c < n → ns E n c = true → ct (RR E n c) ≤ s + 1 → F c = nI (Lx E n c) ∧ Lx E n c ≤ y) → y ≤ ML E n → mr_wp 60 94 [.ref 9, .int (nI y), .int (nI (s + 1)), .int (nI n)] [] h2 Q) : ∀ (d k : Nat) (h1 : mr_h) (F : Nat → Int32) (y : Nat), k + d = n → mr_fr h h1 [17] → St h1 n len us m E K → h1.1 17 = mr_I 12 F → (∀ c, c < n → ns E n c = true → ct (RR E n c) ≤ s ∨ (ct (RR E n c) = s + 1 ∧ c < k) → F c = nI (Lx E n c) ∧ Lx E n c ≤ y) → y ≤ ML E n → mr_wp 60 14 [.ref 9, .int (nI y), .int (nI (s + 1)), .int (nI k)] [] h1 Q := by
  intro d
  induction d with
  | zero =>
    intro k h1 F y hk fr st e17 hF hy
    have hn := (St_E st).1
    have : k = n := by omega
    subst this
    have := kk h1 F y fr st e17 (fun c hc hnc h2 => hF c hc hnc (by omega)) hy
    rw [s_re_chain_14]
    simp only [S_re_chain_0, S_re_chain_1, (St_D st).1, RE, SEL, PF, mr_gf_O, mr_rc_O, Option.toList_some, Option.toList_none, List.cons_append, List.nil_append, b2i_0, b2i_1, b2i_a, a_00, a_11, ai_n, si_n, nI_1, q_rl_bit, mr_up_at, Nat.reduceLeDiff, Nat.reduceLT, Nat.reduceEqDiff, Nat.reduceAdd, if_true, if_false, Bool.true_eq_false, Bool.false_eq_true, Bool.true_and, Bool.false_and, Bool.and_true, Bool.and_false, i_10, i_01, i_00, not_true_eq_false, not_false_eq_true, if_pos (nI_le (Nat.le_refl k) (show k < 2 ^ 31 by omega))] at this ⊢
    exact this
  | succ d ih =>
    intro k h1 F y hk fr st e17 hF hy
    have hE := St_E st
    have hn := hE.1
    have hkn : k < n := by omega
    have c1 : ¬ nI n ≤ nI k := nI_ge (by omega) (by omega)
    obtain ⟨e9, A, B, C, I, O, R, L, e10, e11, e12, e13, e14, e15, e16, hA, hB, hC, hI, hO, hR, hL⟩ := St_D st
    have hns : bt (Ns E n) k = ns E n k := rfl
    have hml : ML E n ≤ 12 := ML_le fun c hc _ => by have := Lx_le hE hc; omega
    rw [s_re_chain_14]
    simp only [S_re_chain_0, S_re_chain_1, e9, RE, SEL, PF, mr_gf_O, mr_rc_O, Option.toList_some, Option.toList_none, List.cons_append, List.nil_append, b2i_0, b2i_1, b2i_a, a_00, a_11, ai_n, si_n, nI_1, q_rl_bit, mr_up_at, Nat.reduceLeDiff, Nat.reduceLT, Nat.reduceEqDiff, Nat.reduceAdd, if_true, if_false, Bool.true_eq_false, Bool.false_eq_true, Bool.true_and, Bool.false_and, Bool.and_true, Bool.and_false, i_10, i_01, i_00, not_true_eq_false, not_false_eq_true, if_neg c1, q_rl_holds (show k < 32 by omega), e10, show k < 12 by omega, hA k hkn, q_bitCount (RR_sm hE hkn), hns]
    cases b1 : ns E n k with
    | false =>
      simp only [if_true]
      refine ih (k + 1) h1 F y (by omega) fr st e17 (fun c hc hnc h2 => hF c hc hnc ?_) hy
      have : c ≠ k := fun z => by rw [z, b1] at hnc; exact absurd hnc (by decide)
      omega
    | true =>
      simp only [Bool.true_eq_false, if_false]
      have hcb := ct_le (RR E n k)
      by_cases b2 : ct (RR E n k) = s + 1
      · rw [if_neg (by rw [b2]; simp)]
        have ers : RR E n k &&& (Rg E n k ^^^ -1) &&& Ns E n = mk (ld E n k) n := by
          apply b_ext
          intro i hi
          rw [b_and, b_and, b_not _ hi, mk_bt (by omega), Rg_bt hn]
          unfold ld
          have e1 : bt (RR E n k) i = rr E n k i := rfl
          have e2 : bt (Ns E n) i = ns E n i := rfl
          rw [e1, e2]
          cases z1 : ns E n i with
          | false => simp
          | true =>
            have hin := ((ns_iff hE).mp z1).1
            by_cases z2 : k = i
            · subst z2
              rw [rg_self hE hkn]
              simp [hin]
            · cases z3 : rr E n k i with
              | false => simp
              | true =>
                have : rg E n k i = false := by
                  cases z4 : rg E n k i with
                  | false => rfl
                  | true => exact absurd (name_one hE b1 z1 z4) z2
                simp [this, z2, hin]
        simp only [S_re_chain_0, S_re_chain_1, e9, RE, SEL, PF, mr_gf_O, mr_rc_O, Option.toList_some, Option.toList_none, List.cons_append, List.nil_append, b2i_0, b2i_1, b2i_a, a_00, a_11, ai_n, si_n, nI_1, q_rl_bit, mr_up_at, Nat.reduceLeDiff, Nat.reduceLT, Nat.reduceEqDiff, Nat.reduceAdd, if_true, if_false, Bool.true_eq_false, Bool.false_eq_true, Bool.true_and, Bool.false_and, Bool.and_true, Bool.and_false, i_10, i_01, i_00, not_true_eq_false, not_false_eq_true, q_re_ringOf (show k < 12 by omega) e9 e10 e11, hA k hkn, hB k hkn, ring_and2 hE hkn, e10, show k < 12 by omega, ers]
        have hF2 : ∀ d, d < n → bt (mk (ld E n k) n) d = true → F d = nI (Lx E n d) ∧ Lx E n d ≤ 12 := fun d hd hb => by
          rw [mk_bt (by omega)] at hb
          have hld : ld E n k d = true := by simpa [hd] using hb
          have lt := ld_ct hE b1 hld
          have hnd : ns E n d = true := by
            unfold ld at hld
            simp only [Bool.and_eq_true] at hld
            exact hld.1
          refine ⟨(hF d hd hnd (by omega)).1, ?_⟩
          have := Lx_le hE hd
          omega
        rw [q_re_longestFrom hn e9 e17 hF2]
        have em : mxN (fun d => if bt (mk (ld E n k) n) d then Lx E n d else 0) n = mxN (fun d => if ld E n k d then Lx E n d else 0) n := mx_cong fun d hd => by
          rw [mk_bt (by omega)]
          simp [hd]
        have e1L : (1 : Int32) + nI (mxN (fun d => if ld E n k d then Lx E n d else 0) n) = nI (Lx E n k) := by
          rw [Lx_eq hE b1]
          exact nI_add 1 _
        have lk := Lx_le hE hkn
        simp only [S_re_chain_0, S_re_chain_1, e9, RE, SEL, PF, mr_gf_O, mr_rc_O, Option.toList_some, Option.toList_none, List.cons_append, List.nil_append, b2i_0, b2i_1, b2i_a, a_00, a_11, ai_n, si_n, nI_1, q_rl_bit, mr_up_at, Nat.reduceLeDiff, Nat.reduceLT, Nat.reduceEqDiff, Nat.reduceAdd, if_true, if_false, Bool.true_eq_false, Bool.false_eq_true, Bool.true_and, Bool.false_and, Bool.and_true, Bool.and_false, i_10, i_01, i_00, not_true_eq_false, not_false_eq_true, em, e1L, e17, show k < 12 by omega, upd_at, nI_max (show y < 2 ^ 31 by omega) (show Lx E n k < 2 ^ 31 by omega)]
        have f2 : mr_fr h1 (mr_up h1 17 (mr_I 12 (upd F k (nI (Lx E n k))))) [17] := fr_up _ (fr_rf _ _) (by decide)
        refine ih (k + 1) _ _ _ (by omega) (fr_tr fr f2 (by decide)) (St_one st f2 (by decide) (shp_12 (up_eq _ _ _) (by decide))) (up_eq _ _ _) (fun c hc hnc h2 => ?_) ?_
        · by_cases e : c = k
          · subst e
            rw [upd_at]
            refine ⟨rfl, ?_⟩
            split <;> omega
          · rw [upd_ne _ _ e]
            obtain ⟨q1, q2⟩ := hF c hc hnc (by omega)
            refine ⟨q1, ?_⟩
            split <;> omega
        · have := ML_ge hkn b1
          split <;> omega
      · rw [if_pos (fun z => b2 ((nI_eq (by omega) (by omega)).mp z))]
        refine ih (k + 1) h1 F y (by omega) fr st e17 (fun c hc hnc h2 => hF c hc hnc ?_) hy
        by_cases e : c = k
        · subst e; omega
        · omega
theorem l_chain1 (kk : ∀ h2, mr_fr h h2 [17] → St h2 n len us m E K → Q (some (.int (nI (ML E n)))) h2) : ∀ (d s : Nat) (h1 : mr_h) (F : Nat → Int32) (y : Nat) (v3 : Value), s + d = n → mr_fr h h1 [17] → St h1 n len us m E K → h1.1 17 = mr_I 12 F → (∀ c, c < n → ns E n c = true → ct (RR E n c) ≤ s → F c = nI (Lx E n c) ∧ Lx E n c ≤ y) → y ≤ ML E n → mr_wp 60 4 [.ref 9, .int (nI y), .int (nI (s + 1)), v3] [] h1 Q := by
  intro d
  induction d with
  | zero =>
    intro s h1 F y v3 hk fr st e17 hF hy
    have hE := St_E st
    have hn := hE.1
    have : s = n := by omega
    subst this
    have ey : y = ML E s := by
      refine Nat.le_antisymm hy (ML_le fun c hc hnc => (hF c hc hnc ?_).2)
      have e := fb_ct_split (bt (RR E s c)) s (12 - s)
      have z : fb_ct (fun j => bt (RR E s c) (s + j)) (12 - s) = 0 := fb_ct_zero.mpr fun j _ => by
        cases e : bt (RR E s c) (s + j) with
        | false => rfl
        | true => have := rr_lt hE hc e; omega
      rw [z, show s + (12 - s) = 12 by omega] at e
      have := fb_ct_le (bt (RR E s c)) s
      unfold ct
      omega
    rw [s_re_chain_4]
    simp only [S_re_chain_0, S_re_chain_1, (St_D st).1, RE, SEL, PF, mr_gf_O, mr_rc_O, Option.toList_some, Option.toList_none, List.cons_append, List.nil_append, b2i_0, b2i_1, b2i_a, a_00, a_11, ai_n, si_n, nI_1, q_rl_bit, mr_up_at, Nat.reduceLeDiff, Nat.reduceLT, Nat.reduceEqDiff, Nat.reduceAdd, if_true, if_false, Bool.true_eq_false, Bool.false_eq_true, Bool.true_and, Bool.false_and, Bool.and_true, Bool.and_false, i_10, i_01, i_00, not_true_eq_false, not_false_eq_true, if_pos (show nI s < nI (s + 1) from nI_lt (by omega) (by omega))]
    rw [ey]
    exact kk h1 fr st
  | succ d ih =>
    intro s h1 F y v3 hk fr st e17 hF hy
    have hn := (St_E st).1
    rw [s_re_chain_4]
    simp only [S_re_chain_0, S_re_chain_1, (St_D st).1, RE, SEL, PF, mr_gf_O, mr_rc_O, Option.toList_some, Option.toList_none, List.cons_append, List.nil_append, b2i_0, b2i_1, b2i_a, a_00, a_11, ai_n, si_n, nI_1, q_rl_bit, mr_up_at, Nat.reduceLeDiff, Nat.reduceLT, Nat.reduceEqDiff, Nat.reduceAdd, if_true, if_false, Bool.true_eq_false, Bool.false_eq_true, Bool.true_and, Bool.false_and, Bool.and_true, Bool.and_false, i_10, i_01, i_00, not_true_eq_false, not_false_eq_true, if_neg (show ¬ nI n < nI (s + 1) from nI_nlt (by omega) (by omega))]
    rw [← nI_0]
    refine l_chain2 (show s + 1 ≤ n by omega) ?_ n 0 h1 F y (by omega) (fr_rf _ _) st e17 (fun c hc hnc h2 => hF c hc hnc (by omega)) hy
    intro h2 F2 y2 f2 s2 g17 hF2 hy2
    simp only [S_re_chain_0, S_re_chain_1, SEL, PF, mr_gf_O, mr_rc_O, Option.toList_some, Option.toList_none, List.cons_append, List.nil_append, b2i_0, b2i_1, b2i_a, a_00, a_11, ai_n, si_n, nI_1, q_rl_bit, mr_up_at, Nat.reduceLeDiff, Nat.reduceLT, Nat.reduceEqDiff, Nat.reduceAdd, if_true, if_false, Bool.true_eq_false, Bool.false_eq_true, Bool.true_and, Bool.false_and, Bool.and_true, Bool.and_false, i_10, i_01, i_00, not_true_eq_false, not_false_eq_true]
    exact ih (s + 1) h2 F2 y2 _ (by omega) (fr_tr fr f2 (by decide)) s2 g17 hF2 hy2
theorem q_re_chain (st : St h n len us m E K) (kk : ∀ h2, mr_fr h h2 [17] → St h2 n len us m E K → Q (some (.int (nI (ML E n)))) h2) : mr_run 60 [.ref 9] h Q := by
  obtain ⟨F, e17⟩ := c17 st
  rw [r_re_chain]
  simp only [S_re_chain_0, S_re_chain_1, SEL, PF, mr_gf_O, mr_rc_O, Option.toList_some, Option.toList_none, List.cons_append, List.nil_append, b2i_0, b2i_1, b2i_a, a_00, a_11, ai_n, si_n, nI_1, q_rl_bit, mr_up_at, Nat.reduceLeDiff, Nat.reduceLT, Nat.reduceEqDiff, Nat.reduceAdd, if_true, if_false, Bool.true_eq_false, Bool.false_eq_true, Bool.true_and, Bool.false_and, Bool.and_true, Bool.and_false, i_10, i_01, i_00, not_true_eq_false, not_false_eq_true]
  have := l_chain1 (Q := Q) kk n 0 h F 0 .null (by omega) (fr_rf _ _) st e17 (fun c hc hnc h2 => by have := RR_pos (St_E st) hc; omega) (Nat.zero_le _)
  rw [nI_0] at this
  exact this
end CHAIN
