/-! what no step changes: the script, the class of an object -/
def kp (h h' : mr_h) : Prop := h'.2.2.2 = h.2.2.2 ∧ h.2.1 ≤ h'.2.1 ∧ ∀ a ci fs, a < h.2.1 → h.1 a = .inl (ci, fs) → ∃ fs', h'.1 a = .inl (ci, fs')
theorem kp_rf (h : mr_h) : kp h h := ⟨rfl, Nat.le_refl _, fun _ _ fs _ e => ⟨fs, e⟩⟩
theorem kp_tr {h h1 h2 : mr_h} (f : kp h h1) (g : kp h1 h2) : kp h h2 := by
  refine ⟨g.1.trans f.1, Nat.le_trans f.2.1 g.2.1, fun a ci fs ha e => ?_⟩
  obtain ⟨fs1, e1⟩ := f.2.2 a ci fs ha e
  exact g.2.2 a ci fs1 (Nat.lt_of_lt_of_le ha f.2.1) e1
theorem kp_add (h : mr_h) (n : Nat) (c : mr_c) : kp h (mr_add h n c) := by
  refine ⟨rfl, Nat.le_succ _, fun a ci fs ha e => ⟨fs, ?_⟩⟩
  show va_up h.1 h.2.1 c a = _
  unfold va_up
  rw [if_neg (by omega)]
  exact e
theorem kp_arr {h : mr_h} {a : Nat} {x : (Nat × (Nat → Int32)) ⊕ (Nat × (Nat → Int64)) ⊕ (Nat × (Nat → Int32)) ⊕ (Nat × (Nat → Option Nat))} (c : mr_c) (ha : h.1 a = .inr x) : kp h (mr_up h a c) := by
  refine ⟨rfl, Nat.le_refl _, fun b ci fs _ e => ⟨fs, ?_⟩⟩
  rw [mr_up_at]
  by_cases z : b = a
  · subst z
    rw [ha] at e
    cases e
  · rw [if_neg z]
    exact e
theorem kp_put {h : mr_h} {a c : Nat} {fs : List Value} (fs2 : List Value) (ha : h.1 a = .inl (c, fs)) : kp h (mr_up h a (.inl (c, fs2))) := by
  refine ⟨rfl, Nat.le_refl _, fun b ci fs1 _ e => ?_⟩
  rw [mr_up_at]
  by_cases z : b = a
  · subst z
    rw [ha] at e
    cases e
    exact ⟨fs2, if_pos rfl⟩
  · exact ⟨fs1, (if_neg z).trans e⟩
theorem mr_one_kp {M : Nat} {i : Instr} {len pc pc' : Nat} {lv st lv' st' : List Value} {h h' : mr_h} (ho : mr_one M i len pc lv st h = some (pc', lv', st', h')) : kp h h' := by
  cases i with
  | iconst n =>
    simp only [mr_one] at ho
    split at ho
    · rename_i e0
      subst e0
      cases ho
      first | exact kp_rf _ | exact kp_add _ _ _ | exact kp_arr _ (by assumption) | exact kp_put _ (by assumption)
    · cases ho
  | bipush n =>
    simp only [mr_one] at ho
    split at ho
    · rename_i e0
      subst e0
      cases ho
      first | exact kp_rf _ | exact kp_add _ _ _ | exact kp_arr _ (by assumption) | exact kp_put _ (by assumption)
    · cases ho
  | sipush n =>
    simp only [mr_one] at ho
    split at ho
    · rename_i e0
      subst e0
      cases ho
      first | exact kp_rf _ | exact kp_add _ _ _ | exact kp_arr _ (by assumption) | exact kp_put _ (by assumption)
    · cases ho
  | lconst n =>
    simp only [mr_one] at ho
    split at ho
    · rename_i e0
      subst e0
      cases ho
      first | exact kp_rf _ | exact kp_add _ _ _ | exact kp_arr _ (by assumption) | exact kp_put _ (by assumption)
    · cases ho
  | ldc_w x =>
    simp only [mr_one] at ho
    split at ho
    · rename_i e0
      subst e0
      obtain ⟨v, h1, h2⟩ := Option.map_eq_some_iff.mp ho
      cases h2
      first | exact kp_rf _ | exact kp_add _ _ _ | exact kp_arr _ (by assumption) | exact kp_put _ (by assumption)
    · cases ho
  | ldc2_w x =>
    simp only [mr_one] at ho
    split at ho
    · rename_i e0
      subst e0
      obtain ⟨v, h1, h2⟩ := Option.map_eq_some_iff.mp ho
      cases h2
      first | exact kp_rf _ | exact kp_add _ _ _ | exact kp_arr _ (by assumption) | exact kp_put _ (by assumption)
    · cases ho
  | iload_n k =>
    obtain ⟨x, e1, e2, hz⟩ := mr_ldi_inv (show _ = _ from ho)
    subst e1
    cases hz
    first | exact kp_rf _ | exact kp_add _ _ _ | exact kp_arr _ (by assumption) | exact kp_put _ (by assumption)
  | iload k =>
    obtain ⟨x, e1, e2, hz⟩ := mr_ldi_inv (show _ = _ from ho)
    subst e1
    cases hz
    first | exact kp_rf _ | exact kp_add _ _ _ | exact kp_arr _ (by assumption) | exact kp_put _ (by assumption)
  | lload_n k =>
    obtain ⟨x, e1, e2, hz⟩ := mr_ldl_inv (show _ = _ from ho)
    subst e1
    cases hz
    first | exact kp_rf _ | exact kp_add _ _ _ | exact kp_arr _ (by assumption) | exact kp_put _ (by assumption)
  | lload k =>
    obtain ⟨x, e1, e2, hz⟩ := mr_ldl_inv (show _ = _ from ho)
    subst e1
    cases hz
    first | exact kp_rf _ | exact kp_add _ _ _ | exact kp_arr _ (by assumption) | exact kp_put _ (by assumption)
  | aload_n k =>
    obtain ⟨x, e1, e2, hz, hn, hv⟩ := mr_lda_inv (show _ = _ from ho)
    subst e1
    cases hz
    first | exact kp_rf _ | exact kp_add _ _ _ | exact kp_arr _ (by assumption) | exact kp_put _ (by assumption)
  | istore_n k =>
    obtain ⟨x, r, lw, e1, e2, e3, hz⟩ := mr_sti_inv (show _ = _ from ho)
    subst e1
    subst e2
    cases hz
    first | exact kp_rf _ | exact kp_add _ _ _ | exact kp_arr _ (by assumption) | exact kp_put _ (by assumption)
  | istore k =>
    obtain ⟨x, r, lw, e1, e2, e3, hz⟩ := mr_sti_inv (show _ = _ from ho)
    subst e1
    subst e2
    cases hz
    first | exact kp_rf _ | exact kp_add _ _ _ | exact kp_arr _ (by assumption) | exact kp_put _ (by assumption)
  | lstore_n k =>
    obtain ⟨x, r, lw, e1, e2, e3, hz⟩ := mr_stl_inv (show _ = _ from ho)
    subst e1
    subst e2
    cases hz
    first | exact kp_rf _ | exact kp_add _ _ _ | exact kp_arr _ (by assumption) | exact kp_put _ (by assumption)
  | lstore k =>
    obtain ⟨x, r, lw, e1, e2, e3, hz⟩ := mr_stl_inv (show _ = _ from ho)
    subst e1
    subst e2
    cases hz
    first | exact kp_rf _ | exact kp_add _ _ _ | exact kp_arr _ (by assumption) | exact kp_put _ (by assumption)
  | astore_n k =>
    obtain ⟨x, r, lw, e1, e2, e3, hz⟩ := mr_sta_inv (show _ = _ from ho)
    subst e1
    subst e2
    cases hz
    first | exact kp_rf _ | exact kp_add _ _ _ | exact kp_arr _ (by assumption) | exact kp_put _ (by assumption)
  | iinc k n =>
    simp only [mr_one] at ho
    split at ho
    · rename_i e0
      subst e0
      split at ho
      · rename_i x e2
        obtain ⟨lw, h1, h2⟩ := Option.map_eq_some_iff.mp ho
        cases h2
        first | exact kp_rf _ | exact kp_add _ _ _ | exact kp_arr _ (by assumption) | exact kp_put _ (by assumption)
      · cases ho
    · cases ho
  | iadd =>
    obtain ⟨x, y, r, e1, e2, hz⟩ := mr_b2_inv (show mr_b2 _ _ _ _ _ _ = _ from ho)
    subst e1
    subst e2
    cases hz
    first | exact kp_rf _ | exact kp_add _ _ _ | exact kp_arr _ (by assumption) | exact kp_put _ (by assumption)
  | isub =>
    obtain ⟨x, y, r, e1, e2, hz⟩ := mr_b2_inv (show mr_b2 _ _ _ _ _ _ = _ from ho)
    subst e1
    subst e2
    cases hz
    first | exact kp_rf _ | exact kp_add _ _ _ | exact kp_arr _ (by assumption) | exact kp_put _ (by assumption)
  | imul =>
    obtain ⟨x, y, r, e1, e2, hz⟩ := mr_b2_inv (show mr_b2 _ _ _ _ _ _ = _ from ho)
    subst e1
    subst e2
    cases hz
    first | exact kp_rf _ | exact kp_add _ _ _ | exact kp_arr _ (by assumption) | exact kp_put _ (by assumption)
  | iand =>
    obtain ⟨x, y, r, e1, e2, hz⟩ := mr_b2_inv (show mr_b2 _ _ _ _ _ _ = _ from ho)
    subst e1
    subst e2
    cases hz
    first | exact kp_rf _ | exact kp_add _ _ _ | exact kp_arr _ (by assumption) | exact kp_put _ (by assumption)
  | ior =>
    obtain ⟨x, y, r, e1, e2, hz⟩ := mr_b2_inv (show mr_b2 _ _ _ _ _ _ = _ from ho)
    subst e1
    subst e2
    cases hz
    first | exact kp_rf _ | exact kp_add _ _ _ | exact kp_arr _ (by assumption) | exact kp_put _ (by assumption)
  | ixor =>
    obtain ⟨x, y, r, e1, e2, hz⟩ := mr_b2_inv (show mr_b2 _ _ _ _ _ _ = _ from ho)
    subst e1
    subst e2
    cases hz
    first | exact kp_rf _ | exact kp_add _ _ _ | exact kp_arr _ (by assumption) | exact kp_put _ (by assumption)
  | ishl =>
    obtain ⟨x, y, r, e1, e2, hz⟩ := mr_b2_inv (show mr_b2 _ _ _ _ _ _ = _ from ho)
    subst e1
    subst e2
    cases hz
    first | exact kp_rf _ | exact kp_add _ _ _ | exact kp_arr _ (by assumption) | exact kp_put _ (by assumption)
  | ishr =>
    obtain ⟨x, y, r, e1, e2, hz⟩ := mr_b2_inv (show mr_b2 _ _ _ _ _ _ = _ from ho)
    subst e1
    subst e2
    cases hz
    first | exact kp_rf _ | exact kp_add _ _ _ | exact kp_arr _ (by assumption) | exact kp_put _ (by assumption)
  | iushr =>
    obtain ⟨x, y, r, e1, e2, hz⟩ := mr_b2_inv (show mr_b2 _ _ _ _ _ _ = _ from ho)
    subst e1
    subst e2
    cases hz
    first | exact kp_rf _ | exact kp_add _ _ _ | exact kp_arr _ (by assumption) | exact kp_put _ (by assumption)
  | ladd =>
    obtain ⟨x, y, r, e1, e2, hz⟩ := mr_l2_inv (show mr_l2 _ _ _ _ _ _ = _ from ho)
    subst e1
    subst e2
    cases hz
    first | exact kp_rf _ | exact kp_add _ _ _ | exact kp_arr _ (by assumption) | exact kp_put _ (by assumption)
  | lmul =>
    obtain ⟨x, y, r, e1, e2, hz⟩ := mr_l2_inv (show mr_l2 _ _ _ _ _ _ = _ from ho)
    subst e1
    subst e2
    cases hz
    first | exact kp_rf _ | exact kp_add _ _ _ | exact kp_arr _ (by assumption) | exact kp_put _ (by assumption)
  | idiv =>
    simp only [mr_one] at ho
    split at ho
    · split at ho
      · cases ho
      · rename_i hne
        obtain ⟨x, y, r, e1, e2, hz⟩ := mr_b2_inv ho
        subst e1
        cases e2
        cases hz
        first | exact kp_rf _ | exact kp_add _ _ _ | exact kp_arr _ (by assumption) | exact kp_put _ (by assumption)
    · cases ho
  | irem =>
    simp only [mr_one] at ho
    split at ho
    · split at ho
      · cases ho
      · rename_i hne
        obtain ⟨x, y, r, e1, e2, hz⟩ := mr_b2_inv ho
        subst e1
        cases e2
        cases hz
        first | exact kp_rf _ | exact kp_add _ _ _ | exact kp_arr _ (by assumption) | exact kp_put _ (by assumption)
    · cases ho
  | ldiv =>
    simp only [mr_one] at ho
    split at ho
    · split at ho
      · cases ho
      · rename_i hne
        obtain ⟨x, y, r, e1, e2, hz⟩ := mr_l2_inv ho
        subst e1
        cases e2
        cases hz
        first | exact kp_rf _ | exact kp_add _ _ _ | exact kp_arr _ (by assumption) | exact kp_put _ (by assumption)
    · cases ho
  | lrem =>
    simp only [mr_one] at ho
    split at ho
    · split at ho
      · cases ho
      · rename_i hne
        obtain ⟨x, y, r, e1, e2, hz⟩ := mr_l2_inv ho
        subst e1
        cases e2
        cases hz
        first | exact kp_rf _ | exact kp_add _ _ _ | exact kp_arr _ (by assumption) | exact kp_put _ (by assumption)
    · cases ho
  | lcmp =>
    simp only [mr_one] at ho
    split at ho
    · rename_i e0
      subst e0
      split at ho
      · cases ho; (first | exact kp_rf _ | exact kp_add _ _ _ | exact kp_arr _ (by assumption) | exact kp_put _ (by assumption))
      · cases ho
    · cases ho
  | i2l =>
    simp only [mr_one] at ho
    split at ho
    · rename_i e0
      subst e0
      split at ho
      · cases ho; (first | exact kp_rf _ | exact kp_add _ _ _ | exact kp_arr _ (by assumption) | exact kp_put _ (by assumption))
      · cases ho
    · cases ho
  | l2i =>
    simp only [mr_one] at ho
    split at ho
    · rename_i e0
      subst e0
      split at ho
      · cases ho; (first | exact kp_rf _ | exact kp_add _ _ _ | exact kp_arr _ (by assumption) | exact kp_put _ (by assumption))
      · cases ho
    · cases ho
  | dup =>
    simp only [mr_one] at ho
    split at ho
    · rename_i e0
      subst e0
      split at ho
      · split at ho
        · rename_i hc; cases ho; (first | exact kp_rf _ | exact kp_add _ _ _ | exact kp_arr _ (by assumption) | exact kp_put _ (by assumption))
        · cases ho
      · cases ho
    · cases ho
  | pop =>
    simp only [mr_one] at ho
    split at ho
    · rename_i e0
      subst e0
      split at ho
      · split at ho
        · rename_i hc; cases ho; (first | exact kp_rf _ | exact kp_add _ _ _ | exact kp_arr _ (by assumption) | exact kp_put _ (by assumption))
        · cases ho
      · cases ho
    · cases ho
  | dup2 =>
    simp only [mr_one] at ho
    split at ho
    · rename_i e0
      subst e0
      split at ho
      · split at ho
        · rename_i hc; cases ho; (first | exact kp_rf _ | exact kp_add _ _ _ | exact kp_arr _ (by assumption) | exact kp_put _ (by assumption))
        · cases ho
      · cases ho
    · cases ho
  | goto off =>
    simp only [mr_one] at ho
    split at ho
    · rename_i e0
      subst e0
      obtain ⟨t, ht, hz⟩ := mr_jmp_inv ho
      cases hz
      first | exact kp_rf _ | exact kp_add _ _ _ | exact kp_arr _ (by assumption) | exact kp_put _ (by assumption)
    · cases ho
  | ifCond cnd off =>
    simp only [mr_one] at ho
    split at ho
    · rename_i e0
      obtain ⟨e1, e2⟩ := e0
      subst e1
      split at ho
      · rcases mr_ite_inv ho with ⟨hc, h2⟩ | ⟨hc, h2⟩
        · obtain ⟨t, ht, hz⟩ := mr_jmp_inv h2
          cases hz
          first | exact kp_rf _ | exact kp_add _ _ _ | exact kp_arr _ (by assumption) | exact kp_put _ (by assumption)
        · cases h2
          first | exact kp_rf _ | exact kp_add _ _ _ | exact kp_arr _ (by assumption) | exact kp_put _ (by assumption)
      · cases ho
    · cases ho
  | if_icmp cnd off =>
    simp only [mr_one] at ho
    split at ho
    · rename_i e0
      obtain ⟨e1, e2⟩ := e0
      subst e1
      split at ho
      · rcases mr_ite_inv ho with ⟨hc, h2⟩ | ⟨hc, h2⟩
        · obtain ⟨t, ht, hz⟩ := mr_jmp_inv h2
          cases hz
          first | exact kp_rf _ | exact kp_add _ _ _ | exact kp_arr _ (by assumption) | exact kp_put _ (by assumption)
        · cases h2
          first | exact kp_rf _ | exact kp_add _ _ _ | exact kp_arr _ (by assumption) | exact kp_put _ (by assumption)
      · cases ho
    · cases ho
  | tableswitch d lo hi offs =>
    simp only [mr_one] at ho
    split at ho
    · split at ho
      · rename_i hc
        obtain ⟨t, ht, hz⟩ := mr_jmp_inv ho
        cases hz
        first | exact kp_rf _ | exact kp_add _ _ _ | exact kp_arr _ (by assumption) | exact kp_put _ (by assumption)
      · rename_i hc
        split at ho
        · rename_i o eo
          obtain ⟨t, ht, hz⟩ := mr_jmp_inv ho
          cases hz
          first | exact kp_rf _ | exact kp_add _ _ _ | exact kp_arr _ (by assumption) | exact kp_put _ (by assumption)
        · cases ho
    · cases ho
  | lookupswitch d ps =>
    simp only [mr_one] at ho
    split at ho
    · split at ho
      · rename_i hc
        obtain ⟨t, ht, hz⟩ := mr_jmp_inv ho
        cases hz
        first | exact kp_rf _ | exact kp_add _ _ _ | exact kp_arr _ (by assumption) | exact kp_put _ (by assumption)
      · cases ho
    · cases ho
  | getfield x =>
    simp only [mr_one, mr_get] at ho
    split at ho
    · rename_i e0
      subst e0
      split at ho
      · split at ho
        · rename_i ha hg
          split at ho
          · rename_i ec
            subst ec
            obtain ⟨v, h1, h2⟩ := Option.map_eq_some_iff.mp ho
            cases h2
            first | exact kp_rf _ | exact kp_add _ _ _ | exact kp_arr _ (by assumption) | exact kp_put _ (by assumption)
          · cases ho
        · cases ho
      · cases ho
    · cases ho
  | putfield x =>
    simp only [mr_one, mr_put] at ho
    split at ho
    · rename_i e0
      subst e0
      split at ho
      · split at ho
        · rename_i ha hg
          split at ho
          · rename_i ec
            obtain ⟨ec, h1, h2, h3⟩ := ec
            subst ec
            cases ho
            first | exact kp_rf _ | exact kp_add _ _ _ | exact kp_arr _ (by assumption) | exact kp_put _ (by assumption)
          · cases ho
        · cases ho
      · cases ho
    · cases ho
  | iaload =>
    simp only [mr_one, mr_ald] at ho
    split at ho
    · rename_i e0
      subst e0
      split at ho
      · split at ho
        · rename_i ha
          split at ho
          · cases ho
          · rename_i hc
            cases ho
            first | exact kp_rf _ | exact kp_add _ _ _ | exact kp_arr _ (by assumption) | exact kp_put _ (by assumption)
        · cases ho
      · split at ho
        · cases ho
        · rename_i hc
          cases ho
          first | exact kp_rf _ | exact kp_add _ _ _ | exact kp_arr _ (by assumption) | exact kp_put _ (by assumption)
      · cases ho
    · cases ho
  | iastore =>
    simp only [mr_one, mr_ast] at ho
    split at ho
    · rename_i e0
      subst e0
      split at ho
      · split at ho
        · rename_i ha
          split at ho
          · cases ho
          · rename_i hc
            cases ho
            first | exact kp_rf _ | exact kp_add _ _ _ | exact kp_arr _ (by assumption) | exact kp_put _ (by assumption)
        · cases ho
      · cases ho
    · cases ho
  | laload =>
    simp only [mr_one, mr_lld] at ho
    split at ho
    · rename_i e0
      subst e0
      split at ho
      · split at ho
        · rename_i ha
          split at ho
          · cases ho
          · rename_i hc
            cases ho
            first | exact kp_rf _ | exact kp_add _ _ _ | exact kp_arr _ (by assumption) | exact kp_put _ (by assumption)
        · cases ho
      · cases ho
    · cases ho
  | lastore =>
    simp only [mr_one, mr_lst] at ho
    split at ho
    · rename_i e0
      subst e0
      split at ho
      · split at ho
        · rename_i ha
          split at ho
          · cases ho
          · rename_i hc
            cases ho
            first | exact kp_rf _ | exact kp_add _ _ _ | exact kp_arr _ (by assumption) | exact kp_put _ (by assumption)
        · cases ho
      · cases ho
    · cases ho
  | baload =>
    simp only [mr_one, mr_zld] at ho
    split at ho
    · rename_i e0
      subst e0
      split at ho
      · split at ho
        · rename_i ha
          split at ho
          · cases ho
          · rename_i hc
            cases ho
            first | exact kp_rf _ | exact kp_add _ _ _ | exact kp_arr _ (by assumption) | exact kp_put _ (by assumption)
        · cases ho
      · cases ho
    · cases ho
  | bastore =>
    simp only [mr_one, mr_zst] at ho
    split at ho
    · rename_i e0
      subst e0
      split at ho
      · split at ho
        · rename_i ha
          split at ho
          · cases ho
          · rename_i hc
            cases ho
            first | exact kp_rf _ | exact kp_add _ _ _ | exact kp_arr _ (by assumption) | exact kp_put _ (by assumption)
        · cases ho
      · cases ho
    · cases ho
  | aaload =>
    simp only [mr_one, mr_qld] at ho
    split at ho
    · rename_i e0
      subst e0
      split at ho
      · split at ho
        · rename_i ha
          split at ho
          · cases ho
          · rename_i hc
            obtain ⟨k, h1, h2⟩ := Option.map_eq_some_iff.mp ho
            cases h2
            first | exact kp_rf _ | exact kp_add _ _ _ | exact kp_arr _ (by assumption) | exact kp_put _ (by assumption)
        · cases ho
      · cases ho
    · cases ho
  | aastore =>
    simp only [mr_one, mr_qst] at ho
    split at ho
    · rename_i e0
      subst e0
      split at ho
      · split at ho
        · rename_i ha hv
          split at ho
          · cases ho
          · rename_i hc
            cases ho
            first | exact kp_rf _ | exact kp_add _ _ _ | exact kp_arr _ (by assumption) | exact kp_put _ (by assumption)
        · cases ho
      · cases ho
    · cases ho
  | arraylength =>
    simp only [mr_one] at ho
    split at ho
    · rename_i e0
      subst e0
      split at ho
      · cases ho; (first | exact kp_rf _ | exact kp_add _ _ _ | exact kp_arr _ (by assumption) | exact kp_put _ (by assumption))
      · cases ho
    · cases ho
  | new x =>
    simp only [mr_one, mr_new] at ho
    split at ho
    · rename_i e0
      subst e0
      obtain ⟨ci, h1, h2⟩ := Option.map_eq_some_iff.mp ho
      cases h2
      first | exact kp_rf _ | exact kp_add _ _ _ | exact kp_arr _ (by assumption) | exact kp_put _ (by assumption)
    · cases ho
  | newarray t =>
    simp only [mr_one, mr_nar] at ho
    split at ho
    · rename_i e0
      subst e0
      split at ho
      · rename_i n r
        split at ho
        · cases ho
        · rename_i hc
          split at ho
          · cases ho
            first | exact kp_rf _ | exact kp_add _ _ _ | exact kp_arr _ (by assumption) | exact kp_put _ (by assumption)
          · cases ho
            first | exact kp_rf _ | exact kp_add _ _ _ | exact kp_arr _ (by assumption) | exact kp_put _ (by assumption)
          · cases ho
            first | exact kp_rf _ | exact kp_add _ _ _ | exact kp_arr _ (by assumption) | exact kp_put _ (by assumption)
          · cases ho
      · cases ho
    · cases ho
  | anewarray x =>
    simp only [mr_one, mr_naq] at ho
    split at ho
    · rename_i e0
      subst e0
      split at ho
      · rename_i n r
        split at ho
        · cases ho
        · rename_i hc
          split at ho
          · rename_i h1
            cases ho
            first | exact kp_rf _ | exact kp_add _ _ _ | exact kp_arr _ (by assumption) | exact kp_put _ (by assumption)
          · cases ho
      · cases ho
    · cases ho
  | invokestatic x =>
    simp only [mr_one, mr_sta3] at ho
    split at ho
    · rename_i e0
      subst e0
      split at ho
      · rename_i ht
        split at ho
        · rename_i ha0 ha1
          split at ho
          · rename_i hc
            obtain ⟨c0, c1, c2, c3, c4, c5, c6⟩ := hc
            cases ho
            first | exact kp_rf _ | exact kp_add _ _ _ | exact kp_arr _ (by assumption) | exact kp_put _ (by assumption)
          · cases ho
        · cases ho
      · rename_i ht
        split at ho
        · rename_i hc
          cases ho
          first | exact kp_rf _ | exact kp_add _ _ _ | exact kp_arr _ (by assumption) | exact kp_put _ (by assumption)
        · cases ho
      · rename_i ht
        split at ho
        · rename_i hc
          cases ho
          first | exact kp_rf _ | exact kp_add _ _ _ | exact kp_arr _ (by assumption) | exact kp_put _ (by assumption)
        · cases ho
      · cases ho
    · cases ho
  | invokespecial x =>
    simp only [mr_one, mr_spe] at ho
    split at ho
    · rename_i e0
      subst e0
      split at ho
      · rename_i ht
        split at ho
        · rename_i hc
          cases ho
          first | exact kp_rf _ | exact kp_add _ _ _ | exact kp_arr _ (by assumption) | exact kp_put _ (by assumption)
        · cases ho
      · cases ho
    · cases ho
  | _ => simp [mr_one] at ho

theorem mr_ex_kp : ∀ (n M pc : Nat) (lv st : List Value) (h : mr_h) (r : Option Value) (h' : mr_h), mr_ex n M pc lv st h = some (r, h') → kp h h' := by
  intro n
  induction n with
  | zero => intro M pc lv st h r h' he; simp [mr_ex] at he
  | succ n ih =>
    intro M pc lv st h r h' he
    unfold mr_ex at he
    split at he
    · cases he
    · split at he
      · rename_i ho
        have h1 := mr_one_kp ho
        have h2 := ih _ _ _ _ _ _ _ he
        exact kp_tr h1 h2
      · split at he
        · split at he
          · split at he
            · rename_i hc
              have h1 := ih _ _ _ _ _ _ _ hc
              have h2 := ih _ _ _ _ _ _ _ he
              exact kp_tr h1 h2
            · cases he
          · cases he
        · split at he
          · cases he
            exact kp_rf _
          · cases he

theorem run_mono {t : Nat} {as : List Value} {h : mr_h} {Q Q2 : Option Value → mr_h → Prop} (w : mr_run t as h Q) (k : ∀ r h2, Q r h2 → Q2 r h2) : mr_run t as h Q2 := by
  obtain ⟨n, r, h2, e, q⟩ := w
  exact ⟨n, r, h2, e, k r h2 q⟩
theorem both_law {c mm : Nat} {as : List Value} {h : mr_h} {Q : Option Value → mr_h → Prop} (hb : Both c mm as h) (kk : ∀ (x : Int32) (h1 : mr_h), mr_run mm (.ref 74 :: as) h1 (fun r h2 => r = some (.int x) ∧ Inv h2 ∧ h2.2 = h.2) → kp h h1 → Q (some (.int x)) h1) : mr_run c (.ref 0 :: as) h Q := by
  obtain ⟨n, r1, h1, e1, n2, r2, h2, e2, ⟨x, q1, q2⟩, iv, e⟩ := hb
  refine ⟨n, r1, h1, e1, ?_⟩
  rw [q1]
  exact kk x h1 ⟨n2, r2, h2, e2, q2, iv, e⟩ (mr_ex_kp _ _ _ _ _ _ _ _ e1)
