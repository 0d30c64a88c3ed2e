/-! calls; and the whole: where the mirror ends, the machine does -/
theorem mr_one_mono {M : Nat} {i : Instr} {len pc pc' : Nat} {lv st lv' st' : List Value} {h h' : mr_h} (ho : mr_one M i len pc lv st h = some (pc', lv', st', h')) : h.2.1 ≤ h'.2.1 ∧ h.2.2.1 ≤ h'.2.2.1 := by
  cases i with
  | iconst n =>
    simp only [mr_one] at ho
    split at ho
    · rename_i e0
      subst e0
      cases ho
      exact ⟨Nat.le_refl _, Nat.le_refl _⟩
    · cases ho
  | bipush n =>
    simp only [mr_one] at ho
    split at ho
    · rename_i e0
      subst e0
      cases ho
      exact ⟨Nat.le_refl _, Nat.le_refl _⟩
    · cases ho
  | sipush n =>
    simp only [mr_one] at ho
    split at ho
    · rename_i e0
      subst e0
      cases ho
      exact ⟨Nat.le_refl _, Nat.le_refl _⟩
    · cases ho
  | lconst n =>
    simp only [mr_one] at ho
    split at ho
    · rename_i e0
      subst e0
      cases ho
      exact ⟨Nat.le_refl _, Nat.le_refl _⟩
    · cases ho
  | ldc_w x =>
    simp only [mr_one] at ho
    split at ho
    · rename_i e0
      subst e0
      obtain ⟨v, h1, h2⟩ := Option.map_eq_some_iff.mp ho
      cases h2
      exact ⟨Nat.le_refl _, Nat.le_refl _⟩
    · cases ho
  | ldc2_w x =>
    simp only [mr_one] at ho
    split at ho
    · rename_i e0
      subst e0
      obtain ⟨v, h1, h2⟩ := Option.map_eq_some_iff.mp ho
      cases h2
      exact ⟨Nat.le_refl _, Nat.le_refl _⟩
    · cases ho
  | iload_n k =>
    obtain ⟨x, e1, e2, hz⟩ := mr_ldi_inv (show _ = _ from ho)
    subst e1
    cases hz
    exact ⟨Nat.le_refl _, Nat.le_refl _⟩
  | iload k =>
    obtain ⟨x, e1, e2, hz⟩ := mr_ldi_inv (show _ = _ from ho)
    subst e1
    cases hz
    exact ⟨Nat.le_refl _, Nat.le_refl _⟩
  | lload_n k =>
    obtain ⟨x, e1, e2, hz⟩ := mr_ldl_inv (show _ = _ from ho)
    subst e1
    cases hz
    exact ⟨Nat.le_refl _, Nat.le_refl _⟩
  | lload k =>
    obtain ⟨x, e1, e2, hz⟩ := mr_ldl_inv (show _ = _ from ho)
    subst e1
    cases hz
    exact ⟨Nat.le_refl _, Nat.le_refl _⟩
  | aload_n k =>
    obtain ⟨x, e1, e2, hz, hn, hv⟩ := mr_lda_inv (show _ = _ from ho)
    subst e1
    cases hz
    exact ⟨Nat.le_refl _, Nat.le_refl _⟩
  | istore_n k =>
    obtain ⟨x, r, lw, e1, e2, e3, hz⟩ := mr_sti_inv (show _ = _ from ho)
    subst e1
    subst e2
    cases hz
    exact ⟨Nat.le_refl _, Nat.le_refl _⟩
  | istore k =>
    obtain ⟨x, r, lw, e1, e2, e3, hz⟩ := mr_sti_inv (show _ = _ from ho)
    subst e1
    subst e2
    cases hz
    exact ⟨Nat.le_refl _, Nat.le_refl _⟩
  | lstore_n k =>
    obtain ⟨x, r, lw, e1, e2, e3, hz⟩ := mr_stl_inv (show _ = _ from ho)
    subst e1
    subst e2
    cases hz
    exact ⟨Nat.le_refl _, Nat.le_refl _⟩
  | lstore k =>
    obtain ⟨x, r, lw, e1, e2, e3, hz⟩ := mr_stl_inv (show _ = _ from ho)
    subst e1
    subst e2
    cases hz
    exact ⟨Nat.le_refl _, Nat.le_refl _⟩
  | astore_n k =>
    obtain ⟨x, r, lw, e1, e2, e3, hz⟩ := mr_sta_inv (show _ = _ from ho)
    subst e1
    subst e2
    cases hz
    exact ⟨Nat.le_refl _, Nat.le_refl _⟩
  | iinc k n =>
    simp only [mr_one] at ho
    split at ho
    · rename_i e0
      subst e0
      split at ho
      · rename_i x e2
        obtain ⟨lw, h1, h2⟩ := Option.map_eq_some_iff.mp ho
        cases h2
        exact ⟨Nat.le_refl _, Nat.le_refl _⟩
      · cases ho
    · cases ho
  | iadd =>
    obtain ⟨x, y, r, e1, e2, hz⟩ := mr_b2_inv (show mr_b2 _ _ _ _ _ _ = _ from ho)
    subst e1
    subst e2
    cases hz
    exact ⟨Nat.le_refl _, Nat.le_refl _⟩
  | isub =>
    obtain ⟨x, y, r, e1, e2, hz⟩ := mr_b2_inv (show mr_b2 _ _ _ _ _ _ = _ from ho)
    subst e1
    subst e2
    cases hz
    exact ⟨Nat.le_refl _, Nat.le_refl _⟩
  | imul =>
    obtain ⟨x, y, r, e1, e2, hz⟩ := mr_b2_inv (show mr_b2 _ _ _ _ _ _ = _ from ho)
    subst e1
    subst e2
    cases hz
    exact ⟨Nat.le_refl _, Nat.le_refl _⟩
  | iand =>
    obtain ⟨x, y, r, e1, e2, hz⟩ := mr_b2_inv (show mr_b2 _ _ _ _ _ _ = _ from ho)
    subst e1
    subst e2
    cases hz
    exact ⟨Nat.le_refl _, Nat.le_refl _⟩
  | ior =>
    obtain ⟨x, y, r, e1, e2, hz⟩ := mr_b2_inv (show mr_b2 _ _ _ _ _ _ = _ from ho)
    subst e1
    subst e2
    cases hz
    exact ⟨Nat.le_refl _, Nat.le_refl _⟩
  | ixor =>
    obtain ⟨x, y, r, e1, e2, hz⟩ := mr_b2_inv (show mr_b2 _ _ _ _ _ _ = _ from ho)
    subst e1
    subst e2
    cases hz
    exact ⟨Nat.le_refl _, Nat.le_refl _⟩
  | ishl =>
    obtain ⟨x, y, r, e1, e2, hz⟩ := mr_b2_inv (show mr_b2 _ _ _ _ _ _ = _ from ho)
    subst e1
    subst e2
    cases hz
    exact ⟨Nat.le_refl _, Nat.le_refl _⟩
  | ishr =>
    obtain ⟨x, y, r, e1, e2, hz⟩ := mr_b2_inv (show mr_b2 _ _ _ _ _ _ = _ from ho)
    subst e1
    subst e2
    cases hz
    exact ⟨Nat.le_refl _, Nat.le_refl _⟩
  | iushr =>
    obtain ⟨x, y, r, e1, e2, hz⟩ := mr_b2_inv (show mr_b2 _ _ _ _ _ _ = _ from ho)
    subst e1
    subst e2
    cases hz
    exact ⟨Nat.le_refl _, Nat.le_refl _⟩
  | ladd =>
    obtain ⟨x, y, r, e1, e2, hz⟩ := mr_l2_inv (show mr_l2 _ _ _ _ _ _ = _ from ho)
    subst e1
    subst e2
    cases hz
    exact ⟨Nat.le_refl _, Nat.le_refl _⟩
  | lmul =>
    obtain ⟨x, y, r, e1, e2, hz⟩ := mr_l2_inv (show mr_l2 _ _ _ _ _ _ = _ from ho)
    subst e1
    subst e2
    cases hz
    exact ⟨Nat.le_refl _, Nat.le_refl _⟩
  | idiv =>
    simp only [mr_one] at ho
    split at ho
    · split at ho
      · cases ho
      · rename_i hne
        obtain ⟨x, y, r, e1, e2, hz⟩ := mr_b2_inv ho
        subst e1
        cases e2
        cases hz
        exact ⟨Nat.le_refl _, Nat.le_refl _⟩
    · cases ho
  | irem =>
    simp only [mr_one] at ho
    split at ho
    · split at ho
      · cases ho
      · rename_i hne
        obtain ⟨x, y, r, e1, e2, hz⟩ := mr_b2_inv ho
        subst e1
        cases e2
        cases hz
        exact ⟨Nat.le_refl _, Nat.le_refl _⟩
    · cases ho
  | ldiv =>
    simp only [mr_one] at ho
    split at ho
    · split at ho
      · cases ho
      · rename_i hne
        obtain ⟨x, y, r, e1, e2, hz⟩ := mr_l2_inv ho
        subst e1
        cases e2
        cases hz
        exact ⟨Nat.le_refl _, Nat.le_refl _⟩
    · cases ho
  | lrem =>
    simp only [mr_one] at ho
    split at ho
    · split at ho
      · cases ho
      · rename_i hne
        obtain ⟨x, y, r, e1, e2, hz⟩ := mr_l2_inv ho
        subst e1
        cases e2
        cases hz
        exact ⟨Nat.le_refl _, Nat.le_refl _⟩
    · cases ho
  | lcmp =>
    simp only [mr_one] at ho
    split at ho
    · rename_i e0
      subst e0
      split at ho
      · cases ho; exact ⟨Nat.le_refl _, Nat.le_refl _⟩
      · cases ho
    · cases ho
  | i2l =>
    simp only [mr_one] at ho
    split at ho
    · rename_i e0
      subst e0
      split at ho
      · cases ho; exact ⟨Nat.le_refl _, Nat.le_refl _⟩
      · cases ho
    · cases ho
  | l2i =>
    simp only [mr_one] at ho
    split at ho
    · rename_i e0
      subst e0
      split at ho
      · cases ho; exact ⟨Nat.le_refl _, Nat.le_refl _⟩
      · cases ho
    · cases ho
  | dup =>
    simp only [mr_one] at ho
    split at ho
    · rename_i e0
      subst e0
      split at ho
      · split at ho
        · rename_i hc; cases ho; exact ⟨Nat.le_refl _, Nat.le_refl _⟩
        · cases ho
      · cases ho
    · cases ho
  | pop =>
    simp only [mr_one] at ho
    split at ho
    · rename_i e0
      subst e0
      split at ho
      · split at ho
        · rename_i hc; cases ho; exact ⟨Nat.le_refl _, Nat.le_refl _⟩
        · cases ho
      · cases ho
    · cases ho
  | dup2 =>
    simp only [mr_one] at ho
    split at ho
    · rename_i e0
      subst e0
      split at ho
      · split at ho
        · rename_i hc; cases ho; exact ⟨Nat.le_refl _, Nat.le_refl _⟩
        · cases ho
      · cases ho
    · cases ho
  | goto off =>
    simp only [mr_one] at ho
    split at ho
    · rename_i e0
      subst e0
      obtain ⟨t, ht, hz⟩ := mr_jmp_inv ho
      cases hz
      exact ⟨Nat.le_refl _, Nat.le_refl _⟩
    · cases ho
  | ifCond cnd off =>
    simp only [mr_one] at ho
    split at ho
    · rename_i e0
      obtain ⟨e1, e2⟩ := e0
      subst e1
      split at ho
      · rcases mr_ite_inv ho with ⟨hc, h2⟩ | ⟨hc, h2⟩
        · obtain ⟨t, ht, hz⟩ := mr_jmp_inv h2
          cases hz
          exact ⟨Nat.le_refl _, Nat.le_refl _⟩
        · cases h2
          exact ⟨Nat.le_refl _, Nat.le_refl _⟩
      · cases ho
    · cases ho
  | if_icmp cnd off =>
    simp only [mr_one] at ho
    split at ho
    · rename_i e0
      obtain ⟨e1, e2⟩ := e0
      subst e1
      split at ho
      · rcases mr_ite_inv ho with ⟨hc, h2⟩ | ⟨hc, h2⟩
        · obtain ⟨t, ht, hz⟩ := mr_jmp_inv h2
          cases hz
          exact ⟨Nat.le_refl _, Nat.le_refl _⟩
        · cases h2
          exact ⟨Nat.le_refl _, Nat.le_refl _⟩
      · cases ho
    · cases ho
  | tableswitch d lo hi offs =>
    simp only [mr_one] at ho
    split at ho
    · split at ho
      · rename_i hc
        obtain ⟨t, ht, hz⟩ := mr_jmp_inv ho
        cases hz
        exact ⟨Nat.le_refl _, Nat.le_refl _⟩
      · rename_i hc
        split at ho
        · rename_i o eo
          obtain ⟨t, ht, hz⟩ := mr_jmp_inv ho
          cases hz
          exact ⟨Nat.le_refl _, Nat.le_refl _⟩
        · cases ho
    · cases ho
  | lookupswitch d ps =>
    simp only [mr_one] at ho
    split at ho
    · split at ho
      · rename_i hc
        obtain ⟨t, ht, hz⟩ := mr_jmp_inv ho
        cases hz
        exact ⟨Nat.le_refl _, Nat.le_refl _⟩
      · cases ho
    · cases ho
  | getfield x =>
    simp only [mr_one, mr_get] at ho
    split at ho
    · rename_i e0
      subst e0
      split at ho
      · split at ho
        · rename_i ha hg
          split at ho
          · rename_i ec
            subst ec
            obtain ⟨v, h1, h2⟩ := Option.map_eq_some_iff.mp ho
            cases h2
            exact ⟨Nat.le_refl _, Nat.le_refl _⟩
          · cases ho
        · cases ho
      · cases ho
    · cases ho
  | putfield x =>
    simp only [mr_one, mr_put] at ho
    split at ho
    · rename_i e0
      subst e0
      split at ho
      · split at ho
        · rename_i ha hg
          split at ho
          · rename_i ec
            obtain ⟨ec, h1, h2, h3⟩ := ec
            subst ec
            cases ho
            exact ⟨Nat.le_refl _, Nat.le_refl _⟩
          · cases ho
        · cases ho
      · cases ho
    · cases ho
  | iaload =>
    simp only [mr_one, mr_ald] at ho
    split at ho
    · rename_i e0
      subst e0
      split at ho
      · split at ho
        · rename_i ha
          split at ho
          · cases ho
          · rename_i hc
            cases ho
            exact ⟨Nat.le_refl _, Nat.le_refl _⟩
        · cases ho
      · split at ho
        · cases ho
        · rename_i hc
          cases ho
          exact ⟨Nat.le_refl _, Nat.le_refl _⟩
      · cases ho
    · cases ho
  | iastore =>
    simp only [mr_one, mr_ast] at ho
    split at ho
    · rename_i e0
      subst e0
      split at ho
      · split at ho
        · rename_i ha
          split at ho
          · cases ho
          · rename_i hc
            cases ho
            exact ⟨Nat.le_refl _, Nat.le_refl _⟩
        · cases ho
      · cases ho
    · cases ho
  | laload =>
    simp only [mr_one, mr_lld] at ho
    split at ho
    · rename_i e0
      subst e0
      split at ho
      · split at ho
        · rename_i ha
          split at ho
          · cases ho
          · rename_i hc
            cases ho
            exact ⟨Nat.le_refl _, Nat.le_refl _⟩
        · cases ho
      · cases ho
    · cases ho
  | lastore =>
    simp only [mr_one, mr_lst] at ho
    split at ho
    · rename_i e0
      subst e0
      split at ho
      · split at ho
        · rename_i ha
          split at ho
          · cases ho
          · rename_i hc
            cases ho
            exact ⟨Nat.le_refl _, Nat.le_refl _⟩
        · cases ho
      · cases ho
    · cases ho
  | baload =>
    simp only [mr_one, mr_zld] at ho
    split at ho
    · rename_i e0
      subst e0
      split at ho
      · split at ho
        · rename_i ha
          split at ho
          · cases ho
          · rename_i hc
            cases ho
            exact ⟨Nat.le_refl _, Nat.le_refl _⟩
        · cases ho
      · cases ho
    · cases ho
  | bastore =>
    simp only [mr_one, mr_zst] at ho
    split at ho
    · rename_i e0
      subst e0
      split at ho
      · split at ho
        · rename_i ha
          split at ho
          · cases ho
          · rename_i hc
            cases ho
            exact ⟨Nat.le_refl _, Nat.le_refl _⟩
        · cases ho
      · cases ho
    · cases ho
  | aaload =>
    simp only [mr_one, mr_qld] at ho
    split at ho
    · rename_i e0
      subst e0
      split at ho
      · split at ho
        · rename_i ha
          split at ho
          · cases ho
          · rename_i hc
            obtain ⟨k, h1, h2⟩ := Option.map_eq_some_iff.mp ho
            cases h2
            exact ⟨Nat.le_refl _, Nat.le_refl _⟩
        · cases ho
      · cases ho
    · cases ho
  | aastore =>
    simp only [mr_one, mr_qst] at ho
    split at ho
    · rename_i e0
      subst e0
      split at ho
      · split at ho
        · rename_i ha hv
          split at ho
          · cases ho
          · rename_i hc
            cases ho
            exact ⟨Nat.le_refl _, Nat.le_refl _⟩
        · cases ho
      · cases ho
    · cases ho
  | arraylength =>
    simp only [mr_one] at ho
    split at ho
    · rename_i e0
      subst e0
      split at ho
      · cases ho; exact ⟨Nat.le_refl _, Nat.le_refl _⟩
      · cases ho
    · cases ho
  | new x =>
    simp only [mr_one, mr_new] at ho
    split at ho
    · rename_i e0
      subst e0
      obtain ⟨ci, h1, h2⟩ := Option.map_eq_some_iff.mp ho
      cases h2
      exact ⟨Nat.le_succ _, Nat.le_add_right _ _⟩
    · cases ho
  | newarray t =>
    simp only [mr_one, mr_nar] at ho
    split at ho
    · rename_i e0
      subst e0
      split at ho
      · rename_i n r
        split at ho
        · cases ho
        · rename_i hc
          split at ho
          · cases ho
            exact ⟨Nat.le_succ _, Nat.le_add_right _ _⟩
          · cases ho
            exact ⟨Nat.le_succ _, Nat.le_add_right _ _⟩
          · cases ho
            exact ⟨Nat.le_succ _, Nat.le_add_right _ _⟩
          · cases ho
      · cases ho
    · cases ho
  | anewarray x =>
    simp only [mr_one, mr_naq] at ho
    split at ho
    · rename_i e0
      subst e0
      split at ho
      · rename_i n r
        split at ho
        · cases ho
        · rename_i hc
          split at ho
          · rename_i h1
            cases ho
            exact ⟨Nat.le_succ _, Nat.le_add_right _ _⟩
          · cases ho
      · cases ho
    · cases ho
  | invokestatic x =>
    simp only [mr_one, mr_sta3] at ho
    split at ho
    · rename_i e0
      subst e0
      split at ho
      · rename_i ht
        split at ho
        · rename_i ha0 ha1
          split at ho
          · rename_i hc
            obtain ⟨c0, c1, c2, c3, c4, c5, c6⟩ := hc
            cases ho
            exact ⟨Nat.le_refl _, Nat.le_refl _⟩
          · cases ho
        · cases ho
      · rename_i ht
        split at ho
        · rename_i hc
          cases ho
          exact ⟨Nat.le_refl _, Nat.le_refl _⟩
        · cases ho
      · rename_i ht
        split at ho
        · rename_i hc
          cases ho
          exact ⟨Nat.le_refl _, Nat.le_refl _⟩
        · cases ho
      · cases ho
    · cases ho
  | invokespecial x =>
    simp only [mr_one, mr_spe] at ho
    split at ho
    · rename_i e0
      subst e0
      split at ho
      · rename_i ht
        split at ho
        · rename_i hc
          cases ho
          exact ⟨Nat.le_refl _, Nat.le_refl _⟩
        · cases ho
      · cases ho
    · cases ho
  | _ => simp [mr_one] at ho

theorem mr_ex_mono : ∀ (n M pc : Nat) (lv st : List Value) (h : mr_h) (r : Option Value) (h' : mr_h), mr_ex n M pc lv st h = some (r, h') → h.2.1 ≤ h'.2.1 ∧ h.2.2.1 ≤ h'.2.2.1 := by
  intro n
  induction n with
  | zero => intro M pc lv st h r h' he; simp [mr_ex] at he
  | succ n ih =>
    intro M pc lv st h r h' he
    unfold mr_ex at he
    split at he
    · cases he
    · split at he
      · rename_i ho
        have h1 := mr_one_mono ho
        have h2 := ih _ _ _ _ _ _ _ he
        exact ⟨Nat.le_trans h1.1 h2.1, Nat.le_trans h1.2 h2.2⟩
      · split at he
        · split at he
          · split at he
            · rename_i hc
              have h1 := ih _ _ _ _ _ _ _ hc
              have h2 := ih _ _ _ _ _ _ _ he
              exact ⟨Nat.le_trans h1.1 h2.1, Nat.le_trans h1.2 h2.2⟩
            · cases he
          · cases he
        · split at he
          · cases he
            exact ⟨Nat.le_refl _, Nat.le_refl _⟩
          · cases he

theorem mr_M_ok {t : Nat} {r : mr_R} (hr : mr_M[t]? = some r) (ht : t < 181) (h14 : r.1 ≠ 14) :
    (Cond.code (mr_y r) (mr_bytes r) (mr_maxL r) (mr_ret r)) ∈ mr_tt ∧ (Cond.initialized (mr_y r).cls) ∈ mr_tt ∧ (mr_kd r = 0 → (Cond.static (mr_y r)) ∈ mr_tt) ∧ (mr_kd r ≠ 0 → (Cond.instanceMethod (mr_y r)) ∈ mr_tt) ∧
    (mr_kd r = 1 → (Cond.selects (mr_y r).cls (mr_y r) (mr_y r)) ∈ mr_tt) ∧ (mr_kd r = 2 → (mr_y r).name = "<init>" ∧ mr_ret r = none) ∧
    ((mr_y r).cls ≠ "java/lang/invoke/MethodHandle" ∧ (mr_y r).cls ≠ "java/lang/invoke/VarHandle" ∧ (parseMethodDescriptor (mr_y r).desc).map (fun d => d.parameters.length) = some (mr_na r)) ∧
    Jvm.plainName (mr_y r).cls = true ∧ mr_maxL r ≤ 17 := by
  have h1 : (mr_M.take 181)[t]? = some r := by rw [List.getElem?_take_of_lt ht]; exact hr
  obtain ⟨pp, h2⟩ : ∃ pp, mr_pM[t]? = some pp := by
    have : t < mr_pM.length := by rw [mr_pM_len]; exact ht
    exact ⟨_, List.getElem?_eq_getElem this⟩
  have h3 : ((mr_M.take 181).zip mr_pM)[t]? = some (r, pp) := List.getElem?_zip_eq_some.mpr ⟨h1, h2⟩
  have h4 := List.all_eq_true.mp mr_okM_all _ (List.mem_of_getElem? h3)
  simp only [mr_okM, Bool.and_eq_true, decide_eq_true_eq] at h4
  obtain ⟨⟨⟨⟨⟨⟨⟨⟨⟨⟨⟨g1, g2⟩, g3⟩, g4⟩, g5⟩, g6⟩, g7⟩, g8⟩, g9⟩, g10⟩, g11⟩, g12⟩ := h4
  refine ⟨?_, mr_tt_in (List.mem_of_getElem? g3) rfl, fun z => ?_, fun z => ?_, fun z => ?_, fun z => ?_, ⟨g7, g8, g9⟩, ?_, g11⟩
  · cases hc : lw_tbl[r.2.2.2.1]? with
    | none => rw [hc] at g1; cases g1
    | some w =>
      rw [hc] at g1
      cases w with
      | code y bb L rr =>
        simp only [Bool.and_eq_true, decide_eq_true_eq] at g1
        obtain ⟨⟨e1, e2⟩, e3⟩ := g1
        have e4 : mr_bytes r = bb := by
          unfold mr_bytes
          rw [if_neg g2, hc]
        rw [e4, ← e1, ← e2, ← e3]
        exact mr_tt_in (List.mem_of_getElem? hc) rfl
      | _ => cases g1
  · rw [if_pos z] at g4
    exact mr_tt_in (List.mem_of_getElem? (of_decide_eq_true g4)) rfl
  · rw [if_neg z] at g4
    exact mr_tt_in (List.mem_of_getElem? (of_decide_eq_true g4)) rfl
  · rw [if_pos z] at g5
    exact mr_tt_in (List.mem_of_getElem? (of_decide_eq_true g5)) rfl
  · rw [if_pos z] at g6
    simpa using g6
  · simpa [h14] using g10
