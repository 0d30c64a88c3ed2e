/-! one instruction of the mirror, any -/
theorem mr_stk_sum {b base n : Nat} {st : List Value} (h : st.length ≤ n) : ((st.map (mr_v b base)).map fun v => v.category).sum ≤ 2 * n := by
  induction st generalizing n with
  | nil => simp
  | cons v vs ih =>
    cases n with
    | zero => simp at h
    | succ k =>
      have h1 := ih (n := k) (by simpa using h)
      have h2 : (mr_v b base v).category ≤ 2 := by rcases lv_cat (mr_v b base v) with z | z <;> omega
      simp only [List.map_cons, List.sum_cons]
      omega
section MRS
variable {p : Program} {l : Launch} {e : Env} {R : Room} {s : State} {m : MethodId} {args : Array Value} {below : List Frame} {meth : Method} {c : Code} {H : Heap} {locs : List Loc} {cells slots : Nat} {Q : State → Prop}
variable {pc : Nat} {ls : Array Slot} {D : va_G} {b base : Nat} {cs : mr_q} {h h' : mr_h} {q : mr_R} {M : Nat}
set_option maxHeartbeats 4000000 in
theorem mr_one_snd (hX : mr_x p R s m args meth c D cs q) (hq : mr_M[M]? = some q) {i : Instr} {len : Nat} (hd : decode (mr_bytes q) pc = .ok (i, len)) {lv st lv' st' : List Value} {pc' : Nat} (ho : mr_one M i len pc lv st h = some (pc', lv', st', h')) (hw : mr_w D b base cs s h H) (hl : mr_lv b base lv ls c.maxLocals)
    (hloc : ∀ z ∈ locs, base ≤ z.base) (hcr : cells ≤ R.cells) (hsr : slots ≤ R.slots) (hcs : cells + (h'.2.1 - h.2.1) ≤ R.cells) (hss : slots + (h'.2.2.1 - h.2.2.1) ≤ R.slots)
    (kk : ∀ (H1 : Heap) (locs1 : List Loc) (ls1 : Array Slot), mr_w D b base cs s h' H1 → mr_lv b base lv' ls1 c.maxLocals → (∀ z ∈ locs1, base ≤ z.base) → W p l e R s m args below meth c H1 locs1 (cells + (h'.2.1 - h.2.1)) (slots + (h'.2.2.1 - h.2.2.1)) Q (F0 m pc' ls1 (st'.map (mr_v b base)))) :
    W p l e R s m args below meth c H locs cells slots Q (F0 m pc ls (st.map (mr_v b base))) := by
  have hx := hX.1
  have hb := hX.2.1
  have hown := hX.2.2.2.1
  have hts := hX.2.2.2.2.1
  have K0 : h' = h → ∀ ls1, mr_lv b base lv' ls1 c.maxLocals → W p l e R s m args below meth c H locs cells slots Q (F0 m pc' ls1 (st'.map (mr_v b base))) := fun e0 ls1 hl1 =>
    W.cs (by rw [e0]; omega) (by rw [e0]; omega) (kk H locs ls1 (by rw [e0]; exact hw) hl1 hloc)
  have KL : ∀ (H1 : Heap) (L : List Loc), h'.2 = h.2 → (∀ z ∈ L, base ≤ z.base) → mr_w D b base cs s h' H1 → mr_lv b base lv' ls c.maxLocals → W p l e R s m args below meth c H1 (locs ++ L) cells slots Q (F0 m pc' ls (st'.map (mr_v b base))) := fun H1 L e0 hL hw1 hl1 =>
    W.cs (by rw [e0]; omega) (by rw [e0]; omega) (kk H1 (locs ++ L) ls hw1 hl1 (fun z hz => (List.mem_append.mp hz).elim (hloc z) (hL z)))
  cases i with
  | iconst n =>
    simp only [mr_one] at ho
    split at ho
    · rename_i e0
      subst e0
      cases ho
      exact lv_iconst hx hb hd rfl (K0 rfl ls hl)
    · cases ho
  | bipush n =>
    simp only [mr_one] at ho
    split at ho
    · rename_i e0
      subst e0
      cases ho
      exact lv_bipush hx hb hd rfl (K0 rfl ls hl)
    · cases ho
  | sipush n =>
    simp only [mr_one] at ho
    split at ho
    · rename_i e0
      subst e0
      cases ho
      exact lv_sipush hx hb hd rfl (K0 rfl ls hl)
    · cases ho
  | lconst n =>
    simp only [mr_one] at ho
    split at ho
    · rename_i e0
      subst e0
      cases ho
      exact lv_lconst hx hb hd rfl (K0 rfl ls hl)
    · cases ho
  | ldc_w x =>
    simp only [mr_one] at ho
    split at ho
    · rename_i e0
      subst e0
      obtain ⟨v, h1, h2⟩ := Option.map_eq_some_iff.mp ho
      cases h2
      exact lv_ldcw hx hb hown (hts _ (mr_ik_ok hq h1)) hd (K0 rfl ls hl)
    · cases ho
  | ldc2_w x =>
    simp only [mr_one] at ho
    split at ho
    · rename_i e0
      subst e0
      obtain ⟨v, h1, h2⟩ := Option.map_eq_some_iff.mp ho
      cases h2
      exact lv_ldc2 hx hb hown (hts _ (mr_jk_ok hq h1)) hd (K0 rfl ls hl)
    · cases ho
  | iload_n k =>
    obtain ⟨x, e1, e2, hz⟩ := mr_ldi_inv (show _ = _ from ho)
    subst e1
    cases hz
    exact lv_iload_n hx hb hd rfl (hl.get e2 (fun z => by cases z)) (K0 rfl ls hl)
  | iload k =>
    obtain ⟨x, e1, e2, hz⟩ := mr_ldi_inv (show _ = _ from ho)
    subst e1
    cases hz
    exact lv_iload hx hb hd (hl.get e2 (fun z => by cases z)) (K0 rfl ls hl)
  | lload_n k =>
    obtain ⟨x, e1, e2, hz⟩ := mr_ldl_inv (show _ = _ from ho)
    subst e1
    cases hz
    exact lv_lload_n hx hb hd rfl (hl.get e2 (fun z => by cases z)) (K0 rfl ls hl)
  | lload k =>
    obtain ⟨x, e1, e2, hz⟩ := mr_ldl_inv (show _ = _ from ho)
    subst e1
    cases hz
    exact lv_lload hx hb hd (hl.get e2 (fun z => by cases z)) (K0 rfl ls hl)
  | aload_n k =>
    obtain ⟨x, e1, e2, hz, hn, hv⟩ := mr_lda_inv (show _ = _ from ho)
    subst e1
    cases hz
    obtain ⟨a, ha⟩ := hv b base
    have h1 := hl.get e2 hn
    rw [ha] at h1
    have h2 := K0 rfl ls hl
    rw [List.map_cons, ha] at h2
    exact lv_aload_n hx hb hd rfl h1 h2
  | istore_n k =>
    obtain ⟨x, r, lw, e1, e2, e3, hz⟩ := mr_sti_inv (show _ = _ from ho)
    subst e1
    subst e2
    cases hz
    exact lv_istore_n hx hb hd rfl hl.2 (by rw [← hl.1]; exact mr_set1_lt e3) rfl (fun ls1 hl1 => K0 rfl ls1 (hl.set1 e3 hl1))
  | istore k =>
    obtain ⟨x, r, lw, e1, e2, e3, hz⟩ := mr_sti_inv (show _ = _ from ho)
    subst e1
    subst e2
    cases hz
    exact lv_istore hx hb hd hl.2 (by rw [← hl.1]; exact mr_set1_lt e3) rfl (fun ls1 hl1 => K0 rfl ls1 (hl.set1 e3 hl1))
  | lstore_n k =>
    obtain ⟨x, r, lw, e1, e2, e3, hz⟩ := mr_stl_inv (show _ = _ from ho)
    subst e1
    subst e2
    cases hz
    exact lv_lstore_n hx hb hd rfl hl.2 (by rw [← hl.1]; exact mr_set2_lt e3) rfl (fun ls1 hl1 => K0 rfl ls1 (hl.set2 e3 hl1))
  | lstore k =>
    obtain ⟨x, r, lw, e1, e2, e3, hz⟩ := mr_stl_inv (show _ = _ from ho)
    subst e1
    subst e2
    cases hz
    exact lv_lstore hx hb hd hl.2 (by rw [← hl.1]; exact mr_set2_lt e3) rfl (fun ls1 hl1 => K0 rfl ls1 (hl.set2 e3 hl1))
  | astore_n k =>
    obtain ⟨x, r, lw, e1, e2, e3, hz⟩ := mr_sta_inv (show _ = _ from ho)
    subst e1
    subst e2
    cases hz
    exact lv_astore_n hx hb hd rfl hl.2 (by rw [← hl.1]; exact mr_set1_lt e3) rfl (fun ls1 hl1 => K0 rfl ls1 (hl.set1 e3 hl1))
  | iinc k n =>
    simp only [mr_one] at ho
    split at ho
    · rename_i e0
      subst e0
      split at ho
      · rename_i x e2
        obtain ⟨lw, h1, h2⟩ := Option.map_eq_some_iff.mp ho
        cases h2
        obtain ⟨j, hj⟩ := List.getElem?_of_mem (mr_lvl_mem (b := b) (base := base) e2 (fun z => by cases z))
        exact lv_iinc hx hb hd hl.2 hj rfl (by rw [← hl.1]; exact mr_set1_lt h1) rfl (fun ls1 hl1 => K0 rfl ls1 (hl.set1 h1 hl1))
      · cases ho
    · cases ho
  | iadd =>
    obtain ⟨x, y, r, e1, e2, hz⟩ := mr_b2_inv (show mr_b2 _ _ _ _ _ _ = _ from ho)
    subst e1
    subst e2
    cases hz
    exact lv_iadd hx hb hd (K0 rfl ls hl)
  | isub =>
    obtain ⟨x, y, r, e1, e2, hz⟩ := mr_b2_inv (show mr_b2 _ _ _ _ _ _ = _ from ho)
    subst e1
    subst e2
    cases hz
    exact lv_isub hx hb hd (K0 rfl ls hl)
  | imul =>
    obtain ⟨x, y, r, e1, e2, hz⟩ := mr_b2_inv (show mr_b2 _ _ _ _ _ _ = _ from ho)
    subst e1
    subst e2
    cases hz
    exact lv_imul hx hb hd (K0 rfl ls hl)
  | iand =>
    obtain ⟨x, y, r, e1, e2, hz⟩ := mr_b2_inv (show mr_b2 _ _ _ _ _ _ = _ from ho)
    subst e1
    subst e2
    cases hz
    exact lv_iand hx hb hd (K0 rfl ls hl)
  | ior =>
    obtain ⟨x, y, r, e1, e2, hz⟩ := mr_b2_inv (show mr_b2 _ _ _ _ _ _ = _ from ho)
    subst e1
    subst e2
    cases hz
    exact lv_ior hx hb hd (K0 rfl ls hl)
  | ixor =>
    obtain ⟨x, y, r, e1, e2, hz⟩ := mr_b2_inv (show mr_b2 _ _ _ _ _ _ = _ from ho)
    subst e1
    subst e2
    cases hz
    exact lv_ixor hx hb hd (K0 rfl ls hl)
  | ishl =>
    obtain ⟨x, y, r, e1, e2, hz⟩ := mr_b2_inv (show mr_b2 _ _ _ _ _ _ = _ from ho)
    subst e1
    subst e2
    cases hz
    exact lv_ishl hx hb hd (K0 rfl ls hl)
  | ishr =>
    obtain ⟨x, y, r, e1, e2, hz⟩ := mr_b2_inv (show mr_b2 _ _ _ _ _ _ = _ from ho)
    subst e1
    subst e2
    cases hz
    exact lv_ishr hx hb hd (K0 rfl ls hl)
  | iushr =>
    obtain ⟨x, y, r, e1, e2, hz⟩ := mr_b2_inv (show mr_b2 _ _ _ _ _ _ = _ from ho)
    subst e1
    subst e2
    cases hz
    exact lv_iushr hx hb hd rfl (K0 rfl ls hl)
  | ladd =>
    obtain ⟨x, y, r, e1, e2, hz⟩ := mr_l2_inv (show mr_l2 _ _ _ _ _ _ = _ from ho)
    subst e1
    subst e2
    cases hz
    exact lv_ladd hx hb hd (K0 rfl ls hl)
  | lmul =>
    obtain ⟨x, y, r, e1, e2, hz⟩ := mr_l2_inv (show mr_l2 _ _ _ _ _ _ = _ from ho)
    subst e1
    subst e2
    cases hz
    exact lv_lmul hx hb hd (K0 rfl ls hl)
  | idiv =>
    simp only [mr_one] at ho
    split at ho
    · split at ho
      · cases ho
      · rename_i hne
        obtain ⟨x, y, r, e1, e2, hz⟩ := mr_b2_inv ho
        subst e1
        cases e2
        cases hz
        exact lv_idiv hx hb hd hne (K0 rfl ls hl)
    · cases ho
  | irem =>
    simp only [mr_one] at ho
    split at ho
    · split at ho
      · cases ho
      · rename_i hne
        obtain ⟨x, y, r, e1, e2, hz⟩ := mr_b2_inv ho
        subst e1
        cases e2
        cases hz
        exact lv_irem hx hb hd hne (K0 rfl ls hl)
    · cases ho
  | ldiv =>
    simp only [mr_one] at ho
    split at ho
    · split at ho
      · cases ho
      · rename_i hne
        obtain ⟨x, y, r, e1, e2, hz⟩ := mr_l2_inv ho
        subst e1
        cases e2
        cases hz
        exact lv_ldiv hx hb hd hne (K0 rfl ls hl)
    · cases ho
  | lrem =>
    simp only [mr_one] at ho
    split at ho
    · split at ho
      · cases ho
      · rename_i hne
        obtain ⟨x, y, r, e1, e2, hz⟩ := mr_l2_inv ho
        subst e1
        cases e2
        cases hz
        exact lv_lrem hx hb hd hne (K0 rfl ls hl)
    · cases ho
  | lcmp =>
    simp only [mr_one] at ho
    split at ho
    · rename_i e0
      subst e0
      split at ho
      · cases ho; exact W.lcmp hx hb hd (K0 rfl ls hl)
      · cases ho
    · cases ho
  | i2l =>
    simp only [mr_one] at ho
    split at ho
    · rename_i e0
      subst e0
      split at ho
      · cases ho; exact lv_i2l hx hb hd rfl (K0 rfl ls hl)
      · cases ho
    · cases ho
  | l2i =>
    simp only [mr_one] at ho
    split at ho
    · rename_i e0
      subst e0
      split at ho
      · cases ho; exact lv_l2i hx hb hd rfl (K0 rfl ls hl)
      · cases ho
    · cases ho
  | dup =>
    simp only [mr_one] at ho
    split at ho
    · rename_i e0
      subst e0
      split at ho
      · split at ho
        · rename_i hc; cases ho; exact lv_dup hx hb hd (by rw [mr_v_cat]; exact hc) (K0 rfl ls hl)
        · cases ho
      · cases ho
    · cases ho
  | pop =>
    simp only [mr_one] at ho
    split at ho
    · rename_i e0
      subst e0
      split at ho
      · split at ho
        · rename_i hc; cases ho; exact lv_pop hx hb hd (by rw [mr_v_cat]; exact hc) (K0 rfl ls hl)
        · cases ho
      · cases ho
    · cases ho
  | dup2 =>
    simp only [mr_one] at ho
    split at ho
    · rename_i e0
      subst e0
      split at ho
      · split at ho
        · rename_i hc; cases ho; exact lv_dup2_11 hx hb hd (by rw [mr_v_cat]; exact hc.1) (by rw [mr_v_cat]; exact hc.2) (K0 rfl ls hl)
        · cases ho
      · cases ho
    · cases ho
  | goto off =>
    simp only [mr_one] at ho
    split at ho
    · rename_i e0
      subst e0
      obtain ⟨t, ht, hz⟩ := mr_jmp_inv ho
      cases hz
      exact lv_goto hx hb hd ht (K0 rfl ls hl)
    · cases ho
  | ifCond cnd off =>
    simp only [mr_one] at ho
    split at ho
    · rename_i e0
      obtain ⟨e1, e2⟩ := e0
      subst e1
      split at ho
      · rcases mr_ite_inv ho with ⟨hc, h2⟩ | ⟨hc, h2⟩
        · obtain ⟨t, ht, hz⟩ := mr_jmp_inv h2
          cases hz
          cases cnd
          · exact lv_if_eq hx hb hd ht (fun _ => K0 rfl ls hl) (fun z => absurd hc z)
          · exact lv_if_ne hx hb hd ht (fun _ => K0 rfl ls hl) (fun z => absurd z hc)
          · exact lv_if_lt hx hb hd ht (fun _ => K0 rfl ls hl) (fun z => absurd hc z)
          · exact lv_if_ge hx hb hd ht (fun _ => K0 rfl ls hl) (fun z => absurd hc z)
          · exact lv_if_gt hx hb hd ht (fun _ => K0 rfl ls hl) (fun z => absurd hc z)
          · exact lv_if_le hx hb hd ht (fun _ => K0 rfl ls hl) (fun z => absurd hc z)
        · cases h2
          cases cnd
          · exact lv_if_eq hx hb hd (Int.toNat_of_nonneg e2).symm (fun z => absurd z hc) (fun _ => K0 rfl ls hl)
          · exact lv_if_ne hx hb hd (Int.toNat_of_nonneg e2).symm (fun z => absurd z hc) (fun _ => K0 rfl ls hl)
          · exact lv_if_lt hx hb hd (Int.toNat_of_nonneg e2).symm (fun z => absurd z hc) (fun _ => K0 rfl ls hl)
          · exact lv_if_ge hx hb hd (Int.toNat_of_nonneg e2).symm (fun z => absurd z hc) (fun _ => K0 rfl ls hl)
          · exact lv_if_gt hx hb hd (Int.toNat_of_nonneg e2).symm (fun z => absurd z hc) (fun _ => K0 rfl ls hl)
          · exact lv_if_le hx hb hd (Int.toNat_of_nonneg e2).symm (fun z => absurd z hc) (fun _ => K0 rfl ls hl)
      · cases ho
    · cases ho
  | if_icmp cnd off =>
    simp only [mr_one] at ho
    split at ho
    · rename_i e0
      obtain ⟨e1, e2⟩ := e0
      subst e1
      split at ho
      · rcases mr_ite_inv ho with ⟨hc, h2⟩ | ⟨hc, h2⟩
        · obtain ⟨t, ht, hz⟩ := mr_jmp_inv h2
          cases hz
          cases cnd
          · exact lv_icmp_eq hx hb hd ht (fun _ => K0 rfl ls hl) (fun z => absurd hc z)
          · exact lv_icmp_ne hx hb hd ht (fun _ => K0 rfl ls hl) (fun z => absurd z hc)
          · exact lv_icmp_lt hx hb hd ht (fun _ => K0 rfl ls hl) (fun z => absurd hc z)
          · exact lv_icmp_ge hx hb hd ht (fun _ => K0 rfl ls hl) (fun z => absurd hc z)
          · exact lv_icmp_gt hx hb hd ht (fun _ => K0 rfl ls hl) (fun z => absurd hc z)
          · exact lv_icmp_le hx hb hd ht (fun _ => K0 rfl ls hl) (fun z => absurd hc z)
        · cases h2
          cases cnd
          · exact lv_icmp_eq hx hb hd (Int.toNat_of_nonneg e2).symm (fun z => absurd z hc) (fun _ => K0 rfl ls hl)
          · exact lv_icmp_ne hx hb hd (Int.toNat_of_nonneg e2).symm (fun z => absurd z hc) (fun _ => K0 rfl ls hl)
          · exact lv_icmp_lt hx hb hd (Int.toNat_of_nonneg e2).symm (fun z => absurd z hc) (fun _ => K0 rfl ls hl)
          · exact lv_icmp_ge hx hb hd (Int.toNat_of_nonneg e2).symm (fun z => absurd z hc) (fun _ => K0 rfl ls hl)
          · exact lv_icmp_gt hx hb hd (Int.toNat_of_nonneg e2).symm (fun z => absurd z hc) (fun _ => K0 rfl ls hl)
          · exact lv_icmp_le hx hb hd (Int.toNat_of_nonneg e2).symm (fun z => absurd z hc) (fun _ => K0 rfl ls hl)
      · cases ho
    · cases ho
  | tableswitch d lo hi offs =>
    simp only [mr_one] at ho
    split at ho
    · split at ho
      · rename_i hc
        obtain ⟨t, ht, hz⟩ := mr_jmp_inv ho
        cases hz
        exact lv_tableOut hx hb hd hc ht (K0 rfl ls hl)
      · rename_i hc
        split at ho
        · rename_i o eo
          obtain ⟨t, ht, hz⟩ := mr_jmp_inv ho
          cases hz
          exact lv_tableIn hx hb hd (fun z => hc (Or.inl z)) (fun z => hc (Or.inr z)) eo ht (K0 rfl ls hl)
        · cases ho
    · cases ho
  | lookupswitch d ps =>
    simp only [mr_one] at ho
    split at ho
    · split at ho
      · rename_i hc
        obtain ⟨t, ht, hz⟩ := mr_jmp_inv ho
        cases hz
        exact lv_lookup hx hb hd hc rfl ht (K0 rfl ls hl)
      · cases ho
    · cases ho
  | getfield x =>
    simp only [mr_one, mr_get] at ho
    split at ho
    · rename_i e0
      subst e0
      split at ho
      · split at ho
        · rename_i ha hg
          split at ho
          · rename_i ec
            subst ec
            obtain ⟨v, h1, h2⟩ := Option.map_eq_some_iff.mp ho
            cases h2
            exact mr_r_get hX hq hw ha hg h1 hd (K0 rfl ls hl)
          · cases ho
        · cases ho
      · cases ho
    · cases ho
  | putfield x =>
    simp only [mr_one, mr_put] at ho
    split at ho
    · rename_i e0
      subst e0
      split at ho
      · split at ho
        · rename_i ha hg
          split at ho
          · rename_i ec
            obtain ⟨ec, h1, h2, h3⟩ := ec
            subst ec
            cases ho
            exact mr_r_put hX hq hw ha hg h1 h2 h3 hd (fun H1 f hw1 => KL H1 _ rfl (fun z hz => by rw [List.mem_singleton.mp hz]; exact Nat.le_add_right _ _) hw1 hl)
          · cases ho
        · cases ho
      · cases ho
    · cases ho
  | iaload =>
    simp only [mr_one, mr_ald] at ho
    split at ho
    · rename_i e0
      subst e0
      split at ho
      · split at ho
        · rename_i ha
          split at ho
          · cases ho
          · rename_i hc
            cases ho
            exact mr_r_iald hX hw ha hc hd (K0 rfl ls hl)
        · cases ho
      · split at ho
        · cases ho
        · rename_i hc
          cases ho
          exact mr_r_sld hX hw hc hd (K0 rfl ls hl)
      · cases ho
    · cases ho
  | iastore =>
    simp only [mr_one, mr_ast] at ho
    split at ho
    · rename_i e0
      subst e0
      split at ho
      · split at ho
        · rename_i ha
          split at ho
          · cases ho
          · rename_i hc
            cases ho
            exact mr_r_iast hX hw ha hc hd (fun H1 f hw1 => KL H1 _ rfl (fun z hz => by rw [List.mem_singleton.mp hz]; exact Nat.le_add_right _ _) hw1 hl)
        · cases ho
      · cases ho
    · cases ho
  | laload =>
    simp only [mr_one, mr_lld] at ho
    split at ho
    · rename_i e0
      subst e0
      split at ho
      · split at ho
        · rename_i ha
          split at ho
          · cases ho
          · rename_i hc
            cases ho
            exact mr_r_lald hX hw ha hc hd (K0 rfl ls hl)
        · cases ho
      · cases ho
    · cases ho
  | lastore =>
    simp only [mr_one, mr_lst] at ho
    split at ho
    · rename_i e0
      subst e0
      split at ho
      · split at ho
        · rename_i ha
          split at ho
          · cases ho
          · rename_i hc
            cases ho
            exact mr_r_last hX hw ha hc hd (fun H1 f hw1 => KL H1 _ rfl (fun z hz => by rw [List.mem_singleton.mp hz]; exact Nat.le_add_right _ _) hw1 hl)
        · cases ho
      · cases ho
    · cases ho
  | baload =>
    simp only [mr_one, mr_zld] at ho
    split at ho
    · rename_i e0
      subst e0
      split at ho
      · split at ho
        · rename_i ha
          split at ho
          · cases ho
          · rename_i hc
            cases ho
            exact mr_r_zald hX hw ha hc hd (K0 rfl ls hl)
        · cases ho
      · cases ho
    · cases ho
  | bastore =>
    simp only [mr_one, mr_zst] at ho
    split at ho
    · rename_i e0
      subst e0
      split at ho
      · split at ho
        · rename_i ha
          split at ho
          · cases ho
          · rename_i hc
            cases ho
            exact mr_r_zast hX hw ha hc hd (fun H1 f hw1 => KL H1 _ rfl (fun z hz => by rw [List.mem_singleton.mp hz]; exact Nat.le_add_right _ _) hw1 hl)
        · cases ho
      · cases ho
    · cases ho
  | aaload =>
    simp only [mr_one, mr_qld] at ho
    split at ho
    · rename_i e0
      subst e0
      split at ho
      · split at ho
        · rename_i ha
          split at ho
          · cases ho
          · rename_i hc
            obtain ⟨k, h1, h2⟩ := Option.map_eq_some_iff.mp ho
            cases h2
            exact mr_r_qald hX hw ha hc h1 hd (K0 rfl ls hl)
        · cases ho
      · cases ho
    · cases ho
  | aastore =>
    simp only [mr_one, mr_qst] at ho
    split at ho
    · rename_i e0
      subst e0
      split at ho
      · split at ho
        · rename_i ha hv
          split at ho
          · cases ho
          · rename_i hc
            cases ho
            exact mr_r_qast hX hw ha hv hc hd (fun H1 f hw1 => KL H1 _ rfl (fun z hz => by rw [List.mem_singleton.mp hz]; exact Nat.le_add_right _ _) hw1 hl)
        · cases ho
      · cases ho
    · cases ho
  | arraylength =>
    simp only [mr_one] at ho
    split at ho
    · rename_i e0
      subst e0
      split at ho
      · cases ho; exact mr_r_slen hX hw hd (K0 rfl ls hl)
      · cases ho
    · cases ho
  | new x =>
    simp only [mr_one, mr_new] at ho
    split at ho
    · rename_i e0
      subst e0
      obtain ⟨ci, h1, h2⟩ := Option.map_eq_some_iff.mp ho
      cases h2
      have e1 : (mr_add h (mr_N ci) (.inl (ci, mr_dfs ci))).2.1 - h.2.1 = 1 := by show h.2.1 + 1 - h.2.1 = 1; omega
      have e2 : (mr_add h (mr_N ci) (.inl (ci, mr_dfs ci))).2.2.1 - h.2.2.1 = mr_N ci := by show h.2.2.1 + mr_N ci - h.2.2.1 = _; omega
      rw [e1] at hcs
      rw [e2] at hss
      rw [e1, e2] at kk
      exact mr_r_new hX hq hw h1 hcs hss hd (fun H1 hw1 => kk H1 locs ls hw1 hl hloc)
    · cases ho
  | newarray t =>
    simp only [mr_one, mr_nar] at ho
    split at ho
    · rename_i e0
      subst e0
      split at ho
      · rename_i n r
        split at ho
        · cases ho
        · rename_i hc
          have hn : ¬ n < 0 := fun z => hc (Or.inl z)
          have hn2 : n.toNatClampNeg ≤ 10000 := Nat.not_lt.mp fun z => hc (Or.inr z)
          split at ho
          · cases ho
            have e1 : ∀ ce, (mr_add h n.toNatClampNeg ce).2.1 - h.2.1 = 1 := fun ce => by show h.2.1 + 1 - h.2.1 = 1; omega
            have e2 : ∀ ce, (mr_add h n.toNatClampNeg ce).2.2.1 - h.2.2.1 = n.toNatClampNeg := fun ce => by show h.2.2.1 + n.toNatClampNeg - h.2.2.1 = _; omega
            rw [e1] at hcs
            rw [e2] at hss
            rw [e1, e2] at kk
            exact mr_r_nar hX hw (ty := .int) (mr_tt_in mr_w_aI rfl) rfl (hX.2.2.2.2.2.1.1.2 0 _ rfl).2 rfl rfl hn hn2 (by decide) hcs hss hd (fun H1 hw1 => kk H1 locs ls hw1 hl hloc)
          · cases ho
            have e1 : ∀ ce, (mr_add h n.toNatClampNeg ce).2.1 - h.2.1 = 1 := fun ce => by show h.2.1 + 1 - h.2.1 = 1; omega
            have e2 : ∀ ce, (mr_add h n.toNatClampNeg ce).2.2.1 - h.2.2.1 = n.toNatClampNeg := fun ce => by show h.2.2.1 + n.toNatClampNeg - h.2.2.1 = _; omega
            rw [e1] at hcs
            rw [e2] at hss
            rw [e1, e2] at kk
            exact mr_r_nar hX hw (ty := .long) (mr_tt_in mr_w_aJ rfl) rfl (hX.2.2.2.2.2.1.1.2 1 _ rfl).2 rfl rfl hn hn2 (by decide) hcs hss hd (fun H1 hw1 => kk H1 locs ls hw1 hl hloc)
          · cases ho
            have e1 : ∀ ce, (mr_add h n.toNatClampNeg ce).2.1 - h.2.1 = 1 := fun ce => by show h.2.1 + 1 - h.2.1 = 1; omega
            have e2 : ∀ ce, (mr_add h n.toNatClampNeg ce).2.2.1 - h.2.2.1 = n.toNatClampNeg := fun ce => by show h.2.2.1 + n.toNatClampNeg - h.2.2.1 = _; omega
            rw [e1] at hcs
            rw [e2] at hss
            rw [e1, e2] at kk
            exact mr_r_nar hX hw (ty := .boolean) (mr_tt_in mr_w_aZ rfl) rfl (hX.2.2.2.2.2.1.1.2 2 _ rfl).2 rfl rfl hn hn2 (by decide) hcs hss hd (fun H1 hw1 => kk H1 locs ls hw1 hl hloc)
          · cases ho
      · cases ho
    · cases ho
  | anewarray x =>
    simp only [mr_one, mr_naq] at ho
    split at ho
    · rename_i e0
      subst e0
      split at ho
      · rename_i n r
        split at ho
        · cases ho
        · rename_i hc
          split at ho
          · rename_i h1
            cases ho
            have e1 : ∀ ce, (mr_add h n.toNatClampNeg ce).2.1 - h.2.1 = 1 := fun ce => by show h.2.1 + 1 - h.2.1 = 1; omega
            have e2 : ∀ ce, (mr_add h n.toNatClampNeg ce).2.2.1 - h.2.2.1 = n.toNatClampNeg := fun ce => by show h.2.2.1 + n.toNatClampNeg - h.2.2.1 = _; omega
            rw [e1] at hcs
            rw [e2] at hss
            rw [e1, e2] at kk
            exact mr_r_naq hX hq hw h1 (fun z => hc (Or.inl z)) (Nat.not_lt.mp fun z => hc (Or.inr z)) hcs hss hd (fun H1 hw1 => kk H1 locs ls hw1 hl hloc)
          · cases ho
      · cases ho
    · cases ho
  | invokestatic x =>
    have hfr := hX.2.2.2.2.2.2.1
    have hlo := hX.2.2.2.2.2.2.2.1
    simp only [mr_one, mr_sta3] at ho
    split at ho
    · rename_i e0
      subst e0
      split at ho
      · rename_i ht
        have hh1 := mr_tl_hg hq ht
        split at ho
        · rename_i ha0 ha1
          split at ho
          · rename_i hc
            obtain ⟨c0, c1, c2, c3, c4, c5, c6⟩ := hc
            cases ho
            exact mr_r_copy hX hq hw hl.2.1 ht ha0 ha1 c1 c2 c3 c4 c5 (mr_stk_sum c6) hh1 (by decide +kernel) hd (fun H1 L hL hw1 => KL H1 L rfl (fun z hz => by rw [hL z hz]; exact Nat.le_add_right _ _) hw1 hl)
          · cases ho
        · cases ho
      · rename_i ht
        have hh1 := mr_tl_hg hq ht
        split at ho
        · rename_i hc
          cases ho
          have hsum := mr_stk_sum (b := b) (base := base) hc
          exact va_mmax hx hb hl.2.1.symm hown (hts _ (mr_tl_sys hq ht (by decide))) (hts _ (mr_tt_in mr_w_smax rfl)) (hts _ (mr_tt_in mr_w_math rfl)) (hts _ (mr_tt_in mr_w_max rfl)) (by omega) (by omega) hcr hsr hd (K0 rfl ls hl)
        · cases ho
      · rename_i ht
        have hh1 := mr_tl_hg hq ht
        split at ho
        · rename_i hc
          cases ho
          have hsum := mr_stk_sum (b := b) (base := base) hc
          exact va_mmin hx hb hl.2.1.symm hown (hts _ (mr_tl_sys hq ht (by decide))) (hts _ (mr_tt_in mr_w_smin rfl)) (hts _ (mr_tt_in mr_w_math rfl)) (hts _ (mr_tt_in mr_w_min rfl)) (by omega) (by omega) hcr hsr hd (K0 rfl ls hl)
        · cases ho
      · cases ho
    · cases ho
  | invokespecial x =>
    have hfr := hX.2.2.2.2.2.2.1
    have hlo := hX.2.2.2.2.2.2.2.1
    simp only [mr_one, mr_spe] at ho
    split at ho
    · rename_i e0
      subst e0
      split at ho
      · rename_i ht
        have hh1 := mr_tl_hg hq ht
        split at ho
        · rename_i hc
          cases ho
          have hsum := mr_stk_sum (b := b) (base := base) hc
          exact W.objInit hx hb hown (hts _ (mr_tl_sys hq ht (by decide))) (hts _ (mr_tt_in mr_w_oin rfl)) (hts _ (mr_tt_in mr_w_obj rfl)) rfl hl.2.1 rfl hd (by omega) (by show 2 * 0 + _ + 12 ≤ _; omega) (K0 rfl ls hl)
        · cases ho
      · cases ho
    · cases ho
  | _ => simp [mr_one] at ho
end MRS
