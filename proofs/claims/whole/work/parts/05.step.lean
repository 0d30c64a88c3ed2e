/-! one instruction of the mirror is one of the machine's -/
def mr_x (p : Program) (R : Room) (s : State) (m : MethodId) (args : Array Value) (meth : Method) (c : Code) (D : va_G) (cs : mr_q) (q : mr_R) : Prop :=
  p.tables.exec = Jvm.exec ∧ c.code = mr_bytes q ∧ c.maxLocals = mr_maxL q ∧ s.vm.findClass (mr_name q.1) = some m.cls ∧ (∀ w ∈ mr_tt, w.before args s = true) ∧ mr_K D cs s ∧ mr_hg q ≤ R.frames ∧ 36 * mr_hg q ≤ R.locals ∧ (mr_kd q = 2 → meth.name = "<init>")
theorem mr_lt31 {i : Int32} {n : Nat} (h : ¬ (i < 0 ∨ n ≤ i.toNatClampNeg)) : vp_in i n := h
theorem mr_cl_at {n : Nat} (h : n < 12) : mr_cl[n]? = some (mr_name n, mr_T n, mr_N n) := by
  simp [mr_cl, h]
theorem mr_Y {n : Nat} (h : n < 12) : (∀ w ∈ u_ws (mr_name n) (mr_T n) (mr_N n), w ∈ mr_tt) ∧ (∀ k, k < mr_N n → parseFieldDescriptor (mr_T n k).2.2.1 = some (mr_ty n k)) ∧
    (∀ a, a < mr_N n → ∀ b, b < mr_N n → a ≠ b → (mr_T n a).2.1 ≠ (mr_T n b).2.1) ∧ (∀ k, k < mr_N n → (mr_T n k).1 = mr_name n) := by
  have h1 := List.all_eq_true.mp mr_okY_all n (List.mem_range.mpr h)
  simp only [mr_okY, Bool.and_eq_true, decide_eq_true_eq] at h1
  obtain ⟨⟨⟨h2, h3⟩, h4⟩, h5⟩ := h1
  refine ⟨fun w hw => ?_, h3, h4, h5⟩
  have h6 : some w ∈ (mr_lp.getD n []).map (fun i => lw_tbl[i]?) := by rw [h2]; exact List.mem_map.mpr ⟨w, hw, rfl⟩
  obtain ⟨i, -, hi⟩ := List.mem_map.mp h6
  refine mr_tt_in (List.mem_of_getElem? hi) ?_
  obtain ⟨k, -, rfl⟩ := List.mem_map.mp hw
  unfold u_lay
  split <;> rfl
theorem mr_gl_ok {M x ci k : Nat} {q : mr_R} (hq : mr_M[M]? = some q) (h : mr_gl M x = some (ci, k)) : ci < 12 ∧ k < mr_N ci ∧ (Cond.fieldLink (mr_name q.1) x (mr_name ci) (mr_T ci k).2.1 (mr_T ci k).2.2.1) ∈ mr_tt := by
  unfold mr_gl at h
  obtain ⟨e, he, h2⟩ := Option.map_eq_some_iff.mp h
  have h3 := List.mem_of_find?_eq_some he
  have h4 := List.find?_some he
  have h5 := List.all_eq_true.mp mr_okF_all e h3
  simp only [mr_own, hq, Bool.and_eq_true, beq_iff_eq] at h4
  simp only [mr_okF, Bool.and_eq_true, decide_eq_true_eq] at h5
  cases h2
  obtain ⟨e1, e2⟩ := h4
  rw [e1, e2] at h5
  exact ⟨h5.2, h5.1.2, mr_tt_in (List.mem_of_getElem? h5.1.1) rfl⟩
theorem mr_nl_ok {M x ci : Nat} {q : mr_R} (hq : mr_M[M]? = some q) (h : mr_nl M x = some ci) : ci < 12 ∧ (Cond.classLink (mr_name q.1) x (mr_name ci)) ∈ mr_tt ∧ (Cond.instantiable (mr_name ci) (mr_N ci)) ∈ mr_tt ∧ (Cond.initialized (mr_name ci)) ∈ mr_tt := by
  unfold mr_nl at h
  obtain ⟨e, he, h2⟩ := Option.map_eq_some_iff.mp h
  have h3 := List.mem_of_find?_eq_some he
  have h4 := List.find?_some he
  have h5 := List.all_eq_true.mp mr_okC_all e h3
  simp only [mr_own, hq, Bool.and_eq_true, beq_iff_eq] at h4
  simp only [mr_okC, Bool.and_eq_true, decide_eq_true_eq] at h5
  cases h2
  obtain ⟨e1, e2⟩ := h4
  rw [e1, e2] at h5
  exact ⟨h5.2, mr_tt_in (List.mem_of_getElem? h5.1.1.1) rfl, mr_tt_in (List.mem_of_getElem? h5.1.1.2) rfl, mr_tt_in (List.mem_of_getElem? h5.1.2) rfl⟩
theorem mr_ik_ok {M x : Nat} {v : Int32} {q : mr_R} (hq : mr_M[M]? = some q) (h : mr_ik M x = some v) : (Cond.constant (mr_name q.1) x v) ∈ mr_tt := by
  unfold mr_ik at h
  obtain ⟨e, he, h2⟩ := Option.map_eq_some_iff.mp h
  have h3 := List.mem_of_find?_eq_some he
  have h4 := List.find?_some he
  have h5 := List.all_eq_true.mp mr_kI_all e h3
  simp only [mr_own, hq, Bool.and_eq_true, beq_iff_eq] at h4
  simp only [decide_eq_true_eq] at h5
  cases h2
  obtain ⟨e1, e2⟩ := h4
  rw [e1, e2] at h5
  exact mr_tt_in (List.mem_of_getElem? h5) rfl
theorem mr_jk_ok {M x : Nat} {v : Int64} {q : mr_R} (hq : mr_M[M]? = some q) (h : mr_jk M x = some v) : (Cond.constantLong (mr_name q.1) x v) ∈ mr_tt := by
  unfold mr_jk at h
  obtain ⟨e, he, h2⟩ := Option.map_eq_some_iff.mp h
  have h3 := List.mem_of_find?_eq_some he
  have h4 := List.find?_some he
  have h5 := List.all_eq_true.mp mr_kJ_all e h3
  simp only [mr_own, hq, Bool.and_eq_true, beq_iff_eq] at h4
  simp only [decide_eq_true_eq] at h5
  cases h2
  obtain ⟨e1, e2⟩ := h4
  rw [e1, e2] at h5
  exact mr_tt_in (List.mem_of_getElem? h5) rfl
theorem mr_tl_hg {M x t : Nat} {q : mr_R} (hq : mr_M[M]? = some q) (h : mr_tl M x = some t) : 1 ≤ mr_hg q := by
  unfold mr_tl at h
  split at h
  · rename_i h1
    simpa [mr_hgt, hq] using h1
  · cases h
/-- a link is a word of the tables, or a nest mate's -/
theorem mr_tl_ok {M x t : Nat} {q : mr_R} {D : va_G} {cs : mr_q} {U : State} (hq : mr_M[M]? = some q) (h : mr_tl M x = some t) (hK : mr_K D cs U) :
    (Cond.methodLink (mr_name q.1) x (mr_yOf t)) ∈ mr_tt ∨ va_Nw (.methodLinkNest (mr_name q.1) x (mr_yOf t) "ReachLabels") U := by
  unfold mr_tl at h
  have h1m : 1 ≤ mr_hgt M := by
    by_cases z : 1 ≤ mr_hgt M
    · exact z
    · rw [if_neg z] at h
      cases h
  rw [if_pos h1m] at h
  obtain ⟨e, he, h2⟩ := Option.map_eq_some_iff.mp h
  have h3 := List.mem_of_find?_eq_some he
  have h4 := List.find?_some he
  have h5 := List.all_eq_true.mp mr_okL_all e h3
  simp only [mr_own, hq, Bool.and_eq_true, beq_iff_eq] at h4
  cases h2
  obtain ⟨e1, e2⟩ := h4
  unfold mr_okL at h5
  split at h5
  · rw [e1, e2] at h5
    exact Or.inl (mr_tt_in (List.mem_of_getElem? (of_decide_eq_true h5)) rfl)
  · rename_i hn
    have := hK.2.1 e h3 hn
    rw [e1, e2] at this
    exact Or.inr this
theorem mr_b2_inv {len pc : Nat} {lv st : List Value} {h : mr_h} {f : Int32 → Int32 → Int32} {z : mr_n} (H : mr_b2 len pc lv st h f = some z) : ∃ (x y : Int32) (r : List Value), len = 1 ∧ st = .int y :: .int x :: r ∧ z = (pc + 1, lv, .int (f x y) :: r, h) := by
  unfold mr_b2 at H
  split at H
  · rename_i e
    split at H
    · cases H; exact ⟨_, _, _, e, rfl, rfl⟩
    · cases H
  · cases H
theorem mr_l2_inv {len pc : Nat} {lv st : List Value} {h : mr_h} {f : Int64 → Int64 → Int64} {z : mr_n} (H : mr_l2 len pc lv st h f = some z) : ∃ (x y : Int64) (r : List Value), len = 1 ∧ st = .long y :: .long x :: r ∧ z = (pc + 1, lv, .long (f x y) :: r, h) := by
  unfold mr_l2 at H
  split at H
  · rename_i e
    split at H
    · cases H; exact ⟨_, _, _, e, rfl, rfl⟩
    · cases H
  · cases H
theorem mr_ldi_inv {len l pc k : Nat} {lv st : List Value} {h : mr_h} {z : mr_n} (H : mr_ldi len l pc k lv st h = some z) : ∃ x : Int32, len = l ∧ lv[k]? = some (.int x) ∧ z = (pc + l, lv, .int x :: st, h) := by
  unfold mr_ldi at H
  split at H
  · rename_i e
    split at H
    · rename_i e2; cases H; exact ⟨_, e, e2, rfl⟩
    · cases H
  · cases H
theorem mr_ldl_inv {len l pc k : Nat} {lv st : List Value} {h : mr_h} {z : mr_n} (H : mr_ldl len l pc k lv st h = some z) : ∃ x : Int64, len = l ∧ lv[k]? = some (.long x) ∧ z = (pc + l, lv, .long x :: st, h) := by
  unfold mr_ldl at H
  split at H
  · rename_i e
    split at H
    · rename_i e2; cases H; exact ⟨_, e, e2, rfl⟩
    · cases H
  · cases H
theorem mr_lda_inv {len l pc k : Nat} {lv st : List Value} {h : mr_h} {z : mr_n} (H : mr_lda len l pc k lv st h = some z) : ∃ x : Value, len = l ∧ lv[k]? = some x ∧ z = (pc + l, lv, x :: st, h) ∧ x ≠ Value.null ∧ ∀ b base, ∃ a, mr_v b base x = .ref a := by
  unfold mr_lda at H
  split at H
  · rename_i e
    split at H
    · rename_i e2; cases H; exact ⟨_, e, e2, rfl, (fun h => by cases h), fun _ _ => ⟨_, rfl⟩⟩
    · rename_i e2; cases H; exact ⟨_, e, e2, rfl, (fun h => by cases h), fun _ _ => ⟨_, rfl⟩⟩
    · cases H
  · cases H
theorem mr_sti_inv {len l pc k : Nat} {lv st : List Value} {h : mr_h} {z : mr_n} (H : mr_sti len l pc k lv st h = some z) : ∃ (x : Int32) (r lv' : List Value), len = l ∧ st = .int x :: r ∧ mr_set1 lv k (.int x) = some lv' ∧ z = (pc + l, lv', r, h) := by
  unfold mr_sti at H
  split at H
  · rename_i e
    split at H
    · obtain ⟨lv', h1, h2⟩ := Option.map_eq_some_iff.mp H; exact ⟨_, _, lv', e, rfl, h1, h2.symm⟩
    · cases H
  · cases H
theorem mr_stl_inv {len l pc k : Nat} {lv st : List Value} {h : mr_h} {z : mr_n} (H : mr_stl len l pc k lv st h = some z) : ∃ (x : Int64) (r lv' : List Value), len = l ∧ st = .long x :: r ∧ mr_set2 lv k (.long x) = some lv' ∧ z = (pc + l, lv', r, h) := by
  unfold mr_stl at H
  split at H
  · rename_i e
    split at H
    · obtain ⟨lv', h1, h2⟩ := Option.map_eq_some_iff.mp H; exact ⟨_, _, lv', e, rfl, h1, h2.symm⟩
    · cases H
  · cases H
theorem mr_sta_inv {len l pc k : Nat} {lv st : List Value} {h : mr_h} {z : mr_n} (H : mr_sta len l pc k lv st h = some z) : ∃ (x : Nat) (r lv' : List Value), len = l ∧ st = .ref x :: r ∧ mr_set1 lv k (.ref x) = some lv' ∧ z = (pc + l, lv', r, h) := by
  unfold mr_sta at H
  split at H
  · rename_i e
    split at H
    · obtain ⟨lv', h1, h2⟩ := Option.map_eq_some_iff.mp H; exact ⟨_, _, lv', e, rfl, h1, h2.symm⟩
    · cases H
  · cases H
theorem mr_jmp_inv {pc : Nat} {off : Int} {lv st : List Value} {h : mr_h} {z : mr_n} (H : mr_jmp pc off lv st h = some z) : ∃ t : Nat, (pc : Int) + off = (t : Int) ∧ z = (t, lv, st, h) := by
  unfold mr_jmp at H
  split at H
  · rename_i e; cases H; exact ⟨_, (Int.toNat_of_nonneg e).symm, rfl⟩
  · cases H
theorem mr_ite_inv {c : ClassFile.Cond} {x y : Int32} {a b : Option mr_n} {z : mr_n} (H : mr_ite c x y a b = some z) : (mr_cmp c x y ∧ a = some z) ∨ (¬ mr_cmp c x y ∧ b = some z) := by
  unfold mr_ite at H
  split at H
  · rename_i e _; exact Or.inl ⟨e, H⟩
  · rename_i e _; exact Or.inr ⟨e, H⟩
