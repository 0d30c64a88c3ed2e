/-! derive; counts: the class -/
theorem cl_cong {f g : Nat → Int32} {n : Nat} (h : ∀ u, u < n → f u = g u) : ∀ k, k ≤ n → ∀ j, j < n → cl f k j = cl g k j
  | 0, _, j, hj => h j hj
  | k + 1, hk, j, hj => by
    have ih := cl_cong h k (by omega)
    show cw k (cl f k) j = cw k (cl g k) j
    unfold cw
    rw [ih j hj, ih k (by omega)]
theorem RR_cong {f g : Nat → Int32} {n : Nat} (h : ∀ u, u < n → f u = g u) {j : Nat} (hj : j < n) : RR f n j = RR g n j := cl_cong (fun u hu => by rw [h u hu]) n (Nat.le_refl n) j hj
theorem cpy_n {a b n n0 n1 : Nat} {f g : Nat → Int32} {K : mr_c → Prop} (hab : ¬ a = b) (h0 : n ≤ n0) (h1 : n ≤ n1) (hb : n0 ≤ 1000) : mr_cpy (mr_I n1 g) (mr_I n0 f) a b 0 0 (nI n) K = K (mr_I n1 (va_cpy f g 0 0 n)) := by
  have e : (nI n).toNatClampNeg = n := nI_clamp (by omega)
  rw [mr_cpy_I hab (by decide) (by decide) (nI_pos (by omega)) (by rw [e]; show 0 + n ≤ n0; omega) (by rw [e]; show 0 + n ≤ n1; omega), e]
  rfl
theorem va_cpy_in {f g : Nat → Int32} {n j : Nat} (h : j < n) : va_cpy f g 0 0 n j = f j := by
  rw [pk_cpy_in (Nat.zero_le j) (by omega)]
  simp
/-- what derive leaves behind -/
def DV (h : mr_h) (E K : Nat → Int32) (n : Nat) : Prop := h.1 9 = RE n (Ns E n) ∧ ∃ A B C I O R L : Nat → Int32, h.1 10 = mr_I 12 A ∧ h.1 11 = mr_I 12 B ∧ h.1 12 = mr_I 12 C ∧ h.1 13 = mr_I 12 I ∧ h.1 14 = mr_I 12 O ∧ h.1 15 = mr_I 12 R ∧ h.1 16 = mr_I 12 L ∧
  (∀ j, j < n → A j = RR E n j) ∧ (∀ j, j < n → B j = Bh E n j) ∧ (∀ j, j < n → C j = nI (Nm E n j)) ∧ (∀ j, j < n → I j = In E K n j) ∧ (∀ j, j < n → O j = Ot E K n j) ∧ (∀ j, j < n → R j = rkk E K n j) ∧ (∀ j, j < n → L j = LRm E K n j)
/-- the shape of the object -/
def DS (h : mr_h) : Prop := ∃ (n0 : Nat) (nm : Int32) (A B C I O R L : Nat → Int32), h.1 9 = RE n0 nm ∧ h.1 10 = mr_I 12 A ∧ h.1 11 = mr_I 12 B ∧ h.1 12 = mr_I 12 C ∧ h.1 13 = mr_I 12 I ∧ h.1 14 = mr_I 12 O ∧ h.1 15 = mr_I 12 R ∧ h.1 16 = mr_I 12 L
theorem DV_DS {h : mr_h} {E K : Nat → Int32} {n : Nat} (hd : DV h E K n) : DS h := by
  obtain ⟨e9, A, B, C, I, O, R, L, e10, e11, e12, e13, e14, e15, e16, -⟩ := hd
  exact ⟨_, _, A, B, C, I, O, R, L, e9, e10, e11, e12, e13, e14, e15, e16⟩
theorem DV_fr {h h1 : mr_h} {E K : Nat → Int32} {n : Nat} {M : List Nat} (hd : DV h E K n) (f : mr_fr h h1 M) (hM : ∀ a ∈ [9, 10, 11, 12, 13, 14, 15, 16], a ∉ M) : DV h1 E K n := by
  obtain ⟨e9, A, B, C, I, O, R, L, e10, e11, e12, e13, e14, e15, e16, rest⟩ := hd
  exact ⟨fr_at f (hM 9 (by decide)) e9, A, B, C, I, O, R, L, fr_at f (hM 10 (by decide)) e10, fr_at f (hM 11 (by decide)) e11, fr_at f (hM 12 (by decide)) e12, fr_at f (hM 13 (by decide)) e13, fr_at f (hM 14 (by decide)) e14, fr_at f (hM 15 (by decide)) e15, fr_at f (hM 16 (by decide)) e16, rest⟩
section DERIVE
variable {h : mr_h} {Q : Option Value → mr_h → Prop} {n : Nat} {E K : Nat → Int32}
theorem q_re_derive (hE : nt E n) (e1 : h.1 1 = NE 1 n) (e2 : h.1 2 = mr_I 12 E) (e3 : h.1 3 = mr_I 12 K) (hs : DS h) (kk : ∀ h2, mr_fr h h2 [9, 10, 11, 12, 13, 14, 15, 16] → DV h2 E K n → Q none h2) : mr_run 14 [.ref 9, .ref 1] h Q := by
  obtain ⟨n0, nm, A, B, C, I, O, R, L, e9, e10, e11, e12, e13, e14, e15, e16⟩ := hs
  have hn := hE.1
  rw [r_re_derive]
  simp only [S_re_derive, e1, NE, e9, RE, e2, e10, SEL, PF, mr_gf_O, mr_rc_O, Option.toList_some, Option.toList_none, List.cons_append, List.nil_append, b2i_0, b2i_1, b2i_a, a_00, a_11, ai_n, si_n, nI_1, q_rl_bit, mr_up_at, Nat.reduceLeDiff, Nat.reduceLT, Nat.reduceEqDiff, Nat.reduceAdd, if_true, if_false, cpy_n (show ¬ 10 = 2 by decide) hn hn (show 12 ≤ 1000 by decide)]
  refine q_rl_close (n := n) hn (up_eq _ _ _) ?_
  intro h2 f2 g10
  have F2 : mr_fr h h2 [9, 10, 11, 12, 13, 14, 15, 16] := fr_tr (fr_up _ (fr_up _ (fr_rf h _) (by decide)) (by decide)) f2 (by decide)
  have g9 : h2.1 9 = RE n nm := fr_at f2 (by decide) (by simp only [mr_up_at]; rfl)
  have g1 := fr_at F2 (by decide) e1
  have g3 := fr_at F2 (by decide) e3
  have g11 : h2.1 11 = mr_I 12 B := fr_at f2 (by decide) (by simp only [mr_up_at]; exact e11)
  have g12 : h2.1 12 = mr_I 12 C := fr_at f2 (by decide) (by simp only [mr_up_at]; exact e12)
  have g13 : h2.1 13 = mr_I 12 I := fr_at f2 (by decide) (by simp only [mr_up_at]; exact e13)
  have g14 : h2.1 14 = mr_I 12 O := fr_at f2 (by decide) (by simp only [mr_up_at]; exact e14)
  have g15 : h2.1 15 = mr_I 12 R := fr_at f2 (by decide) (by simp only [mr_up_at]; exact e15)
  have g16 : h2.1 16 = mr_I 12 L := fr_at f2 (by decide) (by simp only [mr_up_at]; exact e16)
  have hA : ∀ j, j < n → (fun j => if j < n then RR (va_cpy E A 0 0 n) n j else va_cpy E A 0 0 n j) j = RR E n j := fun j hj => by
    show (if j < n then _ else _) = _
    rw [if_pos hj]
    exact RR_cong (fun u hu => va_cpy_in hu) hj
  simp only [S_re_derive, g9, RE, SEL, PF, mr_gf_O, mr_rc_O, Option.toList_some, Option.toList_none, List.cons_append, List.nil_append, b2i_0, b2i_1, b2i_a, a_00, a_11, ai_n, si_n, nI_1, q_rl_bit, mr_up_at, Nat.reduceLeDiff, Nat.reduceLT, Nat.reduceEqDiff, Nat.reduceAdd, if_true, if_false]
  refine q_re_turnAround hn g9 g10 g11 ?_
  intro h3 f3 k11
  have F3 := fr_tr F2 f3 (by decide)
  have k9 := fr_at f3 (by decide) g9
  have k10 := fr_at f3 (by decide) g10
  have hB : ∀ j, j < n → tb (fun j => if j < n then RR (va_cpy E A 0 0 n) n j else va_cpy E A 0 0 n j) B n n j = Bh E n j := fun j hj => by
    unfold tb
    rw [if_pos hj, col_eq hA]
  simp only [S_re_derive, k9, RE, SEL, PF, mr_gf_O, mr_rc_O, Option.toList_some, Option.toList_none, List.cons_append, List.nil_append, b2i_0, b2i_1, b2i_a, a_00, a_11, ai_n, si_n, nI_1, q_rl_bit, mr_up_at, Nat.reduceLeDiff, Nat.reduceLT, Nat.reduceEqDiff, Nat.reduceAdd, if_true, if_false]
  refine q_re_nameRings hE hA hB k9 k10 k11 (fr_at f3 (by decide) g12) ?_
  intro h4 f4 m9 m12
  have F4 := fr_tr F3 f4 (by decide)
  have m10 := fr_at f4 (by decide) k10
  have m11 := fr_at f4 (by decide) k11
  have m1 := fr_at F4 (by decide) e1
  have m3 := fr_at F4 (by decide) e3
  have m13 := fr_at f4 (by decide) (fr_at f3 (by decide) g13)
  have m14 := fr_at f4 (by decide) (fr_at f3 (by decide) g14)
  have m15 := fr_at f4 (by decide) (fr_at f3 (by decide) g15)
  have m16 := fr_at f4 (by decide) (fr_at f3 (by decide) g16)
  simp only [S_re_derive, m9, m1, NE, RE, SEL, PF, mr_gf_O, mr_rc_O, Option.toList_some, Option.toList_none, List.cons_append, List.nil_append, b2i_0, b2i_1, b2i_a, a_00, a_11, ai_n, si_n, nI_1, q_rl_bit, mr_up_at, Nat.reduceLeDiff, Nat.reduceLT, Nat.reduceEqDiff, Nat.reduceAdd, if_true, if_false]
  refine q_re_rankRings hE (by decide) (by decide) hA hB m9 m10 m11 m15 m16 m3 ?_
  intro h5 f5 p15 p16
  have F5 := fr_tr F4 f5 (by decide)
  have p9 := fr_at f5 (by decide) m9
  have p10 := fr_at f5 (by decide) m10
  have p11 := fr_at f5 (by decide) m11
  simp only [S_re_derive, p9, RE, SEL, PF, mr_gf_O, mr_rc_O, Option.toList_some, Option.toList_none, List.cons_append, List.nil_append, b2i_0, b2i_1, b2i_a, a_00, a_11, ai_n, si_n, nI_1, q_rl_bit, mr_up_at, Nat.reduceLeDiff, Nat.reduceLT, Nat.reduceEqDiff, Nat.reduceAdd, if_true, if_false]
  refine q_re_label hE hA hB (fun j hj => fk_in hj) p9 p10 p11 (fr_at f5 (by decide) m13) (fr_at f5 (by decide) m14) p16 ?_
  intro h6 f6 q13 q14
  simp only [S_re_derive, SEL, PF, mr_gf_O, mr_rc_O, Option.toList_some, Option.toList_none, List.cons_append, List.nil_append, b2i_0, b2i_1, b2i_a, a_00, a_11, ai_n, si_n, nI_1, q_rl_bit, mr_up_at, Nat.reduceLeDiff, Nat.reduceLT, Nat.reduceEqDiff, Nat.reduceAdd, if_true, if_false]
  refine kk h6 (fr_tr F5 f6 (by decide)) ⟨fr_at f6 (by decide) p9, _, _, _, _, _, _, _, fr_at f6 (by decide) p10, fr_at f6 (by decide) p11, fr_at f6 (by decide) (fr_at f5 (by decide) m12), q13, q14, fr_at f6 (by decide) p15, fr_at f6 (by decide) p16, hA, hB, fun j hj => ?_, fun j hj => fk_in hj, fun j hj => fk_in hj, fun j hj => fk_in hj, fun j hj => fk_in hj⟩
  unfold nf
  rw [if_pos hj]
end DERIVE
