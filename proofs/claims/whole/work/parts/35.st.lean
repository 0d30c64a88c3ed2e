/-! the state of both sides, and calls that only read it -/
theorem i_10 : ((1 : Int32) = 0) = False := by simp
theorem i_01 : ((0 : Int32) = 1) = False := by simp
theorem i_00 : ((0 : Int32) = 0) = True := by simp
def St (h : mr_h) (n len us m : Nat) (E K : Nat → Int32) : Prop := gS h ∧ gN h E K n ∧ gT h len ∧ gV h n m ∧ gP h n us ∧ gA h n ∧ gM h len n us m
theorem St_kp {h h2 : mr_h} {L : List Nat} {n len us m : Nat} {E K : Nat → Int32} (st : St h n len us m E K) (f : mr_fr h h2 L) (hL : ∀ a ∈ L, a = 74 ∨ a ∈ SLs) (hsh : ∀ k, k ∈ L → k ∈ SLs → shp k (h2.1 k)) (gm : gM h2 len n us m) : St h2 n len us m E K := by
  obtain ⟨gs, gn, gt, gv, gp, ga, -⟩ := st
  have out : ∀ a, a ≠ 74 → a ∉ SLs → a ∉ L := fun a h1 h2 h3 => (hL a h3).elim h1 h2
  refine ⟨gS_fr gs f hsh, gN_fr gn f ?_, gT_fr gt f ?_, gV_fr gv f ?_, gP_fr gp f ?_, gA_fr ga f ?_, gm⟩
  · exact fun a ha => out a (by revert a; decide) (by revert a; decide)
  · exact fun a ha => out a (by revert a; decide) (by revert a; decide)
  · exact fun a ha => out a (by revert a; decide) (by revert a; decide)
  · intro a ha
    rcases hL a ha with z | z
    · omega
    · clear ha; revert a; decide
  · intro a ha
    rcases hL a ha with z | z
    · omega
    · clear ha; revert a; decide
/-- one cell whose shape alone matters -/
theorem St_one {h h2 : mr_h} {a : Nat} {n len us m : Nat} {E K : Nat → Int32} (st : St h n len us m E K) (f : mr_fr h h2 [a]) (ha : a ∈ SLs) (hs : shp a (h2.1 a)) : St h2 n len us m E K := by
  have h74 : 74 ∉ [a] := fun z => by
    have : 74 = a := by simpa using z
    subst this
    revert ha
    decide
  refine St_kp st f (fun b hb => ?_) (fun k hk _ => ?_) (gM_fr st.2.2.2.2.2.2 f h74)
  · have : b = a := by simpa using hb
    exact Or.inr (this ▸ ha)
  · have : k = a := by simpa using hk
    exact this ▸ hs
/-- the reference's own cell -/
theorem St_mo {h h2 : mr_h} {n len us m : Nat} {E K : Nat → Int32} (st : St h n len us m E K) (f : mr_fr h h2 [74]) (gm : gM h2 len n us m) : St h2 n len us m E K := by
  refine St_kp st f (fun b hb => Or.inl (by simpa using hb)) (fun k hk hs => ?_) gm
  have : k = 74 := by simpa using hk
  subst this
  exact absurd hs (by decide)
def RO (t : Nat) (as : List Value) (n len us m : Nat) (E K : Nat → Int32) (r : Int32) : Prop := ∀ (h : mr_h) (Q : Option Value → mr_h → Prop), St h n len us m E K → (∀ h2, St h2 n len us m E K → h2.2 = h.2 → Q (some (.int r)) h2) → mr_run t as h Q
theorem both_ro {c mm : Nat} {as : List Value} {h : mr_h} {n len us m : Nat} {E K : Nat → Int32} (st : St h n len us m E K) (r : Int32) (hc : RO c (.ref 0 :: as) n len us m E K r) (hm : RO mm (.ref 74 :: as) n len us m E K r) : Both c mm as h :=
  hc h _ st fun h1 s1 e1 => hm h1 _ s1 fun h2 s2 e2 => ⟨⟨r, rfl, rfl⟩, ⟨_, _, _, _, _, _, s2⟩, e2.trans e1⟩
section ST
variable {h : mr_h} {Q : Option Value → mr_h → Prop} {n len us m : Nat} {E K : Nat → Int32}
theorem St_0 (st : St h n len us m E K) : h.1 0 = RLO := gS_0 st.1
theorem St_1 (st : St h n len us m E K) : h.1 1 = NE 1 n := st.2.1.2.2.2.1
theorem St_2 (st : St h n len us m E K) : h.1 2 = mr_I 12 E := st.2.1.2.2.2.2.1
theorem St_3 (st : St h n len us m E K) : h.1 3 = mr_I 12 K := st.2.1.2.2.2.2.2.1
theorem St_D (st : St h n len us m E K) : DV h E K n := st.2.1.2.2.2.2.2.2.1
theorem St_E (st : St h n len us m E K) : nt E n := st.2.1.1
theorem St_n (st : St h n len us m E K) : 1 ≤ n := st.2.1.2.1
theorem St_R (st : St h n len us m E K) : rks E K n := st.2.1.2.2.1
theorem St_K (st : St h n len us m E K) : rkok K n := st.2.1.2.2.1.1
theorem St_ns (st : St h n len us m E K) : noself E n := st.2.1.2.2.1.2
theorem St_77 (st : St h n len us m E K) : ∃ S, h.1 77 = mr_I 24 S ∧ ∀ u, u < n → S u = E u ∧ S (12 + u) = K u := st.2.1.2.2.2.2.2.2.2
theorem St_M (st : St h n len us m E K) : MN h n := gM_MN st.2.2.2.2.2.2
theorem St_99 (st : St h n len us m E K) {S : Nat → Int32} (hS : ∀ u, u < n → S u = E u ∧ S (12 + u) = K u) : ∀ u, u < n → S (12 + u) ≤ 99 := fun u hu => by
  obtain ⟨j, hj, e⟩ := St_K st u hu
  rw [(hS u hu).2, e]
  exact nI_le (b := 99) (by omega) (by decide)
/-- the reference begins: thrown = 0 -/
theorem St_th (st : St h n len us m E K) {k : mr_h → Prop} (kk : ∀ h2, St h2 n len us m E K → h2.2 = h.2 → k h2) : ∀ {th tt tk pl va fa dn dr uf : Int32} {c : mr_c}, h.1 74 = MO th (nI len) tt tk pl va fa (nI n) dn dr (nI us) (nI m) uf → c = MO 0 (nI len) tt tk pl va fa (nI n) dn dr (nI us) (nI m) uf → k (mr_up h 74 c) := by
  intro th tt tk pl va fa dn dr uf c e ec
  subst ec
  exact kk _ (St_mo st (fr_up _ (fr_rf _ _) (by decide)) ⟨_, _, _, _, _, _, _, _, _, up_eq _ _ _⟩) rfl
theorem shp_12 {k : Nat} {c : mr_c} {A : Nat → Int32} (h : c = mr_I 12 A) (hk : k ∈ [5, 6, 17, 19, 21, 23, 32, 85, 86, 87, 88]) : shp k c := by
  revert k
  intro k hk
  have : k = 5 ∨ k = 6 ∨ k = 17 ∨ k = 19 ∨ k = 21 ∨ k = 23 ∨ k = 32 ∨ k = 85 ∨ k = 86 ∨ k = 87 ∨ k = 88 := by simpa using hk
  rcases this with z | z | z | z | z | z | z | z | z | z | z <;> subst z <;> exact ⟨A, h⟩
theorem st_comesBy (st : St h n len us m E K) (kk : ∀ h2 A, St h2 n len us m E K → h2.2 = h.2 → h2.1 85 = mr_I 12 A → (∀ j, j < n → A j = RR E n j) → Q none h2) : mr_run 133 [.ref 74, .ref 77, .ref 85] h Q := by
  obtain ⟨S, e77, hS⟩ := St_77 st
  obtain ⟨g, e85⟩ := gS_85 st.1
  refine q_mo_comesBy (St_E st).1 (by decide) (by decide) (St_M st) e77 e85 ?_
  intro h2 f2 g85
  refine kk h2 _ (St_one st f2 (by decide) (shp_12 g85 (by decide))) f2.1 g85 (fun j hj => ?_)
  show (if j < n then _ else _) = _
  rw [if_pos hj]
  exact RR_cong (fun u hu => (hS u hu).1) hj
end ST
/-! ranks of like values -/
theorem mnI_cong {p : Nat → Bool} {K L : Nat → Int32} {i : Int32} : ∀ {n : Nat}, (∀ k, k < n → K k = L k) → mnI p K i n = mnI p L i n
  | 0, _ => rfl
  | n + 1, h => by
    unfold mnI
    rw [mnI_cong (fun k hk => h k (by omega)), h n (by omega)]
theorem rkk_cong {E K L : Nat → Int32} {n u : Nat} (h : ∀ k, k < n → K k = L k) (hu : u < n) : rkk E K n u = rkk E L n u := by
  unfold rkk
  rw [h u hu, mnI_cong h]
theorem In_cong {E K L : Nat → Int32} {n u : Nat} (h : ∀ k, k < n → K k = L k) : In E K n u = In E L n u := by
  refine mk_cong fun k hk => ?_
  have : LRm E K n k = LRm E L n k := mk_cong fun j hj => by
    unfold lrb
    rw [rkk_cong h hk, h j hj]
  unfold inb
  rw [this]
theorem Ot_cong {E K L : Nat → Int32} {n u : Nat} (h : ∀ k, k < n → K k = L k) : Ot E K n u = Ot E L n u := by
  refine mk_cong fun k hk => ?_
  have : LRm E K n k = LRm E L n k := mk_cong fun j hj => by
    unfold lrb
    rw [rkk_cong h hk, h j hj]
  unfold otb
  rw [this]
theorem Lc_cong {E K L : Nat → Int32} {n : Nat} (h : ∀ k, k < n → K k = L k) : ∀ j, Lc E K n j = Lc E L n j
  | 0 => rfl
  | j + 1 => by
    unfold Lc
    rw [Lc_cong h j, In_cong h, Ot_cong h]
