/-! who comes where: rows of bits, made closed node by node -/
def cw (k : Nat) (f : Nat → Int32) : Nat → Int32 := fun u => if bt (f u) k then f u ||| f k else f u
def cl (f : Nat → Int32) : Nat → Nat → Int32
  | 0 => f
  | k + 1 => cw k (cl f k)
def RR (E : Nat → Int32) (n : Nat) : Nat → Int32 := cl (fun u => E u ||| nb u) n
def rr (E : Nat → Int32) (n u v : Nat) : Bool := bt (RR E n u) v
/-- a net's rows: edges lead to nodes -/
def nt (E : Nat → Int32) (n : Nat) : Prop := n ≤ 12 ∧ ∀ u, u < n → ∀ v, bt (E u) v = true → v < n
theorem cw_bt (k : Nat) (f : Nat → Int32) (u v : Nat) : bt (cw k f u) v = (bt (f u) v || (bt (f u) k && bt (f k) v)) := by
  unfold cw
  split
  · rename_i e; rw [b_or, e]; simp
  · rename_i e
    have : bt (f u) k = false := by simpa using e
    rw [this]; simp
theorem cl_mono (f : Nat → Int32) (u v : Nat) (h : bt (f u) v = true) : ∀ k, bt (cl f k u) v = true
  | 0 => h
  | k + 1 => by
    show bt (cw k (cl f k) u) v = true
    rw [cw_bt, cl_mono f u v h k]
    rfl
theorem cl_tr (f : Nat → Int32) : ∀ k u j v, j < k → bt (cl f k u) j = true → bt (cl f k j) v = true → bt (cl f k u) v = true
  | 0, _, _, _, h, _, _ => absurd h (Nat.not_lt_zero _)
  | k + 1, u, j, v, hj, h1, h2 => by
    have ih := cl_tr f k
    have e1 : bt (cw k (cl f k) u) j = true := h1
    have e2 : bt (cw k (cl f k) j) v = true := h2
    show bt (cw k (cl f k) u) v = true
    rw [cw_bt] at e1 e2 ⊢
    simp only [Bool.or_eq_true, Bool.and_eq_true] at e1 e2 ⊢
    by_cases ejk : j = k
    · subst ejk
      have a1 : bt (cl f j u) j = true := e1.elim id (fun z => z.1)
      have a2 : bt (cl f j j) v = true := e2.elim id (fun z => z.2)
      exact Or.inr ⟨a1, a2⟩
    · have hj' : j < k := by omega
      rcases e1 with e1 | ⟨e1, e1'⟩
      · rcases e2 with e2 | ⟨e2, e2'⟩
        · exact Or.inl (ih u j v hj' e1 e2)
        · exact Or.inr ⟨ih u j k hj' e1 e2, e2'⟩
      · rcases e2 with e2 | ⟨e2, e2'⟩
        · exact Or.inr ⟨e1, ih k j v hj' e1' e2⟩
        · exact Or.inr ⟨e1, e2'⟩
theorem cl_min (f : Nat → Int32) (S : Nat → Nat → Prop) (n : Nat) (hS : ∀ u v, u < n → bt (f u) v = true → S u v) (tr : ∀ u j v, u < n → j < n → S u j → S j v → S u v) : ∀ k, k ≤ n → ∀ u v, u < n → bt (cl f k u) v = true → S u v
  | 0, _, u, v, hu, h => hS u v hu h
  | k + 1, hk, u, v, hu, h => by
    have ih := cl_min f S n hS tr k (by omega)
    have e1 : bt (cw k (cl f k) u) v = true := h
    rw [cw_bt] at e1
    simp only [Bool.or_eq_true, Bool.and_eq_true] at e1
    rcases e1 with e1 | ⟨e1, e2⟩
    · exact ih u v hu e1
    · exact tr u k v hu (by omega) (ih u k hu e1) (ih k v (by omega) e2)
theorem rr_refl {E : Nat → Int32} {n u : Nat} (hE : nt E n) (hu : u < n) : rr E n u u = true := by
  refine cl_mono _ u u ?_ n
  have := hE.1
  rw [b_or, nb_bt (by omega)]
  simp
theorem rr_edge {E : Nat → Int32} {n u v : Nat} (h : bt (E u) v = true) : rr E n u v = true := by
  refine cl_mono _ u v ?_ n
  rw [b_or, h]
  rfl
theorem rr_tr {E : Nat → Int32} {n u j v : Nat} (hj : j < n) (h1 : rr E n u j = true) (h2 : rr E n j v = true) : rr E n u v = true := cl_tr _ n u j v hj h1 h2
theorem rr_min {E : Nat → Int32} {n : Nat} (hE : nt E n) (S : Nat → Nat → Prop) (h0 : ∀ u, u < n → S u u) (h1 : ∀ u v, u < n → v < n → bt (E u) v = true → S u v) (h2 : ∀ u j v, u < n → j < n → S u j → S j v → S u v) {u v : Nat} (hu : u < n) (h : rr E n u v = true) : S u v := by
  refine cl_min _ S n (fun a b ha hb => ?_) h2 n (Nat.le_refl n) u v hu h
  have := hE.1
  rw [b_or, nb_bt (by omega)] at hb
  simp only [Bool.or_eq_true, decide_eq_true_eq] at hb
  rcases hb with hb | hb
  · exact h1 a b ha (hE.2 a ha b hb) hb
  · subst hb; exact h0 b ha
theorem rr_lt {E : Nat → Int32} {n u v : Nat} (hE : nt E n) (hu : u < n) (h : rr E n u v = true) : v < n :=
  (rr_min hE (fun a b => a < n → b < n) (fun _ _ z => z) (fun _ _ _ hb _ _ => hb) (fun _ _ _ _ _ h1 h2 z => h2 (h1 z)) hu h) hu
theorem RR_sm {E : Nat → Int32} {n u : Nat} (hE : nt E n) (hu : u < n) : sm (RR E n u) := by
  intro i hi
  cases h : bt (RR E n u) i with
  | false => rfl
  | true => have := rr_lt hE hu h; have := hE.1; omega
/-- an edge more -/
def ad (E : Nat → Int32) (p q : Nat) : Nat → Int32 := fun u => if u = p then E p ||| nb q else E u
theorem ad_nt {E : Nat → Int32} {n p q : Nat} (hE : nt E n) (hq : q < n) : nt (ad E p q) n := by
  refine ⟨hE.1, fun u hu v hv => ?_⟩
  have := hE.1
  unfold ad at hv
  split at hv
  · rename_i e
    subst e
    rw [b_or, nb_bt (by omega)] at hv
    simp only [Bool.or_eq_true, decide_eq_true_eq] at hv
    rcases hv with hv | hv
    · exact hE.2 u hu v hv
    · omega
  · exact hE.2 u hu v hv
theorem ad_bt {E : Nat → Int32} {p q : Nat} (hq : q < 32) (u v : Nat) : bt (ad E p q u) v = (bt (E u) v || (decide (u = p) && decide (v = q))) := by
  unfold ad
  split
  · rename_i e; subst e; rw [b_or, nb_bt hq]; simp
  · rename_i e; simp [e]
theorem rr_ad {E : Nat → Int32} {n p q : Nat} (hE : nt E n) (hp : p < n) (hq : q < n) {u v : Nat} (hu : u < n) : rr (ad E p q) n u v = (rr E n u v || (rr E n u p && rr E n q v)) := by
  have hn := hE.1
  have hA := ad_nt (p := p) hE hq
  have sub : ∀ a b, a < n → rr E n a b = true → rr (ad E p q) n a b = true := by
    intro a b ha hab
    exact rr_min hE (fun a b => rr (ad E p q) n a b = true) (fun a ha => rr_refl hA ha) (fun a b _ _ hab => rr_edge (by rw [ad_bt (by omega), hab]; rfl)) (fun a j b _ hj h1 h2 => rr_tr hj h1 h2) ha hab
  apply Bool.eq_iff_iff.mpr
  simp only [Bool.or_eq_true, Bool.and_eq_true]
  constructor
  · intro h
    refine rr_min hA (fun a b => rr E n a b = true ∨ (rr E n a p = true ∧ rr E n q b = true)) (fun a ha => Or.inl (rr_refl hE ha)) ?_ ?_ hu h
    · intro a b ha hb hab
      rw [ad_bt (by omega)] at hab
      simp only [Bool.or_eq_true, Bool.and_eq_true, decide_eq_true_eq] at hab
      rcases hab with hab | ⟨rfl, rfl⟩
      · exact Or.inl (rr_edge hab)
      · exact Or.inr ⟨rr_refl hE ha, rr_refl hE hb⟩
    · rintro a j b ha hj (h1 | ⟨h1, h1'⟩) (h2 | ⟨h2, h2'⟩)
      · exact Or.inl (rr_tr hj h1 h2)
      · exact Or.inr ⟨rr_tr hj h1 h2, h2'⟩
      · exact Or.inr ⟨h1, rr_tr hj h1' h2⟩
      · exact Or.inr ⟨h1, h2'⟩
  · rintro (h | ⟨h1, h2⟩)
    · exact sub u v hu h
    · exact rr_tr hp (sub u p hu h1) (rr_tr hq (rr_edge (by rw [ad_bt (by omega)]; simp)) (sub q v hq h2))
