/-! odds: sums over what stands -/
section ODDSMATH
variable {n u v x y : Nat} {E : Nat → Int32} {ed : Nat → Nat × Nat}
/-- an edge, as a pair, more -/
def adp (X : Nat → Int32) (p : Nat × Nat) : Nat → Int32 := ad X p.1 p.2
def ind (n u v : Nat) (X : Nat → Int32) : Nat := if rr X n u v then 1 else 0
/-- what comes of the first j edges, the others as they lie in X -/
def Pn (n u v x y : Nat) (ed : Nat → Nat × Nat) : Nat → (Nat → Int32) → Nat
  | 0, X => ind n u v X
  | j + 1, X => x * Pn n u v x y ed j X + y * Pn n u v x y ed j (adp X (ed j))
theorem Pn_cong {ed ed2 : Nat → Nat × Nat} : ∀ (j : Nat) (X : Nat → Int32), (∀ i, i < j → ed i = ed2 i) → Pn n u v x y ed j X = Pn n u v x y ed2 j X
  | 0, _, _ => rfl
  | j + 1, X, h => by
    show x * Pn n u v x y ed j X + y * Pn n u v x y ed j (adp X (ed j)) = x * Pn n u v x y ed2 j X + y * Pn n u v x y ed2 j (adp X (ed2 j))
    rw [Pn_cong j X (fun i hi => h i (by omega)), h j (by omega), Pn_cong j _ (fun i hi => h i (by omega))]
theorem ad_comm {X : Nat → Int32} {a b c d : Nat} (hb : b < 32) (hd : d < 32) : ad (ad X a b) c d = ad (ad X c d) a b := by
  funext w
  apply b_ext
  intro i _
  rw [ad_bt hd, ad_bt hb, ad_bt hb, ad_bt hd]
  cases bt (X w) i <;> cases (decide (w = a) && decide (i = b)) <;> cases (decide (w = c) && decide (i = d)) <;> rfl
/-- edges of E -/
def inE (E : Nat → Int32) (n : Nat) (p : Nat × Nat) : Prop := p.1 < n ∧ p.2 < n ∧ bt (E p.1) p.2 = true
def subE (E : Nat → Int32) (n : Nat) (X : Nat → Int32) : Prop := ∀ a b, a < n → bt (X a) b = true → bt (E a) b = true
theorem subE_ad {X : Nat → Int32} {p : Nat × Nat} (hE : nt E n) (hp : inE E n p) (hX : subE E n X) : subE E n (adp X p) := fun a b ha h => by
  have := hE.1
  have := hp.2.1
  unfold adp at h
  rw [ad_bt (by omega)] at h
  simp only [Bool.or_eq_true, Bool.and_eq_true, decide_eq_true_eq] at h
  rcases h with h | ⟨rfl, rfl⟩
  · exact hX a b ha h
  · exact hp.2.2
theorem subE_nt {X : Nat → Int32} (hE : nt E n) (hX : subE E n X) : nt X n := ⟨hE.1, fun a ha b hb => hE.2 a ha b (hX a b ha hb)⟩
def rel (E : Nat → Int32) (n u v : Nat) (p : Nat × Nat) : Prop := rr E n u p.1 = true ∧ rr E n p.2 v = true
/-- an edge on no walk changes nothing -/
theorem Pn_irr (hE : nt E n) (hu : u < n) {p : Nat × Nat} (hp : inE E n p) (hr : ¬ rel E n u v p) : ∀ (j : Nat) (X : Nat → Int32), (∀ i, i < j → inE E n (ed i)) → subE E n X → Pn n u v x y ed j (adp X p) = Pn n u v x y ed j X
  | 0, X, _, hX => by
    show ind n u v (adp X p) = ind n u v X
    have hXn := subE_nt hE hX
    unfold ind adp
    rw [rr_ad hXn hp.1 hp.2.1 hu]
    have : (rr X n u p.1 && rr X n p.2 v) = false := by
      cases h1 : rr X n u p.1 with
      | false => rfl
      | true => cases h2 : rr X n p.2 v with
        | false => rfl
        | true => exact absurd ⟨rr_sub hE hXn (fun a b ha h => hX a b ha h) hu h1, rr_sub hE hXn (fun a b ha h => hX a b ha h) hp.2.1 h2⟩ hr
    rw [this]
    simp
  | j + 1, X, he, hX => by
    have hn := hE.1
    have hej := he j (by omega)
    show x * Pn n u v x y ed j (adp X p) + y * Pn n u v x y ed j (adp (adp X p) (ed j)) = x * Pn n u v x y ed j X + y * Pn n u v x y ed j (adp X (ed j))
    have ec : adp (adp X p) (ed j) = adp (adp X (ed j)) p := ad_comm (by have := hp.2.1; omega) (by have := hej.2.1; omega)
    rw [ec, Pn_irr hE hu hp hr j X (fun i hi => he i (by omega)) hX, Pn_irr hE hu hp hr j (adp X (ed j)) (fun i hi => he i (by omega)) (subE_ad hE hej hX)]
/-- pairs, gone through in their order -/
def upp (f : Nat → Nat × Nat) (k : Nat) (p : Nat × Nat) : Nat → Nat × Nat := fun j => if j = k then p else f j
def en2 (c : Nat → Nat → Bool) (s : Nat × (Nat → Nat × Nat)) (a : Nat) : Nat → Nat × (Nat → Nat × Nat)
  | 0 => s
  | b + 1 => if c a b then ((en2 c s a b).1 + 1, upp (en2 c s a b).2 (en2 c s a b).1 (a, b)) else en2 c s a b
def en1 (c : Nat → Nat → Bool) (n : Nat) : Nat → Nat × (Nat → Nat × Nat)
  | 0 => (0, fun _ => (0, 0))
  | a + 1 => en2 c (en1 c n a) a n
theorem en2_ct (c : Nat → Nat → Bool) (s : Nat × (Nat → Nat × Nat)) (a : Nat) : ∀ b, (en2 c s a b).1 = s.1 + fb_ct (c a) b
  | 0 => rfl
  | b + 1 => by
    have ih := en2_ct c s a b
    unfold en2
    cases h : c a b with
    | true => rw [if_pos rfl, ct_y h]; show (en2 c s a b).1 + 1 = _; omega
    | false => rw [if_neg (by decide), ct_n h]; exact ih
theorem en1_ct (c : Nat → Nat → Bool) (n : Nat) : ∀ a, (en1 c n a).1 = fc c n a
  | 0 => rfl
  | a + 1 => by
    show (en2 c (en1 c n a) a n).1 = fc c n a + fb_ct (c a) n
    rw [en2_ct, en1_ct c n a]
theorem en2_in {c : Nat → Nat → Bool} {s : Nat × (Nat → Nat × Nat)} {a : Nat} (T : Nat × Nat → Prop) (hs : ∀ i, i < s.1 → T (s.2 i)) : ∀ b, (∀ b', b' < b → c a b' = true → T (a, b')) → ∀ i, i < (en2 c s a b).1 → T ((en2 c s a b).2 i)
  | 0, _, i, hi => hs i hi
  | b + 1, h, i, hi => by
    have ih := en2_in (c := c) (a := a) T hs b (fun b' hb' => h b' (by omega))
    unfold en2 at hi ⊢
    cases hc : c a b with
    | true =>
      rw [hc, if_pos rfl] at hi
      rw [if_pos rfl]
      show T (upp _ _ _ i)
      unfold upp
      by_cases e : i = (en2 c s a b).1
      · rw [if_pos e]; exact h b (by omega) hc
      · rw [if_neg e]; exact ih i (by have : i < (en2 c s a b).1 + 1 := hi; omega)
    | false =>
      rw [hc, if_neg (by decide)] at hi
      rw [if_neg (by decide)]
      exact ih i hi
theorem en1_in {c : Nat → Nat → Bool} {n : Nat} (T : Nat × Nat → Prop) : ∀ a, (∀ a' b', a' < a → b' < n → c a' b' = true → T (a', b')) → ∀ i, i < (en1 c n a).1 → T ((en1 c n a).2 i)
  | 0, _, i, hi => absurd hi (Nat.not_lt_zero i)
  | a + 1, h, i, hi => en2_in T (en1_in T a (fun a' b' ha' => h a' b' (by omega))) n (fun b' hb' => h a b' (by omega) hb') i hi
/-- only edges on some walk matter -/
def PR (n u v x y : Nat) (E : Nat → Int32) (s t : Nat × (Nat → Nat × Nat)) : Prop := (∀ i, i < s.1 → inE E n (s.2 i)) ∧ t.1 ≤ s.1 ∧ ∀ X, subE E n X → Pn n u v x y s.2 s.1 X = Pn n u v x y t.2 t.1 X * 10 ^ (s.1 - t.1)
theorem PR_s (hE : nt E n) (hu : u < n) (hxy : x + y = 10) {s t : Nat × (Nat → Nat × Nat)} {r : Nat → Nat → Bool} {a b : Nat} (ha : a < n) (hb : b < n) (hr : bt (E a) b = true → (r a b = true ↔ rel E n u v (a, b))) (h : PR n u v x y E s t) : PR n u v x y E (if bt (E a) b then (s.1 + 1, upp s.2 s.1 (a, b)) else s) (if (bt (E a) b && r a b) then (t.1 + 1, upp t.2 t.1 (a, b)) else t) := by
  obtain ⟨h1, h2, h3⟩ := h
  cases he : bt (E a) b with
  | false => simp only [Bool.false_eq_true, if_false, Bool.false_and]; exact ⟨h1, h2, h3⟩
  | true =>
    have hp : inE E n (a, b) := ⟨ha, hb, he⟩
    have up : ∀ (f : Nat → Nat × Nat) k X, Pn n u v x y (upp f k (a, b)) k X = Pn n u v x y f k X := fun f k X => Pn_cong k X (fun i hi => by unfold upp; rw [if_neg (by omega)])
    have es : ∀ (f : Nat → Nat × Nat) k X, Pn n u v x y (upp f k (a, b)) (k + 1) X = x * Pn n u v x y f k X + y * Pn n u v x y f k (adp X (a, b)) := fun f k X => by
      show x * Pn n u v x y (upp f k (a, b)) k X + y * Pn n u v x y (upp f k (a, b)) k (adp X (upp f k (a, b) k)) = _
      rw [up, up]
      unfold upp
      rw [if_pos rfl]
    have hin : ∀ i, i < s.1 + 1 → inE E n (upp s.2 s.1 (a, b) i) := fun i hi => by
      unfold upp
      by_cases e : i = s.1
      · rw [if_pos e]; exact hp
      · rw [if_neg e]; exact h1 i (by omega)
    simp only [if_true, Bool.true_and]
    cases hrr : r a b with
    | true =>
      simp only [if_true]
      refine ⟨hin, Nat.add_le_add_right h2 1, fun X hX => ?_⟩
      show Pn n u v x y (upp s.2 s.1 (a, b)) (s.1 + 1) X = Pn n u v x y (upp t.2 t.1 (a, b)) (t.1 + 1) X * 10 ^ (s.1 + 1 - (t.1 + 1))
      rw [es, es, h3 X hX, h3 _ (subE_ad hE hp hX), show s.1 + 1 - (t.1 + 1) = s.1 - t.1 by omega, Nat.add_mul, Nat.mul_assoc, Nat.mul_assoc]
    | false =>
      simp only [Bool.false_eq_true, if_false]
      refine ⟨hin, Nat.le_trans h2 (Nat.le_succ _), fun X hX => ?_⟩
      show Pn n u v x y (upp s.2 s.1 (a, b)) (s.1 + 1) X = Pn n u v x y t.2 t.1 X * 10 ^ (s.1 + 1 - t.1)
      have hnr : ¬ rel E n u v (a, b) := fun z => by rw [(hr he).mpr z] at hrr; exact absurd hrr (by decide)
      rw [es, Pn_irr hE hu hp hnr s.1 X h1 hX, ← Nat.add_mul, hxy, h3 X hX, show s.1 + 1 - t.1 = (s.1 - t.1) + 1 by omega, Nat.pow_succ, Nat.mul_comm 10, Nat.mul_assoc]
theorem PR_2 (hE : nt E n) (hu : u < n) (hxy : x + y = 10) {s t : Nat × (Nat → Nat × Nat)} {r : Nat → Nat → Bool} (hr : ∀ a b, a < n → b < n → bt (E a) b = true → (r a b = true ↔ rel E n u v (a, b))) {a : Nat} (ha : a < n) (h : PR n u v x y E s t) : ∀ b, b ≤ n → PR n u v x y E (en2 (fun a b => bt (E a) b) s a b) (en2 (fun a b => bt (E a) b && r a b) t a b)
  | 0, _ => h
  | b + 1, hb => PR_s (r := r) hE hu hxy ha (by omega) (hr a b ha (by omega)) (PR_2 hE hu hxy hr ha h b (by omega))
theorem PR_1 (hE : nt E n) (hu : u < n) (hxy : x + y = 10) {r : Nat → Nat → Bool} (hr : ∀ a b, a < n → b < n → bt (E a) b = true → (r a b = true ↔ rel E n u v (a, b))) : ∀ a, a ≤ n → PR n u v x y E (en1 (fun a b => bt (E a) b) n a) (en1 (fun a b => bt (E a) b && r a b) n a)
  | 0, _ => ⟨fun i hi => absurd hi (Nat.not_lt_zero i), Nat.le_refl _, fun X _ => by show ind n u v X = ind n u v X * 10 ^ 0; rw [Nat.pow_zero, Nat.mul_one]⟩
  | a + 1, ha => PR_2 hE hu hxy hr (by omega) (PR_1 hE hu hxy hr a (by omega)) n (Nat.le_refl n)
/-! sums over sets -/
def Rw (ed : Nat → Nat × Nat) : Nat → (Nat → Bool) → (Nat → Int32) → (Nat → Int32)
  | 0, _, X => X
  | j + 1, st, X => Rw ed j st (if st j then adp X (ed j) else X)
def wf (x y : Nat) (st : Nat → Bool) : Nat → Nat
  | 0 => 1
  | j + 1 => wf x y st j * (if st j then y else x)
theorem Rw_cong {st st2 : Nat → Bool} : ∀ (j : Nat) (X : Nat → Int32), (∀ i, i < j → st i = st2 i) → Rw ed j st X = Rw ed j st2 X
  | 0, _, _ => rfl
  | j + 1, X, h => by
    show Rw ed j st (if st j then adp X (ed j) else X) = Rw ed j st2 (if st2 j then adp X (ed j) else X)
    rw [h j (by omega), Rw_cong j _ (fun i hi => h i (by omega))]
theorem wf_cong {st st2 : Nat → Bool} : ∀ (j : Nat), (∀ i, i < j → st i = st2 i) → wf x y st j = wf x y st2 j
  | 0, _ => rfl
  | j + 1, h => by
    show wf x y st j * (if st j then y else x) = wf x y st2 j * (if st2 j then y else x)
    rw [wf_cong j (fun i hi => h i (by omega)), h j (by omega)]
theorem fb_sm_mul (c : Nat) (f : Nat → Nat) : ∀ N, fb_sm (fun k => c * f k) N = c * fb_sm f N
  | 0 => by simp [fb_sm]
  | N + 1 => by rw [fb_sm_succ, fb_sm_succ, fb_sm_mul c f N, Nat.mul_add]
def tm (n u v x y : Nat) (ed : Nat → Nat × Nat) (j : Nat) (st : Nat → Bool) (X : Nat → Int32) : Nat := wf x y st j * ind n u v (Rw ed j st X)
theorem sum_P (ng : Bool) : ∀ (j : Nat) (X : Nat → Int32), fb_sm (fun s => tm n u v x y ed j (fun i => ng ^^ s.testBit i) X) (2 ^ j) = Pn n u v x y ed j X
  | 0, X => by
    show fb_sm _ 1 = ind n u v X
    simp [fb_sm, tm, wf, Rw]
  | j + 1, X => by
    have e1 : ∀ s, s < 2 ^ j → tm n u v x y ed (j + 1) (fun i => ng ^^ s.testBit i) X = (if ng then y else x) * tm n u v x y ed j (fun i => ng ^^ s.testBit i) (if ng then adp X (ed j) else X) := fun s hs => by
      have hb : s.testBit j = false := Nat.testBit_lt_two_pow hs
      unfold tm
      show wf x y (fun i => ng ^^ s.testBit i) j * (if (ng ^^ s.testBit j) then y else x) * ind n u v (Rw ed j (fun i => ng ^^ s.testBit i) (if (ng ^^ s.testBit j) then adp X (ed j) else X)) = _
      rw [hb, Bool.xor_false, Nat.mul_comm (wf _ _ _ _), Nat.mul_assoc]
    have e2 : ∀ s, s < 2 ^ j → tm n u v x y ed (j + 1) (fun i => ng ^^ (2 ^ j + s).testBit i) X = (if ng then x else y) * tm n u v x y ed j (fun i => ng ^^ s.testBit i) (if ng then X else adp X (ed j)) := fun s hs => by
      have hb : (2 ^ j + s).testBit j = true := by rw [Nat.testBit_two_pow_add_eq, Nat.testBit_lt_two_pow hs]; rfl
      have hl : ∀ i, i < j → (ng ^^ (2 ^ j + s).testBit i) = (ng ^^ s.testBit i) := fun i hi => by rw [Nat.testBit_two_pow_add_gt hi]
      unfold tm
      show wf x y (fun i => ng ^^ (2 ^ j + s).testBit i) j * (if (ng ^^ (2 ^ j + s).testBit j) then y else x) * ind n u v (Rw ed j (fun i => ng ^^ (2 ^ j + s).testBit i) (if (ng ^^ (2 ^ j + s).testBit j) then adp X (ed j) else X)) = _
      rw [hb, Bool.xor_true, wf_cong j hl, Rw_cong j _ hl, Nat.mul_comm (wf _ _ _ _), Nat.mul_assoc]
      cases ng <;> rfl
    have p2 : 2 ^ (j + 1) = 2 ^ j + 2 ^ j := by rw [Nat.pow_succ]; omega
    rw [p2, fb_sm_split, fb_sm_cong e1, fb_sm_cong e2, fb_sm_mul, fb_sm_mul, sum_P ng j, sum_P ng j]
    cases ng
    · rfl
    · show y * Pn n u v x y ed j (adp X (ed j)) + x * Pn n u v x y ed j X = x * Pn n u v x y ed j X + y * Pn n u v x y ed j (adp X (ed j))
      omega
theorem Rw_bt {st : Nat → Bool} (hed : ∀ i, (ed i).2 < 32) : ∀ (j : Nat) (X : Nat → Int32) (a b : Nat), bt (Rw ed j st X a) b = true ↔ bt (X a) b = true ∨ ∃ i, i < j ∧ st i = true ∧ ed i = (a, b)
  | 0, X, a, b => by
    constructor
    · exact Or.inl
    · rintro (h | ⟨i, hi, -⟩)
      · exact h
      · omega
  | j + 1, X, a, b => by
    show bt (Rw ed j st (if st j then adp X (ed j) else X) a) b = true ↔ _
    rw [Rw_bt hed j]
    cases hs : st j with
    | false =>
      simp only [Bool.false_eq_true, if_false]
      constructor
      · rintro (h | ⟨i, hi, h⟩)
        · exact Or.inl h
        · exact Or.inr ⟨i, by omega, h⟩
      · rintro (h | ⟨i, hi, h1, h2⟩)
        · exact Or.inl h
        · by_cases e : i = j
          · subst e; rw [hs] at h1; exact absurd h1 (by decide)
          · exact Or.inr ⟨i, by omega, h1, h2⟩
    | true =>
      simp only [if_true]
      have e : bt (adp X (ed j) a) b = true ↔ bt (X a) b = true ∨ ed j = (a, b) := by
        unfold adp
        rw [ad_bt (hed j)]
        simp only [Bool.or_eq_true, Bool.and_eq_true, decide_eq_true_eq]
        constructor
        · rintro (h | ⟨h1, h2⟩)
          · exact Or.inl h
          · exact Or.inr (by rw [h1, h2])
        · rintro (h | h)
          · exact Or.inl h
          · exact Or.inr (by rw [h]; exact ⟨rfl, rfl⟩)
      rw [e]
      constructor
      · rintro ((h | h) | ⟨i, hi, h⟩)
        · exact Or.inl h
        · exact Or.inr ⟨j, by omega, hs, h⟩
        · exact Or.inr ⟨i, by omega, h⟩
      · rintro (h | ⟨i, hi, h1, h2⟩)
        · exact Or.inl (Or.inl h)
        · by_cases e : i = j
          · subst e; exact Or.inl (Or.inr h2)
          · exact Or.inr ⟨i, by omega, h1, h2⟩
theorem wf_pow {st : Nat → Bool} : ∀ j, wf x y st j = y ^ fb_ct st j * x ^ (j - fb_ct st j)
  | 0 => rfl
  | j + 1 => by
    have := fb_ct_le st j
    show wf x y st j * (if st j then y else x) = _
    rw [wf_pow j]
    cases h : st j with
    | true =>
      rw [ct_y h, if_pos rfl, show j + 1 - (fb_ct st j + 1) = j - fb_ct st j by omega, Nat.pow_succ, Nat.mul_assoc, Nat.mul_comm (x ^ _), ← Nat.mul_assoc]
    | false =>
      rw [ct_n h, if_neg (by decide), show j + 1 - fb_ct st j = (j - fb_ct st j) + 1 by omega, Nat.pow_succ, Nat.mul_assoc]
theorem Pn_le (hxy : x + y = 10) : ∀ (j : Nat) (X : Nat → Int32), Pn n u v x y ed j X ≤ 10 ^ j
  | 0, X => by
    show ind n u v X ≤ 1
    unfold ind
    split <;> omega
  | j + 1, X => by
    have h1 := Pn_le hxy j X
    have h2 := Pn_le hxy j (adp X (ed j))
    show x * Pn n u v x y ed j X + y * Pn n u v x y ed j (adp X (ed j)) ≤ 10 ^ (j + 1)
    have h3 := Nat.mul_le_mul_left x h1
    have h4 := Nat.mul_le_mul_left y h2
    have e : 10 ^ (j + 1) = x * 10 ^ j + y * 10 ^ j := by rw [Nat.pow_succ, ← Nat.add_mul, hxy, Nat.mul_comm]
    omega
/-- least terms -/
theorem least {U L c : Nat} (hc : 0 < c) : U * c / Nat.gcd (U * c) (L * c) = U / Nat.gcd U L ∧ L * c / Nat.gcd (U * c) (L * c) = L / Nat.gcd U L := by
  rw [Nat.gcd_mul_right]
  exact ⟨Nat.mul_div_mul_right _ _ hc, Nat.mul_div_mul_right _ _ hc⟩
end ODDSMATH
