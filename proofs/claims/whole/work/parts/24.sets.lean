/-! first bit, number of bits -/
theorem first_eq {p : Nat → Bool} {n k : Nat} (h1 : ∀ j, j < k → p j = false) (h2 : p k = true) (hk : k < n) : fa_first p n = k := by
  rcases Nat.lt_trichotomy (fa_first p n) k with z | z | z
  · have := fa_first_yes p n (by omega)
    rw [h1 _ z] at this
    cases this
  · exact z
  · have := fa_first_no p n k z
    rw [h2] at this
    cases this
def lwz (x : Int32) : Nat := if fa_first (bt x) 12 < 12 then fa_first (bt x) 12 else 0
section SETS
variable {h : mr_h} {Q : Option Value → mr_h → Prop}
theorem l_rl_lowest (x : Int32) : ∀ (d k : Nat), k + d = 12 → (∀ j, j < k → bt x j = false) → mr_wp 21 2 [.int x, .int (nI k)] [] h Q = Q (some (.int (nI (lwz x)))) h := by
  intro d
  induction d with
  | zero =>
    intro k hk hz
    have : k = 12 := by omega
    subst this
    rw [s_rl_lowest_2]
    have c1 : (12 : Int32) ≤ nI 12 := by decide
    simp only [S_rl_lowest, if_pos c1]
    have : lwz x = 0 := by
      unfold lwz
      split
      · rename_i z
        have := fa_first_yes (bt x) 12 z
        rw [hz _ z] at this
        cases this
      · rfl
    rw [this]
    rfl
  | succ d ih =>
    intro k hk hz
    have c1 : ¬ (12 : Int32) ≤ nI k := nI_ge (a := k) (b := 12) (by omega) (by omega)
    rw [s_rl_lowest_2]
    simp only [S_rl_lowest, if_neg c1, q_rl_holds (show k < 32 by omega), SEL, PF, mr_gf_O, mr_rc_O, Option.toList_some, Option.toList_none, List.cons_append, List.nil_append, b2i_0, b2i_1, b2i_a, a_00, a_11, ai_n, si_n, nI_1, q_rl_bit, mr_up_at, Nat.reduceLeDiff, Nat.reduceLT, Nat.reduceEqDiff, Nat.reduceAdd, if_true, if_false]
    by_cases hb : bt x k = true
    · have : lwz x = k := by
        unfold lwz
        rw [first_eq hz hb (by omega), if_pos (by omega)]
      simp only [hb, Bool.true_eq_false, if_false, this]
    · have hb' : bt x k = false := by simpa using hb
      simp only [hb', if_true]
      exact ih (k + 1) (by omega) (fun j hj => by
        by_cases e : j = k
        · subst e; exact hb'
        · exact hz j (by omega))
theorem q_rl_lowest (x : Int32) : mr_run 21 [.int x] h Q = Q (some (.int (nI (lwz x)))) h := by
  rw [r_rl_lowest]
  simp only [S_rl_lowest]
  rw [← nI_0]
  exact l_rl_lowest x 12 0 (by omega) (fun j hj => absurd hj (Nat.not_lt_zero j))
theorem l_mo_lowest (x : Int32) (hx : fa_first (bt x) 12 < 12) : ∀ (d k : Nat), k + d = 12 → (∀ j, j < k → bt x j = false) → mr_wp 137 2 [.int x, .int (nI k)] [] h Q = Q (some (.int (nI (lwz x)))) h := by
  intro d
  induction d with
  | zero =>
    intro k hk hz
    have := fa_first_yes (bt x) 12 hx
    rw [hz _ (by omega)] at this
    cases this
  | succ d ih =>
    intro k hk hz
    rw [s_mo_lowest_2]
    simp only [S_mo_lowest, q_mo_has (show k < 32 by omega), SEL, PF, mr_gf_O, mr_rc_O, Option.toList_some, Option.toList_none, List.cons_append, List.nil_append, b2i_0, b2i_1, b2i_a, a_00, a_11, ai_n, si_n, nI_1, q_rl_bit, mr_up_at, Nat.reduceLeDiff, Nat.reduceLT, Nat.reduceEqDiff, Nat.reduceAdd, if_true, if_false]
    by_cases hb : bt x k = true
    · have : lwz x = k := by
        unfold lwz
        rw [first_eq hz hb (by omega), if_pos (by omega)]
      simp [hb, this]
    · have hb' : bt x k = false := by simpa using hb
      simp only [hb', not_true_eq_false, if_false]
      exact ih (k + 1) (by omega) (fun j hj => by
        by_cases e : j = k
        · subst e; exact hb'
        · exact hz j (by omega))
theorem q_mo_lowest {x : Int32} (hx : fa_first (bt x) 12 < 12) : mr_run 137 [.int x] h Q = Q (some (.int (nI (lwz x)))) h := by
  rw [r_mo_lowest]
  simp only [S_mo_lowest]
  rw [← nI_0]
  exact l_mo_lowest x hx 12 0 (by omega) (fun j hj => absurd hj (Nat.not_lt_zero j))
def ush (x : Int32) (y : Int32) : Int32 := (x.toUInt32 >>> (y.toUInt32 &&& Int32.toUInt32 31)).toInt32
def bc1 (x : Int32) : Int32 := x - (ush x 1 &&& 1431655765)
def bc2 (x : Int32) : Int32 := (x &&& 858993459) + (ush x 2 &&& 858993459)
def bc3 (x : Int32) : Int32 := (x + ush x 4) &&& 252645135
def bc4 (x : Int32) : Int32 := x + ush x 8
def bc5 (x : Int32) : Int32 := x + ush x 16
def bc (x : Int32) : Int32 := bc5 (bc4 (bc3 (bc2 (bc1 x)))) &&& 63
def ct (x : Int32) : Nat := fb_ct (bt x) 12
theorem bc_ok2 : ∀ a, a < 64 → ∀ b, b < 64 → bc (nI (64 * a + b)) = nI (ct (nI (64 * a + b))) := by decide +kernel
theorem bc_ok (m : Nat) (hm : m < 4096) : bc (nI m) = nI (ct (nI m)) := by
  have := bc_ok2 (m / 64) (by omega) (m % 64) (by omega)
  rwa [Nat.div_add_mod] at this
theorem q_bitCount' (x : Int32) : mr_run 50 [.int x] h Q = Q (some (.int (bc x))) h := by
  rw [r_in_bitCount]
  simp only [S_in_bitCount_0, S_in_bitCount_1]
  rfl
theorem q_bitCount {x : Int32} (hx : sm x) : mr_run 50 [.int x] h Q = Q (some (.int (nI (ct x)))) h := by
  rw [q_bitCount']
  obtain ⟨m, hm, rfl⟩ := sm_nI hx
  rw [bc_ok m hm]
def on : Nat → Int32 → Int32 → Int32
  | 0, _, c => c
  | d + 1, l, c => if l = 0 then c else on d (l &&& (l - 1)) (c + 1)
def zr : Nat → Int32 → Bool
  | 0, l => l == 0
  | d + 1, l => l == 0 || zr d (l &&& (l - 1))
theorem on_ok2 : ∀ a, a < 64 → ∀ b, b < 64 → zr 12 (nI (64 * a + b)) = true ∧ on 12 (nI (64 * a + b)) 0 = nI (ct (nI (64 * a + b))) := by decide +kernel
theorem on_ok (m : Nat) (hm : m < 4096) : zr 12 (nI m) = true ∧ on 12 (nI m) 0 = nI (ct (nI m)) := by
  have := on_ok2 (m / 64) (by omega) (m % 64) (by omega)
  rwa [Nat.div_add_mod] at this
theorem l_mo_ones (x : Int32) : ∀ (d : Nat) (l c : Int32), zr d l = true → mr_wp 147 4 [.int x, .int c, .int l] [] h Q = Q (some (.int (on d l c))) h := by
  intro d
  induction d with
  | zero =>
    intro l c hz
    have : l = 0 := by simpa [zr] using hz
    subst this
    rw [s_mo_ones_4]
    simp only [S_mo_ones, if_true]
    rfl
  | succ d ih =>
    intro l c hz
    rw [s_mo_ones_4]
    by_cases e : l = 0
    · subst e
      simp only [S_mo_ones, if_true]
      simp [on]
    · simp only [S_mo_ones, if_neg e]
      have hz' : zr d (l &&& (l - 1)) = true := by simpa [zr, e] using hz
      rw [ih _ _ hz']
      show _ = Q (some (.int (if l = 0 then c else on d (l &&& (l - 1)) (c + 1)))) h
      rw [if_neg e]
theorem q_mo_ones {x : Int32} (hx : sm x) : mr_run 147 [.int x] h Q = Q (some (.int (nI (ct x)))) h := by
  rw [r_mo_ones]
  simp only [S_mo_ones]
  obtain ⟨m, hm, rfl⟩ := sm_nI hx
  obtain ⟨h1, h2⟩ := on_ok m hm
  rw [l_mo_ones _ 12 _ _ h1, h2]
end SETS
/-! the objects -/
def MO (th ty tt tk pl va fa nn dn dr um sn uf : Int32) : mr_c := mr_O 11 [.int th, .ref 75, .int ty, .int tt, .int tk, .int pl, .int va, .int fa, .int nn, .int dn, .ref 76, .int dr, .ref 77, .ref 78, .ref 79, .ref 80, .ref 81, .int um, .ref 82, .ref 83, .ref 84, .int sn, .ref 85, .ref 86, .ref 87, .ref 88, .ref 89, .int uf]
def MN (h : mr_h) (n : Nat) : Prop := ∃ th ty tt tk pl va fa dn dr um sn uf, h.1 74 = MO th ty tt tk pl va fa (nI n) dn dr um sn uf
theorem MN_fr {h h1 : mr_h} {n : Nat} {L : List Nat} (hm : MN h n) (f : mr_fr h h1 L) (hL : 74 ∉ L) : MN h1 n := by
  obtain ⟨th, ty, tt, tk, pl, va, fa, dn, dr, um, sn, uf, e⟩ := hm
  exact ⟨th, ty, tt, tk, pl, va, fa, dn, dr, um, sn, uf, fr_at f hL e⟩
def RE (n : Nat) (nm : Int32) : mr_c := mr_O 6 [.ref 10, .ref 11, .ref 12, .ref 13, .ref 14, .ref 15, .ref 16, .ref 17, .int (nI n), .int nm]
def NE (a n : Nat) : mr_c := mr_O 3 [.int (nI n), .ref (a + 1), .ref (a + 2)]
