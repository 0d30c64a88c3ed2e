/-! bits, masks, small numbers -/
def nb (k : Nat) : Int32 := (1 : Int32) <<< (nI k &&& 31)
theorem bt_1 (i : Nat) : bt 1 i = decide (i = 0) := by
  rcases Nat.lt_or_ge i 32 with h | h
  · exact (by decide +kernel : ∀ i, i < 32 → bt 1 i = decide (i = 0)) i h
  · rw [b_big h, decide_eq_false (by omega)]
theorem nb_bt {k : Nat} (hk : k < 32) (i : Nat) : bt (nb k) i = decide (i = k) := by
  rcases Nat.lt_or_ge i 32 with h | h
  · unfold nb
    rw [b_shl k hk 1 h, bt_1]
    by_cases e : i = k
    · subst e; simp
    · simp [e]; omega
  · rw [b_big h, decide_eq_false (by omega)]
def b2i (b : Bool) : Int32 := if b then 1 else 0
theorem b2i_0 (b : Bool) : (b2i b = 0) = (b = false) := by cases b <;> simp [b2i]
theorem b2i_1 (b : Bool) : (b2i b = 1) = (b = true) := by cases b <;> simp [b2i]
theorem b2i_a (b : Bool) : b2i b &&& 1 = b2i b := by cases b <;> decide
theorem b2i_t : b2i true = 1 := rfl
theorem b2i_f : b2i false = 0 := rfl
theorem shr1 {k : Nat} (hk : k < 32) (x : Int32) : (x >>> (nI k &&& 31)) &&& 1 = b2i (bt x k) := by
  apply b_ext
  intro i hi
  rw [b_and, b_sshr k hk x hi, bt_1]
  by_cases e : i = 0
  · subst e
    have : k + 0 < 32 := by omega
    rw [if_pos this, Nat.add_zero]
    cases bt x k <;> simp [b2i, bt_1, b_0]
  · cases bt x k <;> simp [b2i, bt_1, b_0, e]
/-- the mask of a property's places -/
def mk (p : Nat → Bool) : Nat → Int32
  | 0 => 0
  | n + 1 => if p n then mk p n ||| nb n else mk p n
theorem mk_bt {p : Nat → Bool} : ∀ {n : Nat}, n ≤ 32 → ∀ i, bt (mk p n) i = (decide (i < n) && p i)
  | 0, _, i => by simp [mk, b_0]
  | n + 1, h, i => by
    have ih := mk_bt (p := p) (n := n) (by omega) i
    unfold mk
    split
    · rename_i hp
      rw [b_or, ih, nb_bt (by omega)]
      by_cases e : i = n
      · subst e; simp [hp]
      · have : (i < n + 1) = (i < n) := propext (by omega)
        simp [e, this]
    · rename_i hp
      rw [ih]
      by_cases e : i = n
      · subst e; simp [hp]
      · have : (i < n + 1) = (i < n) := propext (by omega)
        simp [this]
theorem mk_cong {p q : Nat → Bool} : ∀ {n : Nat}, (∀ k, k < n → p k = q k) → mk p n = mk q n
  | 0, _ => rfl
  | n + 1, h => by
    unfold mk
    rw [mk_cong (fun k hk => h k (by omega)), h n (by omega)]
def sm (x : Int32) : Prop := ∀ i, 12 ≤ i → bt x i = false
theorem mk_sm {p : Nat → Bool} {n : Nat} (h : n ≤ 12) : sm (mk p n) := by
  intro i hi
  rw [mk_bt (by omega), decide_eq_false (by omega)]
  rfl
theorem sm_nI {x : Int32} (h : sm x) : ∃ m, m < 4096 ∧ x = nI m := by
  refine ⟨x.toBitVec.toNat, ?_, ?_⟩
  · have : x.toBitVec.toNat < 2 ^ 12 := Nat.lt_pow_two_of_testBit _ (fun i hi => h i hi)
    exact this
  · apply Int32.toBitVec_inj.mp
    show x.toBitVec = BitVec.ofNat 32 x.toBitVec.toNat
    simp
theorem sm_and {x y : Int32} (h : sm x) : sm (x &&& y) := fun i hi => by rw [b_and, h i hi]; rfl
theorem sm_and2 {x y : Int32} (h : sm y) : sm (x &&& y) := fun i hi => by rw [b_and, h i hi]; simp
theorem sm_or {x y : Int32} (h : sm x) (g : sm y) : sm (x ||| y) := fun i hi => by rw [b_or, h i hi, g i hi]; rfl
theorem sm_nb {k : Nat} (h : k < 12) : sm (nb k) := fun i hi => by rw [nb_bt (by omega), decide_eq_false (by omega)]
theorem sm_0 : sm 0 := fun i _ => b_0 i
theorem sm_ext {x y : Int32} (hx : sm x) (hy : sm y) (h : ∀ i, i < 12 → bt x i = bt y i) : x = y := by
  apply b_ext
  intro i _
  by_cases e : i < 12
  · exact h i e
  · rw [hx i (by omega), hy i (by omega)]
theorem nI_nle' {a b : Nat} (h : a < b) (hb : b < 2 ^ 31) : ¬ nI b ≤ nI a := nI_ge h hb
