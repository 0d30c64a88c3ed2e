/-! what a run of the mirror comes to, as equations -/
theorem mr_ex_succ : ∀ (n M pc : Nat) (lv st : List Value) (h : mr_h) (z : Option Value × mr_h), mr_ex n M pc lv st h = some z → mr_ex (n + 1) M pc lv st h = some z := by
  intro n
  induction n with
  | zero => intro M pc lv st h z he; simp [mr_ex] at he
  | succ n ih =>
    intro M pc lv st h z he
    rw [mr_ex] at he
    rw [mr_ex]
    cases hf : mr_ft M pc with
    | none => rw [hf] at he; cases he
    | some w =>
      obtain ⟨i, len⟩ := w
      rw [hf] at he
      dsimp only at he ⊢
      cases ho : mr_one M i len pc lv st h with
      | some w =>
        obtain ⟨pc', lv', st', h'⟩ := w
        rw [ho] at he
        exact ih _ _ _ _ _ _ he
      | none =>
        rw [ho] at he
        dsimp only at he ⊢
        cases hc : mr_cal M i len st h with
        | some w =>
          obtain ⟨t, as, rs⟩ := w
          rw [hc] at he
          dsimp only at he ⊢
          by_cases hn : (mr_sl as).length ≤ mr_mxl t
          · rw [if_pos hn] at he ⊢
            cases hx : mr_ex n t 0 (mr_ent as (mr_mxl t)) [] h with
            | none => rw [hx] at he; cases he
            | some w =>
              obtain ⟨v, h'⟩ := w
              rw [hx] at he
              rw [ih _ _ _ _ _ _ hx]
              exact ih _ _ _ _ _ _ he
          · rw [if_neg hn] at he
            cases he
        | none =>
          rw [hc] at he
          exact he
theorem mr_ex_le {n k : Nat} (hk : n ≤ k) {M pc : Nat} {lv st : List Value} {h : mr_h} {z : Option Value × mr_h} (he : mr_ex n M pc lv st h = some z) : mr_ex k M pc lv st h = some z := by
  induction hk with
  | refl => exact he
  | step _ ih => exact mr_ex_succ _ _ _ _ _ _ _ ih
def mr_wp (M pc : Nat) (lv st : List Value) (h : mr_h) (Q : Option Value → mr_h → Prop) : Prop := ∃ n r h', mr_ex n M pc lv st h = some (r, h') ∧ Q r h'
/-- a call of the method t -/
def mr_run (t : Nat) (as : List Value) (h : mr_h) (Q : Option Value → mr_h → Prop) : Prop := mr_wp t 0 (mr_ent as (mr_mxl t)) [] h Q
theorem gx_one {M pc len pc' : Nat} {i : Instr} {lv st lv' st' : List Value} {h h' : mr_h} {Q : Option Value → mr_h → Prop} (hf : mr_ft M pc = some (i, len)) (ho : mr_one M i len pc lv st h = some (pc', lv', st', h')) : mr_wp M pc lv st h Q = mr_wp M pc' lv' st' h' Q := by
  apply propext
  constructor
  · rintro ⟨n, r, h2, he, hq⟩
    cases n with
    | zero => simp [mr_ex] at he
    | succ n =>
      rw [mr_ex, hf] at he
      dsimp only at he
      rw [ho] at he
      exact ⟨n, r, h2, he, hq⟩
  · rintro ⟨n, r, h2, he, hq⟩
    refine ⟨n + 1, r, h2, ?_, hq⟩
    rw [mr_ex, hf]
    dsimp only
    rw [ho]
    exact he
theorem gx_no {M pc len : Nat} {i : Instr} {lv st : List Value} {h : mr_h} {Q : Option Value → mr_h → Prop} (hf : mr_ft M pc = some (i, len)) (ho : mr_one M i len pc lv st h = none) (hc : mr_cal M i len st h = none) (hr : mr_rt M i len st = none) : mr_wp M pc lv st h Q = False := by
  apply propext
  constructor
  · rintro ⟨n, r, h2, he, hq⟩
    cases n with
    | zero => simp [mr_ex] at he
    | succ n =>
      rw [mr_ex, hf] at he
      dsimp only at he
      rw [ho] at he
      dsimp only at he
      rw [hc] at he
      dsimp only at he
      rw [hr] at he
      cases he
  · exact False.elim
theorem gx_ret {M pc len : Nat} {i : Instr} {lv st : List Value} {h : mr_h} {v : Option Value} {Q : Option Value → mr_h → Prop} (hf : mr_ft M pc = some (i, len)) (ho : mr_one M i len pc lv st h = none) (hc : mr_cal M i len st h = none) (hr : mr_rt M i len st = some v) : mr_wp M pc lv st h Q = Q v h := by
  apply propext
  constructor
  · rintro ⟨n, r, h2, he, hq⟩
    cases n with
    | zero => simp [mr_ex] at he
    | succ n =>
      rw [mr_ex, hf] at he
      dsimp only at he
      rw [ho] at he
      dsimp only at he
      rw [hc] at he
      dsimp only at he
      rw [hr] at he
      cases he
      exact hq
  · intro hq
    refine ⟨1, v, h, ?_, hq⟩
    rw [mr_ex, hf]
    dsimp only
    rw [ho]
    dsimp only
    rw [hc]
    dsimp only
    rw [hr]
theorem gx_call {M pc len t : Nat} {i : Instr} {lv st as rs : List Value} {h : mr_h} {Q : Option Value → mr_h → Prop} (hf : mr_ft M pc = some (i, len)) (ho : mr_one M i len pc lv st h = none) (hc : mr_cal M i len st h = some (t, as, rs)) (hn : (mr_sl as).length ≤ mr_mxl t) :
    mr_wp M pc lv st h Q = mr_run t as h (fun v h' => mr_wp M (pc + 3) lv (v.toList ++ rs) h' Q) := by
  apply propext
  constructor
  · rintro ⟨n, r, h2, he, hq⟩
    cases n with
    | zero => simp [mr_ex] at he
    | succ n =>
      rw [mr_ex, hf] at he
      dsimp only at he
      rw [ho] at he
      dsimp only at he
      rw [hc] at he
      dsimp only at he
      rw [if_pos hn] at he
      split at he
      · rename_i v h3 hcx
        exact ⟨n, v, h3, hcx, n, r, h2, he, hq⟩
      · cases he
  · rintro ⟨n, v, h3, hcx, k, r, h2, he, hq⟩
    refine ⟨max n k + 1, r, h2, ?_, hq⟩
    rw [mr_ex, hf]
    dsimp only
    rw [ho]
    dsimp only
    rw [hc]
    dsimp only
    rw [if_pos hn, mr_ex_le (Nat.le_max_left n k) hcx]
    exact mr_ex_le (Nat.le_max_right n k) he
/-- a branch -/
theorem gx_br {M pc len : Nat} {i : Instr} {lv st : List Value} {h : mr_h} {Q : Option Value → mr_h → Prop} {c : ClassFile.Cond} {x y : Int32} {t1 t2 : Nat} {r : List Value} {P : Prop} [d : Decidable P] (hf : mr_ft M pc = some (i, len)) (ho : mr_one M i len pc lv st h = mr_ite c x y (some (t1, lv, r, h)) (some (t2, lv, r, h))) (hP : mr_cmp c x y = P) :
    mr_wp M pc lv st h Q = if P then mr_wp M t1 lv r h Q else mr_wp M t2 lv r h Q := by
  subst hP
  by_cases hc : mr_cmp c x y
  · rw [if_pos hc]
    refine gx_one hf (ho.trans ?_)
    unfold mr_ite
    split
    · rfl
    · rename_i z _; exact absurd hc z
  · rw [if_neg hc]
    refine gx_one hf (ho.trans ?_)
    unfold mr_ite
    split
    · rename_i z _; exact absurd z hc
    · rfl
/-! reading and writing, as conditions on the cell -/
def mr_gf (c : mr_c) (ci k : Nat) (K : Value → Prop) : Prop := match c with
  | .inl (c', fs) => if c' = ci then match fs[k]? with
    | some v => K v
    | none => False else False
  | _ => False
def mr_pf (c : mr_c) (ci k : Nat) (v : Value) (K : mr_c → Prop) : Prop := match c with
  | .inl (c', fs) => if c' = ci ∧ k < fs.length then K (.inl (c', fs.set k v)) else False
  | _ => False
def mr_ai (c : mr_c) (i : Int32) (K : Int32 → Prop) : Prop := match c with
  | .inr (.inl (n, f)) => if i < 0 ∨ n ≤ i.toNatClampNeg then False else K (f i.toNatClampNeg)
  | _ => False
def mr_aj (c : mr_c) (i : Int32) (K : Int64 → Prop) : Prop := match c with
  | .inr (.inr (.inl (n, f))) => if i < 0 ∨ n ≤ i.toNatClampNeg then False else K (f i.toNatClampNeg)
  | _ => False
def mr_az (c : mr_c) (i : Int32) (K : Int32 → Prop) : Prop := match c with
  | .inr (.inr (.inr (.inl (n, f)))) => if i < 0 ∨ n ≤ i.toNatClampNeg then False else K (f i.toNatClampNeg)
  | _ => False
def mr_aq (c : mr_c) (i : Int32) (K : Nat → Prop) : Prop := match c with
  | .inr (.inr (.inr (.inr (n, f)))) => if i < 0 ∨ n ≤ i.toNatClampNeg then False else match f i.toNatClampNeg with
    | some k => K k
    | none => False
  | _ => False
def mr_si (c : mr_c) (i x : Int32) (K : mr_c → Prop) : Prop := match c with
  | .inr (.inl (n, f)) => if i < 0 ∨ n ≤ i.toNatClampNeg then False else K (.inr (.inl (n, upd f i.toNatClampNeg x)))
  | _ => False
def mr_sj (c : mr_c) (i : Int32) (x : Int64) (K : mr_c → Prop) : Prop := match c with
  | .inr (.inr (.inl (n, f))) => if i < 0 ∨ n ≤ i.toNatClampNeg then False else K (.inr (.inr (.inl (n, vp_updL f i.toNatClampNeg x))))
  | _ => False
def mr_sz (c : mr_c) (i x : Int32) (K : mr_c → Prop) : Prop := match c with
  | .inr (.inr (.inr (.inl (n, f)))) => if i < 0 ∨ n ≤ i.toNatClampNeg then False else K (.inr (.inr (.inr (.inl (n, upd f i.toNatClampNeg (x &&& 1))))))
  | _ => False
def mr_sq (c cv : mr_c) (i : Int32) (v : Nat) (K : mr_c → Prop) : Prop := match c, cv with
  | .inr (.inr (.inr (.inr (n, f)))), .inl (3, _) => if i < 0 ∨ n ≤ i.toNatClampNeg then False else K (.inr (.inr (.inr (.inr (n, va_up f i.toNatClampNeg (some v))))))
  | _, _ => False
/-- the receiver is an object of the class -/
def mr_rc (c : mr_c) (ci : Nat) (K : Prop) : Prop := match c with
  | .inl (c', _) => if c' = ci then K else False
  | _ => False
def mr_cpy (ca cb : mr_c) (a b : Nat) (sp dp n : Int32) (K : mr_c → Prop) : Prop := match cb, ca with
  | .inr (.inl (n0, f)), .inr (.inl (n1, g)) => if ¬ a = b ∧ ¬ sp < 0 ∧ ¬ dp < 0 ∧ ¬ n < 0 ∧ sp.toNatClampNeg + n.toNatClampNeg ≤ n0 ∧ dp.toNatClampNeg + n.toNatClampNeg ≤ n1 then K (.inr (.inl (n1, va_cpy f g sp.toNatClampNeg dp.toNatClampNeg n.toNatClampNeg))) else False
  | _, _ => False
