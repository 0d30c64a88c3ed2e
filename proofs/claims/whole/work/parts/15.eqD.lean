/-! step equations, printed by wip/whole/gen12run.py; S_x: all of a method but the heads of its loops; s_x_pc: a head -/
theorem s_mo_begins_12 (v0 : Value) (x : Int32) (st : List Value) (h : mr_h) (Q : Option Value → mr_h → Prop) : mr_wp 117 12 [v0, .int x] st h Q = mr_wp 117 13 [v0, .int x] (.int x :: st) h Q := gx_one (i := .iload_n 1) (len := 1) (by decide +kernel) rfl
theorem S_mo_begins : (∀ (v1 : Value) (x : Nat) (st : List Value) (h : mr_h) (Q : Option Value → mr_h → Prop), mr_wp 117 0 [.ref x, v1] st h Q = mr_wp 117 1 [.ref x, v1] (.ref x :: st) h Q) ∧
    (∀ (v0 v1 : Value) (st : List Value) (h : mr_h) (Q : Option Value → mr_h → Prop), mr_wp 117 1 [v0, v1] st h Q = mr_wp 117 2 [v0, v1] (.int (4) :: st) h Q) ∧
    (∀ (v0 v1 : Value) (a : Nat) (x : Int32) (st : List Value) (h : mr_h) (Q : Option Value → mr_h → Prop), mr_wp 117 2 [v0, v1] (.int x :: .ref a :: st) h Q = mr_pf (h.1 a) 11 9 (.int x) (fun c => mr_wp 117 5 [v0, v1] st (mr_up h a c) Q)) ∧
    (∀ (v1 : Value) (x : Nat) (st : List Value) (h : mr_h) (Q : Option Value → mr_h → Prop), mr_wp 117 5 [.ref x, v1] st h Q = mr_wp 117 6 [.ref x, v1] (.ref x :: st) h Q) ∧
    (∀ (v0 v1 : Value) (st : List Value) (h : mr_h) (Q : Option Value → mr_h → Prop), mr_wp 117 6 [v0, v1] st h Q = mr_wp 117 7 [v0, v1] (.int (0) :: st) h Q) ∧
    (∀ (v0 v1 : Value) (a : Nat) (x : Int32) (st : List Value) (h : mr_h) (Q : Option Value → mr_h → Prop), mr_wp 117 7 [v0, v1] (.int x :: .ref a :: st) h Q = mr_pf (h.1 a) 11 11 (.int x) (fun c => mr_wp 117 10 [v0, v1] st (mr_up h a c) Q)) ∧
    (∀ (v0 v1 : Value) (st : List Value) (h : mr_h) (Q : Option Value → mr_h → Prop), mr_wp 117 10 [v0, v1] st h Q = mr_wp 117 11 [v0, v1] (.int (0) :: st) h Q) ∧
    (∀ (v1 : Value) (w0 : Nat) (x : Int32) (st : List Value) (h : mr_h) (Q : Option Value → mr_h → Prop), mr_wp 117 11 [.ref w0, v1] (.int x :: st) h Q = mr_wp 117 12 [.ref w0, .int x] st h Q) ∧
    (∀ (v0 v1 : Value) (st : List Value) (h : mr_h) (Q : Option Value → mr_h → Prop), mr_wp 117 13 [v0, v1] st h Q = mr_wp 117 15 [v0, v1] (.int (12) :: st) h Q) ∧
    (∀ (v0 v1 : Value) (x : Int32) (y : Int32) (st : List Value) (h : mr_h) (Q : Option Value → mr_h → Prop), mr_wp 117 15 [v0, v1] (.int y :: .int x :: st) h Q = if y ≤ x then mr_wp 117 43 [v0, v1] st h Q else mr_wp 117 18 [v0, v1] st h Q) ∧
    (∀ (v1 : Value) (x : Nat) (st : List Value) (h : mr_h) (Q : Option Value → mr_h → Prop), mr_wp 117 18 [.ref x, v1] st h Q = mr_wp 117 19 [.ref x, v1] (.ref x :: st) h Q) ∧
    (∀ (v0 v1 : Value) (a : Nat) (st : List Value) (h : mr_h) (Q : Option Value → mr_h → Prop), mr_wp 117 19 [v0, v1] (.ref a :: st) h Q = mr_gf (h.1 a) 11 10 (fun v => mr_wp 117 22 [v0, v1] (v :: st) h Q)) ∧
    (∀ (v0 v1 : Value) (st : List Value) (h : mr_h) (Q : Option Value → mr_h → Prop), mr_wp 117 22 [v0, v1] st h Q = mr_wp 117 23 [v0, v1] (.int (0) :: st) h Q) ∧
    (∀ (v0 : Value) (x : Int32) (st : List Value) (h : mr_h) (Q : Option Value → mr_h → Prop), mr_wp 117 23 [v0, .int x] st h Q = mr_wp 117 24 [v0, .int x] (.int x :: st) h Q) ∧
    (∀ (v0 v1 : Value) (x : Int32) (y : Int32) (st : List Value) (h : mr_h) (Q : Option Value → mr_h → Prop), mr_wp 117 24 [v0, v1] (.int y :: .int x :: st) h Q = mr_wp 117 25 [v0, v1] (.int (x + y) :: st) h Q) ∧
    (∀ (v0 v1 : Value) (st : List Value) (h : mr_h) (Q : Option Value → mr_h → Prop), mr_wp 117 25 [v0, v1] st h Q = mr_wp 117 26 [v0, v1] (.int (0) :: st) h Q) ∧
    (∀ (v0 v1 : Value) (a : Nat) (x : Int32) (y : Int32) (st : List Value) (h : mr_h) (Q : Option Value → mr_h → Prop), mr_wp 117 26 [v0, v1] (.int y :: .int x :: .ref a :: st) h Q = mr_si (h.1 a) x y (fun c => mr_wp 117 27 [v0, v1] st (mr_up h a c) Q)) ∧
    (∀ (v1 : Value) (x : Nat) (st : List Value) (h : mr_h) (Q : Option Value → mr_h → Prop), mr_wp 117 27 [.ref x, v1] st h Q = mr_wp 117 28 [.ref x, v1] (.ref x :: st) h Q) ∧
    (∀ (v0 v1 : Value) (a : Nat) (st : List Value) (h : mr_h) (Q : Option Value → mr_h → Prop), mr_wp 117 28 [v0, v1] (.ref a :: st) h Q = mr_gf (h.1 a) 11 10 (fun v => mr_wp 117 31 [v0, v1] (v :: st) h Q)) ∧
    (∀ (v0 v1 : Value) (st : List Value) (h : mr_h) (Q : Option Value → mr_h → Prop), mr_wp 117 31 [v0, v1] st h Q = mr_wp 117 33 [v0, v1] (.int (12) :: st) h Q) ∧
    (∀ (v0 : Value) (x : Int32) (st : List Value) (h : mr_h) (Q : Option Value → mr_h → Prop), mr_wp 117 33 [v0, .int x] st h Q = mr_wp 117 34 [v0, .int x] (.int x :: st) h Q) ∧
    (∀ (v0 v1 : Value) (x : Int32) (y : Int32) (st : List Value) (h : mr_h) (Q : Option Value → mr_h → Prop), mr_wp 117 34 [v0, v1] (.int y :: .int x :: st) h Q = mr_wp 117 35 [v0, v1] (.int (x + y) :: st) h Q) ∧
    (∀ (v0 v1 : Value) (st : List Value) (h : mr_h) (Q : Option Value → mr_h → Prop), mr_wp 117 35 [v0, v1] st h Q = mr_wp 117 36 [v0, v1] (.int (-1) :: st) h Q) ∧
    (∀ (v0 v1 : Value) (a : Nat) (x : Int32) (y : Int32) (st : List Value) (h : mr_h) (Q : Option Value → mr_h → Prop), mr_wp 117 36 [v0, v1] (.int y :: .int x :: .ref a :: st) h Q = mr_si (h.1 a) x y (fun c => mr_wp 117 37 [v0, v1] st (mr_up h a c) Q)) ∧
    (∀ (x : Int32) (w0 : Nat) (st : List Value) (h : mr_h) (Q : Option Value → mr_h → Prop), mr_wp 117 37 [.ref w0, .int x] st h Q = mr_wp 117 40 [.ref w0, .int (x + (1))] st h Q) ∧
    (∀ (v0 v1 : Value) (st : List Value) (h : mr_h) (Q : Option Value → mr_h → Prop), mr_wp 117 40 [v0, v1] st h Q = mr_wp 117 12 [v0, v1] st h Q) ∧
    (∀ (v0 v1 : Value) (h : mr_h) (Q : Option Value → mr_h → Prop), mr_wp 117 43 [v0, v1] [] h Q = Q none h) :=
  ⟨fun v1 x st h Q => gx_one (i := .aload_n 0) (len := 1) (by decide +kernel) rfl,
   fun v0 v1 st h Q => gx_one (i := .iconst 4) (len := 1) (by decide +kernel) rfl,
   fun v0 v1 a x st h Q => gx_put (x := 102) (by decide +kernel) (by decide +kernel) ⟨rfl, Or.inl rfl⟩,
   fun v1 x st h Q => gx_one (i := .aload_n 0) (len := 1) (by decide +kernel) rfl,
   fun v0 v1 st h Q => gx_one (i := .iconst 0) (len := 1) (by decide +kernel) rfl,
   fun v0 v1 a x st h Q => gx_put (x := 105) (by decide +kernel) (by decide +kernel) ⟨rfl, Or.inl rfl⟩,
   fun v0 v1 st h Q => gx_one (i := .iconst 0) (len := 1) (by decide +kernel) rfl,
   fun v1 w0 x st h Q => gx_one (i := .istore_n 1) (len := 1) (by decide +kernel) rfl,
   fun v0 v1 st h Q => gx_one (i := .bipush 12) (len := 2) (by decide +kernel) rfl,
   fun v0 v1 x y st h Q => gx_br (i := .if_icmp .ge 28) (len := 3) (c := .ge) (by decide +kernel) rfl rfl,
   fun v1 x st h Q => gx_one (i := .aload_n 0) (len := 1) (by decide +kernel) rfl,
   fun v0 v1 a st h Q => gx_get (x := 13) (by decide +kernel) (by decide +kernel),
   fun v0 v1 st h Q => gx_one (i := .iconst 0) (len := 1) (by decide +kernel) rfl,
   fun v0 x st h Q => gx_one (i := .iload_n 1) (len := 1) (by decide +kernel) rfl,
   fun v0 v1 x y st h Q => gx_one (i := .iadd) (len := 1) (by decide +kernel) rfl,
   fun v0 v1 st h Q => gx_one (i := .iconst 0) (len := 1) (by decide +kernel) rfl,
   fun v0 v1 a x y st h Q => gx_iast (by decide +kernel),
   fun v1 x st h Q => gx_one (i := .aload_n 0) (len := 1) (by decide +kernel) rfl,
   fun v0 v1 a st h Q => gx_get (x := 13) (by decide +kernel) (by decide +kernel),
   fun v0 v1 st h Q => gx_one (i := .bipush 12) (len := 2) (by decide +kernel) rfl,
   fun v0 x st h Q => gx_one (i := .iload_n 1) (len := 1) (by decide +kernel) rfl,
   fun v0 v1 x y st h Q => gx_one (i := .iadd) (len := 1) (by decide +kernel) rfl,
   fun v0 v1 st h Q => gx_one (i := .iconst (-1)) (len := 1) (by decide +kernel) rfl,
   fun v0 v1 a x y st h Q => gx_iast (by decide +kernel),
   fun x w0 st h Q => gx_one (i := .iinc 1 1) (len := 3) (by decide +kernel) rfl,
   fun v0 v1 st h Q => gx_one (i := .goto (-28)) (len := 3) (by decide +kernel) rfl,
   fun v0 v1 h Q => gx_ret (i := .return_) (len := 1) (by decide +kernel) rfl rfl (by simp only [mr_rt, if_pos]; rw [if_pos (by decide +kernel)])⟩
theorem s_mo_ranksRest_2 (v0 : Value) (x : Int32) (st : List Value) (h : mr_h) (Q : Option Value → mr_h → Prop) : mr_wp 118 2 [v0, .int x] st h Q = mr_wp 118 3 [v0, .int x] (.int x :: st) h Q := gx_one (i := .iload_n 1) (len := 1) (by decide +kernel) rfl
theorem S_mo_ranksRest : (∀ (v0 v1 : Value) (st : List Value) (h : mr_h) (Q : Option Value → mr_h → Prop), mr_wp 118 0 [v0, v1] st h Q = mr_wp 118 1 [v0, v1] (.int (0) :: st) h Q) ∧
    (∀ (v1 : Value) (w0 : Nat) (x : Int32) (st : List Value) (h : mr_h) (Q : Option Value → mr_h → Prop), mr_wp 118 1 [.ref w0, v1] (.int x :: st) h Q = mr_wp 118 2 [.ref w0, .int x] st h Q) ∧
    (∀ (v0 v1 : Value) (st : List Value) (h : mr_h) (Q : Option Value → mr_h → Prop), mr_wp 118 3 [v0, v1] st h Q = mr_wp 118 5 [v0, v1] (.int (12) :: st) h Q) ∧
    (∀ (v0 v1 : Value) (x : Int32) (y : Int32) (st : List Value) (h : mr_h) (Q : Option Value → mr_h → Prop), mr_wp 118 5 [v0, v1] (.int y :: .int x :: st) h Q = if y ≤ x then mr_wp 118 49 [v0, v1] st h Q else mr_wp 118 8 [v0, v1] st h Q) ∧
    (∀ (v1 : Value) (x : Nat) (st : List Value) (h : mr_h) (Q : Option Value → mr_h → Prop), mr_wp 118 8 [.ref x, v1] st h Q = mr_wp 118 9 [.ref x, v1] (.ref x :: st) h Q) ∧
    (∀ (v0 v1 : Value) (a : Nat) (st : List Value) (h : mr_h) (Q : Option Value → mr_h → Prop), mr_wp 118 9 [v0, v1] (.ref a :: st) h Q = mr_gf (h.1 a) 11 10 (fun v => mr_wp 118 12 [v0, v1] (v :: st) h Q)) ∧
    (∀ (v0 v1 : Value) (st : List Value) (h : mr_h) (Q : Option Value → mr_h → Prop), mr_wp 118 12 [v0, v1] st h Q = mr_wp 118 14 [v0, v1] (.int (12) :: st) h Q) ∧
    (∀ (v0 : Value) (x : Int32) (st : List Value) (h : mr_h) (Q : Option Value → mr_h → Prop), mr_wp 118 14 [v0, .int x] st h Q = mr_wp 118 15 [v0, .int x] (.int x :: st) h Q) ∧
    (∀ (v0 v1 : Value) (x : Int32) (y : Int32) (st : List Value) (h : mr_h) (Q : Option Value → mr_h → Prop), mr_wp 118 15 [v0, v1] (.int y :: .int x :: st) h Q = mr_wp 118 16 [v0, v1] (.int (x + y) :: st) h Q) ∧
    (∀ (v0 v1 : Value) (a : Nat) (x : Int32) (st : List Value) (h : mr_h) (Q : Option Value → mr_h → Prop), mr_wp 118 16 [v0, v1] (.int x :: .ref a :: st) h Q = mr_ai (h.1 a) x (fun v => mr_wp 118 17 [v0, v1] (.int v :: st) h Q)) ∧
    (∀ (v0 v1 : Value) (x : Int32) (st : List Value) (h : mr_h) (Q : Option Value → mr_h → Prop), mr_wp 118 17 [v0, v1] (.int x :: st) h Q = if 0 ≤ x then mr_wp 118 43 [v0, v1] st h Q else mr_wp 118 20 [v0, v1] st h Q) ∧
    (∀ (v1 : Value) (x : Nat) (st : List Value) (h : mr_h) (Q : Option Value → mr_h → Prop), mr_wp 118 20 [.ref x, v1] st h Q = mr_wp 118 21 [.ref x, v1] (.ref x :: st) h Q) ∧
    (∀ (v0 v1 : Value) (a : Nat) (st : List Value) (h : mr_h) (Q : Option Value → mr_h → Prop), mr_wp 118 21 [v0, v1] (.ref a :: st) h Q = mr_gf (h.1 a) 11 10 (fun v => mr_wp 118 24 [v0, v1] (v :: st) h Q)) ∧
    (∀ (v0 v1 : Value) (st : List Value) (h : mr_h) (Q : Option Value → mr_h → Prop), mr_wp 118 24 [v0, v1] st h Q = mr_wp 118 26 [v0, v1] (.int (12) :: st) h Q) ∧
    (∀ (v0 : Value) (x : Int32) (st : List Value) (h : mr_h) (Q : Option Value → mr_h → Prop), mr_wp 118 26 [v0, .int x] st h Q = mr_wp 118 27 [v0, .int x] (.int x :: st) h Q) ∧
    (∀ (v0 v1 : Value) (x : Int32) (y : Int32) (st : List Value) (h : mr_h) (Q : Option Value → mr_h → Prop), mr_wp 118 27 [v0, v1] (.int y :: .int x :: st) h Q = mr_wp 118 28 [v0, v1] (.int (x + y) :: st) h Q) ∧
    (∀ (v1 : Value) (x : Nat) (st : List Value) (h : mr_h) (Q : Option Value → mr_h → Prop), mr_wp 118 28 [.ref x, v1] st h Q = mr_wp 118 29 [.ref x, v1] (.ref x :: st) h Q) ∧
    (∀ (v0 v1 : Value) (a : Nat) (st : List Value) (h : mr_h) (Q : Option Value → mr_h → Prop), mr_wp 118 29 [v0, v1] (.ref a :: st) h Q = mr_gf (h.1 a) 11 11 (fun v => mr_wp 118 32 [v0, v1] (v :: st) h Q)) ∧
    (∀ (v0 v1 : Value) (a : Nat) (x : Int32) (y : Int32) (st : List Value) (h : mr_h) (Q : Option Value → mr_h → Prop), mr_wp 118 32 [v0, v1] (.int y :: .int x :: .ref a :: st) h Q = mr_si (h.1 a) x y (fun c => mr_wp 118 33 [v0, v1] st (mr_up h a c) Q)) ∧
    (∀ (v1 : Value) (x : Nat) (st : List Value) (h : mr_h) (Q : Option Value → mr_h → Prop), mr_wp 118 33 [.ref x, v1] st h Q = mr_wp 118 34 [.ref x, v1] (.ref x :: st) h Q) ∧
    (∀ (v0 v1 : Value) (x : Nat) (st : List Value) (h : mr_h) (Q : Option Value → mr_h → Prop), mr_wp 118 34 [v0, v1] (.ref x :: st) h Q = mr_wp 118 35 [v0, v1] (.ref x :: .ref x :: st) h Q) ∧
    (∀ (v0 v1 : Value) (a : Nat) (st : List Value) (h : mr_h) (Q : Option Value → mr_h → Prop), mr_wp 118 35 [v0, v1] (.ref a :: st) h Q = mr_gf (h.1 a) 11 11 (fun v => mr_wp 118 38 [v0, v1] (v :: st) h Q)) ∧
    (∀ (v0 v1 : Value) (st : List Value) (h : mr_h) (Q : Option Value → mr_h → Prop), mr_wp 118 38 [v0, v1] st h Q = mr_wp 118 39 [v0, v1] (.int (1) :: st) h Q) ∧
    (∀ (v0 v1 : Value) (x : Int32) (y : Int32) (st : List Value) (h : mr_h) (Q : Option Value → mr_h → Prop), mr_wp 118 39 [v0, v1] (.int y :: .int x :: st) h Q = mr_wp 118 40 [v0, v1] (.int (x + y) :: st) h Q) ∧
    (∀ (v0 v1 : Value) (a : Nat) (x : Int32) (st : List Value) (h : mr_h) (Q : Option Value → mr_h → Prop), mr_wp 118 40 [v0, v1] (.int x :: .ref a :: st) h Q = mr_pf (h.1 a) 11 11 (.int x) (fun c => mr_wp 118 43 [v0, v1] st (mr_up h a c) Q)) ∧
    (∀ (x : Int32) (w0 : Nat) (st : List Value) (h : mr_h) (Q : Option Value → mr_h → Prop), mr_wp 118 43 [.ref w0, .int x] st h Q = mr_wp 118 46 [.ref w0, .int (x + (1))] st h Q) ∧
    (∀ (v0 v1 : Value) (st : List Value) (h : mr_h) (Q : Option Value → mr_h → Prop), mr_wp 118 46 [v0, v1] st h Q = mr_wp 118 2 [v0, v1] st h Q) ∧
    (∀ (v0 v1 : Value) (h : mr_h) (Q : Option Value → mr_h → Prop), mr_wp 118 49 [v0, v1] [] h Q = Q none h) :=
  ⟨fun v0 v1 st h Q => gx_one (i := .iconst 0) (len := 1) (by decide +kernel) rfl,
   fun v1 w0 x st h Q => gx_one (i := .istore_n 1) (len := 1) (by decide +kernel) rfl,
   fun v0 v1 st h Q => gx_one (i := .bipush 12) (len := 2) (by decide +kernel) rfl,
   fun v0 v1 x y st h Q => gx_br (i := .if_icmp .ge 44) (len := 3) (c := .ge) (by decide +kernel) rfl rfl,
   fun v1 x st h Q => gx_one (i := .aload_n 0) (len := 1) (by decide +kernel) rfl,
   fun v0 v1 a st h Q => gx_get (x := 13) (by decide +kernel) (by decide +kernel),
   fun v0 v1 st h Q => gx_one (i := .bipush 12) (len := 2) (by decide +kernel) rfl,
   fun v0 x st h Q => gx_one (i := .iload_n 1) (len := 1) (by decide +kernel) rfl,
   fun v0 v1 x y st h Q => gx_one (i := .iadd) (len := 1) (by decide +kernel) rfl,
   fun v0 v1 a x st h Q => gx_iald (by decide +kernel),
   fun v0 v1 x st h Q => gx_br (i := .ifCond .ge 26) (len := 3) (c := .ge) (by decide +kernel) rfl rfl,
   fun v1 x st h Q => gx_one (i := .aload_n 0) (len := 1) (by decide +kernel) rfl,
   fun v0 v1 a st h Q => gx_get (x := 13) (by decide +kernel) (by decide +kernel),
   fun v0 v1 st h Q => gx_one (i := .bipush 12) (len := 2) (by decide +kernel) rfl,
   fun v0 x st h Q => gx_one (i := .iload_n 1) (len := 1) (by decide +kernel) rfl,
   fun v0 v1 x y st h Q => gx_one (i := .iadd) (len := 1) (by decide +kernel) rfl,
   fun v1 x st h Q => gx_one (i := .aload_n 0) (len := 1) (by decide +kernel) rfl,
   fun v0 v1 a st h Q => gx_get (x := 105) (by decide +kernel) (by decide +kernel),
   fun v0 v1 a x y st h Q => gx_iast (by decide +kernel),
   fun v1 x st h Q => gx_one (i := .aload_n 0) (len := 1) (by decide +kernel) rfl,
   fun v0 v1 x st h Q => gx_one (i := .dup) (len := 1) (by decide +kernel) rfl,
   fun v0 v1 a st h Q => gx_get (x := 105) (by decide +kernel) (by decide +kernel),
   fun v0 v1 st h Q => gx_one (i := .iconst 1) (len := 1) (by decide +kernel) rfl,
   fun v0 v1 x y st h Q => gx_one (i := .iadd) (len := 1) (by decide +kernel) rfl,
   fun v0 v1 a x st h Q => gx_put (x := 105) (by decide +kernel) (by decide +kernel) ⟨rfl, Or.inl rfl⟩,
   fun x w0 st h Q => gx_one (i := .iinc 1 1) (len := 3) (by decide +kernel) rfl,
   fun v0 v1 st h Q => gx_one (i := .goto (-44)) (len := 3) (by decide +kernel) rfl,
   fun v0 v1 h Q => gx_ret (i := .return_) (len := 1) (by decide +kernel) rfl rfl (by simp only [mr_rt, if_pos]; rw [if_pos (by decide +kernel)])⟩
theorem s_mo_settles_10 (v0 : Value) (x : Int32) (st : List Value) (h : mr_h) (Q : Option Value → mr_h → Prop) : mr_wp 119 10 [v0, .int x] st h Q = mr_wp 119 11 [v0, .int x] (.int x :: st) h Q := gx_one (i := .iload_n 1) (len := 1) (by decide +kernel) rfl
theorem S_mo_settles : (∀ (v1 : Value) (x : Nat) (st : List Value) (h : mr_h) (Q : Option Value → mr_h → Prop), mr_wp 119 0 [.ref x, v1] st h Q = mr_wp 119 1 [.ref x, v1] (.ref x :: st) h Q) ∧
    (∀ (v1 : Value) (x : Nat) (st : List Value) (h : mr_h) (Q : Option Value → mr_h → Prop), mr_wp 119 1 [.ref x, v1] st h Q = mr_wp 119 2 [.ref x, v1] (.ref x :: st) h Q) ∧
    (∀ (v0 v1 : Value) (a : Nat) (st : List Value) (h : mr_h) (Q : Option Value → mr_h → Prop), mr_wp 119 2 [v0, v1] (.ref a :: st) h Q = mr_gf (h.1 a) 11 9 (fun v => mr_wp 119 5 [v0, v1] (v :: st) h Q)) ∧
    (∀ (v0 v1 : Value) (a : Nat) (x : Int32) (st : List Value) (h : mr_h) (Q : Option Value → mr_h → Prop), mr_wp 119 5 [v0, v1] (.int x :: .ref a :: st) h Q = mr_pf (h.1 a) 11 8 (.int x) (fun c => mr_wp 119 8 [v0, v1] st (mr_up h a c) Q)) ∧
    (∀ (v0 v1 : Value) (st : List Value) (h : mr_h) (Q : Option Value → mr_h → Prop), mr_wp 119 8 [v0, v1] st h Q = mr_wp 119 9 [v0, v1] (.int (0) :: st) h Q) ∧
    (∀ (v1 : Value) (w0 : Nat) (x : Int32) (st : List Value) (h : mr_h) (Q : Option Value → mr_h → Prop), mr_wp 119 9 [.ref w0, v1] (.int x :: st) h Q = mr_wp 119 10 [.ref w0, .int x] st h Q) ∧
    (∀ (v0 v1 : Value) (st : List Value) (h : mr_h) (Q : Option Value → mr_h → Prop), mr_wp 119 11 [v0, v1] st h Q = mr_wp 119 13 [v0, v1] (.int (24) :: st) h Q) ∧
    (∀ (v0 v1 : Value) (x : Int32) (y : Int32) (st : List Value) (h : mr_h) (Q : Option Value → mr_h → Prop), mr_wp 119 13 [v0, v1] (.int y :: .int x :: st) h Q = if y ≤ x then mr_wp 119 34 [v0, v1] st h Q else mr_wp 119 16 [v0, v1] st h Q) ∧
    (∀ (v1 : Value) (x : Nat) (st : List Value) (h : mr_h) (Q : Option Value → mr_h → Prop), mr_wp 119 16 [.ref x, v1] st h Q = mr_wp 119 17 [.ref x, v1] (.ref x :: st) h Q) ∧
    (∀ (v0 v1 : Value) (a : Nat) (st : List Value) (h : mr_h) (Q : Option Value → mr_h → Prop), mr_wp 119 17 [v0, v1] (.ref a :: st) h Q = mr_gf (h.1 a) 11 12 (fun v => mr_wp 119 20 [v0, v1] (v :: st) h Q)) ∧
    (∀ (v0 : Value) (x : Int32) (st : List Value) (h : mr_h) (Q : Option Value → mr_h → Prop), mr_wp 119 20 [v0, .int x] st h Q = mr_wp 119 21 [v0, .int x] (.int x :: st) h Q) ∧
    (∀ (v1 : Value) (x : Nat) (st : List Value) (h : mr_h) (Q : Option Value → mr_h → Prop), mr_wp 119 21 [.ref x, v1] st h Q = mr_wp 119 22 [.ref x, v1] (.ref x :: st) h Q) ∧
    (∀ (v0 v1 : Value) (a : Nat) (st : List Value) (h : mr_h) (Q : Option Value → mr_h → Prop), mr_wp 119 22 [v0, v1] (.ref a :: st) h Q = mr_gf (h.1 a) 11 10 (fun v => mr_wp 119 25 [v0, v1] (v :: st) h Q)) ∧
    (∀ (v0 : Value) (x : Int32) (st : List Value) (h : mr_h) (Q : Option Value → mr_h → Prop), mr_wp 119 25 [v0, .int x] st h Q = mr_wp 119 26 [v0, .int x] (.int x :: st) h Q) ∧
    (∀ (v0 v1 : Value) (a : Nat) (x : Int32) (st : List Value) (h : mr_h) (Q : Option Value → mr_h → Prop), mr_wp 119 26 [v0, v1] (.int x :: .ref a :: st) h Q = mr_ai (h.1 a) x (fun v => mr_wp 119 27 [v0, v1] (.int v :: st) h Q)) ∧
    (∀ (v0 v1 : Value) (a : Nat) (x : Int32) (y : Int32) (st : List Value) (h : mr_h) (Q : Option Value → mr_h → Prop), mr_wp 119 27 [v0, v1] (.int y :: .int x :: .ref a :: st) h Q = mr_si (h.1 a) x y (fun c => mr_wp 119 28 [v0, v1] st (mr_up h a c) Q)) ∧
    (∀ (x : Int32) (w0 : Nat) (st : List Value) (h : mr_h) (Q : Option Value → mr_h → Prop), mr_wp 119 28 [.ref w0, .int x] st h Q = mr_wp 119 31 [.ref w0, .int (x + (1))] st h Q) ∧
    (∀ (v0 v1 : Value) (st : List Value) (h : mr_h) (Q : Option Value → mr_h → Prop), mr_wp 119 31 [v0, v1] st h Q = mr_wp 119 10 [v0, v1] st h Q) ∧
    (∀ (v1 : Value) (x : Nat) (st : List Value) (h : mr_h) (Q : Option Value → mr_h → Prop), mr_wp 119 34 [.ref x, v1] st h Q = mr_wp 119 35 [.ref x, v1] (.ref x :: st) h Q) ∧
    (∀ (v0 v1 : Value) (st : List Value) (h : mr_h) (Q : Option Value → mr_h → Prop), mr_wp 119 35 [v0, v1] st h Q = mr_wp 119 36 [v0, v1] (.int (0) :: st) h Q) ∧
    (∀ (v0 v1 : Value) (a : Nat) (x : Int32) (st : List Value) (h : mr_h) (Q : Option Value → mr_h → Prop), mr_wp 119 36 [v0, v1] (.int x :: .ref a :: st) h Q = mr_pf (h.1 a) 11 2 (.int x) (fun c => mr_wp 119 39 [v0, v1] st (mr_up h a c) Q)) ∧
    (∀ (v1 : Value) (x : Nat) (st : List Value) (h : mr_h) (Q : Option Value → mr_h → Prop), mr_wp 119 39 [.ref x, v1] st h Q = mr_wp 119 40 [.ref x, v1] (.ref x :: st) h Q) ∧
    (∀ (v0 v1 : Value) (st : List Value) (h : mr_h) (Q : Option Value → mr_h → Prop), mr_wp 119 40 [v0, v1] st h Q = mr_wp 119 41 [v0, v1] (.int (0) :: st) h Q) ∧
    (∀ (v0 v1 : Value) (a : Nat) (x : Int32) (st : List Value) (h : mr_h) (Q : Option Value → mr_h → Prop), mr_wp 119 41 [v0, v1] (.int x :: .ref a :: st) h Q = mr_pf (h.1 a) 11 21 (.int x) (fun c => mr_wp 119 44 [v0, v1] st (mr_up h a c) Q)) ∧
    (∀ (v1 : Value) (x : Nat) (st : List Value) (h : mr_h) (Q : Option Value → mr_h → Prop), mr_wp 119 44 [.ref x, v1] st h Q = mr_wp 119 45 [.ref x, v1] (.ref x :: st) h Q) ∧
    (∀ (v0 v1 : Value) (st : List Value) (h : mr_h) (Q : Option Value → mr_h → Prop), mr_wp 119 45 [v0, v1] st h Q = mr_wp 119 46 [v0, v1] (.int (0) :: st) h Q) ∧
    (∀ (v0 v1 : Value) (a : Nat) (x : Int32) (st : List Value) (h : mr_h) (Q : Option Value → mr_h → Prop), mr_wp 119 46 [v0, v1] (.int x :: .ref a :: st) h Q = mr_pf (h.1 a) 11 17 (.int x) (fun c => mr_wp 119 49 [v0, v1] st (mr_up h a c) Q)) ∧
    (∀ (v1 : Value) (x : Nat) (st : List Value) (h : mr_h) (Q : Option Value → mr_h → Prop), mr_wp 119 49 [.ref x, v1] st h Q = mr_wp 119 50 [.ref x, v1] (.ref x :: st) h Q) ∧
    (∀ (v0 v1 : Value) (a : Nat) (st : List Value) (h : mr_h) (Q : Option Value → mr_h → Prop), mr_wp 119 50 [v0, v1] (.ref a :: st) h Q = mr_gf (h.1 a) 11 15 (fun v => mr_wp 119 53 [v0, v1] (v :: st) h Q)) ∧
    (∀ (v0 v1 : Value) (st : List Value) (h : mr_h) (Q : Option Value → mr_h → Prop), mr_wp 119 53 [v0, v1] st h Q = mr_wp 119 54 [v0, v1] (.int (0) :: st) h Q) ∧
    (∀ (v0 v1 : Value) (st : List Value) (h : mr_h) (Q : Option Value → mr_h → Prop), mr_wp 119 54 [v0, v1] st h Q = mr_wp 119 55 [v0, v1] (.int (0) :: st) h Q) ∧
    (∀ (v0 v1 : Value) (a : Nat) (x : Int32) (y : Int32) (st : List Value) (h : mr_h) (Q : Option Value → mr_h → Prop), mr_wp 119 55 [v0, v1] (.int y :: .int x :: .ref a :: st) h Q = mr_sz (h.1 a) x y (fun c => mr_wp 119 56 [v0, v1] st (mr_up h a c) Q)) ∧
    (∀ (v1 : Value) (x : Nat) (st : List Value) (h : mr_h) (Q : Option Value → mr_h → Prop), mr_wp 119 56 [.ref x, v1] st h Q = mr_wp 119 57 [.ref x, v1] (.ref x :: st) h Q) ∧
    (∀ (v0 v1 : Value) (a : Nat) (st : List Value) (h : mr_h) (Q : Option Value → mr_h → Prop), mr_wp 119 57 [v0, v1] (.ref a :: st) h Q = mr_gf (h.1 a) 11 15 (fun v => mr_wp 119 60 [v0, v1] (v :: st) h Q)) ∧
    (∀ (v0 v1 : Value) (st : List Value) (h : mr_h) (Q : Option Value → mr_h → Prop), mr_wp 119 60 [v0, v1] st h Q = mr_wp 119 61 [v0, v1] (.int (1) :: st) h Q) ∧
    (∀ (v0 v1 : Value) (st : List Value) (h : mr_h) (Q : Option Value → mr_h → Prop), mr_wp 119 61 [v0, v1] st h Q = mr_wp 119 62 [v0, v1] (.int (0) :: st) h Q) ∧
    (∀ (v0 v1 : Value) (a : Nat) (x : Int32) (y : Int32) (st : List Value) (h : mr_h) (Q : Option Value → mr_h → Prop), mr_wp 119 62 [v0, v1] (.int y :: .int x :: .ref a :: st) h Q = mr_sz (h.1 a) x y (fun c => mr_wp 119 63 [v0, v1] st (mr_up h a c) Q)) ∧
    (∀ (v0 v1 : Value) (h : mr_h) (Q : Option Value → mr_h → Prop), mr_wp 119 63 [v0, v1] [] h Q = Q none h) :=
  ⟨fun v1 x st h Q => gx_one (i := .aload_n 0) (len := 1) (by decide +kernel) rfl,
   fun v1 x st h Q => gx_one (i := .aload_n 0) (len := 1) (by decide +kernel) rfl,
   fun v0 v1 a st h Q => gx_get (x := 102) (by decide +kernel) (by decide +kernel),
   fun v0 v1 a x st h Q => gx_put (x := 123) (by decide +kernel) (by decide +kernel) ⟨rfl, Or.inl rfl⟩,
   fun v0 v1 st h Q => gx_one (i := .iconst 0) (len := 1) (by decide +kernel) rfl,
   fun v1 w0 x st h Q => gx_one (i := .istore_n 1) (len := 1) (by decide +kernel) rfl,
   fun v0 v1 st h Q => gx_one (i := .bipush 24) (len := 2) (by decide +kernel) rfl,
   fun v0 v1 x y st h Q => gx_br (i := .if_icmp .ge 21) (len := 3) (c := .ge) (by decide +kernel) rfl rfl,
   fun v1 x st h Q => gx_one (i := .aload_n 0) (len := 1) (by decide +kernel) rfl,
   fun v0 v1 a st h Q => gx_get (x := 16) (by decide +kernel) (by decide +kernel),
   fun v0 x st h Q => gx_one (i := .iload_n 1) (len := 1) (by decide +kernel) rfl,
   fun v1 x st h Q => gx_one (i := .aload_n 0) (len := 1) (by decide +kernel) rfl,
   fun v0 v1 a st h Q => gx_get (x := 13) (by decide +kernel) (by decide +kernel),
   fun v0 x st h Q => gx_one (i := .iload_n 1) (len := 1) (by decide +kernel) rfl,
   fun v0 v1 a x st h Q => gx_iald (by decide +kernel),
   fun v0 v1 a x y st h Q => gx_iast (by decide +kernel),
   fun x w0 st h Q => gx_one (i := .iinc 1 1) (len := 3) (by decide +kernel) rfl,
   fun v0 v1 st h Q => gx_one (i := .goto (-21)) (len := 3) (by decide +kernel) rfl,
   fun v1 x st h Q => gx_one (i := .aload_n 0) (len := 1) (by decide +kernel) rfl,
   fun v0 v1 st h Q => gx_one (i := .iconst 0) (len := 1) (by decide +kernel) rfl,
   fun v0 v1 a x st h Q => gx_put (x := 73) (by decide +kernel) (by decide +kernel) ⟨rfl, Or.inl rfl⟩,
   fun v1 x st h Q => gx_one (i := .aload_n 0) (len := 1) (by decide +kernel) rfl,
   fun v0 v1 st h Q => gx_one (i := .iconst 0) (len := 1) (by decide +kernel) rfl,
   fun v0 v1 a x st h Q => gx_put (x := 126) (by decide +kernel) (by decide +kernel) ⟨rfl, Or.inl rfl⟩,
   fun v1 x st h Q => gx_one (i := .aload_n 0) (len := 1) (by decide +kernel) rfl,
   fun v0 v1 st h Q => gx_one (i := .iconst 0) (len := 1) (by decide +kernel) rfl,
   fun v0 v1 a x st h Q => gx_put (x := 129) (by decide +kernel) (by decide +kernel) ⟨rfl, Or.inl rfl⟩,
   fun v1 x st h Q => gx_one (i := .aload_n 0) (len := 1) (by decide +kernel) rfl,
   fun v0 v1 a st h Q => gx_get (x := 25) (by decide +kernel) (by decide +kernel),
   fun v0 v1 st h Q => gx_one (i := .iconst 0) (len := 1) (by decide +kernel) rfl,
   fun v0 v1 st h Q => gx_one (i := .iconst 0) (len := 1) (by decide +kernel) rfl,
   fun v0 v1 a x y st h Q => gx_zast (by decide +kernel),
   fun v1 x st h Q => gx_one (i := .aload_n 0) (len := 1) (by decide +kernel) rfl,
   fun v0 v1 a st h Q => gx_get (x := 25) (by decide +kernel) (by decide +kernel),
   fun v0 v1 st h Q => gx_one (i := .iconst 1) (len := 1) (by decide +kernel) rfl,
   fun v0 v1 st h Q => gx_one (i := .iconst 0) (len := 1) (by decide +kernel) rfl,
   fun v0 v1 a x y st h Q => gx_zast (by decide +kernel),
   fun v0 v1 h Q => gx_ret (i := .return_) (len := 1) (by decide +kernel) rfl rfl (by simp only [mr_rt, if_pos]; rw [if_pos (by decide +kernel)])⟩
theorem S_mo_type : (∀ (v1 : Value) (x : Nat) (st : List Value) (h : mr_h) (Q : Option Value → mr_h → Prop), mr_wp 120 0 [.ref x, v1] st h Q = mr_wp 120 1 [.ref x, v1] (.ref x :: st) h Q) ∧
    (∀ (v0 v1 : Value) (st : List Value) (h : mr_h) (Q : Option Value → mr_h → Prop), mr_wp 120 1 [v0, v1] st h Q = mr_wp 120 2 [v0, v1] (.int (0) :: st) h Q) ∧
    (∀ (v0 v1 : Value) (a : Nat) (x : Int32) (st : List Value) (h : mr_h) (Q : Option Value → mr_h → Prop), mr_wp 120 2 [v0, v1] (.int x :: .ref a :: st) h Q = mr_pf (h.1 a) 11 0 (.int x) (fun c => mr_wp 120 5 [v0, v1] st (mr_up h a c) Q)) ∧
    (∀ (v0 : Value) (x : Int32) (st : List Value) (h : mr_h) (Q : Option Value → mr_h → Prop), mr_wp 120 5 [v0, .int x] st h Q = mr_wp 120 6 [v0, .int x] (.int x :: st) h Q) ∧
    (∀ (v0 v1 : Value) (st : List Value) (h : mr_h) (Q : Option Value → mr_h → Prop), mr_wp 120 6 [v0, v1] st h Q = mr_wp 120 7 [v0, v1] (.int (0) :: st) h Q) ∧
    (∀ (v0 v1 : Value) (st : List Value) (h : mr_h) (Q : Option Value → mr_h → Prop), mr_wp 120 7 [v0, v1] st h Q = mr_wp 120 10 [v0, v1] (.int (255) :: st) h Q) ∧
    (∀ (v0 v1 : Value) (a0 : Int32) (a1 : Int32) (a2 : Int32) (h : mr_h) (Q : Option Value → mr_h → Prop), mr_wp 120 10 [v0, v1] [.int a2, .int a1, .int a0] h Q = mr_run 121 [.int a0, .int a1, .int a2] h (fun v h' => mr_wp 120 13 [v0, v1] (v.toList ++ []) h' Q)) ∧
    (∀ (v0 v1 : Value) (x : Int32) (st : List Value) (h : mr_h) (Q : Option Value → mr_h → Prop), mr_wp 120 13 [v0, v1] (.int x :: st) h Q = if ¬ x = 0 then mr_wp 120 18 [v0, v1] st h Q else mr_wp 120 16 [v0, v1] st h Q) ∧
    (∀ (v0 v1 : Value) (st : List Value) (h : mr_h) (Q : Option Value → mr_h → Prop), mr_wp 120 16 [v0, v1] st h Q = mr_wp 120 17 [v0, v1] (.int (-1) :: st) h Q) ∧
    (∀ (v0 v1 : Value) (x : Int32) (h : mr_h) (Q : Option Value → mr_h → Prop), mr_wp 120 17 [v0, v1] [.int x] h Q = Q (some (.int x)) h) ∧
    (∀ (v1 : Value) (x : Nat) (st : List Value) (h : mr_h) (Q : Option Value → mr_h → Prop), mr_wp 120 18 [.ref x, v1] st h Q = mr_wp 120 19 [.ref x, v1] (.ref x :: st) h Q) ∧
    (∀ (v0 v1 : Value) (a : Nat) (st : List Value) (h : mr_h) (Q : Option Value → mr_h → Prop), mr_wp 120 19 [v0, v1] (.ref a :: st) h Q = mr_gf (h.1 a) 11 2 (fun v => mr_wp 120 22 [v0, v1] (v :: st) h Q)) ∧
    (∀ (v0 v1 : Value) (st : List Value) (h : mr_h) (Q : Option Value → mr_h → Prop), mr_wp 120 22 [v0, v1] st h Q = mr_wp 120 24 [v0, v1] (.int (120) :: st) h Q) ∧
    (∀ (v0 v1 : Value) (x : Int32) (y : Int32) (st : List Value) (h : mr_h) (Q : Option Value → mr_h → Prop), mr_wp 120 24 [v0, v1] (.int y :: .int x :: st) h Q = if ¬ x = y then mr_wp 120 30 [v0, v1] st h Q else mr_wp 120 27 [v0, v1] st h Q) ∧
    (∀ (v0 v1 : Value) (st : List Value) (h : mr_h) (Q : Option Value → mr_h → Prop), mr_wp 120 27 [v0, v1] st h Q = mr_wp 120 29 [v0, v1] (.int (-3) :: st) h Q) ∧
    (∀ (v0 v1 : Value) (x : Int32) (h : mr_h) (Q : Option Value → mr_h → Prop), mr_wp 120 29 [v0, v1] [.int x] h Q = Q (some (.int x)) h) ∧
    (∀ (v1 : Value) (x : Nat) (st : List Value) (h : mr_h) (Q : Option Value → mr_h → Prop), mr_wp 120 30 [.ref x, v1] st h Q = mr_wp 120 31 [.ref x, v1] (.ref x :: st) h Q) ∧
    (∀ (v0 v1 : Value) (a : Nat) (st : List Value) (h : mr_h) (Q : Option Value → mr_h → Prop), mr_wp 120 31 [v0, v1] (.ref a :: st) h Q = mr_gf (h.1 a) 11 1 (fun v => mr_wp 120 34 [v0, v1] (v :: st) h Q)) ∧
    (∀ (v1 : Value) (x : Nat) (st : List Value) (h : mr_h) (Q : Option Value → mr_h → Prop), mr_wp 120 34 [.ref x, v1] st h Q = mr_wp 120 35 [.ref x, v1] (.ref x :: st) h Q) ∧
    (∀ (v0 v1 : Value) (a : Nat) (st : List Value) (h : mr_h) (Q : Option Value → mr_h → Prop), mr_wp 120 35 [v0, v1] (.ref a :: st) h Q = mr_gf (h.1 a) 11 2 (fun v => mr_wp 120 38 [v0, v1] (v :: st) h Q)) ∧
    (∀ (v0 : Value) (x : Int32) (st : List Value) (h : mr_h) (Q : Option Value → mr_h → Prop), mr_wp 120 38 [v0, .int x] st h Q = mr_wp 120 39 [v0, .int x] (.int x :: st) h Q) ∧
    (∀ (v0 v1 : Value) (a : Nat) (x : Int32) (y : Int32) (st : List Value) (h : mr_h) (Q : Option Value → mr_h → Prop), mr_wp 120 39 [v0, v1] (.int y :: .int x :: .ref a :: st) h Q = mr_si (h.1 a) x y (fun c => mr_wp 120 40 [v0, v1] st (mr_up h a c) Q)) ∧
    (∀ (v1 : Value) (x : Nat) (st : List Value) (h : mr_h) (Q : Option Value → mr_h → Prop), mr_wp 120 40 [.ref x, v1] st h Q = mr_wp 120 41 [.ref x, v1] (.ref x :: st) h Q) ∧
    (∀ (v0 v1 : Value) (x : Nat) (st : List Value) (h : mr_h) (Q : Option Value → mr_h → Prop), mr_wp 120 41 [v0, v1] (.ref x :: st) h Q = mr_wp 120 42 [v0, v1] (.ref x :: .ref x :: st) h Q) ∧
    (∀ (v0 v1 : Value) (a : Nat) (st : List Value) (h : mr_h) (Q : Option Value → mr_h → Prop), mr_wp 120 42 [v0, v1] (.ref a :: st) h Q = mr_gf (h.1 a) 11 2 (fun v => mr_wp 120 45 [v0, v1] (v :: st) h Q)) ∧
    (∀ (v0 v1 : Value) (st : List Value) (h : mr_h) (Q : Option Value → mr_h → Prop), mr_wp 120 45 [v0, v1] st h Q = mr_wp 120 46 [v0, v1] (.int (1) :: st) h Q) ∧
    (∀ (v0 v1 : Value) (x : Int32) (y : Int32) (st : List Value) (h : mr_h) (Q : Option Value → mr_h → Prop), mr_wp 120 46 [v0, v1] (.int y :: .int x :: st) h Q = mr_wp 120 47 [v0, v1] (.int (x + y) :: st) h Q) ∧
    (∀ (v0 v1 : Value) (a : Nat) (x : Int32) (st : List Value) (h : mr_h) (Q : Option Value → mr_h → Prop), mr_wp 120 47 [v0, v1] (.int x :: .ref a :: st) h Q = mr_pf (h.1 a) 11 2 (.int x) (fun c => mr_wp 120 50 [v0, v1] st (mr_up h a c) Q)) ∧
    (∀ (v1 : Value) (x : Nat) (st : List Value) (h : mr_h) (Q : Option Value → mr_h → Prop), mr_wp 120 50 [.ref x, v1] st h Q = mr_wp 120 51 [.ref x, v1] (.ref x :: st) h Q) ∧
    (∀ (v0 v1 : Value) (a : Nat) (st : List Value) (h : mr_h) (Q : Option Value → mr_h → Prop), mr_wp 120 51 [v0, v1] (.ref a :: st) h Q = mr_gf (h.1 a) 11 2 (fun v => mr_wp 120 54 [v0, v1] (v :: st) h Q)) ∧
    (∀ (v0 v1 : Value) (x : Int32) (h : mr_h) (Q : Option Value → mr_h → Prop), mr_wp 120 54 [v0, v1] [.int x] h Q = Q (some (.int x)) h) :=
  ⟨fun v1 x st h Q => gx_one (i := .aload_n 0) (len := 1) (by decide +kernel) rfl,
   fun v0 v1 st h Q => gx_one (i := .iconst 0) (len := 1) (by decide +kernel) rfl,
   fun v0 v1 a x st h Q => gx_put (x := 65) (by decide +kernel) (by decide +kernel) ⟨rfl, Or.inl rfl⟩,
   fun v0 x st h Q => gx_one (i := .iload_n 1) (len := 1) (by decide +kernel) rfl,
   fun v0 v1 st h Q => gx_one (i := .iconst 0) (len := 1) (by decide +kernel) rfl,
   fun v0 v1 st h Q => gx_one (i := .sipush 255) (len := 3) (by decide +kernel) rfl,
   fun v0 v1 a0 a1 a2 h Q => gx_stat (x := 69) (t := 121) (n := 3) (by decide +kernel) (by decide +kernel) (by decide) (by decide +kernel) rfl (Or.inl (Nat.le_of_ble_eq_true rfl)) (by show _ ≤ mr_mxl 121; rw [show mr_mxl 121 = 3 from by decide +kernel]; exact Nat.le_of_ble_eq_true rfl),
   fun v0 v1 x st h Q => gx_br (i := .ifCond .ne 5) (len := 3) (c := .ne) (by decide +kernel) rfl rfl,
   fun v0 v1 st h Q => gx_one (i := .iconst (-1)) (len := 1) (by decide +kernel) rfl,
   fun v0 v1 x h Q => gx_ret (i := .ireturn) (len := 1) (by decide +kernel) rfl rfl (by simp only [mr_rt, if_pos]; rw [if_pos (Or.inl (by decide +kernel))]),
   fun v1 x st h Q => gx_one (i := .aload_n 0) (len := 1) (by decide +kernel) rfl,
   fun v0 v1 a st h Q => gx_get (x := 73) (by decide +kernel) (by decide +kernel),
   fun v0 v1 st h Q => gx_one (i := .bipush 120) (len := 2) (by decide +kernel) rfl,
   fun v0 v1 x y st h Q => gx_br (i := .if_icmp .ne 6) (len := 3) (c := .ne) (by decide +kernel) rfl rfl,
   fun v0 v1 st h Q => gx_one (i := .bipush (-3)) (len := 2) (by decide +kernel) rfl,
   fun v0 v1 x h Q => gx_ret (i := .ireturn) (len := 1) (by decide +kernel) rfl rfl (by simp only [mr_rt, if_pos]; rw [if_pos (Or.inl (by decide +kernel))]),
   fun v1 x st h Q => gx_one (i := .aload_n 0) (len := 1) (by decide +kernel) rfl,
   fun v0 v1 a st h Q => gx_get (x := 7) (by decide +kernel) (by decide +kernel),
   fun v1 x st h Q => gx_one (i := .aload_n 0) (len := 1) (by decide +kernel) rfl,
   fun v0 v1 a st h Q => gx_get (x := 73) (by decide +kernel) (by decide +kernel),
   fun v0 x st h Q => gx_one (i := .iload_n 1) (len := 1) (by decide +kernel) rfl,
   fun v0 v1 a x y st h Q => gx_iast (by decide +kernel),
   fun v1 x st h Q => gx_one (i := .aload_n 0) (len := 1) (by decide +kernel) rfl,
   fun v0 v1 x st h Q => gx_one (i := .dup) (len := 1) (by decide +kernel) rfl,
   fun v0 v1 a st h Q => gx_get (x := 73) (by decide +kernel) (by decide +kernel),
   fun v0 v1 st h Q => gx_one (i := .iconst 1) (len := 1) (by decide +kernel) rfl,
   fun v0 v1 x y st h Q => gx_one (i := .iadd) (len := 1) (by decide +kernel) rfl,
   fun v0 v1 a x st h Q => gx_put (x := 73) (by decide +kernel) (by decide +kernel) ⟨rfl, Or.inl rfl⟩,
   fun v1 x st h Q => gx_one (i := .aload_n 0) (len := 1) (by decide +kernel) rfl,
   fun v0 v1 a st h Q => gx_get (x := 73) (by decide +kernel) (by decide +kernel),
   fun v0 v1 x h Q => gx_ret (i := .ireturn) (len := 1) (by decide +kernel) rfl rfl (by simp only [mr_rt, if_pos]; rw [if_pos (Or.inl (by decide +kernel))])⟩
theorem S_mo_in : (∀ (v1 v2 : Value) (x : Int32) (st : List Value) (h : mr_h) (Q : Option Value → mr_h → Prop), mr_wp 121 0 [.int x, v1, v2] st h Q = mr_wp 121 1 [.int x, v1, v2] (.int x :: st) h Q) ∧
    (∀ (v0 v2 : Value) (x : Int32) (st : List Value) (h : mr_h) (Q : Option Value → mr_h → Prop), mr_wp 121 1 [v0, .int x, v2] st h Q = mr_wp 121 2 [v0, .int x, v2] (.int x :: st) h Q) ∧
    (∀ (v0 v1 v2 : Value) (x : Int32) (y : Int32) (st : List Value) (h : mr_h) (Q : Option Value → mr_h → Prop), mr_wp 121 2 [v0, v1, v2] (.int y :: .int x :: st) h Q = if x < y then mr_wp 121 14 [v0, v1, v2] st h Q else mr_wp 121 5 [v0, v1, v2] st h Q) ∧
    (∀ (v1 v2 : Value) (x : Int32) (st : List Value) (h : mr_h) (Q : Option Value → mr_h → Prop), mr_wp 121 5 [.int x, v1, v2] st h Q = mr_wp 121 6 [.int x, v1, v2] (.int x :: st) h Q) ∧
    (∀ (v0 v1 : Value) (x : Int32) (st : List Value) (h : mr_h) (Q : Option Value → mr_h → Prop), mr_wp 121 6 [v0, v1, .int x] st h Q = mr_wp 121 7 [v0, v1, .int x] (.int x :: st) h Q) ∧
    (∀ (v0 v1 v2 : Value) (x : Int32) (y : Int32) (st : List Value) (h : mr_h) (Q : Option Value → mr_h → Prop), mr_wp 121 7 [v0, v1, v2] (.int y :: .int x :: st) h Q = if y < x then mr_wp 121 14 [v0, v1, v2] st h Q else mr_wp 121 10 [v0, v1, v2] st h Q) ∧
    (∀ (v0 v1 v2 : Value) (st : List Value) (h : mr_h) (Q : Option Value → mr_h → Prop), mr_wp 121 10 [v0, v1, v2] st h Q = mr_wp 121 11 [v0, v1, v2] (.int (1) :: st) h Q) ∧
    (∀ (v0 v1 v2 : Value) (st : List Value) (h : mr_h) (Q : Option Value → mr_h → Prop), mr_wp 121 11 [v0, v1, v2] st h Q = mr_wp 121 15 [v0, v1, v2] st h Q) ∧
    (∀ (v0 v1 v2 : Value) (st : List Value) (h : mr_h) (Q : Option Value → mr_h → Prop), mr_wp 121 14 [v0, v1, v2] st h Q = mr_wp 121 15 [v0, v1, v2] (.int (0) :: st) h Q) ∧
    (∀ (v0 v1 v2 : Value) (x : Int32) (h : mr_h) (Q : Option Value → mr_h → Prop) (hv : x &&& 1 = x), mr_wp 121 15 [v0, v1, v2] [.int x] h Q = Q (some (.int x)) h) :=
  ⟨fun v1 v2 x st h Q => gx_one (i := .iload_n 0) (len := 1) (by decide +kernel) rfl,
   fun v0 v2 x st h Q => gx_one (i := .iload_n 1) (len := 1) (by decide +kernel) rfl,
   fun v0 v1 v2 x y st h Q => gx_br (i := .if_icmp .lt 12) (len := 3) (c := .lt) (by decide +kernel) rfl rfl,
   fun v1 v2 x st h Q => gx_one (i := .iload_n 0) (len := 1) (by decide +kernel) rfl,
   fun v0 v1 x st h Q => gx_one (i := .iload_n 2) (len := 1) (by decide +kernel) rfl,
   fun v0 v1 v2 x y st h Q => gx_br (i := .if_icmp .gt 7) (len := 3) (c := .gt) (by decide +kernel) rfl rfl,
   fun v0 v1 v2 st h Q => gx_one (i := .iconst 1) (len := 1) (by decide +kernel) rfl,
   fun v0 v1 v2 st h Q => gx_one (i := .goto 4) (len := 3) (by decide +kernel) rfl,
   fun v0 v1 v2 st h Q => gx_one (i := .iconst 0) (len := 1) (by decide +kernel) rfl,
   fun v0 v1 v2 x h Q hv => gx_ret (i := .ireturn) (len := 1) (by decide +kernel) rfl rfl (by simp only [mr_rt, if_pos]; rw [if_pos (Or.inr ⟨by decide +kernel, hv⟩)])⟩
theorem S_mo_clear : (∀ (v1 : Value) (x : Nat) (st : List Value) (h : mr_h) (Q : Option Value → mr_h → Prop), mr_wp 122 0 [.ref x, v1] st h Q = mr_wp 122 1 [.ref x, v1] (.ref x :: st) h Q) ∧
    (∀ (v0 v1 : Value) (st : List Value) (h : mr_h) (Q : Option Value → mr_h → Prop), mr_wp 122 1 [v0, v1] st h Q = mr_wp 122 2 [v0, v1] (.int (0) :: st) h Q) ∧
    (∀ (v0 v1 : Value) (a : Nat) (x : Int32) (st : List Value) (h : mr_h) (Q : Option Value → mr_h → Prop), mr_wp 122 2 [v0, v1] (.int x :: .ref a :: st) h Q = mr_pf (h.1 a) 11 0 (.int x) (fun c => mr_wp 122 5 [v0, v1] st (mr_up h a c) Q)) ∧
    (∀ (v1 : Value) (x : Nat) (st : List Value) (h : mr_h) (Q : Option Value → mr_h → Prop), mr_wp 122 5 [.ref x, v1] st h Q = mr_wp 122 6 [.ref x, v1] (.ref x :: st) h Q) ∧
    (∀ (v0 v1 : Value) (a : Nat) (st : List Value) (h : mr_h) (Q : Option Value → mr_h → Prop), mr_wp 122 6 [v0, v1] (.ref a :: st) h Q = mr_gf (h.1 a) 11 2 (fun v => mr_wp 122 9 [v0, v1] (v :: st) h Q)) ∧
    (∀ (v1 : Value) (w0 : Nat) (x : Int32) (st : List Value) (h : mr_h) (Q : Option Value → mr_h → Prop), mr_wp 122 9 [.ref w0, v1] (.int x :: st) h Q = mr_wp 122 10 [.ref w0, .int x] st h Q) ∧
    (∀ (v1 : Value) (x : Nat) (st : List Value) (h : mr_h) (Q : Option Value → mr_h → Prop), mr_wp 122 10 [.ref x, v1] st h Q = mr_wp 122 11 [.ref x, v1] (.ref x :: st) h Q) ∧
    (∀ (v0 v1 : Value) (st : List Value) (h : mr_h) (Q : Option Value → mr_h → Prop), mr_wp 122 11 [v0, v1] st h Q = mr_wp 122 12 [v0, v1] (.int (0) :: st) h Q) ∧
    (∀ (v0 v1 : Value) (a : Nat) (x : Int32) (st : List Value) (h : mr_h) (Q : Option Value → mr_h → Prop), mr_wp 122 12 [v0, v1] (.int x :: .ref a :: st) h Q = mr_pf (h.1 a) 11 2 (.int x) (fun c => mr_wp 122 15 [v0, v1] st (mr_up h a c) Q)) ∧
    (∀ (v0 : Value) (x : Int32) (st : List Value) (h : mr_h) (Q : Option Value → mr_h → Prop), mr_wp 122 15 [v0, .int x] st h Q = mr_wp 122 16 [v0, .int x] (.int x :: st) h Q) ∧
    (∀ (v0 v1 : Value) (x : Int32) (h : mr_h) (Q : Option Value → mr_h → Prop), mr_wp 122 16 [v0, v1] [.int x] h Q = Q (some (.int x)) h) :=
  ⟨fun v1 x st h Q => gx_one (i := .aload_n 0) (len := 1) (by decide +kernel) rfl,
   fun v0 v1 st h Q => gx_one (i := .iconst 0) (len := 1) (by decide +kernel) rfl,
   fun v0 v1 a x st h Q => gx_put (x := 65) (by decide +kernel) (by decide +kernel) ⟨rfl, Or.inl rfl⟩,
   fun v1 x st h Q => gx_one (i := .aload_n 0) (len := 1) (by decide +kernel) rfl,
   fun v0 v1 a st h Q => gx_get (x := 73) (by decide +kernel) (by decide +kernel),
   fun v1 w0 x st h Q => gx_one (i := .istore_n 1) (len := 1) (by decide +kernel) rfl,
   fun v1 x st h Q => gx_one (i := .aload_n 0) (len := 1) (by decide +kernel) rfl,
   fun v0 v1 st h Q => gx_one (i := .iconst 0) (len := 1) (by decide +kernel) rfl,
   fun v0 v1 a x st h Q => gx_put (x := 73) (by decide +kernel) (by decide +kernel) ⟨rfl, Or.inl rfl⟩,
   fun v0 x st h Q => gx_one (i := .iload_n 1) (len := 1) (by decide +kernel) rfl,
   fun v0 v1 x h Q => gx_ret (i := .ireturn) (len := 1) (by decide +kernel) rfl rfl (by simp only [mr_rt, if_pos]; rw [if_pos (Or.inl (by decide +kernel))])⟩
theorem s_mo_graph_25 (v1 v2 : Value) (x : Nat) (st : List Value) (h : mr_h) (Q : Option Value → mr_h → Prop) : mr_wp 123 25 [.ref x, v1, v2] st h Q = mr_wp 123 26 [.ref x, v1, v2] (.ref x :: st) h Q := gx_one (i := .aload_n 0) (len := 1) (by decide +kernel) rfl
theorem S_mo_graph_0 : (∀ (v1 v2 : Value) (x : Nat) (st : List Value) (h : mr_h) (Q : Option Value → mr_h → Prop), mr_wp 123 0 [.ref x, v1, v2] st h Q = mr_wp 123 1 [.ref x, v1, v2] (.ref x :: st) h Q) ∧
    (∀ (v0 v1 v2 : Value) (st : List Value) (h : mr_h) (Q : Option Value → mr_h → Prop), mr_wp 123 1 [v0, v1, v2] st h Q = mr_wp 123 2 [v0, v1, v2] (.int (0) :: st) h Q) ∧
    (∀ (v0 v1 v2 : Value) (a : Nat) (x : Int32) (st : List Value) (h : mr_h) (Q : Option Value → mr_h → Prop), mr_wp 123 2 [v0, v1, v2] (.int x :: .ref a :: st) h Q = mr_pf (h.1 a) 11 0 (.int x) (fun c => mr_wp 123 5 [v0, v1, v2] st (mr_up h a c) Q)) ∧
    (∀ (v1 v2 : Value) (x : Nat) (st : List Value) (h : mr_h) (Q : Option Value → mr_h → Prop), mr_wp 123 5 [.ref x, v1, v2] st h Q = mr_wp 123 6 [.ref x, v1, v2] (.ref x :: st) h Q) ∧
    (∀ (v0 v1 v2 : Value) (st : List Value) (h : mr_h) (Q : Option Value → mr_h → Prop), mr_wp 123 6 [v0, v1, v2] st h Q = mr_wp 123 7 [v0, v1, v2] (.int (-1) :: st) h Q) ∧
    (∀ (v0 v1 v2 : Value) (a : Nat) (x : Int32) (st : List Value) (h : mr_h) (Q : Option Value → mr_h → Prop), mr_wp 123 7 [v0, v1, v2] (.int x :: .ref a :: st) h Q = mr_pf (h.1 a) 11 7 (.int x) (fun c => mr_wp 123 10 [v0, v1, v2] st (mr_up h a c) Q)) ∧
    (∀ (v1 v2 : Value) (x : Nat) (st : List Value) (h : mr_h) (Q : Option Value → mr_h → Prop), mr_wp 123 10 [.ref x, v1, v2] st h Q = mr_wp 123 11 [.ref x, v1, v2] (.ref x :: st) h Q) ∧
    (∀ (v0 v1 v2 : Value) (st : List Value) (h : mr_h) (Q : Option Value → mr_h → Prop), mr_wp 123 11 [v0, v1, v2] st h Q = mr_wp 123 12 [v0, v1, v2] (.int (0) :: st) h Q) ∧
    (∀ (v0 v1 v2 : Value) (a : Nat) (x : Int32) (st : List Value) (h : mr_h) (Q : Option Value → mr_h → Prop), mr_wp 123 12 [v0, v1, v2] (.int x :: .ref a :: st) h Q = mr_pf (h.1 a) 11 3 (.int x) (fun c => mr_wp 123 15 [v0, v1, v2] st (mr_up h a c) Q)) ∧
    (∀ (v1 v2 : Value) (x : Nat) (st : List Value) (h : mr_h) (Q : Option Value → mr_h → Prop), mr_wp 123 15 [.ref x, v1, v2] st h Q = mr_wp 123 16 [.ref x, v1, v2] (.ref x :: st) h Q) ∧
    (∀ (v0 v1 v2 : Value) (o : Nat) (h : mr_h) (Q : Option Value → mr_h → Prop), mr_wp 123 16 [v0, v1, v2] [.ref o] h Q = mr_rc (h.1 o) 11 (mr_run 117 [.ref o] h (fun v h' => mr_wp 123 19 [v0, v1, v2] (v.toList ++ []) h' Q))) ∧
    (∀ (v0 v1 v2 : Value) (st : List Value) (h : mr_h) (Q : Option Value → mr_h → Prop), mr_wp 123 19 [v0, v1, v2] st h Q = mr_wp 123 20 [v0, v1, v2] (.int (0) :: st) h Q) ∧
    (∀ (v1 v2 : Value) (w0 : Nat) (x : Int32) (st : List Value) (h : mr_h) (Q : Option Value → mr_h → Prop), mr_wp 123 20 [.ref w0, v1, v2] (.int x :: st) h Q = mr_wp 123 21 [.ref w0, .int x, v2] st h Q) ∧
    (∀ (v1 v2 : Value) (x : Nat) (st : List Value) (h : mr_h) (Q : Option Value → mr_h → Prop), mr_wp 123 21 [.ref x, v1, v2] st h Q = mr_wp 123 22 [.ref x, v1, v2] (.ref x :: st) h Q) ∧
    (∀ (v0 v1 v2 : Value) (o : Nat) (h : mr_h) (Q : Option Value → mr_h → Prop), mr_wp 123 22 [v0, v1, v2] [.ref o] h Q = mr_rc (h.1 o) 11 (mr_run 124 [.ref o] h (fun v h' => mr_wp 123 25 [v0, v1, v2] (v.toList ++ []) h' Q))) ∧
    (∀ (v0 v1 v2 : Value) (o : Nat) (h : mr_h) (Q : Option Value → mr_h → Prop), mr_wp 123 26 [v0, v1, v2] [.ref o] h Q = mr_rc (h.1 o) 11 (mr_run 126 [.ref o] h (fun v h' => mr_wp 123 29 [v0, v1, v2] (v.toList ++ []) h' Q))) ∧
    (∀ (v0 v1 v2 : Value) (x : Int32) (st : List Value) (h : mr_h) (Q : Option Value → mr_h → Prop), mr_wp 123 29 [v0, v1, v2] (.int x :: st) h Q = if x = 0 then mr_wp 123 106 [v0, v1, v2] st h Q else mr_wp 123 32 [v0, v1, v2] st h Q) ∧
    (∀ (v1 v2 : Value) (x : Nat) (st : List Value) (h : mr_h) (Q : Option Value → mr_h → Prop), mr_wp 123 32 [.ref x, v1, v2] st h Q = mr_wp 123 33 [.ref x, v1, v2] (.ref x :: st) h Q) ∧
    (∀ (v0 v1 v2 : Value) (a : Nat) (st : List Value) (h : mr_h) (Q : Option Value → mr_h → Prop), mr_wp 123 33 [v0, v1, v2] (.ref a :: st) h Q = mr_gf (h.1 a) 11 4 (fun v => mr_wp 123 36 [v0, v1, v2] (v :: st) h Q)) ∧
    (∀ (v0 v1 v2 : Value) (x : Int32) (st : List Value) (h : mr_h) (Q : Option Value → mr_h → Prop), mr_wp 123 36 [v0, v1, v2] (.int x :: st) h Q = if x = 0 then mr_wp 123 106 [v0, v1, v2] st h Q else mr_wp 123 39 [v0, v1, v2] st h Q) ∧
    (∀ (v1 v2 : Value) (x : Nat) (st : List Value) (h : mr_h) (Q : Option Value → mr_h → Prop), mr_wp 123 39 [.ref x, v1, v2] st h Q = mr_wp 123 40 [.ref x, v1, v2] (.ref x :: st) h Q) ∧
    (∀ (v1 v2 : Value) (x : Nat) (st : List Value) (h : mr_h) (Q : Option Value → mr_h → Prop), mr_wp 123 40 [.ref x, v1, v2] st h Q = mr_wp 123 41 [.ref x, v1, v2] (.ref x :: st) h Q) ∧
    (∀ (v0 v1 v2 : Value) (a : Nat) (st : List Value) (h : mr_h) (Q : Option Value → mr_h → Prop), mr_wp 123 41 [v0, v1, v2] (.ref a :: st) h Q = mr_gf (h.1 a) 11 4 (fun v => mr_wp 123 44 [v0, v1, v2] (v :: st) h Q)) ∧
    (∀ (v0 v1 v2 : Value) (st : List Value) (h : mr_h) (Q : Option Value → mr_h → Prop), mr_wp 123 44 [v0, v1, v2] st h Q = mr_wp 123 45 [v0, v1, v2] (.int (1) :: st) h Q) ∧
    (∀ (v0 v1 v2 : Value) (x : Int32) (y : Int32) (st : List Value) (h : mr_h) (Q : Option Value → mr_h → Prop), mr_wp 123 45 [v0, v1, v2] (.int y :: .int x :: st) h Q = if ¬ x = y then mr_wp 123 65 [v0, v1, v2] st h Q else mr_wp 123 48 [v0, v1, v2] st h Q) ∧
    (∀ (v1 v2 : Value) (x : Nat) (st : List Value) (h : mr_h) (Q : Option Value → mr_h → Prop), mr_wp 123 48 [.ref x, v1, v2] st h Q = mr_wp 123 49 [.ref x, v1, v2] (.ref x :: st) h Q) ∧
    (∀ (v0 v1 v2 : Value) (a : Nat) (st : List Value) (h : mr_h) (Q : Option Value → mr_h → Prop), mr_wp 123 49 [v0, v1, v2] (.ref a :: st) h Q = mr_gf (h.1 a) 11 6 (fun v => mr_wp 123 52 [v0, v1, v2] (v :: st) h Q)) ∧
    (∀ (v0 v1 v2 : Value) (st : List Value) (h : mr_h) (Q : Option Value → mr_h → Prop), mr_wp 123 52 [v0, v1, v2] st h Q = mr_wp 123 54 [v0, v1, v2] (.int (110) :: st) h Q) ∧
    (∀ (v0 v1 v2 : Value) (x : Int32) (y : Int32) (st : List Value) (h : mr_h) (Q : Option Value → mr_h → Prop), mr_wp 123 54 [v0, v1, v2] (.int y :: .int x :: st) h Q = if ¬ x = y then mr_wp 123 61 [v0, v1, v2] st h Q else mr_wp 123 57 [v0, v1, v2] st h Q) ∧
    (∀ (v0 v2 : Value) (x : Int32) (st : List Value) (h : mr_h) (Q : Option Value → mr_h → Prop), mr_wp 123 57 [v0, .int x, v2] st h Q = mr_wp 123 58 [v0, .int x, v2] (.int x :: st) h Q) ∧
    (∀ (v0 v1 v2 : Value) (x : Int32) (st : List Value) (h : mr_h) (Q : Option Value → mr_h → Prop), mr_wp 123 58 [v0, v1, v2] (.int x :: st) h Q = if ¬ x = 0 then mr_wp 123 65 [v0, v1, v2] st h Q else mr_wp 123 61 [v0, v1, v2] st h Q) ∧
    (∀ (v0 v1 v2 : Value) (st : List Value) (h : mr_h) (Q : Option Value → mr_h → Prop), mr_wp 123 61 [v0, v1, v2] st h Q = mr_wp 123 62 [v0, v1, v2] (.int (1) :: st) h Q) ∧
    (∀ (v0 v1 v2 : Value) (st : List Value) (h : mr_h) (Q : Option Value → mr_h → Prop), mr_wp 123 62 [v0, v1, v2] st h Q = mr_wp 123 66 [v0, v1, v2] st h Q) ∧
    (∀ (v0 v1 v2 : Value) (st : List Value) (h : mr_h) (Q : Option Value → mr_h → Prop), mr_wp 123 65 [v0, v1, v2] st h Q = mr_wp 123 66 [v0, v1, v2] (.int (0) :: st) h Q) ∧
    (∀ (v0 v1 v2 : Value) (a0 : Int32) (o : Nat) (h : mr_h) (Q : Option Value → mr_h → Prop), mr_wp 123 66 [v0, v1, v2] [.int a0, .ref o] h Q = mr_rc (h.1 o) 11 (mr_run 127 [.ref o, .int a0] h (fun v h' => mr_wp 123 69 [v0, v1, v2] (v.toList ++ []) h' Q))) ∧
    (∀ (v0 v2 : Value) (w1 : Int32) (x : Int32) (st : List Value) (h : mr_h) (Q : Option Value → mr_h → Prop), mr_wp 123 69 [v0, .int w1, v2] (.int x :: st) h Q = mr_wp 123 70 [v0, .int w1, .int x] st h Q) ∧
    (∀ (v1 v2 : Value) (x : Nat) (st : List Value) (h : mr_h) (Q : Option Value → mr_h → Prop), mr_wp 123 70 [.ref x, v1, v2] st h Q = mr_wp 123 71 [.ref x, v1, v2] (.ref x :: st) h Q) ∧
    (∀ (v0 v1 v2 : Value) (o : Nat) (h : mr_h) (Q : Option Value → mr_h → Prop), mr_wp 123 71 [v0, v1, v2] [.ref o] h Q = mr_rc (h.1 o) 11 (mr_run 126 [.ref o] h (fun v h' => mr_wp 123 74 [v0, v1, v2] (v.toList ++ []) h' Q))) ∧
    (∀ (v0 v1 v2 : Value) (x : Int32) (st : List Value) (h : mr_h) (Q : Option Value → mr_h → Prop), mr_wp 123 74 [v0, v1, v2] (.int x :: st) h Q = if x = 0 then mr_wp 123 82 [v0, v1, v2] st h Q else mr_wp 123 77 [v0, v1, v2] st h Q) ∧
    (∀ (v1 v2 : Value) (x : Nat) (st : List Value) (h : mr_h) (Q : Option Value → mr_h → Prop), mr_wp 123 77 [.ref x, v1, v2] st h Q = mr_wp 123 78 [.ref x, v1, v2] (.ref x :: st) h Q) :=
  ⟨fun v1 v2 x st h Q => gx_one (i := .aload_n 0) (len := 1) (by decide +kernel) rfl,
   fun v0 v1 v2 st h Q => gx_one (i := .iconst 0) (len := 1) (by decide +kernel) rfl,
   fun v0 v1 v2 a x st h Q => gx_put (x := 65) (by decide +kernel) (by decide +kernel) ⟨rfl, Or.inl rfl⟩,
   fun v1 v2 x st h Q => gx_one (i := .aload_n 0) (len := 1) (by decide +kernel) rfl,
   fun v0 v1 v2 st h Q => gx_one (i := .iconst (-1)) (len := 1) (by decide +kernel) rfl,
   fun v0 v1 v2 a x st h Q => gx_put (x := 92) (by decide +kernel) (by decide +kernel) ⟨rfl, Or.inl rfl⟩,
   fun v1 v2 x st h Q => gx_one (i := .aload_n 0) (len := 1) (by decide +kernel) rfl,
   fun v0 v1 v2 st h Q => gx_one (i := .iconst 0) (len := 1) (by decide +kernel) rfl,
   fun v0 v1 v2 a x st h Q => gx_put (x := 76) (by decide +kernel) (by decide +kernel) ⟨rfl, Or.inl rfl⟩,
   fun v1 v2 x st h Q => gx_one (i := .aload_n 0) (len := 1) (by decide +kernel) rfl,
   fun v0 v1 v2 o h Q => gx_virt (x := 56) (n := 0) (by decide +kernel) (by decide +kernel) rfl (Or.inl (Nat.le_of_ble_eq_true rfl)) (by show _ ≤ mr_mxl 117; rw [show mr_mxl 117 = 2 from by decide +kernel]; exact Nat.le_of_ble_eq_true rfl) (by decide +kernel),
   fun v0 v1 v2 st h Q => gx_one (i := .iconst 0) (len := 1) (by decide +kernel) rfl,
   fun v1 v2 w0 x st h Q => gx_one (i := .istore_n 1) (len := 1) (by decide +kernel) rfl,
   fun v1 v2 x st h Q => gx_one (i := .aload_n 0) (len := 1) (by decide +kernel) rfl,
   fun v0 v1 v2 o h Q => gx_virt (x := 99) (n := 0) (by decide +kernel) (by decide +kernel) rfl (Or.inl (Nat.le_of_ble_eq_true rfl)) (by show _ ≤ mr_mxl 124; rw [show mr_mxl 124 = 2 from by decide +kernel]; exact Nat.le_of_ble_eq_true rfl) (by decide +kernel),
   fun v0 v1 v2 o h Q => gx_virt (x := 95) (n := 0) (by decide +kernel) (by decide +kernel) rfl (Or.inl (Nat.le_of_ble_eq_true rfl)) (by show _ ≤ mr_mxl 126; rw [show mr_mxl 126 = 1 from by decide +kernel]; exact Nat.le_of_ble_eq_true rfl) (by decide +kernel),
   fun v0 v1 v2 x st h Q => gx_br (i := .ifCond .eq 77) (len := 3) (c := .eq) (by decide +kernel) rfl rfl,
   fun v1 v2 x st h Q => gx_one (i := .aload_n 0) (len := 1) (by decide +kernel) rfl,
   fun v0 v1 v2 a st h Q => gx_get (x := 86) (by decide +kernel) (by decide +kernel),
   fun v0 v1 v2 x st h Q => gx_br (i := .ifCond .eq 70) (len := 3) (c := .eq) (by decide +kernel) rfl rfl,
   fun v1 v2 x st h Q => gx_one (i := .aload_n 0) (len := 1) (by decide +kernel) rfl,
   fun v1 v2 x st h Q => gx_one (i := .aload_n 0) (len := 1) (by decide +kernel) rfl,
   fun v0 v1 v2 a st h Q => gx_get (x := 86) (by decide +kernel) (by decide +kernel),
   fun v0 v1 v2 st h Q => gx_one (i := .iconst 1) (len := 1) (by decide +kernel) rfl,
   fun v0 v1 v2 x y st h Q => gx_br (i := .if_icmp .ne 20) (len := 3) (c := .ne) (by decide +kernel) rfl rfl,
   fun v1 v2 x st h Q => gx_one (i := .aload_n 0) (len := 1) (by decide +kernel) rfl,
   fun v0 v1 v2 a st h Q => gx_get (x := 89) (by decide +kernel) (by decide +kernel),
   fun v0 v1 v2 st h Q => gx_one (i := .bipush 110) (len := 2) (by decide +kernel) rfl,
   fun v0 v1 v2 x y st h Q => gx_br (i := .if_icmp .ne 7) (len := 3) (c := .ne) (by decide +kernel) rfl rfl,
   fun v0 v2 x st h Q => gx_one (i := .iload_n 1) (len := 1) (by decide +kernel) rfl,
   fun v0 v1 v2 x st h Q => gx_br (i := .ifCond .ne 7) (len := 3) (c := .ne) (by decide +kernel) rfl rfl,
   fun v0 v1 v2 st h Q => gx_one (i := .iconst 1) (len := 1) (by decide +kernel) rfl,
   fun v0 v1 v2 st h Q => gx_one (i := .goto 4) (len := 3) (by decide +kernel) rfl,
   fun v0 v1 v2 st h Q => gx_one (i := .iconst 0) (len := 1) (by decide +kernel) rfl,
   fun v0 v1 v2 a0 o h Q => gx_virt (x := 112) (n := 1) (by decide +kernel) (by decide +kernel) rfl (Or.inl (Nat.le_of_ble_eq_true rfl)) (by show _ ≤ mr_mxl 127; rw [show mr_mxl 127 = 3 from by decide +kernel]; exact Nat.le_of_ble_eq_true rfl) (by decide +kernel),
   fun v0 v2 w1 x st h Q => gx_one (i := .istore_n 2) (len := 1) (by decide +kernel) rfl,
   fun v1 v2 x st h Q => gx_one (i := .aload_n 0) (len := 1) (by decide +kernel) rfl,
   fun v0 v1 v2 o h Q => gx_virt (x := 95) (n := 0) (by decide +kernel) (by decide +kernel) rfl (Or.inl (Nat.le_of_ble_eq_true rfl)) (by show _ ≤ mr_mxl 126; rw [show mr_mxl 126 = 1 from by decide +kernel]; exact Nat.le_of_ble_eq_true rfl) (by decide +kernel),
   fun v0 v1 v2 x st h Q => gx_br (i := .ifCond .eq 8) (len := 3) (c := .eq) (by decide +kernel) rfl rfl,
   fun v1 v2 x st h Q => gx_one (i := .aload_n 0) (len := 1) (by decide +kernel) rfl⟩
theorem S_mo_graph_1 : (∀ (v0 v1 : Value) (x : Int32) (st : List Value) (h : mr_h) (Q : Option Value → mr_h → Prop), mr_wp 123 78 [v0, v1, .int x] st h Q = mr_wp 123 79 [v0, v1, .int x] (.int x :: st) h Q) ∧
    (∀ (v0 v1 v2 : Value) (a0 : Int32) (o : Nat) (h : mr_h) (Q : Option Value → mr_h → Prop), mr_wp 123 79 [v0, v1, v2] [.int a0, .ref o] h Q = mr_rc (h.1 o) 11 (mr_run 128 [.ref o, .int a0] h (fun v h' => mr_wp 123 82 [v0, v1, v2] (v.toList ++ []) h' Q))) ∧
    (∀ (v1 v2 : Value) (x : Nat) (st : List Value) (h : mr_h) (Q : Option Value → mr_h → Prop), mr_wp 123 82 [.ref x, v1, v2] st h Q = mr_wp 123 83 [.ref x, v1, v2] (.ref x :: st) h Q) ∧
    (∀ (v1 v2 : Value) (x : Nat) (st : List Value) (h : mr_h) (Q : Option Value → mr_h → Prop), mr_wp 123 83 [.ref x, v1, v2] st h Q = mr_wp 123 84 [.ref x, v1, v2] (.ref x :: st) h Q) ∧
    (∀ (v0 v1 v2 : Value) (a : Nat) (st : List Value) (h : mr_h) (Q : Option Value → mr_h → Prop), mr_wp 123 84 [v0, v1, v2] (.ref a :: st) h Q = mr_gf (h.1 a) 11 4 (fun v => mr_wp 123 87 [v0, v1, v2] (v :: st) h Q)) ∧
    (∀ (v0 v1 v2 : Value) (st : List Value) (h : mr_h) (Q : Option Value → mr_h → Prop), mr_wp 123 87 [v0, v1, v2] st h Q = mr_wp 123 88 [v0, v1, v2] (.int (3) :: st) h Q) ∧
    (∀ (v0 v1 v2 : Value) (x : Int32) (y : Int32) (st : List Value) (h : mr_h) (Q : Option Value → mr_h → Prop), mr_wp 123 88 [v0, v1, v2] (.int y :: .int x :: st) h Q = if ¬ x = y then mr_wp 123 95 [v0, v1, v2] st h Q else mr_wp 123 91 [v0, v1, v2] st h Q) ∧
    (∀ (v0 v1 v2 : Value) (st : List Value) (h : mr_h) (Q : Option Value → mr_h → Prop), mr_wp 123 91 [v0, v1, v2] st h Q = mr_wp 123 92 [v0, v1, v2] (.int (1) :: st) h Q) ∧
    (∀ (v0 v1 v2 : Value) (st : List Value) (h : mr_h) (Q : Option Value → mr_h → Prop), mr_wp 123 92 [v0, v1, v2] st h Q = mr_wp 123 96 [v0, v1, v2] st h Q) ∧
    (∀ (v0 v1 v2 : Value) (st : List Value) (h : mr_h) (Q : Option Value → mr_h → Prop), mr_wp 123 95 [v0, v1, v2] st h Q = mr_wp 123 96 [v0, v1, v2] (.int (0) :: st) h Q) ∧
    (∀ (v0 v1 v2 : Value) (a0 : Int32) (o : Nat) (h : mr_h) (Q : Option Value → mr_h → Prop), mr_wp 123 96 [v0, v1, v2] [.int a0, .ref o] h Q = mr_rc (h.1 o) 11 (mr_run 127 [.ref o, .int a0] h (fun v h' => mr_wp 123 99 [v0, v1, v2] (v.toList ++ []) h' Q))) ∧
    (∀ (v0 v1 v2 : Value) (x : Int32) (st : List Value) (h : mr_h) (Q : Option Value → mr_h → Prop), mr_wp 123 99 [v0, v1, v2] (.int x :: st) h Q = mr_wp 123 100 [v0, v1, v2] st h Q) ∧
    (∀ (v2 : Value) (x : Int32) (w0 : Nat) (st : List Value) (h : mr_h) (Q : Option Value → mr_h → Prop), mr_wp 123 100 [.ref w0, .int x, v2] st h Q = mr_wp 123 103 [.ref w0, .int (x + (1)), v2] st h Q) ∧
    (∀ (v0 v1 v2 : Value) (st : List Value) (h : mr_h) (Q : Option Value → mr_h → Prop), mr_wp 123 103 [v0, v1, v2] st h Q = mr_wp 123 25 [v0, v1, v2] st h Q) ∧
    (∀ (v1 v2 : Value) (x : Nat) (st : List Value) (h : mr_h) (Q : Option Value → mr_h → Prop), mr_wp 123 106 [.ref x, v1, v2] st h Q = mr_wp 123 107 [.ref x, v1, v2] (.ref x :: st) h Q) ∧
    (∀ (v0 v1 v2 : Value) (o : Nat) (h : mr_h) (Q : Option Value → mr_h → Prop), mr_wp 123 107 [v0, v1, v2] [.ref o] h Q = mr_rc (h.1 o) 11 (mr_run 126 [.ref o] h (fun v h' => mr_wp 123 110 [v0, v1, v2] (v.toList ++ []) h' Q))) ∧
    (∀ (v0 v1 v2 : Value) (x : Int32) (st : List Value) (h : mr_h) (Q : Option Value → mr_h → Prop), mr_wp 123 110 [v0, v1, v2] (.int x :: st) h Q = if ¬ x = 0 then mr_wp 123 121 [v0, v1, v2] st h Q else mr_wp 123 113 [v0, v1, v2] st h Q) ∧
    (∀ (v0 v1 v2 : Value) (st : List Value) (h : mr_h) (Q : Option Value → mr_h → Prop), mr_wp 123 113 [v0, v1, v2] st h Q = mr_wp 123 115 [v0, v1, v2] (.int (-10) :: st) h Q) ∧
    (∀ (v1 v2 : Value) (x : Nat) (st : List Value) (h : mr_h) (Q : Option Value → mr_h → Prop), mr_wp 123 115 [.ref x, v1, v2] st h Q = mr_wp 123 116 [.ref x, v1, v2] (.ref x :: st) h Q) ∧
    (∀ (v0 v1 v2 : Value) (a : Nat) (st : List Value) (h : mr_h) (Q : Option Value → mr_h → Prop), mr_wp 123 116 [v0, v1, v2] (.ref a :: st) h Q = mr_gf (h.1 a) 11 7 (fun v => mr_wp 123 119 [v0, v1, v2] (v :: st) h Q)) ∧
    (∀ (v0 v1 v2 : Value) (x : Int32) (y : Int32) (st : List Value) (h : mr_h) (Q : Option Value → mr_h → Prop), mr_wp 123 119 [v0, v1, v2] (.int y :: .int x :: st) h Q = mr_wp 123 120 [v0, v1, v2] (.int (x - y) :: st) h Q) ∧
    (∀ (v0 v1 v2 : Value) (x : Int32) (h : mr_h) (Q : Option Value → mr_h → Prop), mr_wp 123 120 [v0, v1, v2] [.int x] h Q = Q (some (.int x)) h) ∧
    (∀ (v1 v2 : Value) (x : Nat) (st : List Value) (h : mr_h) (Q : Option Value → mr_h → Prop), mr_wp 123 121 [.ref x, v1, v2] st h Q = mr_wp 123 122 [.ref x, v1, v2] (.ref x :: st) h Q) ∧
    (∀ (v0 v1 v2 : Value) (o : Nat) (h : mr_h) (Q : Option Value → mr_h → Prop), mr_wp 123 122 [v0, v1, v2] [.ref o] h Q = mr_rc (h.1 o) 11 (mr_run 118 [.ref o] h (fun v h' => mr_wp 123 125 [v0, v1, v2] (v.toList ++ []) h' Q))) ∧
    (∀ (v1 v2 : Value) (x : Nat) (st : List Value) (h : mr_h) (Q : Option Value → mr_h → Prop), mr_wp 123 125 [.ref x, v1, v2] st h Q = mr_wp 123 126 [.ref x, v1, v2] (.ref x :: st) h Q) ∧
    (∀ (v0 v1 v2 : Value) (o : Nat) (h : mr_h) (Q : Option Value → mr_h → Prop), mr_wp 123 126 [v0, v1, v2] [.ref o] h Q = mr_rc (h.1 o) 11 (mr_run 119 [.ref o] h (fun v h' => mr_wp 123 129 [v0, v1, v2] (v.toList ++ []) h' Q))) ∧
    (∀ (v0 v2 : Value) (x : Int32) (st : List Value) (h : mr_h) (Q : Option Value → mr_h → Prop), mr_wp 123 129 [v0, .int x, v2] st h Q = mr_wp 123 130 [v0, .int x, v2] (.int x :: st) h Q) ∧
    (∀ (v0 v1 v2 : Value) (x : Int32) (h : mr_h) (Q : Option Value → mr_h → Prop), mr_wp 123 130 [v0, v1, v2] [.int x] h Q = Q (some (.int x)) h) :=
  ⟨fun v0 v1 x st h Q => gx_one (i := .iload_n 2) (len := 1) (by decide +kernel) rfl,
   fun v0 v1 v2 a0 o h Q => gx_virt (x := 119) (n := 1) (by decide +kernel) (by decide +kernel) rfl (Or.inl (Nat.le_of_ble_eq_true rfl)) (by show _ ≤ mr_mxl 128; rw [show mr_mxl 128 = 4 from by decide +kernel]; exact Nat.le_of_ble_eq_true rfl) (by decide +kernel),
   fun v1 v2 x st h Q => gx_one (i := .aload_n 0) (len := 1) (by decide +kernel) rfl,
   fun v1 v2 x st h Q => gx_one (i := .aload_n 0) (len := 1) (by decide +kernel) rfl,
   fun v0 v1 v2 a st h Q => gx_get (x := 86) (by decide +kernel) (by decide +kernel),
   fun v0 v1 v2 st h Q => gx_one (i := .iconst 3) (len := 1) (by decide +kernel) rfl,
   fun v0 v1 v2 x y st h Q => gx_br (i := .if_icmp .ne 7) (len := 3) (c := .ne) (by decide +kernel) rfl rfl,
   fun v0 v1 v2 st h Q => gx_one (i := .iconst 1) (len := 1) (by decide +kernel) rfl,
   fun v0 v1 v2 st h Q => gx_one (i := .goto 4) (len := 3) (by decide +kernel) rfl,
   fun v0 v1 v2 st h Q => gx_one (i := .iconst 0) (len := 1) (by decide +kernel) rfl,
   fun v0 v1 v2 a0 o h Q => gx_virt (x := 112) (n := 1) (by decide +kernel) (by decide +kernel) rfl (Or.inl (Nat.le_of_ble_eq_true rfl)) (by show _ ≤ mr_mxl 127; rw [show mr_mxl 127 = 3 from by decide +kernel]; exact Nat.le_of_ble_eq_true rfl) (by decide +kernel),
   fun v0 v1 v2 x st h Q => gx_one (i := .pop) (len := 1) (by decide +kernel) rfl,
   fun v2 x w0 st h Q => gx_one (i := .iinc 1 1) (len := 3) (by decide +kernel) rfl,
   fun v0 v1 v2 st h Q => gx_one (i := .goto (-78)) (len := 3) (by decide +kernel) rfl,
   fun v1 v2 x st h Q => gx_one (i := .aload_n 0) (len := 1) (by decide +kernel) rfl,
   fun v0 v1 v2 o h Q => gx_virt (x := 95) (n := 0) (by decide +kernel) (by decide +kernel) rfl (Or.inl (Nat.le_of_ble_eq_true rfl)) (by show _ ≤ mr_mxl 126; rw [show mr_mxl 126 = 1 from by decide +kernel]; exact Nat.le_of_ble_eq_true rfl) (by decide +kernel),
   fun v0 v1 v2 x st h Q => gx_br (i := .ifCond .ne 11) (len := 3) (c := .ne) (by decide +kernel) rfl rfl,
   fun v0 v1 v2 st h Q => gx_one (i := .bipush (-10)) (len := 2) (by decide +kernel) rfl,
   fun v1 v2 x st h Q => gx_one (i := .aload_n 0) (len := 1) (by decide +kernel) rfl,
   fun v0 v1 v2 a st h Q => gx_get (x := 92) (by decide +kernel) (by decide +kernel),
   fun v0 v1 v2 x y st h Q => gx_one (i := .isub) (len := 1) (by decide +kernel) rfl,
   fun v0 v1 v2 x h Q => gx_ret (i := .ireturn) (len := 1) (by decide +kernel) rfl rfl (by simp only [mr_rt, if_pos]; rw [if_pos (Or.inl (by decide +kernel))]),
   fun v1 v2 x st h Q => gx_one (i := .aload_n 0) (len := 1) (by decide +kernel) rfl,
   fun v0 v1 v2 o h Q => gx_virt (x := 59) (n := 0) (by decide +kernel) (by decide +kernel) rfl (Or.inl (Nat.le_of_ble_eq_true rfl)) (by show _ ≤ mr_mxl 118; rw [show mr_mxl 118 = 2 from by decide +kernel]; exact Nat.le_of_ble_eq_true rfl) (by decide +kernel),
   fun v1 v2 x st h Q => gx_one (i := .aload_n 0) (len := 1) (by decide +kernel) rfl,
   fun v0 v1 v2 o h Q => gx_virt (x := 62) (n := 0) (by decide +kernel) (by decide +kernel) rfl (Or.inl (Nat.le_of_ble_eq_true rfl)) (by show _ ≤ mr_mxl 119; rw [show mr_mxl 119 = 2 from by decide +kernel]; exact Nat.le_of_ble_eq_true rfl) (by decide +kernel),
   fun v0 v2 x st h Q => gx_one (i := .iload_n 1) (len := 1) (by decide +kernel) rfl,
   fun v0 v1 v2 x h Q => gx_ret (i := .ireturn) (len := 1) (by decide +kernel) rfl rfl (by simp only [mr_rt, if_pos]; rw [if_pos (Or.inl (by decide +kernel))])⟩

theorem s_mo_advances_0 (v1 : Value) (x : Nat) (st : List Value) (h : mr_h) (Q : Option Value → mr_h → Prop) : mr_wp 124 0 [.ref x, v1] st h Q = mr_wp 124 1 [.ref x, v1] (.ref x :: st) h Q := gx_one (i := .aload_n 0) (len := 1) (by decide +kernel) rfl
theorem s_mo_advances_71 (v1 : Value) (x : Nat) (st : List Value) (h : mr_h) (Q : Option Value → mr_h → Prop) : mr_wp 124 71 [.ref x, v1] st h Q = mr_wp 124 72 [.ref x, v1] (.ref x :: st) h Q := gx_one (i := .aload_n 0) (len := 1) (by decide +kernel) rfl
theorem S_mo_advances_0 : (∀ (v1 : Value) (x : Nat) (st : List Value) (h : mr_h) (Q : Option Value → mr_h → Prop), mr_wp 124 1 [.ref x, v1] st h Q = mr_wp 124 2 [.ref x, v1] (.ref x :: st) h Q) ∧
    (∀ (v0 v1 : Value) (a : Nat) (st : List Value) (h : mr_h) (Q : Option Value → mr_h → Prop), mr_wp 124 2 [v0, v1] (.ref a :: st) h Q = mr_gf (h.1 a) 11 3 (fun v => mr_wp 124 5 [v0, v1] (v :: st) h Q)) ∧
    (∀ (v0 v1 : Value) (a0 : Int32) (o : Nat) (h : mr_h) (Q : Option Value → mr_h → Prop), mr_wp 124 5 [v0, v1] [.int a0, .ref o] h Q = mr_rc (h.1 o) 11 (mr_run 125 [.ref o, .int a0] h (fun v h' => mr_wp 124 8 [v0, v1] (v.toList ++ []) h' Q))) ∧
    (∀ (v0 v1 : Value) (st : List Value) (h : mr_h) (Q : Option Value → mr_h → Prop), mr_wp 124 8 [v0, v1] st h Q = mr_wp 124 10 [v0, v1] (.int (32) :: st) h Q) ∧
    (∀ (v0 v1 : Value) (x : Int32) (y : Int32) (st : List Value) (h : mr_h) (Q : Option Value → mr_h → Prop), mr_wp 124 10 [v0, v1] (.int y :: .int x :: st) h Q = if ¬ x = y then mr_wp 124 26 [v0, v1] st h Q else mr_wp 124 13 [v0, v1] st h Q) ∧
    (∀ (v1 : Value) (x : Nat) (st : List Value) (h : mr_h) (Q : Option Value → mr_h → Prop), mr_wp 124 13 [.ref x, v1] st h Q = mr_wp 124 14 [.ref x, v1] (.ref x :: st) h Q) ∧
    (∀ (v0 v1 : Value) (x : Nat) (st : List Value) (h : mr_h) (Q : Option Value → mr_h → Prop), mr_wp 124 14 [v0, v1] (.ref x :: st) h Q = mr_wp 124 15 [v0, v1] (.ref x :: .ref x :: st) h Q) ∧
    (∀ (v0 v1 : Value) (a : Nat) (st : List Value) (h : mr_h) (Q : Option Value → mr_h → Prop), mr_wp 124 15 [v0, v1] (.ref a :: st) h Q = mr_gf (h.1 a) 11 3 (fun v => mr_wp 124 18 [v0, v1] (v :: st) h Q)) ∧
    (∀ (v0 v1 : Value) (st : List Value) (h : mr_h) (Q : Option Value → mr_h → Prop), mr_wp 124 18 [v0, v1] st h Q = mr_wp 124 19 [v0, v1] (.int (1) :: st) h Q) ∧
    (∀ (v0 v1 : Value) (x : Int32) (y : Int32) (st : List Value) (h : mr_h) (Q : Option Value → mr_h → Prop), mr_wp 124 19 [v0, v1] (.int y :: .int x :: st) h Q = mr_wp 124 20 [v0, v1] (.int (x + y) :: st) h Q) ∧
    (∀ (v0 v1 : Value) (a : Nat) (x : Int32) (st : List Value) (h : mr_h) (Q : Option Value → mr_h → Prop), mr_wp 124 20 [v0, v1] (.int x :: .ref a :: st) h Q = mr_pf (h.1 a) 11 3 (.int x) (fun c => mr_wp 124 23 [v0, v1] st (mr_up h a c) Q)) ∧
    (∀ (v0 v1 : Value) (st : List Value) (h : mr_h) (Q : Option Value → mr_h → Prop), mr_wp 124 23 [v0, v1] st h Q = mr_wp 124 0 [v0, v1] st h Q) ∧
    (∀ (v1 : Value) (x : Nat) (st : List Value) (h : mr_h) (Q : Option Value → mr_h → Prop), mr_wp 124 26 [.ref x, v1] st h Q = mr_wp 124 27 [.ref x, v1] (.ref x :: st) h Q) ∧
    (∀ (v1 : Value) (x : Nat) (st : List Value) (h : mr_h) (Q : Option Value → mr_h → Prop), mr_wp 124 27 [.ref x, v1] st h Q = mr_wp 124 28 [.ref x, v1] (.ref x :: st) h Q) ∧
    (∀ (v0 v1 : Value) (a : Nat) (st : List Value) (h : mr_h) (Q : Option Value → mr_h → Prop), mr_wp 124 28 [v0, v1] (.ref a :: st) h Q = mr_gf (h.1 a) 11 3 (fun v => mr_wp 124 31 [v0, v1] (v :: st) h Q)) ∧
    (∀ (v0 v1 : Value) (a : Nat) (x : Int32) (st : List Value) (h : mr_h) (Q : Option Value → mr_h → Prop), mr_wp 124 31 [v0, v1] (.int x :: .ref a :: st) h Q = mr_pf (h.1 a) 11 5 (.int x) (fun c => mr_wp 124 34 [v0, v1] st (mr_up h a c) Q)) ∧
    (∀ (v1 : Value) (x : Nat) (st : List Value) (h : mr_h) (Q : Option Value → mr_h → Prop), mr_wp 124 34 [.ref x, v1] st h Q = mr_wp 124 35 [.ref x, v1] (.ref x :: st) h Q) ∧
    (∀ (v1 : Value) (x : Nat) (st : List Value) (h : mr_h) (Q : Option Value → mr_h → Prop), mr_wp 124 35 [.ref x, v1] st h Q = mr_wp 124 36 [.ref x, v1] (.ref x :: st) h Q) ∧
    (∀ (v0 v1 : Value) (a : Nat) (st : List Value) (h : mr_h) (Q : Option Value → mr_h → Prop), mr_wp 124 36 [v0, v1] (.ref a :: st) h Q = mr_gf (h.1 a) 11 3 (fun v => mr_wp 124 39 [v0, v1] (v :: st) h Q)) ∧
    (∀ (v0 v1 : Value) (a0 : Int32) (o : Nat) (h : mr_h) (Q : Option Value → mr_h → Prop), mr_wp 124 39 [v0, v1] [.int a0, .ref o] h Q = mr_rc (h.1 o) 11 (mr_run 125 [.ref o, .int a0] h (fun v h' => mr_wp 124 42 [v0, v1] (v.toList ++ []) h' Q))) ∧
    (∀ (v1 : Value) (w0 : Nat) (x : Int32) (st : List Value) (h : mr_h) (Q : Option Value → mr_h → Prop), mr_wp 124 42 [.ref w0, v1] (.int x :: st) h Q = mr_wp 124 43 [.ref w0, .int x] st h Q) ∧
    (∀ (v0 : Value) (x : Int32) (st : List Value) (h : mr_h) (Q : Option Value → mr_h → Prop), mr_wp 124 43 [v0, .int x] st h Q = mr_wp 124 44 [v0, .int x] (.int x :: st) h Q) ∧
    (∀ (v0 v1 : Value) (x : Int32) (st : List Value) (h : mr_h) (Q : Option Value → mr_h → Prop), mr_wp 124 44 [v0, v1] (.int x :: st) h Q = if 0 ≤ x then mr_wp 124 55 [v0, v1] st h Q else mr_wp 124 47 [v0, v1] st h Q) ∧
    (∀ (v1 : Value) (x : Nat) (st : List Value) (h : mr_h) (Q : Option Value → mr_h → Prop), mr_wp 124 47 [.ref x, v1] st h Q = mr_wp 124 48 [.ref x, v1] (.ref x :: st) h Q) ∧
    (∀ (v0 v1 : Value) (st : List Value) (h : mr_h) (Q : Option Value → mr_h → Prop), mr_wp 124 48 [v0, v1] st h Q = mr_wp 124 49 [v0, v1] (.int (0) :: st) h Q) ∧
    (∀ (v0 v1 : Value) (a : Nat) (x : Int32) (st : List Value) (h : mr_h) (Q : Option Value → mr_h → Prop), mr_wp 124 49 [v0, v1] (.int x :: .ref a :: st) h Q = mr_pf (h.1 a) 11 4 (.int x) (fun c => mr_wp 124 52 [v0, v1] st (mr_up h a c) Q)) ∧
    (∀ (v0 v1 : Value) (st : List Value) (h : mr_h) (Q : Option Value → mr_h → Prop), mr_wp 124 52 [v0, v1] st h Q = mr_wp 124 233 [v0, v1] st h Q) ∧
    (∀ (v0 : Value) (x : Int32) (st : List Value) (h : mr_h) (Q : Option Value → mr_h → Prop), mr_wp 124 55 [v0, .int x] st h Q = mr_wp 124 56 [v0, .int x] (.int x :: st) h Q) ∧
    (∀ (v0 v1 : Value) (st : List Value) (h : mr_h) (Q : Option Value → mr_h → Prop), mr_wp 124 56 [v0, v1] st h Q = mr_wp 124 58 [v0, v1] (.int (48) :: st) h Q) ∧
    (∀ (v0 v1 : Value) (st : List Value) (h : mr_h) (Q : Option Value → mr_h → Prop), mr_wp 124 58 [v0, v1] st h Q = mr_wp 124 60 [v0, v1] (.int (57) :: st) h Q) ∧
    (∀ (v0 v1 : Value) (a0 : Int32) (a1 : Int32) (a2 : Int32) (h : mr_h) (Q : Option Value → mr_h → Prop), mr_wp 124 60 [v0, v1] [.int a2, .int a1, .int a0] h Q = mr_run 121 [.int a0, .int a1, .int a2] h (fun v h' => mr_wp 124 63 [v0, v1] (v.toList ++ []) h' Q)) ∧
    (∀ (v0 v1 : Value) (x : Int32) (st : List Value) (h : mr_h) (Q : Option Value → mr_h → Prop), mr_wp 124 63 [v0, v1] (.int x :: st) h Q = if x = 0 then mr_wp 124 181 [v0, v1] st h Q else mr_wp 124 66 [v0, v1] st h Q) ∧
    (∀ (v1 : Value) (x : Nat) (st : List Value) (h : mr_h) (Q : Option Value → mr_h → Prop), mr_wp 124 66 [.ref x, v1] st h Q = mr_wp 124 67 [.ref x, v1] (.ref x :: st) h Q) ∧
    (∀ (v0 v1 : Value) (st : List Value) (h : mr_h) (Q : Option Value → mr_h → Prop), mr_wp 124 67 [v0, v1] st h Q = mr_wp 124 68 [v0, v1] (.int (0) :: st) h Q) ∧
    (∀ (v0 v1 : Value) (a : Nat) (x : Int32) (st : List Value) (h : mr_h) (Q : Option Value → mr_h → Prop), mr_wp 124 68 [v0, v1] (.int x :: .ref a :: st) h Q = mr_pf (h.1 a) 11 6 (.int x) (fun c => mr_wp 124 71 [v0, v1] st (mr_up h a c) Q)) ∧
    (∀ (v1 : Value) (x : Nat) (st : List Value) (h : mr_h) (Q : Option Value → mr_h → Prop), mr_wp 124 72 [.ref x, v1] st h Q = mr_wp 124 73 [.ref x, v1] (.ref x :: st) h Q) ∧
    (∀ (v0 v1 : Value) (a : Nat) (st : List Value) (h : mr_h) (Q : Option Value → mr_h → Prop), mr_wp 124 73 [v0, v1] (.ref a :: st) h Q = mr_gf (h.1 a) 11 3 (fun v => mr_wp 124 76 [v0, v1] (v :: st) h Q)) ∧
    (∀ (v0 v1 : Value) (a0 : Int32) (o : Nat) (h : mr_h) (Q : Option Value → mr_h → Prop), mr_wp 124 76 [v0, v1] [.int a0, .ref o] h Q = mr_rc (h.1 o) 11 (mr_run 125 [.ref o, .int a0] h (fun v h' => mr_wp 124 79 [v0, v1] (v.toList ++ []) h' Q))) ∧
    (∀ (v0 v1 : Value) (st : List Value) (h : mr_h) (Q : Option Value → mr_h → Prop), mr_wp 124 79 [v0, v1] st h Q = mr_wp 124 81 [v0, v1] (.int (48) :: st) h Q) ∧
    (∀ (v0 v1 : Value) (st : List Value) (h : mr_h) (Q : Option Value → mr_h → Prop), mr_wp 124 81 [v0, v1] st h Q = mr_wp 124 83 [v0, v1] (.int (57) :: st) h Q) :=
  ⟨fun v1 x st h Q => gx_one (i := .aload_n 0) (len := 1) (by decide +kernel) rfl,
   fun v0 v1 a st h Q => gx_get (x := 76) (by decide +kernel) (by decide +kernel),
   fun v0 v1 a0 o h Q => gx_virt (x := 79) (n := 1) (by decide +kernel) (by decide +kernel) rfl (Or.inl (Nat.le_of_ble_eq_true rfl)) (by show _ ≤ mr_mxl 125; rw [show mr_mxl 125 = 2 from by decide +kernel]; exact Nat.le_of_ble_eq_true rfl) (by decide +kernel),
   fun v0 v1 st h Q => gx_one (i := .bipush 32) (len := 2) (by decide +kernel) rfl,
   fun v0 v1 x y st h Q => gx_br (i := .if_icmp .ne 16) (len := 3) (c := .ne) (by decide +kernel) rfl rfl,
   fun v1 x st h Q => gx_one (i := .aload_n 0) (len := 1) (by decide +kernel) rfl,
   fun v0 v1 x st h Q => gx_one (i := .dup) (len := 1) (by decide +kernel) rfl,
   fun v0 v1 a st h Q => gx_get (x := 76) (by decide +kernel) (by decide +kernel),
   fun v0 v1 st h Q => gx_one (i := .iconst 1) (len := 1) (by decide +kernel) rfl,
   fun v0 v1 x y st h Q => gx_one (i := .iadd) (len := 1) (by decide +kernel) rfl,
   fun v0 v1 a x st h Q => gx_put (x := 76) (by decide +kernel) (by decide +kernel) ⟨rfl, Or.inl rfl⟩,
   fun v0 v1 st h Q => gx_one (i := .goto (-23)) (len := 3) (by decide +kernel) rfl,
   fun v1 x st h Q => gx_one (i := .aload_n 0) (len := 1) (by decide +kernel) rfl,
   fun v1 x st h Q => gx_one (i := .aload_n 0) (len := 1) (by decide +kernel) rfl,
   fun v0 v1 a st h Q => gx_get (x := 76) (by decide +kernel) (by decide +kernel),
   fun v0 v1 a x st h Q => gx_put (x := 83) (by decide +kernel) (by decide +kernel) ⟨rfl, Or.inl rfl⟩,
   fun v1 x st h Q => gx_one (i := .aload_n 0) (len := 1) (by decide +kernel) rfl,
   fun v1 x st h Q => gx_one (i := .aload_n 0) (len := 1) (by decide +kernel) rfl,
   fun v0 v1 a st h Q => gx_get (x := 76) (by decide +kernel) (by decide +kernel),
   fun v0 v1 a0 o h Q => gx_virt (x := 79) (n := 1) (by decide +kernel) (by decide +kernel) rfl (Or.inl (Nat.le_of_ble_eq_true rfl)) (by show _ ≤ mr_mxl 125; rw [show mr_mxl 125 = 2 from by decide +kernel]; exact Nat.le_of_ble_eq_true rfl) (by decide +kernel),
   fun v1 w0 x st h Q => gx_one (i := .istore_n 1) (len := 1) (by decide +kernel) rfl,
   fun v0 x st h Q => gx_one (i := .iload_n 1) (len := 1) (by decide +kernel) rfl,
   fun v0 v1 x st h Q => gx_br (i := .ifCond .ge 11) (len := 3) (c := .ge) (by decide +kernel) rfl rfl,
   fun v1 x st h Q => gx_one (i := .aload_n 0) (len := 1) (by decide +kernel) rfl,
   fun v0 v1 st h Q => gx_one (i := .iconst 0) (len := 1) (by decide +kernel) rfl,
   fun v0 v1 a x st h Q => gx_put (x := 86) (by decide +kernel) (by decide +kernel) ⟨rfl, Or.inl rfl⟩,
   fun v0 v1 st h Q => gx_one (i := .goto 181) (len := 3) (by decide +kernel) rfl,
   fun v0 x st h Q => gx_one (i := .iload_n 1) (len := 1) (by decide +kernel) rfl,
   fun v0 v1 st h Q => gx_one (i := .bipush 48) (len := 2) (by decide +kernel) rfl,
   fun v0 v1 st h Q => gx_one (i := .bipush 57) (len := 2) (by decide +kernel) rfl,
   fun v0 v1 a0 a1 a2 h Q => gx_stat (x := 69) (t := 121) (n := 3) (by decide +kernel) (by decide +kernel) (by decide) (by decide +kernel) rfl (Or.inl (Nat.le_of_ble_eq_true rfl)) (by show _ ≤ mr_mxl 121; rw [show mr_mxl 121 = 3 from by decide +kernel]; exact Nat.le_of_ble_eq_true rfl),
   fun v0 v1 x st h Q => gx_br (i := .ifCond .eq 118) (len := 3) (c := .eq) (by decide +kernel) rfl rfl,
   fun v1 x st h Q => gx_one (i := .aload_n 0) (len := 1) (by decide +kernel) rfl,
   fun v0 v1 st h Q => gx_one (i := .iconst 0) (len := 1) (by decide +kernel) rfl,
   fun v0 v1 a x st h Q => gx_put (x := 89) (by decide +kernel) (by decide +kernel) ⟨rfl, Or.inl rfl⟩,
   fun v1 x st h Q => gx_one (i := .aload_n 0) (len := 1) (by decide +kernel) rfl,
   fun v0 v1 a st h Q => gx_get (x := 76) (by decide +kernel) (by decide +kernel),
   fun v0 v1 a0 o h Q => gx_virt (x := 79) (n := 1) (by decide +kernel) (by decide +kernel) rfl (Or.inl (Nat.le_of_ble_eq_true rfl)) (by show _ ≤ mr_mxl 125; rw [show mr_mxl 125 = 2 from by decide +kernel]; exact Nat.le_of_ble_eq_true rfl) (by decide +kernel),
   fun v0 v1 st h Q => gx_one (i := .bipush 48) (len := 2) (by decide +kernel) rfl,
   fun v0 v1 st h Q => gx_one (i := .bipush 57) (len := 2) (by decide +kernel) rfl⟩
theorem S_mo_advances_1 : (∀ (v0 v1 : Value) (a0 : Int32) (a1 : Int32) (a2 : Int32) (h : mr_h) (Q : Option Value → mr_h → Prop), mr_wp 124 83 [v0, v1] [.int a2, .int a1, .int a0] h Q = mr_run 121 [.int a0, .int a1, .int a2] h (fun v h' => mr_wp 124 86 [v0, v1] (v.toList ++ []) h' Q)) ∧
    (∀ (v0 v1 : Value) (x : Int32) (st : List Value) (h : mr_h) (Q : Option Value → mr_h → Prop), mr_wp 124 86 [v0, v1] (.int x :: st) h Q = if x = 0 then mr_wp 124 141 [v0, v1] st h Q else mr_wp 124 89 [v0, v1] st h Q) ∧
    (∀ (v1 : Value) (x : Nat) (st : List Value) (h : mr_h) (Q : Option Value → mr_h → Prop), mr_wp 124 89 [.ref x, v1] st h Q = mr_wp 124 90 [.ref x, v1] (.ref x :: st) h Q) ∧
    (∀ (v1 : Value) (x : Nat) (st : List Value) (h : mr_h) (Q : Option Value → mr_h → Prop), mr_wp 124 90 [.ref x, v1] st h Q = mr_wp 124 91 [.ref x, v1] (.ref x :: st) h Q) ∧
    (∀ (v0 v1 : Value) (a : Nat) (st : List Value) (h : mr_h) (Q : Option Value → mr_h → Prop), mr_wp 124 91 [v0, v1] (.ref a :: st) h Q = mr_gf (h.1 a) 11 6 (fun v => mr_wp 124 94 [v0, v1] (v :: st) h Q)) ∧
    (∀ (v0 v1 : Value) (st : List Value) (h : mr_h) (Q : Option Value → mr_h → Prop), mr_wp 124 94 [v0, v1] st h Q = mr_wp 124 96 [v0, v1] (.int (99) :: st) h Q) ∧
    (∀ (v0 v1 : Value) (x : Int32) (y : Int32) (st : List Value) (h : mr_h) (Q : Option Value → mr_h → Prop), mr_wp 124 96 [v0, v1] (.int y :: .int x :: st) h Q = if x ≤ y then mr_wp 124 106 [v0, v1] st h Q else mr_wp 124 99 [v0, v1] st h Q) ∧
    (∀ (v1 : Value) (x : Nat) (st : List Value) (h : mr_h) (Q : Option Value → mr_h → Prop), mr_wp 124 99 [.ref x, v1] st h Q = mr_wp 124 100 [.ref x, v1] (.ref x :: st) h Q) ∧
    (∀ (v0 v1 : Value) (a : Nat) (st : List Value) (h : mr_h) (Q : Option Value → mr_h → Prop), mr_wp 124 100 [v0, v1] (.ref a :: st) h Q = mr_gf (h.1 a) 11 6 (fun v => mr_wp 124 103 [v0, v1] (v :: st) h Q)) ∧
    (∀ (v0 v1 : Value) (st : List Value) (h : mr_h) (Q : Option Value → mr_h → Prop), mr_wp 124 103 [v0, v1] st h Q = mr_wp 124 125 [v0, v1] st h Q) ∧
    (∀ (v0 v1 : Value) (st : List Value) (h : mr_h) (Q : Option Value → mr_h → Prop), mr_wp 124 106 [v0, v1] st h Q = mr_wp 124 108 [v0, v1] (.int (10) :: st) h Q) ∧
    (∀ (v1 : Value) (x : Nat) (st : List Value) (h : mr_h) (Q : Option Value → mr_h → Prop), mr_wp 124 108 [.ref x, v1] st h Q = mr_wp 124 109 [.ref x, v1] (.ref x :: st) h Q) ∧
    (∀ (v0 v1 : Value) (a : Nat) (st : List Value) (h : mr_h) (Q : Option Value → mr_h → Prop), mr_wp 124 109 [v0, v1] (.ref a :: st) h Q = mr_gf (h.1 a) 11 6 (fun v => mr_wp 124 112 [v0, v1] (v :: st) h Q)) ∧
    (∀ (v0 v1 : Value) (x : Int32) (y : Int32) (st : List Value) (h : mr_h) (Q : Option Value → mr_h → Prop), mr_wp 124 112 [v0, v1] (.int y :: .int x :: st) h Q = mr_wp 124 113 [v0, v1] (.int (x * y) :: st) h Q) ∧
    (∀ (v1 : Value) (x : Nat) (st : List Value) (h : mr_h) (Q : Option Value → mr_h → Prop), mr_wp 124 113 [.ref x, v1] st h Q = mr_wp 124 114 [.ref x, v1] (.ref x :: st) h Q) ∧
    (∀ (v1 : Value) (x : Nat) (st : List Value) (h : mr_h) (Q : Option Value → mr_h → Prop), mr_wp 124 114 [.ref x, v1] st h Q = mr_wp 124 115 [.ref x, v1] (.ref x :: st) h Q) ∧
    (∀ (v0 v1 : Value) (a : Nat) (st : List Value) (h : mr_h) (Q : Option Value → mr_h → Prop), mr_wp 124 115 [v0, v1] (.ref a :: st) h Q = mr_gf (h.1 a) 11 3 (fun v => mr_wp 124 118 [v0, v1] (v :: st) h Q)) ∧
    (∀ (v0 v1 : Value) (a0 : Int32) (o : Nat) (r0 : Value) (r1 : Value) (h : mr_h) (Q : Option Value → mr_h → Prop), mr_wp 124 118 [v0, v1] [.int a0, .ref o, r0, r1] h Q = mr_rc (h.1 o) 11 (mr_run 125 [.ref o, .int a0] h (fun v h' => mr_wp 124 121 [v0, v1] (v.toList ++ [r0, r1]) h' Q))) ∧
    (∀ (v0 v1 : Value) (x : Int32) (y : Int32) (st : List Value) (h : mr_h) (Q : Option Value → mr_h → Prop), mr_wp 124 121 [v0, v1] (.int y :: .int x :: st) h Q = mr_wp 124 122 [v0, v1] (.int (x + y) :: st) h Q) ∧
    (∀ (v0 v1 : Value) (st : List Value) (h : mr_h) (Q : Option Value → mr_h → Prop), mr_wp 124 122 [v0, v1] st h Q = mr_wp 124 124 [v0, v1] (.int (48) :: st) h Q) ∧
    (∀ (v0 v1 : Value) (x : Int32) (y : Int32) (st : List Value) (h : mr_h) (Q : Option Value → mr_h → Prop), mr_wp 124 124 [v0, v1] (.int y :: .int x :: st) h Q = mr_wp 124 125 [v0, v1] (.int (x - y) :: st) h Q) ∧
    (∀ (v0 v1 : Value) (a : Nat) (x : Int32) (st : List Value) (h : mr_h) (Q : Option Value → mr_h → Prop), mr_wp 124 125 [v0, v1] (.int x :: .ref a :: st) h Q = mr_pf (h.1 a) 11 6 (.int x) (fun c => mr_wp 124 128 [v0, v1] st (mr_up h a c) Q)) ∧
    (∀ (v1 : Value) (x : Nat) (st : List Value) (h : mr_h) (Q : Option Value → mr_h → Prop), mr_wp 124 128 [.ref x, v1] st h Q = mr_wp 124 129 [.ref x, v1] (.ref x :: st) h Q) ∧
    (∀ (v0 v1 : Value) (x : Nat) (st : List Value) (h : mr_h) (Q : Option Value → mr_h → Prop), mr_wp 124 129 [v0, v1] (.ref x :: st) h Q = mr_wp 124 130 [v0, v1] (.ref x :: .ref x :: st) h Q) ∧
    (∀ (v0 v1 : Value) (a : Nat) (st : List Value) (h : mr_h) (Q : Option Value → mr_h → Prop), mr_wp 124 130 [v0, v1] (.ref a :: st) h Q = mr_gf (h.1 a) 11 3 (fun v => mr_wp 124 133 [v0, v1] (v :: st) h Q)) ∧
    (∀ (v0 v1 : Value) (st : List Value) (h : mr_h) (Q : Option Value → mr_h → Prop), mr_wp 124 133 [v0, v1] st h Q = mr_wp 124 134 [v0, v1] (.int (1) :: st) h Q) ∧
    (∀ (v0 v1 : Value) (x : Int32) (y : Int32) (st : List Value) (h : mr_h) (Q : Option Value → mr_h → Prop), mr_wp 124 134 [v0, v1] (.int y :: .int x :: st) h Q = mr_wp 124 135 [v0, v1] (.int (x + y) :: st) h Q) ∧
    (∀ (v0 v1 : Value) (a : Nat) (x : Int32) (st : List Value) (h : mr_h) (Q : Option Value → mr_h → Prop), mr_wp 124 135 [v0, v1] (.int x :: .ref a :: st) h Q = mr_pf (h.1 a) 11 3 (.int x) (fun c => mr_wp 124 138 [v0, v1] st (mr_up h a c) Q)) ∧
    (∀ (v0 v1 : Value) (st : List Value) (h : mr_h) (Q : Option Value → mr_h → Prop), mr_wp 124 138 [v0, v1] st h Q = mr_wp 124 71 [v0, v1] st h Q) ∧
    (∀ (v1 : Value) (x : Nat) (st : List Value) (h : mr_h) (Q : Option Value → mr_h → Prop), mr_wp 124 141 [.ref x, v1] st h Q = mr_wp 124 142 [.ref x, v1] (.ref x :: st) h Q) ∧
    (∀ (v1 : Value) (x : Nat) (st : List Value) (h : mr_h) (Q : Option Value → mr_h → Prop), mr_wp 124 142 [.ref x, v1] st h Q = mr_wp 124 143 [.ref x, v1] (.ref x :: st) h Q) ∧
    (∀ (v0 v1 : Value) (a : Nat) (st : List Value) (h : mr_h) (Q : Option Value → mr_h → Prop), mr_wp 124 143 [v0, v1] (.ref a :: st) h Q = mr_gf (h.1 a) 11 6 (fun v => mr_wp 124 146 [v0, v1] (v :: st) h Q)) ∧
    (∀ (v0 v1 : Value) (st : List Value) (h : mr_h) (Q : Option Value → mr_h → Prop), mr_wp 124 146 [v0, v1] st h Q = mr_wp 124 148 [v0, v1] (.int (99) :: st) h Q) ∧
    (∀ (v0 v1 : Value) (x : Int32) (y : Int32) (st : List Value) (h : mr_h) (Q : Option Value → mr_h → Prop), mr_wp 124 148 [v0, v1] (.int y :: .int x :: st) h Q = if y < x then mr_wp 124 170 [v0, v1] st h Q else mr_wp 124 151 [v0, v1] st h Q) ∧
    (∀ (v0 : Value) (x : Int32) (st : List Value) (h : mr_h) (Q : Option Value → mr_h → Prop), mr_wp 124 151 [v0, .int x] st h Q = mr_wp 124 152 [v0, .int x] (.int x :: st) h Q) ∧
    (∀ (v0 v1 : Value) (st : List Value) (h : mr_h) (Q : Option Value → mr_h → Prop), mr_wp 124 152 [v0, v1] st h Q = mr_wp 124 154 [v0, v1] (.int (48) :: st) h Q) ∧
    (∀ (v0 v1 : Value) (x : Int32) (y : Int32) (st : List Value) (h : mr_h) (Q : Option Value → mr_h → Prop), mr_wp 124 154 [v0, v1] (.int y :: .int x :: st) h Q = if ¬ x = y then mr_wp 124 174 [v0, v1] st h Q else mr_wp 124 157 [v0, v1] st h Q) ∧
    (∀ (v1 : Value) (x : Nat) (st : List Value) (h : mr_h) (Q : Option Value → mr_h → Prop), mr_wp 124 157 [.ref x, v1] st h Q = mr_wp 124 158 [.ref x, v1] (.ref x :: st) h Q) ∧
    (∀ (v0 v1 : Value) (a : Nat) (st : List Value) (h : mr_h) (Q : Option Value → mr_h → Prop), mr_wp 124 158 [v0, v1] (.ref a :: st) h Q = mr_gf (h.1 a) 11 3 (fun v => mr_wp 124 161 [v0, v1] (v :: st) h Q)) ∧
    (∀ (v1 : Value) (x : Nat) (st : List Value) (h : mr_h) (Q : Option Value → mr_h → Prop), mr_wp 124 161 [.ref x, v1] st h Q = mr_wp 124 162 [.ref x, v1] (.ref x :: st) h Q) :=
  ⟨fun v0 v1 a0 a1 a2 h Q => gx_stat (x := 69) (t := 121) (n := 3) (by decide +kernel) (by decide +kernel) (by decide) (by decide +kernel) rfl (Or.inl (Nat.le_of_ble_eq_true rfl)) (by show _ ≤ mr_mxl 121; rw [show mr_mxl 121 = 3 from by decide +kernel]; exact Nat.le_of_ble_eq_true rfl),
   fun v0 v1 x st h Q => gx_br (i := .ifCond .eq 55) (len := 3) (c := .eq) (by decide +kernel) rfl rfl,
   fun v1 x st h Q => gx_one (i := .aload_n 0) (len := 1) (by decide +kernel) rfl,
   fun v1 x st h Q => gx_one (i := .aload_n 0) (len := 1) (by decide +kernel) rfl,
   fun v0 v1 a st h Q => gx_get (x := 89) (by decide +kernel) (by decide +kernel),
   fun v0 v1 st h Q => gx_one (i := .bipush 99) (len := 2) (by decide +kernel) rfl,
   fun v0 v1 x y st h Q => gx_br (i := .if_icmp .le 10) (len := 3) (c := .le) (by decide +kernel) rfl rfl,
   fun v1 x st h Q => gx_one (i := .aload_n 0) (len := 1) (by decide +kernel) rfl,
   fun v0 v1 a st h Q => gx_get (x := 89) (by decide +kernel) (by decide +kernel),
   fun v0 v1 st h Q => gx_one (i := .goto 22) (len := 3) (by decide +kernel) rfl,
   fun v0 v1 st h Q => gx_one (i := .bipush 10) (len := 2) (by decide +kernel) rfl,
   fun v1 x st h Q => gx_one (i := .aload_n 0) (len := 1) (by decide +kernel) rfl,
   fun v0 v1 a st h Q => gx_get (x := 89) (by decide +kernel) (by decide +kernel),
   fun v0 v1 x y st h Q => gx_one (i := .imul) (len := 1) (by decide +kernel) rfl,
   fun v1 x st h Q => gx_one (i := .aload_n 0) (len := 1) (by decide +kernel) rfl,
   fun v1 x st h Q => gx_one (i := .aload_n 0) (len := 1) (by decide +kernel) rfl,
   fun v0 v1 a st h Q => gx_get (x := 76) (by decide +kernel) (by decide +kernel),
   fun v0 v1 a0 o r0 r1 h Q => gx_virt (x := 79) (n := 1) (by decide +kernel) (by decide +kernel) rfl (Or.inl (Nat.le_of_ble_eq_true rfl)) (by show _ ≤ mr_mxl 125; rw [show mr_mxl 125 = 2 from by decide +kernel]; exact Nat.le_of_ble_eq_true rfl) (by decide +kernel),
   fun v0 v1 x y st h Q => gx_one (i := .iadd) (len := 1) (by decide +kernel) rfl,
   fun v0 v1 st h Q => gx_one (i := .bipush 48) (len := 2) (by decide +kernel) rfl,
   fun v0 v1 x y st h Q => gx_one (i := .isub) (len := 1) (by decide +kernel) rfl,
   fun v0 v1 a x st h Q => gx_put (x := 89) (by decide +kernel) (by decide +kernel) ⟨rfl, Or.inl rfl⟩,
   fun v1 x st h Q => gx_one (i := .aload_n 0) (len := 1) (by decide +kernel) rfl,
   fun v0 v1 x st h Q => gx_one (i := .dup) (len := 1) (by decide +kernel) rfl,
   fun v0 v1 a st h Q => gx_get (x := 76) (by decide +kernel) (by decide +kernel),
   fun v0 v1 st h Q => gx_one (i := .iconst 1) (len := 1) (by decide +kernel) rfl,
   fun v0 v1 x y st h Q => gx_one (i := .iadd) (len := 1) (by decide +kernel) rfl,
   fun v0 v1 a x st h Q => gx_put (x := 76) (by decide +kernel) (by decide +kernel) ⟨rfl, Or.inl rfl⟩,
   fun v0 v1 st h Q => gx_one (i := .goto (-67)) (len := 3) (by decide +kernel) rfl,
   fun v1 x st h Q => gx_one (i := .aload_n 0) (len := 1) (by decide +kernel) rfl,
   fun v1 x st h Q => gx_one (i := .aload_n 0) (len := 1) (by decide +kernel) rfl,
   fun v0 v1 a st h Q => gx_get (x := 89) (by decide +kernel) (by decide +kernel),
   fun v0 v1 st h Q => gx_one (i := .bipush 99) (len := 2) (by decide +kernel) rfl,
   fun v0 v1 x y st h Q => gx_br (i := .if_icmp .gt 22) (len := 3) (c := .gt) (by decide +kernel) rfl rfl,
   fun v0 x st h Q => gx_one (i := .iload_n 1) (len := 1) (by decide +kernel) rfl,
   fun v0 v1 st h Q => gx_one (i := .bipush 48) (len := 2) (by decide +kernel) rfl,
   fun v0 v1 x y st h Q => gx_br (i := .if_icmp .ne 20) (len := 3) (c := .ne) (by decide +kernel) rfl rfl,
   fun v1 x st h Q => gx_one (i := .aload_n 0) (len := 1) (by decide +kernel) rfl,
   fun v0 v1 a st h Q => gx_get (x := 76) (by decide +kernel) (by decide +kernel),
   fun v1 x st h Q => gx_one (i := .aload_n 0) (len := 1) (by decide +kernel) rfl⟩
theorem S_mo_advances_2 : (∀ (v0 v1 : Value) (a : Nat) (st : List Value) (h : mr_h) (Q : Option Value → mr_h → Prop), mr_wp 124 162 [v0, v1] (.ref a :: st) h Q = mr_gf (h.1 a) 11 5 (fun v => mr_wp 124 165 [v0, v1] (v :: st) h Q)) ∧
    (∀ (v0 v1 : Value) (x : Int32) (y : Int32) (st : List Value) (h : mr_h) (Q : Option Value → mr_h → Prop), mr_wp 124 165 [v0, v1] (.int y :: .int x :: st) h Q = mr_wp 124 166 [v0, v1] (.int (x - y) :: st) h Q) ∧
    (∀ (v0 v1 : Value) (st : List Value) (h : mr_h) (Q : Option Value → mr_h → Prop), mr_wp 124 166 [v0, v1] st h Q = mr_wp 124 167 [v0, v1] (.int (1) :: st) h Q) ∧
    (∀ (v0 v1 : Value) (x : Int32) (y : Int32) (st : List Value) (h : mr_h) (Q : Option Value → mr_h → Prop), mr_wp 124 167 [v0, v1] (.int y :: .int x :: st) h Q = if x ≤ y then mr_wp 124 174 [v0, v1] st h Q else mr_wp 124 170 [v0, v1] st h Q) ∧
    (∀ (v0 v1 : Value) (st : List Value) (h : mr_h) (Q : Option Value → mr_h → Prop), mr_wp 124 170 [v0, v1] st h Q = mr_wp 124 171 [v0, v1] (.int (4) :: st) h Q) ∧
    (∀ (v0 v1 : Value) (st : List Value) (h : mr_h) (Q : Option Value → mr_h → Prop), mr_wp 124 171 [v0, v1] st h Q = mr_wp 124 175 [v0, v1] st h Q) ∧
    (∀ (v0 v1 : Value) (st : List Value) (h : mr_h) (Q : Option Value → mr_h → Prop), mr_wp 124 174 [v0, v1] st h Q = mr_wp 124 175 [v0, v1] (.int (2) :: st) h Q) ∧
    (∀ (v0 v1 : Value) (a : Nat) (x : Int32) (st : List Value) (h : mr_h) (Q : Option Value → mr_h → Prop), mr_wp 124 175 [v0, v1] (.int x :: .ref a :: st) h Q = mr_pf (h.1 a) 11 4 (.int x) (fun c => mr_wp 124 178 [v0, v1] st (mr_up h a c) Q)) ∧
    (∀ (v0 v1 : Value) (st : List Value) (h : mr_h) (Q : Option Value → mr_h → Prop), mr_wp 124 178 [v0, v1] st h Q = mr_wp 124 233 [v0, v1] st h Q) ∧
    (∀ (v1 : Value) (x : Nat) (st : List Value) (h : mr_h) (Q : Option Value → mr_h → Prop), mr_wp 124 181 [.ref x, v1] st h Q = mr_wp 124 182 [.ref x, v1] (.ref x :: st) h Q) ∧
    (∀ (v0 v1 : Value) (x : Nat) (st : List Value) (h : mr_h) (Q : Option Value → mr_h → Prop), mr_wp 124 182 [v0, v1] (.ref x :: st) h Q = mr_wp 124 183 [v0, v1] (.ref x :: .ref x :: st) h Q) ∧
    (∀ (v0 v1 : Value) (a : Nat) (st : List Value) (h : mr_h) (Q : Option Value → mr_h → Prop), mr_wp 124 183 [v0, v1] (.ref a :: st) h Q = mr_gf (h.1 a) 11 3 (fun v => mr_wp 124 186 [v0, v1] (v :: st) h Q)) ∧
    (∀ (v0 v1 : Value) (st : List Value) (h : mr_h) (Q : Option Value → mr_h → Prop), mr_wp 124 186 [v0, v1] st h Q = mr_wp 124 187 [v0, v1] (.int (1) :: st) h Q) ∧
    (∀ (v0 v1 : Value) (x : Int32) (y : Int32) (st : List Value) (h : mr_h) (Q : Option Value → mr_h → Prop), mr_wp 124 187 [v0, v1] (.int y :: .int x :: st) h Q = mr_wp 124 188 [v0, v1] (.int (x + y) :: st) h Q) ∧
    (∀ (v0 v1 : Value) (a : Nat) (x : Int32) (st : List Value) (h : mr_h) (Q : Option Value → mr_h → Prop), mr_wp 124 188 [v0, v1] (.int x :: .ref a :: st) h Q = mr_pf (h.1 a) 11 3 (.int x) (fun c => mr_wp 124 191 [v0, v1] st (mr_up h a c) Q)) ∧
    (∀ (v1 : Value) (x : Nat) (st : List Value) (h : mr_h) (Q : Option Value → mr_h → Prop), mr_wp 124 191 [.ref x, v1] st h Q = mr_wp 124 192 [.ref x, v1] (.ref x :: st) h Q) ∧
    (∀ (v0 : Value) (x : Int32) (st : List Value) (h : mr_h) (Q : Option Value → mr_h → Prop), mr_wp 124 192 [v0, .int x] st h Q = mr_wp 124 193 [v0, .int x] (.int x :: st) h Q) ∧
    (∀ (v0 v1 : Value) (a : Nat) (x : Int32) (st : List Value) (h : mr_h) (Q : Option Value → mr_h → Prop), mr_wp 124 193 [v0, v1] (.int x :: .ref a :: st) h Q = mr_pf (h.1 a) 11 6 (.int x) (fun c => mr_wp 124 196 [v0, v1] st (mr_up h a c) Q)) ∧
    (∀ (v1 : Value) (x : Nat) (st : List Value) (h : mr_h) (Q : Option Value → mr_h → Prop), mr_wp 124 196 [.ref x, v1] st h Q = mr_wp 124 197 [.ref x, v1] (.ref x :: st) h Q) ∧
    (∀ (v0 : Value) (x : Int32) (st : List Value) (h : mr_h) (Q : Option Value → mr_h → Prop), mr_wp 124 197 [v0, .int x] st h Q = mr_wp 124 198 [v0, .int x] (.int x :: st) h Q) ∧
    (∀ (v0 v1 : Value) (st : List Value) (h : mr_h) (Q : Option Value → mr_h → Prop), mr_wp 124 198 [v0, v1] st h Q = mr_wp 124 200 [v0, v1] (.int (59) :: st) h Q) ∧
    (∀ (v0 v1 : Value) (x : Int32) (y : Int32) (st : List Value) (h : mr_h) (Q : Option Value → mr_h → Prop), mr_wp 124 200 [v0, v1] (.int y :: .int x :: st) h Q = if ¬ x = y then mr_wp 124 207 [v0, v1] st h Q else mr_wp 124 203 [v0, v1] st h Q) ∧
    (∀ (v0 v1 : Value) (st : List Value) (h : mr_h) (Q : Option Value → mr_h → Prop), mr_wp 124 203 [v0, v1] st h Q = mr_wp 124 204 [v0, v1] (.int (3) :: st) h Q) ∧
    (∀ (v0 v1 : Value) (st : List Value) (h : mr_h) (Q : Option Value → mr_h → Prop), mr_wp 124 204 [v0, v1] st h Q = mr_wp 124 230 [v0, v1] st h Q) ∧
    (∀ (v0 : Value) (x : Int32) (st : List Value) (h : mr_h) (Q : Option Value → mr_h → Prop), mr_wp 124 207 [v0, .int x] st h Q = mr_wp 124 208 [v0, .int x] (.int x :: st) h Q) ∧
    (∀ (v0 v1 : Value) (st : List Value) (h : mr_h) (Q : Option Value → mr_h → Prop), mr_wp 124 208 [v0, v1] st h Q = mr_wp 124 210 [v0, v1] (.int (110) :: st) h Q) ∧
    (∀ (v0 v1 : Value) (x : Int32) (y : Int32) (st : List Value) (h : mr_h) (Q : Option Value → mr_h → Prop), mr_wp 124 210 [v0, v1] (.int y :: .int x :: st) h Q = if x = y then mr_wp 124 225 [v0, v1] st h Q else mr_wp 124 213 [v0, v1] st h Q) ∧
    (∀ (v0 : Value) (x : Int32) (st : List Value) (h : mr_h) (Q : Option Value → mr_h → Prop), mr_wp 124 213 [v0, .int x] st h Q = mr_wp 124 214 [v0, .int x] (.int x :: st) h Q) ∧
    (∀ (v0 v1 : Value) (st : List Value) (h : mr_h) (Q : Option Value → mr_h → Prop), mr_wp 124 214 [v0, v1] st h Q = mr_wp 124 216 [v0, v1] (.int (101) :: st) h Q) ∧
    (∀ (v0 v1 : Value) (x : Int32) (y : Int32) (st : List Value) (h : mr_h) (Q : Option Value → mr_h → Prop), mr_wp 124 216 [v0, v1] (.int y :: .int x :: st) h Q = if x = y then mr_wp 124 225 [v0, v1] st h Q else mr_wp 124 219 [v0, v1] st h Q) ∧
    (∀ (v0 : Value) (x : Int32) (st : List Value) (h : mr_h) (Q : Option Value → mr_h → Prop), mr_wp 124 219 [v0, .int x] st h Q = mr_wp 124 220 [v0, .int x] (.int x :: st) h Q) ∧
    (∀ (v0 v1 : Value) (st : List Value) (h : mr_h) (Q : Option Value → mr_h → Prop), mr_wp 124 220 [v0, v1] st h Q = mr_wp 124 222 [v0, v1] (.int (114) :: st) h Q) ∧
    (∀ (v0 v1 : Value) (x : Int32) (y : Int32) (st : List Value) (h : mr_h) (Q : Option Value → mr_h → Prop), mr_wp 124 222 [v0, v1] (.int y :: .int x :: st) h Q = if ¬ x = y then mr_wp 124 229 [v0, v1] st h Q else mr_wp 124 225 [v0, v1] st h Q) ∧
    (∀ (v0 v1 : Value) (st : List Value) (h : mr_h) (Q : Option Value → mr_h → Prop), mr_wp 124 225 [v0, v1] st h Q = mr_wp 124 226 [v0, v1] (.int (1) :: st) h Q) ∧
    (∀ (v0 v1 : Value) (st : List Value) (h : mr_h) (Q : Option Value → mr_h → Prop), mr_wp 124 226 [v0, v1] st h Q = mr_wp 124 230 [v0, v1] st h Q) ∧
    (∀ (v0 v1 : Value) (st : List Value) (h : mr_h) (Q : Option Value → mr_h → Prop), mr_wp 124 229 [v0, v1] st h Q = mr_wp 124 230 [v0, v1] (.int (4) :: st) h Q) ∧
    (∀ (v0 v1 : Value) (a : Nat) (x : Int32) (st : List Value) (h : mr_h) (Q : Option Value → mr_h → Prop), mr_wp 124 230 [v0, v1] (.int x :: .ref a :: st) h Q = mr_pf (h.1 a) 11 4 (.int x) (fun c => mr_wp 124 233 [v0, v1] st (mr_up h a c) Q)) ∧
    (∀ (v0 v1 : Value) (h : mr_h) (Q : Option Value → mr_h → Prop), mr_wp 124 233 [v0, v1] [] h Q = Q none h) :=
  ⟨fun v0 v1 a st h Q => gx_get (x := 83) (by decide +kernel) (by decide +kernel),
   fun v0 v1 x y st h Q => gx_one (i := .isub) (len := 1) (by decide +kernel) rfl,
   fun v0 v1 st h Q => gx_one (i := .iconst 1) (len := 1) (by decide +kernel) rfl,
   fun v0 v1 x y st h Q => gx_br (i := .if_icmp .le 7) (len := 3) (c := .le) (by decide +kernel) rfl rfl,
   fun v0 v1 st h Q => gx_one (i := .iconst 4) (len := 1) (by decide +kernel) rfl,
   fun v0 v1 st h Q => gx_one (i := .goto 4) (len := 3) (by decide +kernel) rfl,
   fun v0 v1 st h Q => gx_one (i := .iconst 2) (len := 1) (by decide +kernel) rfl,
   fun v0 v1 a x st h Q => gx_put (x := 86) (by decide +kernel) (by decide +kernel) ⟨rfl, Or.inl rfl⟩,
   fun v0 v1 st h Q => gx_one (i := .goto 55) (len := 3) (by decide +kernel) rfl,
   fun v1 x st h Q => gx_one (i := .aload_n 0) (len := 1) (by decide +kernel) rfl,
   fun v0 v1 x st h Q => gx_one (i := .dup) (len := 1) (by decide +kernel) rfl,
   fun v0 v1 a st h Q => gx_get (x := 76) (by decide +kernel) (by decide +kernel),
   fun v0 v1 st h Q => gx_one (i := .iconst 1) (len := 1) (by decide +kernel) rfl,
   fun v0 v1 x y st h Q => gx_one (i := .iadd) (len := 1) (by decide +kernel) rfl,
   fun v0 v1 a x st h Q => gx_put (x := 76) (by decide +kernel) (by decide +kernel) ⟨rfl, Or.inl rfl⟩,
   fun v1 x st h Q => gx_one (i := .aload_n 0) (len := 1) (by decide +kernel) rfl,
   fun v0 x st h Q => gx_one (i := .iload_n 1) (len := 1) (by decide +kernel) rfl,
   fun v0 v1 a x st h Q => gx_put (x := 89) (by decide +kernel) (by decide +kernel) ⟨rfl, Or.inl rfl⟩,
   fun v1 x st h Q => gx_one (i := .aload_n 0) (len := 1) (by decide +kernel) rfl,
   fun v0 x st h Q => gx_one (i := .iload_n 1) (len := 1) (by decide +kernel) rfl,
   fun v0 v1 st h Q => gx_one (i := .bipush 59) (len := 2) (by decide +kernel) rfl,
   fun v0 v1 x y st h Q => gx_br (i := .if_icmp .ne 7) (len := 3) (c := .ne) (by decide +kernel) rfl rfl,
   fun v0 v1 st h Q => gx_one (i := .iconst 3) (len := 1) (by decide +kernel) rfl,
   fun v0 v1 st h Q => gx_one (i := .goto 26) (len := 3) (by decide +kernel) rfl,
   fun v0 x st h Q => gx_one (i := .iload_n 1) (len := 1) (by decide +kernel) rfl,
   fun v0 v1 st h Q => gx_one (i := .bipush 110) (len := 2) (by decide +kernel) rfl,
   fun v0 v1 x y st h Q => gx_br (i := .if_icmp .eq 15) (len := 3) (c := .eq) (by decide +kernel) rfl rfl,
   fun v0 x st h Q => gx_one (i := .iload_n 1) (len := 1) (by decide +kernel) rfl,
   fun v0 v1 st h Q => gx_one (i := .bipush 101) (len := 2) (by decide +kernel) rfl,
   fun v0 v1 x y st h Q => gx_br (i := .if_icmp .eq 9) (len := 3) (c := .eq) (by decide +kernel) rfl rfl,
   fun v0 x st h Q => gx_one (i := .iload_n 1) (len := 1) (by decide +kernel) rfl,
   fun v0 v1 st h Q => gx_one (i := .bipush 114) (len := 2) (by decide +kernel) rfl,
   fun v0 v1 x y st h Q => gx_br (i := .if_icmp .ne 7) (len := 3) (c := .ne) (by decide +kernel) rfl rfl,
   fun v0 v1 st h Q => gx_one (i := .iconst 1) (len := 1) (by decide +kernel) rfl,
   fun v0 v1 st h Q => gx_one (i := .goto 4) (len := 3) (by decide +kernel) rfl,
   fun v0 v1 st h Q => gx_one (i := .iconst 4) (len := 1) (by decide +kernel) rfl,
   fun v0 v1 a x st h Q => gx_put (x := 86) (by decide +kernel) (by decide +kernel) ⟨rfl, Or.inl rfl⟩,
   fun v0 v1 h Q => gx_ret (i := .return_) (len := 1) (by decide +kernel) rfl rfl (by simp only [mr_rt, if_pos]; rw [if_pos (by decide +kernel)])⟩

theorem S_mo_letterAt : (∀ (v0 : Value) (x : Int32) (st : List Value) (h : mr_h) (Q : Option Value → mr_h → Prop), mr_wp 125 0 [v0, .int x] st h Q = mr_wp 125 1 [v0, .int x] (.int x :: st) h Q) ∧
    (∀ (v1 : Value) (x : Nat) (st : List Value) (h : mr_h) (Q : Option Value → mr_h → Prop), mr_wp 125 1 [.ref x, v1] st h Q = mr_wp 125 2 [.ref x, v1] (.ref x :: st) h Q) ∧
    (∀ (v0 v1 : Value) (a : Nat) (st : List Value) (h : mr_h) (Q : Option Value → mr_h → Prop), mr_wp 125 2 [v0, v1] (.ref a :: st) h Q = mr_gf (h.1 a) 11 2 (fun v => mr_wp 125 5 [v0, v1] (v :: st) h Q)) ∧
    (∀ (v0 v1 : Value) (x : Int32) (y : Int32) (st : List Value) (h : mr_h) (Q : Option Value → mr_h → Prop), mr_wp 125 5 [v0, v1] (.int y :: .int x :: st) h Q = if y ≤ x then mr_wp 125 17 [v0, v1] st h Q else mr_wp 125 8 [v0, v1] st h Q) ∧
    (∀ (v1 : Value) (x : Nat) (st : List Value) (h : mr_h) (Q : Option Value → mr_h → Prop), mr_wp 125 8 [.ref x, v1] st h Q = mr_wp 125 9 [.ref x, v1] (.ref x :: st) h Q) ∧
    (∀ (v0 v1 : Value) (a : Nat) (st : List Value) (h : mr_h) (Q : Option Value → mr_h → Prop), mr_wp 125 9 [v0, v1] (.ref a :: st) h Q = mr_gf (h.1 a) 11 1 (fun v => mr_wp 125 12 [v0, v1] (v :: st) h Q)) ∧
    (∀ (v0 : Value) (x : Int32) (st : List Value) (h : mr_h) (Q : Option Value → mr_h → Prop), mr_wp 125 12 [v0, .int x] st h Q = mr_wp 125 13 [v0, .int x] (.int x :: st) h Q) ∧
    (∀ (v0 v1 : Value) (a : Nat) (x : Int32) (st : List Value) (h : mr_h) (Q : Option Value → mr_h → Prop), mr_wp 125 13 [v0, v1] (.int x :: .ref a :: st) h Q = mr_ai (h.1 a) x (fun v => mr_wp 125 14 [v0, v1] (.int v :: st) h Q)) ∧
    (∀ (v0 v1 : Value) (st : List Value) (h : mr_h) (Q : Option Value → mr_h → Prop), mr_wp 125 14 [v0, v1] st h Q = mr_wp 125 18 [v0, v1] st h Q) ∧
    (∀ (v0 v1 : Value) (st : List Value) (h : mr_h) (Q : Option Value → mr_h → Prop), mr_wp 125 17 [v0, v1] st h Q = mr_wp 125 18 [v0, v1] (.int (-1) :: st) h Q) ∧
    (∀ (v0 v1 : Value) (x : Int32) (h : mr_h) (Q : Option Value → mr_h → Prop), mr_wp 125 18 [v0, v1] [.int x] h Q = Q (some (.int x)) h) :=
  ⟨fun v0 x st h Q => gx_one (i := .iload_n 1) (len := 1) (by decide +kernel) rfl,
   fun v1 x st h Q => gx_one (i := .aload_n 0) (len := 1) (by decide +kernel) rfl,
   fun v0 v1 a st h Q => gx_get (x := 73) (by decide +kernel) (by decide +kernel),
   fun v0 v1 x y st h Q => gx_br (i := .if_icmp .ge 12) (len := 3) (c := .ge) (by decide +kernel) rfl rfl,
   fun v1 x st h Q => gx_one (i := .aload_n 0) (len := 1) (by decide +kernel) rfl,
   fun v0 v1 a st h Q => gx_get (x := 7) (by decide +kernel) (by decide +kernel),
   fun v0 x st h Q => gx_one (i := .iload_n 1) (len := 1) (by decide +kernel) rfl,
   fun v0 v1 a x st h Q => gx_iald (by decide +kernel),
   fun v0 v1 st h Q => gx_one (i := .goto 4) (len := 3) (by decide +kernel) rfl,
   fun v0 v1 st h Q => gx_one (i := .iconst (-1)) (len := 1) (by decide +kernel) rfl,
   fun v0 v1 x h Q => gx_ret (i := .ireturn) (len := 1) (by decide +kernel) rfl rfl (by simp only [mr_rt, if_pos]; rw [if_pos (Or.inl (by decide +kernel))])⟩
theorem S_mo_isWell : (∀ (x : Nat) (st : List Value) (h : mr_h) (Q : Option Value → mr_h → Prop), mr_wp 126 0 [.ref x] st h Q = mr_wp 126 1 [.ref x] (.ref x :: st) h Q) ∧
    (∀ (v0 : Value) (a : Nat) (st : List Value) (h : mr_h) (Q : Option Value → mr_h → Prop), mr_wp 126 1 [v0] (.ref a :: st) h Q = mr_gf (h.1 a) 11 7 (fun v => mr_wp 126 4 [v0] (v :: st) h Q)) ∧
    (∀ (v0 : Value) (x : Int32) (st : List Value) (h : mr_h) (Q : Option Value → mr_h → Prop), mr_wp 126 4 [v0] (.int x :: st) h Q = if 0 ≤ x then mr_wp 126 11 [v0] st h Q else mr_wp 126 7 [v0] st h Q) ∧
    (∀ (v0 : Value) (st : List Value) (h : mr_h) (Q : Option Value → mr_h → Prop), mr_wp 126 7 [v0] st h Q = mr_wp 126 8 [v0] (.int (1) :: st) h Q) ∧
    (∀ (v0 : Value) (st : List Value) (h : mr_h) (Q : Option Value → mr_h → Prop), mr_wp 126 8 [v0] st h Q = mr_wp 126 12 [v0] st h Q) ∧
    (∀ (v0 : Value) (st : List Value) (h : mr_h) (Q : Option Value → mr_h → Prop), mr_wp 126 11 [v0] st h Q = mr_wp 126 12 [v0] (.int (0) :: st) h Q) ∧
    (∀ (v0 : Value) (x : Int32) (h : mr_h) (Q : Option Value → mr_h → Prop) (hv : x &&& 1 = x), mr_wp 126 12 [v0] [.int x] h Q = Q (some (.int x)) h) :=
  ⟨fun x st h Q => gx_one (i := .aload_n 0) (len := 1) (by decide +kernel) rfl,
   fun v0 a st h Q => gx_get (x := 92) (by decide +kernel) (by decide +kernel),
   fun v0 x st h Q => gx_br (i := .ifCond .ge 7) (len := 3) (c := .ge) (by decide +kernel) rfl rfl,
   fun v0 st h Q => gx_one (i := .iconst 1) (len := 1) (by decide +kernel) rfl,
   fun v0 st h Q => gx_one (i := .goto 4) (len := 3) (by decide +kernel) rfl,
   fun v0 st h Q => gx_one (i := .iconst 0) (len := 1) (by decide +kernel) rfl,
   fun v0 x h Q hv => gx_ret (i := .ireturn) (len := 1) (by decide +kernel) rfl rfl (by simp only [mr_rt, if_pos]; rw [if_pos (Or.inr ⟨by decide +kernel, hv⟩)])⟩
theorem S_mo_takes : (∀ (v1 v2 : Value) (x : Nat) (st : List Value) (h : mr_h) (Q : Option Value → mr_h → Prop), mr_wp 127 0 [.ref x, v1, v2] st h Q = mr_wp 127 1 [.ref x, v1, v2] (.ref x :: st) h Q) ∧
    (∀ (v0 v1 v2 : Value) (o : Nat) (h : mr_h) (Q : Option Value → mr_h → Prop), mr_wp 127 1 [v0, v1, v2] [.ref o] h Q = mr_rc (h.1 o) 11 (mr_run 126 [.ref o] h (fun v h' => mr_wp 127 4 [v0, v1, v2] (v.toList ++ []) h' Q))) ∧
    (∀ (v0 v1 v2 : Value) (x : Int32) (st : List Value) (h : mr_h) (Q : Option Value → mr_h → Prop), mr_wp 127 4 [v0, v1, v2] (.int x :: st) h Q = if ¬ x = 0 then mr_wp 127 9 [v0, v1, v2] st h Q else mr_wp 127 7 [v0, v1, v2] st h Q) ∧
    (∀ (v0 v1 v2 : Value) (st : List Value) (h : mr_h) (Q : Option Value → mr_h → Prop), mr_wp 127 7 [v0, v1, v2] st h Q = mr_wp 127 8 [v0, v1, v2] (.int (0) :: st) h Q) ∧
    (∀ (v0 v1 v2 : Value) (x : Int32) (h : mr_h) (Q : Option Value → mr_h → Prop), mr_wp 127 8 [v0, v1, v2] [.int x] h Q = Q (some (.int x)) h) ∧
    (∀ (v0 v2 : Value) (x : Int32) (st : List Value) (h : mr_h) (Q : Option Value → mr_h → Prop), mr_wp 127 9 [v0, .int x, v2] st h Q = mr_wp 127 10 [v0, .int x, v2] (.int x :: st) h Q) ∧
    (∀ (v0 v1 v2 : Value) (x : Int32) (st : List Value) (h : mr_h) (Q : Option Value → mr_h → Prop), mr_wp 127 10 [v0, v1, v2] (.int x :: st) h Q = if ¬ x = 0 then mr_wp 127 23 [v0, v1, v2] st h Q else mr_wp 127 13 [v0, v1, v2] st h Q) ∧
    (∀ (v1 v2 : Value) (x : Nat) (st : List Value) (h : mr_h) (Q : Option Value → mr_h → Prop), mr_wp 127 13 [.ref x, v1, v2] st h Q = mr_wp 127 14 [.ref x, v1, v2] (.ref x :: st) h Q) ∧
    (∀ (v1 v2 : Value) (x : Nat) (st : List Value) (h : mr_h) (Q : Option Value → mr_h → Prop), mr_wp 127 14 [.ref x, v1, v2] st h Q = mr_wp 127 15 [.ref x, v1, v2] (.ref x :: st) h Q) ∧
    (∀ (v0 v1 v2 : Value) (a : Nat) (st : List Value) (h : mr_h) (Q : Option Value → mr_h → Prop), mr_wp 127 15 [v0, v1, v2] (.ref a :: st) h Q = mr_gf (h.1 a) 11 5 (fun v => mr_wp 127 18 [v0, v1, v2] (v :: st) h Q)) ∧
    (∀ (v0 v1 v2 : Value) (a : Nat) (x : Int32) (st : List Value) (h : mr_h) (Q : Option Value → mr_h → Prop), mr_wp 127 18 [v0, v1, v2] (.int x :: .ref a :: st) h Q = mr_pf (h.1 a) 11 7 (.int x) (fun c => mr_wp 127 21 [v0, v1, v2] st (mr_up h a c) Q)) ∧
    (∀ (v0 v1 v2 : Value) (st : List Value) (h : mr_h) (Q : Option Value → mr_h → Prop), mr_wp 127 21 [v0, v1, v2] st h Q = mr_wp 127 22 [v0, v1, v2] (.int (0) :: st) h Q) ∧
    (∀ (v0 v1 v2 : Value) (x : Int32) (h : mr_h) (Q : Option Value → mr_h → Prop), mr_wp 127 22 [v0, v1, v2] [.int x] h Q = Q (some (.int x)) h) ∧
    (∀ (v1 v2 : Value) (x : Nat) (st : List Value) (h : mr_h) (Q : Option Value → mr_h → Prop), mr_wp 127 23 [.ref x, v1, v2] st h Q = mr_wp 127 24 [.ref x, v1, v2] (.ref x :: st) h Q) ∧
    (∀ (v0 v1 v2 : Value) (a : Nat) (st : List Value) (h : mr_h) (Q : Option Value → mr_h → Prop), mr_wp 127 24 [v0, v1, v2] (.ref a :: st) h Q = mr_gf (h.1 a) 11 6 (fun v => mr_wp 127 27 [v0, v1, v2] (v :: st) h Q)) ∧
    (∀ (v0 v2 : Value) (w1 : Int32) (x : Int32) (st : List Value) (h : mr_h) (Q : Option Value → mr_h → Prop), mr_wp 127 27 [v0, .int w1, v2] (.int x :: st) h Q = mr_wp 127 28 [v0, .int w1, .int x] st h Q) ∧
    (∀ (v1 v2 : Value) (x : Nat) (st : List Value) (h : mr_h) (Q : Option Value → mr_h → Prop), mr_wp 127 28 [.ref x, v1, v2] st h Q = mr_wp 127 29 [.ref x, v1, v2] (.ref x :: st) h Q) ∧
    (∀ (v0 v1 v2 : Value) (o : Nat) (h : mr_h) (Q : Option Value → mr_h → Prop), mr_wp 127 29 [v0, v1, v2] [.ref o] h Q = mr_rc (h.1 o) 11 (mr_run 124 [.ref o] h (fun v h' => mr_wp 127 32 [v0, v1, v2] (v.toList ++ []) h' Q))) ∧
    (∀ (v0 v1 : Value) (x : Int32) (st : List Value) (h : mr_h) (Q : Option Value → mr_h → Prop), mr_wp 127 32 [v0, v1, .int x] st h Q = mr_wp 127 33 [v0, v1, .int x] (.int x :: st) h Q) ∧
    (∀ (v0 v1 v2 : Value) (x : Int32) (h : mr_h) (Q : Option Value → mr_h → Prop), mr_wp 127 33 [v0, v1, v2] [.int x] h Q = Q (some (.int x)) h) :=
  ⟨fun v1 v2 x st h Q => gx_one (i := .aload_n 0) (len := 1) (by decide +kernel) rfl,
   fun v0 v1 v2 o h Q => gx_virt (x := 95) (n := 0) (by decide +kernel) (by decide +kernel) rfl (Or.inl (Nat.le_of_ble_eq_true rfl)) (by show _ ≤ mr_mxl 126; rw [show mr_mxl 126 = 1 from by decide +kernel]; exact Nat.le_of_ble_eq_true rfl) (by decide +kernel),
   fun v0 v1 v2 x st h Q => gx_br (i := .ifCond .ne 5) (len := 3) (c := .ne) (by decide +kernel) rfl rfl,
   fun v0 v1 v2 st h Q => gx_one (i := .iconst 0) (len := 1) (by decide +kernel) rfl,
   fun v0 v1 v2 x h Q => gx_ret (i := .ireturn) (len := 1) (by decide +kernel) rfl rfl (by simp only [mr_rt, if_pos]; rw [if_pos (Or.inl (by decide +kernel))]),
   fun v0 v2 x st h Q => gx_one (i := .iload_n 1) (len := 1) (by decide +kernel) rfl,
   fun v0 v1 v2 x st h Q => gx_br (i := .ifCond .ne 13) (len := 3) (c := .ne) (by decide +kernel) rfl rfl,
   fun v1 v2 x st h Q => gx_one (i := .aload_n 0) (len := 1) (by decide +kernel) rfl,
   fun v1 v2 x st h Q => gx_one (i := .aload_n 0) (len := 1) (by decide +kernel) rfl,
   fun v0 v1 v2 a st h Q => gx_get (x := 83) (by decide +kernel) (by decide +kernel),
   fun v0 v1 v2 a x st h Q => gx_put (x := 92) (by decide +kernel) (by decide +kernel) ⟨rfl, Or.inl rfl⟩,
   fun v0 v1 v2 st h Q => gx_one (i := .iconst 0) (len := 1) (by decide +kernel) rfl,
   fun v0 v1 v2 x h Q => gx_ret (i := .ireturn) (len := 1) (by decide +kernel) rfl rfl (by simp only [mr_rt, if_pos]; rw [if_pos (Or.inl (by decide +kernel))]),
   fun v1 v2 x st h Q => gx_one (i := .aload_n 0) (len := 1) (by decide +kernel) rfl,
   fun v0 v1 v2 a st h Q => gx_get (x := 89) (by decide +kernel) (by decide +kernel),
   fun v0 v2 w1 x st h Q => gx_one (i := .istore_n 2) (len := 1) (by decide +kernel) rfl,
   fun v1 v2 x st h Q => gx_one (i := .aload_n 0) (len := 1) (by decide +kernel) rfl,
   fun v0 v1 v2 o h Q => gx_virt (x := 99) (n := 0) (by decide +kernel) (by decide +kernel) rfl (Or.inl (Nat.le_of_ble_eq_true rfl)) (by show _ ≤ mr_mxl 124; rw [show mr_mxl 124 = 2 from by decide +kernel]; exact Nat.le_of_ble_eq_true rfl) (by decide +kernel),
   fun v0 v1 x st h Q => gx_one (i := .iload_n 2) (len := 1) (by decide +kernel) rfl,
   fun v0 v1 v2 x h Q => gx_ret (i := .ireturn) (len := 1) (by decide +kernel) rfl rfl (by simp only [mr_rt, if_pos]; rw [if_pos (Or.inl (by decide +kernel))])⟩
theorem S_mo_readsItem_0 : (∀ (v0 v2 v3 : Value) (x : Int32) (st : List Value) (h : mr_h) (Q : Option Value → mr_h → Prop), mr_wp 128 0 [v0, .int x, v2, v3] st h Q = mr_wp 128 1 [v0, .int x, v2, v3] (.int x :: st) h Q) ∧
    (∀ (v0 v1 v2 v3 : Value) (st : List Value) (h : mr_h) (Q : Option Value → mr_h → Prop), mr_wp 128 1 [v0, v1, v2, v3] st h Q = mr_wp 128 3 [v0, v1, v2, v3] (.int (110) :: st) h Q) ∧
    (∀ (v0 v1 v2 v3 : Value) (x : Int32) (y : Int32) (st : List Value) (h : mr_h) (Q : Option Value → mr_h → Prop), mr_wp 128 3 [v0, v1, v2, v3] (.int y :: .int x :: st) h Q = if ¬ x = y then mr_wp 128 24 [v0, v1, v2, v3] st h Q else mr_wp 128 6 [v0, v1, v2, v3] st h Q) ∧
    (∀ (v1 v2 v3 : Value) (x : Nat) (st : List Value) (h : mr_h) (Q : Option Value → mr_h → Prop), mr_wp 128 6 [.ref x, v1, v2, v3] st h Q = mr_wp 128 7 [.ref x, v1, v2, v3] (.ref x :: st) h Q) ∧
    (∀ (v1 v2 v3 : Value) (x : Nat) (st : List Value) (h : mr_h) (Q : Option Value → mr_h → Prop), mr_wp 128 7 [.ref x, v1, v2, v3] st h Q = mr_wp 128 8 [.ref x, v1, v2, v3] (.ref x :: st) h Q) ∧
    (∀ (v1 v2 v3 : Value) (x : Nat) (st : List Value) (h : mr_h) (Q : Option Value → mr_h → Prop), mr_wp 128 8 [.ref x, v1, v2, v3] st h Q = mr_wp 128 9 [.ref x, v1, v2, v3] (.ref x :: st) h Q) ∧
    (∀ (v0 v1 v2 v3 : Value) (st : List Value) (h : mr_h) (Q : Option Value → mr_h → Prop), mr_wp 128 9 [v0, v1, v2, v3] st h Q = mr_wp 128 10 [v0, v1, v2, v3] (.int (1) :: st) h Q) ∧
    (∀ (v0 v1 v2 v3 : Value) (st : List Value) (h : mr_h) (Q : Option Value → mr_h → Prop), mr_wp 128 10 [v0, v1, v2, v3] st h Q = mr_wp 128 12 [v0, v1, v2, v3] (.int (12) :: st) h Q) ∧
    (∀ (v0 v1 v2 v3 : Value) (a0 : Int32) (a1 : Int32) (o : Nat) (r0 : Value) (r1 : Value) (h : mr_h) (Q : Option Value → mr_h → Prop), mr_wp 128 12 [v0, v1, v2, v3] [.int a1, .int a0, .ref o, r0, r1] h Q = mr_rc (h.1 o) 11 (mr_run 129 [.ref o, .int a0, .int a1] h (fun v h' => mr_wp 128 15 [v0, v1, v2, v3] (v.toList ++ [r0, r1]) h' Q))) ∧
    (∀ (v0 v1 v2 v3 : Value) (a0 : Int32) (o : Nat) (r0 : Value) (h : mr_h) (Q : Option Value → mr_h → Prop), mr_wp 128 15 [v0, v1, v2, v3] [.int a0, .ref o, r0] h Q = mr_rc (h.1 o) 11 (mr_run 127 [.ref o, .int a0] h (fun v h' => mr_wp 128 18 [v0, v1, v2, v3] (v.toList ++ [r0]) h' Q))) ∧
    (∀ (v0 v1 v2 v3 : Value) (a : Nat) (x : Int32) (st : List Value) (h : mr_h) (Q : Option Value → mr_h → Prop), mr_wp 128 18 [v0, v1, v2, v3] (.int x :: .ref a :: st) h Q = mr_pf (h.1 a) 11 9 (.int x) (fun c => mr_wp 128 21 [v0, v1, v2, v3] st (mr_up h a c) Q)) ∧
    (∀ (v0 v1 v2 v3 : Value) (st : List Value) (h : mr_h) (Q : Option Value → mr_h → Prop), mr_wp 128 21 [v0, v1, v2, v3] st h Q = mr_wp 128 193 [v0, v1, v2, v3] st h Q) ∧
    (∀ (v0 v2 v3 : Value) (x : Int32) (st : List Value) (h : mr_h) (Q : Option Value → mr_h → Prop), mr_wp 128 24 [v0, .int x, v2, v3] st h Q = mr_wp 128 25 [v0, .int x, v2, v3] (.int x :: st) h Q) ∧
    (∀ (v0 v1 v2 v3 : Value) (st : List Value) (h : mr_h) (Q : Option Value → mr_h → Prop), mr_wp 128 25 [v0, v1, v2, v3] st h Q = mr_wp 128 27 [v0, v1, v2, v3] (.int (101) :: st) h Q) ∧
    (∀ (v0 v1 v2 v3 : Value) (x : Int32) (y : Int32) (st : List Value) (h : mr_h) (Q : Option Value → mr_h → Prop), mr_wp 128 27 [v0, v1, v2, v3] (.int y :: .int x :: st) h Q = if ¬ x = y then mr_wp 128 124 [v0, v1, v2, v3] st h Q else mr_wp 128 30 [v0, v1, v2, v3] st h Q) ∧
    (∀ (v1 v2 v3 : Value) (x : Nat) (st : List Value) (h : mr_h) (Q : Option Value → mr_h → Prop), mr_wp 128 30 [.ref x, v1, v2, v3] st h Q = mr_wp 128 31 [.ref x, v1, v2, v3] (.ref x :: st) h Q) ∧
    (∀ (v1 v2 v3 : Value) (x : Nat) (st : List Value) (h : mr_h) (Q : Option Value → mr_h → Prop), mr_wp 128 31 [.ref x, v1, v2, v3] st h Q = mr_wp 128 32 [.ref x, v1, v2, v3] (.ref x :: st) h Q) ∧
    (∀ (v0 v1 v2 v3 : Value) (st : List Value) (h : mr_h) (Q : Option Value → mr_h → Prop), mr_wp 128 32 [v0, v1, v2, v3] st h Q = mr_wp 128 33 [v0, v1, v2, v3] (.int (0) :: st) h Q) ∧
    (∀ (v1 v2 v3 : Value) (x : Nat) (st : List Value) (h : mr_h) (Q : Option Value → mr_h → Prop), mr_wp 128 33 [.ref x, v1, v2, v3] st h Q = mr_wp 128 34 [.ref x, v1, v2, v3] (.ref x :: st) h Q) ∧
    (∀ (v0 v1 v2 v3 : Value) (a : Nat) (st : List Value) (h : mr_h) (Q : Option Value → mr_h → Prop), mr_wp 128 34 [v0, v1, v2, v3] (.ref a :: st) h Q = mr_gf (h.1 a) 11 9 (fun v => mr_wp 128 37 [v0, v1, v2, v3] (v :: st) h Q)) ∧
    (∀ (v0 v1 v2 v3 : Value) (st : List Value) (h : mr_h) (Q : Option Value → mr_h → Prop), mr_wp 128 37 [v0, v1, v2, v3] st h Q = mr_wp 128 38 [v0, v1, v2, v3] (.int (1) :: st) h Q) ∧
    (∀ (v0 v1 v2 v3 : Value) (x : Int32) (y : Int32) (st : List Value) (h : mr_h) (Q : Option Value → mr_h → Prop), mr_wp 128 38 [v0, v1, v2, v3] (.int y :: .int x :: st) h Q = mr_wp 128 39 [v0, v1, v2, v3] (.int (x - y) :: st) h Q) ∧
    (∀ (v0 v1 v2 v3 : Value) (a0 : Int32) (a1 : Int32) (o : Nat) (r0 : Value) (h : mr_h) (Q : Option Value → mr_h → Prop), mr_wp 128 39 [v0, v1, v2, v3] [.int a1, .int a0, .ref o, r0] h Q = mr_rc (h.1 o) 11 (mr_run 129 [.ref o, .int a0, .int a1] h (fun v h' => mr_wp 128 42 [v0, v1, v2, v3] (v.toList ++ [r0]) h' Q))) ∧
    (∀ (v0 v1 v2 v3 : Value) (a0 : Int32) (o : Nat) (h : mr_h) (Q : Option Value → mr_h → Prop), mr_wp 128 42 [v0, v1, v2, v3] [.int a0, .ref o] h Q = mr_rc (h.1 o) 11 (mr_run 127 [.ref o, .int a0] h (fun v h' => mr_wp 128 45 [v0, v1, v2, v3] (v.toList ++ []) h' Q))) ∧
    (∀ (v0 v2 v3 : Value) (w1 : Int32) (x : Int32) (st : List Value) (h : mr_h) (Q : Option Value → mr_h → Prop), mr_wp 128 45 [v0, .int w1, v2, v3] (.int x :: st) h Q = mr_wp 128 46 [v0, .int w1, .int x, v3] st h Q) ∧
    (∀ (v1 v2 v3 : Value) (x : Nat) (st : List Value) (h : mr_h) (Q : Option Value → mr_h → Prop), mr_wp 128 46 [.ref x, v1, v2, v3] st h Q = mr_wp 128 47 [.ref x, v1, v2, v3] (.ref x :: st) h Q) ∧
    (∀ (v1 v2 v3 : Value) (x : Nat) (st : List Value) (h : mr_h) (Q : Option Value → mr_h → Prop), mr_wp 128 47 [.ref x, v1, v2, v3] st h Q = mr_wp 128 48 [.ref x, v1, v2, v3] (.ref x :: st) h Q) ∧
    (∀ (v0 v1 v2 v3 : Value) (st : List Value) (h : mr_h) (Q : Option Value → mr_h → Prop), mr_wp 128 48 [v0, v1, v2, v3] st h Q = mr_wp 128 49 [v0, v1, v2, v3] (.int (0) :: st) h Q) ∧
    (∀ (v1 v2 v3 : Value) (x : Nat) (st : List Value) (h : mr_h) (Q : Option Value → mr_h → Prop), mr_wp 128 49 [.ref x, v1, v2, v3] st h Q = mr_wp 128 50 [.ref x, v1, v2, v3] (.ref x :: st) h Q) ∧
    (∀ (v0 v1 v2 v3 : Value) (a : Nat) (st : List Value) (h : mr_h) (Q : Option Value → mr_h → Prop), mr_wp 128 50 [v0, v1, v2, v3] (.ref a :: st) h Q = mr_gf (h.1 a) 11 9 (fun v => mr_wp 128 53 [v0, v1, v2, v3] (v :: st) h Q)) ∧
    (∀ (v0 v1 v2 v3 : Value) (st : List Value) (h : mr_h) (Q : Option Value → mr_h → Prop), mr_wp 128 53 [v0, v1, v2, v3] st h Q = mr_wp 128 54 [v0, v1, v2, v3] (.int (1) :: st) h Q) ∧
    (∀ (v0 v1 v2 v3 : Value) (x : Int32) (y : Int32) (st : List Value) (h : mr_h) (Q : Option Value → mr_h → Prop), mr_wp 128 54 [v0, v1, v2, v3] (.int y :: .int x :: st) h Q = mr_wp 128 55 [v0, v1, v2, v3] (.int (x - y) :: st) h Q) ∧
    (∀ (v0 v1 v2 v3 : Value) (a0 : Int32) (a1 : Int32) (o : Nat) (r0 : Value) (h : mr_h) (Q : Option Value → mr_h → Prop), mr_wp 128 55 [v0, v1, v2, v3] [.int a1, .int a0, .ref o, r0] h Q = mr_rc (h.1 o) 11 (mr_run 129 [.ref o, .int a0, .int a1] h (fun v h' => mr_wp 128 58 [v0, v1, v2, v3] (v.toList ++ [r0]) h' Q))) ∧
    (∀ (v0 v1 v2 v3 : Value) (x : Int32) (st : List Value) (h : mr_h) (Q : Option Value → mr_h → Prop), mr_wp 128 58 [v0, v1, v2, v3] (.int x :: st) h Q = if x = 0 then mr_wp 128 91 [v0, v1, v2, v3] st h Q else mr_wp 128 61 [v0, v1, v2, v3] st h Q) ∧
    (∀ (v1 v2 v3 : Value) (x : Nat) (st : List Value) (h : mr_h) (Q : Option Value → mr_h → Prop), mr_wp 128 61 [.ref x, v1, v2, v3] st h Q = mr_wp 128 62 [.ref x, v1, v2, v3] (.ref x :: st) h Q) ∧
    (∀ (v0 v1 v2 v3 : Value) (a : Nat) (st : List Value) (h : mr_h) (Q : Option Value → mr_h → Prop), mr_wp 128 62 [v0, v1, v2, v3] (.ref a :: st) h Q = mr_gf (h.1 a) 11 6 (fun v => mr_wp 128 65 [v0, v1, v2, v3] (v :: st) h Q)) ∧
    (∀ (v0 v1 v3 : Value) (x : Int32) (st : List Value) (h : mr_h) (Q : Option Value → mr_h → Prop), mr_wp 128 65 [v0, v1, .int x, v3] st h Q = mr_wp 128 66 [v0, v1, .int x, v3] (.int x :: st) h Q) ∧
    (∀ (v0 v1 v2 v3 : Value) (x : Int32) (y : Int32) (st : List Value) (h : mr_h) (Q : Option Value → mr_h → Prop), mr_wp 128 66 [v0, v1, v2, v3] (.int y :: .int x :: st) h Q = if x = y then mr_wp 128 91 [v0, v1, v2, v3] st h Q else mr_wp 128 69 [v0, v1, v2, v3] st h Q) ∧
    (∀ (v1 v2 v3 : Value) (x : Nat) (st : List Value) (h : mr_h) (Q : Option Value → mr_h → Prop), mr_wp 128 69 [.ref x, v1, v2, v3] st h Q = mr_wp 128 70 [.ref x, v1, v2, v3] (.ref x :: st) h Q) ∧
    (∀ (v0 v1 v2 v3 : Value) (a : Nat) (st : List Value) (h : mr_h) (Q : Option Value → mr_h → Prop), mr_wp 128 70 [v0, v1, v2, v3] (.ref a :: st) h Q = mr_gf (h.1 a) 11 10 (fun v => mr_wp 128 73 [v0, v1, v2, v3] (v :: st) h Q)) :=
  ⟨fun v0 v2 v3 x st h Q => gx_one (i := .iload_n 1) (len := 1) (by decide +kernel) rfl,
   fun v0 v1 v2 v3 st h Q => gx_one (i := .bipush 110) (len := 2) (by decide +kernel) rfl,
   fun v0 v1 v2 v3 x y st h Q => gx_br (i := .if_icmp .ne 21) (len := 3) (c := .ne) (by decide +kernel) rfl rfl,
   fun v1 v2 v3 x st h Q => gx_one (i := .aload_n 0) (len := 1) (by decide +kernel) rfl,
   fun v1 v2 v3 x st h Q => gx_one (i := .aload_n 0) (len := 1) (by decide +kernel) rfl,
   fun v1 v2 v3 x st h Q => gx_one (i := .aload_n 0) (len := 1) (by decide +kernel) rfl,
   fun v0 v1 v2 v3 st h Q => gx_one (i := .iconst 1) (len := 1) (by decide +kernel) rfl,
   fun v0 v1 v2 v3 st h Q => gx_one (i := .bipush 12) (len := 2) (by decide +kernel) rfl,
   fun v0 v1 v2 v3 a0 a1 o r0 r1 h Q => gx_virt (x := 108) (n := 2) (by decide +kernel) (by decide +kernel) rfl (Or.inl (Nat.le_of_ble_eq_true rfl)) (by show _ ≤ mr_mxl 129; rw [show mr_mxl 129 = 3 from by decide +kernel]; exact Nat.le_of_ble_eq_true rfl) (by decide +kernel),
   fun v0 v1 v2 v3 a0 o r0 h Q => gx_virt (x := 112) (n := 1) (by decide +kernel) (by decide +kernel) rfl (Or.inl (Nat.le_of_ble_eq_true rfl)) (by show _ ≤ mr_mxl 127; rw [show mr_mxl 127 = 3 from by decide +kernel]; exact Nat.le_of_ble_eq_true rfl) (by decide +kernel),
   fun v0 v1 v2 v3 a x st h Q => gx_put (x := 102) (by decide +kernel) (by decide +kernel) ⟨rfl, Or.inl rfl⟩,
   fun v0 v1 v2 v3 st h Q => gx_one (i := .goto 172) (len := 3) (by decide +kernel) rfl,
   fun v0 v2 v3 x st h Q => gx_one (i := .iload_n 1) (len := 1) (by decide +kernel) rfl,
   fun v0 v1 v2 v3 st h Q => gx_one (i := .bipush 101) (len := 2) (by decide +kernel) rfl,
   fun v0 v1 v2 v3 x y st h Q => gx_br (i := .if_icmp .ne 97) (len := 3) (c := .ne) (by decide +kernel) rfl rfl,
   fun v1 v2 v3 x st h Q => gx_one (i := .aload_n 0) (len := 1) (by decide +kernel) rfl,
   fun v1 v2 v3 x st h Q => gx_one (i := .aload_n 0) (len := 1) (by decide +kernel) rfl,
   fun v0 v1 v2 v3 st h Q => gx_one (i := .iconst 0) (len := 1) (by decide +kernel) rfl,
   fun v1 v2 v3 x st h Q => gx_one (i := .aload_n 0) (len := 1) (by decide +kernel) rfl,
   fun v0 v1 v2 v3 a st h Q => gx_get (x := 102) (by decide +kernel) (by decide +kernel),
   fun v0 v1 v2 v3 st h Q => gx_one (i := .iconst 1) (len := 1) (by decide +kernel) rfl,
   fun v0 v1 v2 v3 x y st h Q => gx_one (i := .isub) (len := 1) (by decide +kernel) rfl,
   fun v0 v1 v2 v3 a0 a1 o r0 h Q => gx_virt (x := 108) (n := 2) (by decide +kernel) (by decide +kernel) rfl (Or.inl (Nat.le_of_ble_eq_true rfl)) (by show _ ≤ mr_mxl 129; rw [show mr_mxl 129 = 3 from by decide +kernel]; exact Nat.le_of_ble_eq_true rfl) (by decide +kernel),
   fun v0 v1 v2 v3 a0 o h Q => gx_virt (x := 112) (n := 1) (by decide +kernel) (by decide +kernel) rfl (Or.inl (Nat.le_of_ble_eq_true rfl)) (by show _ ≤ mr_mxl 127; rw [show mr_mxl 127 = 3 from by decide +kernel]; exact Nat.le_of_ble_eq_true rfl) (by decide +kernel),
   fun v0 v2 v3 w1 x st h Q => gx_one (i := .istore_n 2) (len := 1) (by decide +kernel) rfl,
   fun v1 v2 v3 x st h Q => gx_one (i := .aload_n 0) (len := 1) (by decide +kernel) rfl,
   fun v1 v2 v3 x st h Q => gx_one (i := .aload_n 0) (len := 1) (by decide +kernel) rfl,
   fun v0 v1 v2 v3 st h Q => gx_one (i := .iconst 0) (len := 1) (by decide +kernel) rfl,
   fun v1 v2 v3 x st h Q => gx_one (i := .aload_n 0) (len := 1) (by decide +kernel) rfl,
   fun v0 v1 v2 v3 a st h Q => gx_get (x := 102) (by decide +kernel) (by decide +kernel),
   fun v0 v1 v2 v3 st h Q => gx_one (i := .iconst 1) (len := 1) (by decide +kernel) rfl,
   fun v0 v1 v2 v3 x y st h Q => gx_one (i := .isub) (len := 1) (by decide +kernel) rfl,
   fun v0 v1 v2 v3 a0 a1 o r0 h Q => gx_virt (x := 108) (n := 2) (by decide +kernel) (by decide +kernel) rfl (Or.inl (Nat.le_of_ble_eq_true rfl)) (by show _ ≤ mr_mxl 129; rw [show mr_mxl 129 = 3 from by decide +kernel]; exact Nat.le_of_ble_eq_true rfl) (by decide +kernel),
   fun v0 v1 v2 v3 x st h Q => gx_br (i := .ifCond .eq 33) (len := 3) (c := .eq) (by decide +kernel) rfl rfl,
   fun v1 v2 v3 x st h Q => gx_one (i := .aload_n 0) (len := 1) (by decide +kernel) rfl,
   fun v0 v1 v2 v3 a st h Q => gx_get (x := 89) (by decide +kernel) (by decide +kernel),
   fun v0 v1 v3 x st h Q => gx_one (i := .iload_n 2) (len := 1) (by decide +kernel) rfl,
   fun v0 v1 v2 v3 x y st h Q => gx_br (i := .if_icmp .eq 25) (len := 3) (c := .eq) (by decide +kernel) rfl rfl,
   fun v1 v2 v3 x st h Q => gx_one (i := .aload_n 0) (len := 1) (by decide +kernel) rfl,
   fun v0 v1 v2 v3 a st h Q => gx_get (x := 13) (by decide +kernel) (by decide +kernel)⟩
theorem S_mo_readsItem_1 : (∀ (v0 v1 v2 v3 : Value) (st : List Value) (h : mr_h) (Q : Option Value → mr_h → Prop), mr_wp 128 73 [v0, v1, v2, v3] st h Q = mr_wp 128 74 [v0, v1, v2, v3] (.int (0) :: st) h Q) ∧
    (∀ (v0 v1 v3 : Value) (x : Int32) (st : List Value) (h : mr_h) (Q : Option Value → mr_h → Prop), mr_wp 128 74 [v0, v1, .int x, v3] st h Q = mr_wp 128 75 [v0, v1, .int x, v3] (.int x :: st) h Q) ∧
    (∀ (v0 v1 v2 v3 : Value) (x : Int32) (y : Int32) (st : List Value) (h : mr_h) (Q : Option Value → mr_h → Prop), mr_wp 128 75 [v0, v1, v2, v3] (.int y :: .int x :: st) h Q = mr_wp 128 76 [v0, v1, v2, v3] (.int (x + y) :: st) h Q) ∧
    (∀ (v0 v1 v2 v3 : Value) (a : Nat) (x : Int32) (st : List Value) (h : mr_h) (Q : Option Value → mr_h → Prop), mr_wp 128 76 [v0, v1, v2, v3] (.int x :: .ref a :: st) h Q = mr_ai (h.1 a) x (fun v => mr_wp 128 77 [v0, v1, v2, v3] (.int v :: st) h Q)) ∧
    (∀ (v1 v2 v3 : Value) (x : Nat) (st : List Value) (h : mr_h) (Q : Option Value → mr_h → Prop), mr_wp 128 77 [.ref x, v1, v2, v3] st h Q = mr_wp 128 78 [.ref x, v1, v2, v3] (.ref x :: st) h Q) ∧
    (∀ (v0 v1 v2 v3 : Value) (a : Nat) (st : List Value) (h : mr_h) (Q : Option Value → mr_h → Prop), mr_wp 128 78 [v0, v1, v2, v3] (.ref a :: st) h Q = mr_gf (h.1 a) 11 6 (fun v => mr_wp 128 81 [v0, v1, v2, v3] (v :: st) h Q)) ∧
    (∀ (v0 v1 v2 v3 : Value) (a0 : Int32) (a1 : Int32) (r0 : Value) (h : mr_h) (Q : Option Value → mr_h → Prop), mr_wp 128 81 [v0, v1, v2, v3] [.int a1, .int a0, r0] h Q = mr_run 130 [.int a0, .int a1] h (fun v h' => mr_wp 128 84 [v0, v1, v2, v3] (v.toList ++ [r0]) h' Q)) ∧
    (∀ (v0 v1 v2 v3 : Value) (x : Int32) (st : List Value) (h : mr_h) (Q : Option Value → mr_h → Prop), mr_wp 128 84 [v0, v1, v2, v3] (.int x :: st) h Q = if ¬ x = 0 then mr_wp 128 91 [v0, v1, v2, v3] st h Q else mr_wp 128 87 [v0, v1, v2, v3] st h Q) ∧
    (∀ (v0 v1 v2 v3 : Value) (st : List Value) (h : mr_h) (Q : Option Value → mr_h → Prop), mr_wp 128 87 [v0, v1, v2, v3] st h Q = mr_wp 128 88 [v0, v1, v2, v3] (.int (1) :: st) h Q) ∧
    (∀ (v0 v1 v2 v3 : Value) (st : List Value) (h : mr_h) (Q : Option Value → mr_h → Prop), mr_wp 128 88 [v0, v1, v2, v3] st h Q = mr_wp 128 92 [v0, v1, v2, v3] st h Q) ∧
    (∀ (v0 v1 v2 v3 : Value) (st : List Value) (h : mr_h) (Q : Option Value → mr_h → Prop), mr_wp 128 91 [v0, v1, v2, v3] st h Q = mr_wp 128 92 [v0, v1, v2, v3] (.int (0) :: st) h Q) ∧
    (∀ (v0 v1 v2 v3 : Value) (a0 : Int32) (o : Nat) (h : mr_h) (Q : Option Value → mr_h → Prop), mr_wp 128 92 [v0, v1, v2, v3] [.int a0, .ref o] h Q = mr_rc (h.1 o) 11 (mr_run 127 [.ref o, .int a0] h (fun v h' => mr_wp 128 95 [v0, v1, v2, v3] (v.toList ++ []) h' Q))) ∧
    (∀ (v0 v1 v3 : Value) (w2 : Int32) (x : Int32) (st : List Value) (h : mr_h) (Q : Option Value → mr_h → Prop), mr_wp 128 95 [v0, v1, .int w2, v3] (.int x :: st) h Q = mr_wp 128 96 [v0, v1, .int w2, .int x] st h Q) ∧
    (∀ (v1 v2 v3 : Value) (x : Nat) (st : List Value) (h : mr_h) (Q : Option Value → mr_h → Prop), mr_wp 128 96 [.ref x, v1, v2, v3] st h Q = mr_wp 128 97 [.ref x, v1, v2, v3] (.ref x :: st) h Q) ∧
    (∀ (v0 v1 v2 v3 : Value) (a : Nat) (st : List Value) (h : mr_h) (Q : Option Value → mr_h → Prop), mr_wp 128 97 [v0, v1, v2, v3] (.ref a :: st) h Q = mr_gf (h.1 a) 11 10 (fun v => mr_wp 128 100 [v0, v1, v2, v3] (v :: st) h Q)) ∧
    (∀ (v0 v1 v2 v3 : Value) (st : List Value) (h : mr_h) (Q : Option Value → mr_h → Prop), mr_wp 128 100 [v0, v1, v2, v3] st h Q = mr_wp 128 101 [v0, v1, v2, v3] (.int (0) :: st) h Q) ∧
    (∀ (v0 v1 v3 : Value) (x : Int32) (st : List Value) (h : mr_h) (Q : Option Value → mr_h → Prop), mr_wp 128 101 [v0, v1, .int x, v3] st h Q = mr_wp 128 102 [v0, v1, .int x, v3] (.int x :: st) h Q) ∧
    (∀ (v0 v1 v2 v3 : Value) (x : Int32) (y : Int32) (st : List Value) (h : mr_h) (Q : Option Value → mr_h → Prop), mr_wp 128 102 [v0, v1, v2, v3] (.int y :: .int x :: st) h Q = mr_wp 128 103 [v0, v1, v2, v3] (.int (x + y) :: st) h Q) ∧
    (∀ (v0 v1 v2 v3 : Value) (x : Int32) (y : Nat) (st : List Value) (h : mr_h) (Q : Option Value → mr_h → Prop), mr_wp 128 103 [v0, v1, v2, v3] (.int x :: .ref y :: st) h Q = mr_wp 128 104 [v0, v1, v2, v3] (.int x :: .ref y :: .int x :: .ref y :: st) h Q) ∧
    (∀ (v0 v1 v2 v3 : Value) (a : Nat) (x : Int32) (st : List Value) (h : mr_h) (Q : Option Value → mr_h → Prop), mr_wp 128 104 [v0, v1, v2, v3] (.int x :: .ref a :: st) h Q = mr_ai (h.1 a) x (fun v => mr_wp 128 105 [v0, v1, v2, v3] (.int v :: st) h Q)) ∧
    (∀ (v1 v2 v3 : Value) (x : Nat) (st : List Value) (h : mr_h) (Q : Option Value → mr_h → Prop), mr_wp 128 105 [.ref x, v1, v2, v3] st h Q = mr_wp 128 106 [.ref x, v1, v2, v3] (.ref x :: st) h Q) ∧
    (∀ (v0 v1 v2 v3 : Value) (o : Nat) (r0 : Value) (r1 : Value) (r2 : Value) (h : mr_h) (Q : Option Value → mr_h → Prop), mr_wp 128 106 [v0, v1, v2, v3] [.ref o, r0, r1, r2] h Q = mr_rc (h.1 o) 11 (mr_run 126 [.ref o] h (fun v h' => mr_wp 128 109 [v0, v1, v2, v3] (v.toList ++ [r0, r1, r2]) h' Q))) ∧
    (∀ (v0 v1 v2 v3 : Value) (x : Int32) (st : List Value) (h : mr_h) (Q : Option Value → mr_h → Prop), mr_wp 128 109 [v0, v1, v2, v3] (.int x :: st) h Q = if x = 0 then mr_wp 128 118 [v0, v1, v2, v3] st h Q else mr_wp 128 112 [v0, v1, v2, v3] st h Q) ∧
    (∀ (v0 v1 v2 v3 : Value) (st : List Value) (h : mr_h) (Q : Option Value → mr_h → Prop), mr_wp 128 112 [v0, v1, v2, v3] st h Q = mr_wp 128 113 [v0, v1, v2, v3] (.int (1) :: st) h Q) ∧
    (∀ (v0 v1 v2 : Value) (x : Int32) (st : List Value) (h : mr_h) (Q : Option Value → mr_h → Prop), mr_wp 128 113 [v0, v1, v2, .int x] st h Q = mr_wp 128 114 [v0, v1, v2, .int x] (.int x :: st) h Q) ∧
    (∀ (v0 v1 v2 v3 : Value) (x : Int32) (y : Int32) (st : List Value) (h : mr_h) (Q : Option Value → mr_h → Prop), mr_wp 128 114 [v0, v1, v2, v3] (.int y :: .int x :: st) h Q = mr_wp 128 115 [v0, v1, v2, v3] (.int (x <<< (y &&& 31)) :: st) h Q) ∧
    (∀ (v0 v1 v2 v3 : Value) (st : List Value) (h : mr_h) (Q : Option Value → mr_h → Prop), mr_wp 128 115 [v0, v1, v2, v3] st h Q = mr_wp 128 119 [v0, v1, v2, v3] st h Q) ∧
    (∀ (v0 v1 v2 v3 : Value) (st : List Value) (h : mr_h) (Q : Option Value → mr_h → Prop), mr_wp 128 118 [v0, v1, v2, v3] st h Q = mr_wp 128 119 [v0, v1, v2, v3] (.int (0) :: st) h Q) ∧
    (∀ (v0 v1 v2 v3 : Value) (x : Int32) (y : Int32) (st : List Value) (h : mr_h) (Q : Option Value → mr_h → Prop), mr_wp 128 119 [v0, v1, v2, v3] (.int y :: .int x :: st) h Q = mr_wp 128 120 [v0, v1, v2, v3] (.int (x ||| y) :: st) h Q) ∧
    (∀ (v0 v1 v2 v3 : Value) (a : Nat) (x : Int32) (y : Int32) (st : List Value) (h : mr_h) (Q : Option Value → mr_h → Prop), mr_wp 128 120 [v0, v1, v2, v3] (.int y :: .int x :: .ref a :: st) h Q = mr_si (h.1 a) x y (fun c => mr_wp 128 121 [v0, v1, v2, v3] st (mr_up h a c) Q)) ∧
    (∀ (v0 v1 v2 v3 : Value) (st : List Value) (h : mr_h) (Q : Option Value → mr_h → Prop), mr_wp 128 121 [v0, v1, v2, v3] st h Q = mr_wp 128 193 [v0, v1, v2, v3] st h Q) ∧
    (∀ (v1 v2 v3 : Value) (x : Nat) (st : List Value) (h : mr_h) (Q : Option Value → mr_h → Prop), mr_wp 128 124 [.ref x, v1, v2, v3] st h Q = mr_wp 128 125 [.ref x, v1, v2, v3] (.ref x :: st) h Q) ∧
    (∀ (v1 v2 v3 : Value) (x : Nat) (st : List Value) (h : mr_h) (Q : Option Value → mr_h → Prop), mr_wp 128 125 [.ref x, v1, v2, v3] st h Q = mr_wp 128 126 [.ref x, v1, v2, v3] (.ref x :: st) h Q) ∧
    (∀ (v0 v1 v2 v3 : Value) (st : List Value) (h : mr_h) (Q : Option Value → mr_h → Prop), mr_wp 128 126 [v0, v1, v2, v3] st h Q = mr_wp 128 127 [v0, v1, v2, v3] (.int (0) :: st) h Q) ∧
    (∀ (v1 v2 v3 : Value) (x : Nat) (st : List Value) (h : mr_h) (Q : Option Value → mr_h → Prop), mr_wp 128 127 [.ref x, v1, v2, v3] st h Q = mr_wp 128 128 [.ref x, v1, v2, v3] (.ref x :: st) h Q) ∧
    (∀ (v0 v1 v2 v3 : Value) (a : Nat) (st : List Value) (h : mr_h) (Q : Option Value → mr_h → Prop), mr_wp 128 128 [v0, v1, v2, v3] (.ref a :: st) h Q = mr_gf (h.1 a) 11 9 (fun v => mr_wp 128 131 [v0, v1, v2, v3] (v :: st) h Q)) ∧
    (∀ (v0 v1 v2 v3 : Value) (st : List Value) (h : mr_h) (Q : Option Value → mr_h → Prop), mr_wp 128 131 [v0, v1, v2, v3] st h Q = mr_wp 128 132 [v0, v1, v2, v3] (.int (1) :: st) h Q) ∧
    (∀ (v0 v1 v2 v3 : Value) (x : Int32) (y : Int32) (st : List Value) (h : mr_h) (Q : Option Value → mr_h → Prop), mr_wp 128 132 [v0, v1, v2, v3] (.int y :: .int x :: st) h Q = mr_wp 128 133 [v0, v1, v2, v3] (.int (x - y) :: st) h Q) ∧
    (∀ (v0 v1 v2 v3 : Value) (a0 : Int32) (a1 : Int32) (o : Nat) (r0 : Value) (h : mr_h) (Q : Option Value → mr_h → Prop), mr_wp 128 133 [v0, v1, v2, v3] [.int a1, .int a0, .ref o, r0] h Q = mr_rc (h.1 o) 11 (mr_run 129 [.ref o, .int a0, .int a1] h (fun v h' => mr_wp 128 136 [v0, v1, v2, v3] (v.toList ++ [r0]) h' Q))) ∧
    (∀ (v0 v1 v2 v3 : Value) (x : Int32) (st : List Value) (h : mr_h) (Q : Option Value → mr_h → Prop), mr_wp 128 136 [v0, v1, v2, v3] (.int x :: st) h Q = if x = 0 then mr_wp 128 158 [v0, v1, v2, v3] st h Q else mr_wp 128 139 [v0, v1, v2, v3] st h Q) :=
  ⟨fun v0 v1 v2 v3 st h Q => gx_one (i := .iconst 0) (len := 1) (by decide +kernel) rfl,
   fun v0 v1 v3 x st h Q => gx_one (i := .iload_n 2) (len := 1) (by decide +kernel) rfl,
   fun v0 v1 v2 v3 x y st h Q => gx_one (i := .iadd) (len := 1) (by decide +kernel) rfl,
   fun v0 v1 v2 v3 a x st h Q => gx_iald (by decide +kernel),
   fun v1 v2 v3 x st h Q => gx_one (i := .aload_n 0) (len := 1) (by decide +kernel) rfl,
   fun v0 v1 v2 v3 a st h Q => gx_get (x := 89) (by decide +kernel) (by decide +kernel),
   fun v0 v1 v2 v3 a0 a1 r0 h Q => gx_stat (x := 116) (t := 130) (n := 2) (by decide +kernel) (by decide +kernel) (by decide) (by decide +kernel) rfl (Or.inl (Nat.le_of_ble_eq_true rfl)) (by show _ ≤ mr_mxl 130; rw [show mr_mxl 130 = 2 from by decide +kernel]; exact Nat.le_of_ble_eq_true rfl),
   fun v0 v1 v2 v3 x st h Q => gx_br (i := .ifCond .ne 7) (len := 3) (c := .ne) (by decide +kernel) rfl rfl,
   fun v0 v1 v2 v3 st h Q => gx_one (i := .iconst 1) (len := 1) (by decide +kernel) rfl,
   fun v0 v1 v2 v3 st h Q => gx_one (i := .goto 4) (len := 3) (by decide +kernel) rfl,
   fun v0 v1 v2 v3 st h Q => gx_one (i := .iconst 0) (len := 1) (by decide +kernel) rfl,
   fun v0 v1 v2 v3 a0 o h Q => gx_virt (x := 112) (n := 1) (by decide +kernel) (by decide +kernel) rfl (Or.inl (Nat.le_of_ble_eq_true rfl)) (by show _ ≤ mr_mxl 127; rw [show mr_mxl 127 = 3 from by decide +kernel]; exact Nat.le_of_ble_eq_true rfl) (by decide +kernel),
   fun v0 v1 v3 w2 x st h Q => gx_one (i := .istore_n 3) (len := 1) (by decide +kernel) rfl,
   fun v1 v2 v3 x st h Q => gx_one (i := .aload_n 0) (len := 1) (by decide +kernel) rfl,
   fun v0 v1 v2 v3 a st h Q => gx_get (x := 13) (by decide +kernel) (by decide +kernel),
   fun v0 v1 v2 v3 st h Q => gx_one (i := .iconst 0) (len := 1) (by decide +kernel) rfl,
   fun v0 v1 v3 x st h Q => gx_one (i := .iload_n 2) (len := 1) (by decide +kernel) rfl,
   fun v0 v1 v2 v3 x y st h Q => gx_one (i := .iadd) (len := 1) (by decide +kernel) rfl,
   fun v0 v1 v2 v3 x y st h Q => gx_one (i := .dup2) (len := 1) (by decide +kernel) rfl,
   fun v0 v1 v2 v3 a x st h Q => gx_iald (by decide +kernel),
   fun v1 v2 v3 x st h Q => gx_one (i := .aload_n 0) (len := 1) (by decide +kernel) rfl,
   fun v0 v1 v2 v3 o r0 r1 r2 h Q => gx_virt (x := 95) (n := 0) (by decide +kernel) (by decide +kernel) rfl (Or.inl (Nat.le_of_ble_eq_true rfl)) (by show _ ≤ mr_mxl 126; rw [show mr_mxl 126 = 1 from by decide +kernel]; exact Nat.le_of_ble_eq_true rfl) (by decide +kernel),
   fun v0 v1 v2 v3 x st h Q => gx_br (i := .ifCond .eq 9) (len := 3) (c := .eq) (by decide +kernel) rfl rfl,
   fun v0 v1 v2 v3 st h Q => gx_one (i := .iconst 1) (len := 1) (by decide +kernel) rfl,
   fun v0 v1 v2 x st h Q => gx_one (i := .iload_n 3) (len := 1) (by decide +kernel) rfl,
   fun v0 v1 v2 v3 x y st h Q => gx_one (i := .ishl) (len := 1) (by decide +kernel) rfl,
   fun v0 v1 v2 v3 st h Q => gx_one (i := .goto 4) (len := 3) (by decide +kernel) rfl,
   fun v0 v1 v2 v3 st h Q => gx_one (i := .iconst 0) (len := 1) (by decide +kernel) rfl,
   fun v0 v1 v2 v3 x y st h Q => gx_one (i := .ior) (len := 1) (by decide +kernel) rfl,
   fun v0 v1 v2 v3 a x y st h Q => gx_iast (by decide +kernel),
   fun v0 v1 v2 v3 st h Q => gx_one (i := .goto 72) (len := 3) (by decide +kernel) rfl,
   fun v1 v2 v3 x st h Q => gx_one (i := .aload_n 0) (len := 1) (by decide +kernel) rfl,
   fun v1 v2 v3 x st h Q => gx_one (i := .aload_n 0) (len := 1) (by decide +kernel) rfl,
   fun v0 v1 v2 v3 st h Q => gx_one (i := .iconst 0) (len := 1) (by decide +kernel) rfl,
   fun v1 v2 v3 x st h Q => gx_one (i := .aload_n 0) (len := 1) (by decide +kernel) rfl,
   fun v0 v1 v2 v3 a st h Q => gx_get (x := 102) (by decide +kernel) (by decide +kernel),
   fun v0 v1 v2 v3 st h Q => gx_one (i := .iconst 1) (len := 1) (by decide +kernel) rfl,
   fun v0 v1 v2 v3 x y st h Q => gx_one (i := .isub) (len := 1) (by decide +kernel) rfl,
   fun v0 v1 v2 v3 a0 a1 o r0 h Q => gx_virt (x := 108) (n := 2) (by decide +kernel) (by decide +kernel) rfl (Or.inl (Nat.le_of_ble_eq_true rfl)) (by show _ ≤ mr_mxl 129; rw [show mr_mxl 129 = 3 from by decide +kernel]; exact Nat.le_of_ble_eq_true rfl) (by decide +kernel),
   fun v0 v1 v2 v3 x st h Q => gx_br (i := .ifCond .eq 22) (len := 3) (c := .eq) (by decide +kernel) rfl rfl⟩
theorem S_mo_readsItem_2 : (∀ (v1 v2 v3 : Value) (x : Nat) (st : List Value) (h : mr_h) (Q : Option Value → mr_h → Prop), mr_wp 128 139 [.ref x, v1, v2, v3] st h Q = mr_wp 128 140 [.ref x, v1, v2, v3] (.ref x :: st) h Q) ∧
    (∀ (v0 v1 v2 v3 : Value) (a : Nat) (st : List Value) (h : mr_h) (Q : Option Value → mr_h → Prop), mr_wp 128 140 [v0, v1, v2, v3] (.ref a :: st) h Q = mr_gf (h.1 a) 11 10 (fun v => mr_wp 128 143 [v0, v1, v2, v3] (v :: st) h Q)) ∧
    (∀ (v0 v1 v2 v3 : Value) (st : List Value) (h : mr_h) (Q : Option Value → mr_h → Prop), mr_wp 128 143 [v0, v1, v2, v3] st h Q = mr_wp 128 145 [v0, v1, v2, v3] (.int (12) :: st) h Q) ∧
    (∀ (v1 v2 v3 : Value) (x : Nat) (st : List Value) (h : mr_h) (Q : Option Value → mr_h → Prop), mr_wp 128 145 [.ref x, v1, v2, v3] st h Q = mr_wp 128 146 [.ref x, v1, v2, v3] (.ref x :: st) h Q) ∧
    (∀ (v0 v1 v2 v3 : Value) (a : Nat) (st : List Value) (h : mr_h) (Q : Option Value → mr_h → Prop), mr_wp 128 146 [v0, v1, v2, v3] (.ref a :: st) h Q = mr_gf (h.1 a) 11 6 (fun v => mr_wp 128 149 [v0, v1, v2, v3] (v :: st) h Q)) ∧
    (∀ (v0 v1 v2 v3 : Value) (x : Int32) (y : Int32) (st : List Value) (h : mr_h) (Q : Option Value → mr_h → Prop), mr_wp 128 149 [v0, v1, v2, v3] (.int y :: .int x :: st) h Q = mr_wp 128 150 [v0, v1, v2, v3] (.int (x + y) :: st) h Q) ∧
    (∀ (v0 v1 v2 v3 : Value) (a : Nat) (x : Int32) (st : List Value) (h : mr_h) (Q : Option Value → mr_h → Prop), mr_wp 128 150 [v0, v1, v2, v3] (.int x :: .ref a :: st) h Q = mr_ai (h.1 a) x (fun v => mr_wp 128 151 [v0, v1, v2, v3] (.int v :: st) h Q)) ∧
    (∀ (v0 v1 v2 v3 : Value) (x : Int32) (st : List Value) (h : mr_h) (Q : Option Value → mr_h → Prop), mr_wp 128 151 [v0, v1, v2, v3] (.int x :: st) h Q = if 0 ≤ x then mr_wp 128 158 [v0, v1, v2, v3] st h Q else mr_wp 128 154 [v0, v1, v2, v3] st h Q) ∧
    (∀ (v0 v1 v2 v3 : Value) (st : List Value) (h : mr_h) (Q : Option Value → mr_h → Prop), mr_wp 128 154 [v0, v1, v2, v3] st h Q = mr_wp 128 155 [v0, v1, v2, v3] (.int (1) :: st) h Q) ∧
    (∀ (v0 v1 v2 v3 : Value) (st : List Value) (h : mr_h) (Q : Option Value → mr_h → Prop), mr_wp 128 155 [v0, v1, v2, v3] st h Q = mr_wp 128 159 [v0, v1, v2, v3] st h Q) ∧
    (∀ (v0 v1 v2 v3 : Value) (st : List Value) (h : mr_h) (Q : Option Value → mr_h → Prop), mr_wp 128 158 [v0, v1, v2, v3] st h Q = mr_wp 128 159 [v0, v1, v2, v3] (.int (0) :: st) h Q) ∧
    (∀ (v0 v1 v2 v3 : Value) (a0 : Int32) (o : Nat) (h : mr_h) (Q : Option Value → mr_h → Prop), mr_wp 128 159 [v0, v1, v2, v3] [.int a0, .ref o] h Q = mr_rc (h.1 o) 11 (mr_run 127 [.ref o, .int a0] h (fun v h' => mr_wp 128 162 [v0, v1, v2, v3] (v.toList ++ []) h' Q))) ∧
    (∀ (v0 v2 v3 : Value) (w1 : Int32) (x : Int32) (st : List Value) (h : mr_h) (Q : Option Value → mr_h → Prop), mr_wp 128 162 [v0, .int w1, v2, v3] (.int x :: st) h Q = mr_wp 128 163 [v0, .int w1, .int x, v3] st h Q) ∧
    (∀ (v1 v2 v3 : Value) (x : Nat) (st : List Value) (h : mr_h) (Q : Option Value → mr_h → Prop), mr_wp 128 163 [.ref x, v1, v2, v3] st h Q = mr_wp 128 164 [.ref x, v1, v2, v3] (.ref x :: st) h Q) ∧
    (∀ (v0 v1 v2 v3 : Value) (o : Nat) (h : mr_h) (Q : Option Value → mr_h → Prop), mr_wp 128 164 [v0, v1, v2, v3] [.ref o] h Q = mr_rc (h.1 o) 11 (mr_run 126 [.ref o] h (fun v h' => mr_wp 128 167 [v0, v1, v2, v3] (v.toList ++ []) h' Q))) ∧
    (∀ (v0 v1 v2 v3 : Value) (x : Int32) (st : List Value) (h : mr_h) (Q : Option Value → mr_h → Prop), mr_wp 128 167 [v0, v1, v2, v3] (.int x :: st) h Q = if x = 0 then mr_wp 128 193 [v0, v1, v2, v3] st h Q else mr_wp 128 170 [v0, v1, v2, v3] st h Q) ∧
    (∀ (v1 v2 v3 : Value) (x : Nat) (st : List Value) (h : mr_h) (Q : Option Value → mr_h → Prop), mr_wp 128 170 [.ref x, v1, v2, v3] st h Q = mr_wp 128 171 [.ref x, v1, v2, v3] (.ref x :: st) h Q) ∧
    (∀ (v0 v1 v2 v3 : Value) (a : Nat) (st : List Value) (h : mr_h) (Q : Option Value → mr_h → Prop), mr_wp 128 171 [v0, v1, v2, v3] (.ref a :: st) h Q = mr_gf (h.1 a) 11 10 (fun v => mr_wp 128 174 [v0, v1, v2, v3] (v :: st) h Q)) ∧
    (∀ (v0 v1 v2 v3 : Value) (st : List Value) (h : mr_h) (Q : Option Value → mr_h → Prop), mr_wp 128 174 [v0, v1, v2, v3] st h Q = mr_wp 128 176 [v0, v1, v2, v3] (.int (12) :: st) h Q) ∧
    (∀ (v0 v1 v3 : Value) (x : Int32) (st : List Value) (h : mr_h) (Q : Option Value → mr_h → Prop), mr_wp 128 176 [v0, v1, .int x, v3] st h Q = mr_wp 128 177 [v0, v1, .int x, v3] (.int x :: st) h Q) ∧
    (∀ (v0 v1 v2 v3 : Value) (x : Int32) (y : Int32) (st : List Value) (h : mr_h) (Q : Option Value → mr_h → Prop), mr_wp 128 177 [v0, v1, v2, v3] (.int y :: .int x :: st) h Q = mr_wp 128 178 [v0, v1, v2, v3] (.int (x + y) :: st) h Q) ∧
    (∀ (v1 v2 v3 : Value) (x : Nat) (st : List Value) (h : mr_h) (Q : Option Value → mr_h → Prop), mr_wp 128 178 [.ref x, v1, v2, v3] st h Q = mr_wp 128 179 [.ref x, v1, v2, v3] (.ref x :: st) h Q) ∧
    (∀ (v0 v1 v2 v3 : Value) (a : Nat) (st : List Value) (h : mr_h) (Q : Option Value → mr_h → Prop), mr_wp 128 179 [v0, v1, v2, v3] (.ref a :: st) h Q = mr_gf (h.1 a) 11 11 (fun v => mr_wp 128 182 [v0, v1, v2, v3] (v :: st) h Q)) ∧
    (∀ (v0 v1 v2 v3 : Value) (a : Nat) (x : Int32) (y : Int32) (st : List Value) (h : mr_h) (Q : Option Value → mr_h → Prop), mr_wp 128 182 [v0, v1, v2, v3] (.int y :: .int x :: .ref a :: st) h Q = mr_si (h.1 a) x y (fun c => mr_wp 128 183 [v0, v1, v2, v3] st (mr_up h a c) Q)) ∧
    (∀ (v1 v2 v3 : Value) (x : Nat) (st : List Value) (h : mr_h) (Q : Option Value → mr_h → Prop), mr_wp 128 183 [.ref x, v1, v2, v3] st h Q = mr_wp 128 184 [.ref x, v1, v2, v3] (.ref x :: st) h Q) ∧
    (∀ (v0 v1 v2 v3 : Value) (x : Nat) (st : List Value) (h : mr_h) (Q : Option Value → mr_h → Prop), mr_wp 128 184 [v0, v1, v2, v3] (.ref x :: st) h Q = mr_wp 128 185 [v0, v1, v2, v3] (.ref x :: .ref x :: st) h Q) ∧
    (∀ (v0 v1 v2 v3 : Value) (a : Nat) (st : List Value) (h : mr_h) (Q : Option Value → mr_h → Prop), mr_wp 128 185 [v0, v1, v2, v3] (.ref a :: st) h Q = mr_gf (h.1 a) 11 11 (fun v => mr_wp 128 188 [v0, v1, v2, v3] (v :: st) h Q)) ∧
    (∀ (v0 v1 v2 v3 : Value) (st : List Value) (h : mr_h) (Q : Option Value → mr_h → Prop), mr_wp 128 188 [v0, v1, v2, v3] st h Q = mr_wp 128 189 [v0, v1, v2, v3] (.int (1) :: st) h Q) ∧
    (∀ (v0 v1 v2 v3 : Value) (x : Int32) (y : Int32) (st : List Value) (h : mr_h) (Q : Option Value → mr_h → Prop), mr_wp 128 189 [v0, v1, v2, v3] (.int y :: .int x :: st) h Q = mr_wp 128 190 [v0, v1, v2, v3] (.int (x + y) :: st) h Q) ∧
    (∀ (v0 v1 v2 v3 : Value) (a : Nat) (x : Int32) (st : List Value) (h : mr_h) (Q : Option Value → mr_h → Prop), mr_wp 128 190 [v0, v1, v2, v3] (.int x :: .ref a :: st) h Q = mr_pf (h.1 a) 11 11 (.int x) (fun c => mr_wp 128 193 [v0, v1, v2, v3] st (mr_up h a c) Q)) ∧
    (∀ (v0 v1 v2 v3 : Value) (h : mr_h) (Q : Option Value → mr_h → Prop), mr_wp 128 193 [v0, v1, v2, v3] [] h Q = Q none h) :=
  ⟨fun v1 v2 v3 x st h Q => gx_one (i := .aload_n 0) (len := 1) (by decide +kernel) rfl,
   fun v0 v1 v2 v3 a st h Q => gx_get (x := 13) (by decide +kernel) (by decide +kernel),
   fun v0 v1 v2 v3 st h Q => gx_one (i := .bipush 12) (len := 2) (by decide +kernel) rfl,
   fun v1 v2 v3 x st h Q => gx_one (i := .aload_n 0) (len := 1) (by decide +kernel) rfl,
   fun v0 v1 v2 v3 a st h Q => gx_get (x := 89) (by decide +kernel) (by decide +kernel),
   fun v0 v1 v2 v3 x y st h Q => gx_one (i := .iadd) (len := 1) (by decide +kernel) rfl,
   fun v0 v1 v2 v3 a x st h Q => gx_iald (by decide +kernel),
   fun v0 v1 v2 v3 x st h Q => gx_br (i := .ifCond .ge 7) (len := 3) (c := .ge) (by decide +kernel) rfl rfl,
   fun v0 v1 v2 v3 st h Q => gx_one (i := .iconst 1) (len := 1) (by decide +kernel) rfl,
   fun v0 v1 v2 v3 st h Q => gx_one (i := .goto 4) (len := 3) (by decide +kernel) rfl,
   fun v0 v1 v2 v3 st h Q => gx_one (i := .iconst 0) (len := 1) (by decide +kernel) rfl,
   fun v0 v1 v2 v3 a0 o h Q => gx_virt (x := 112) (n := 1) (by decide +kernel) (by decide +kernel) rfl (Or.inl (Nat.le_of_ble_eq_true rfl)) (by show _ ≤ mr_mxl 127; rw [show mr_mxl 127 = 3 from by decide +kernel]; exact Nat.le_of_ble_eq_true rfl) (by decide +kernel),
   fun v0 v2 v3 w1 x st h Q => gx_one (i := .istore_n 2) (len := 1) (by decide +kernel) rfl,
   fun v1 v2 v3 x st h Q => gx_one (i := .aload_n 0) (len := 1) (by decide +kernel) rfl,
   fun v0 v1 v2 v3 o h Q => gx_virt (x := 95) (n := 0) (by decide +kernel) (by decide +kernel) rfl (Or.inl (Nat.le_of_ble_eq_true rfl)) (by show _ ≤ mr_mxl 126; rw [show mr_mxl 126 = 1 from by decide +kernel]; exact Nat.le_of_ble_eq_true rfl) (by decide +kernel),
   fun v0 v1 v2 v3 x st h Q => gx_br (i := .ifCond .eq 26) (len := 3) (c := .eq) (by decide +kernel) rfl rfl,
   fun v1 v2 v3 x st h Q => gx_one (i := .aload_n 0) (len := 1) (by decide +kernel) rfl,
   fun v0 v1 v2 v3 a st h Q => gx_get (x := 13) (by decide +kernel) (by decide +kernel),
   fun v0 v1 v2 v3 st h Q => gx_one (i := .bipush 12) (len := 2) (by decide +kernel) rfl,
   fun v0 v1 v3 x st h Q => gx_one (i := .iload_n 2) (len := 1) (by decide +kernel) rfl,
   fun v0 v1 v2 v3 x y st h Q => gx_one (i := .iadd) (len := 1) (by decide +kernel) rfl,
   fun v1 v2 v3 x st h Q => gx_one (i := .aload_n 0) (len := 1) (by decide +kernel) rfl,
   fun v0 v1 v2 v3 a st h Q => gx_get (x := 105) (by decide +kernel) (by decide +kernel),
   fun v0 v1 v2 v3 a x y st h Q => gx_iast (by decide +kernel),
   fun v1 v2 v3 x st h Q => gx_one (i := .aload_n 0) (len := 1) (by decide +kernel) rfl,
   fun v0 v1 v2 v3 x st h Q => gx_one (i := .dup) (len := 1) (by decide +kernel) rfl,
   fun v0 v1 v2 v3 a st h Q => gx_get (x := 105) (by decide +kernel) (by decide +kernel),
   fun v0 v1 v2 v3 st h Q => gx_one (i := .iconst 1) (len := 1) (by decide +kernel) rfl,
   fun v0 v1 v2 v3 x y st h Q => gx_one (i := .iadd) (len := 1) (by decide +kernel) rfl,
   fun v0 v1 v2 v3 a x st h Q => gx_put (x := 105) (by decide +kernel) (by decide +kernel) ⟨rfl, Or.inl rfl⟩,
   fun v0 v1 v2 v3 h Q => gx_ret (i := .return_) (len := 1) (by decide +kernel) rfl rfl (by simp only [mr_rt, if_pos]; rw [if_pos (by decide +kernel)])⟩

theorem S_mo_isNumber : (∀ (v1 v2 : Value) (x : Nat) (st : List Value) (h : mr_h) (Q : Option Value → mr_h → Prop), mr_wp 129 0 [.ref x, v1, v2] st h Q = mr_wp 129 1 [.ref x, v1, v2] (.ref x :: st) h Q) ∧
    (∀ (v0 v1 v2 : Value) (a : Nat) (st : List Value) (h : mr_h) (Q : Option Value → mr_h → Prop), mr_wp 129 1 [v0, v1, v2] (.ref a :: st) h Q = mr_gf (h.1 a) 11 4 (fun v => mr_wp 129 4 [v0, v1, v2] (v :: st) h Q)) ∧
    (∀ (v0 v1 v2 : Value) (st : List Value) (h : mr_h) (Q : Option Value → mr_h → Prop), mr_wp 129 4 [v0, v1, v2] st h Q = mr_wp 129 5 [v0, v1, v2] (.int (2) :: st) h Q) ∧
    (∀ (v0 v1 v2 : Value) (x : Int32) (y : Int32) (st : List Value) (h : mr_h) (Q : Option Value → mr_h → Prop), mr_wp 129 5 [v0, v1, v2] (.int y :: .int x :: st) h Q = if ¬ x = y then mr_wp 129 24 [v0, v1, v2] st h Q else mr_wp 129 8 [v0, v1, v2] st h Q) ∧
    (∀ (v1 v2 : Value) (x : Nat) (st : List Value) (h : mr_h) (Q : Option Value → mr_h → Prop), mr_wp 129 8 [.ref x, v1, v2] st h Q = mr_wp 129 9 [.ref x, v1, v2] (.ref x :: st) h Q) ∧
    (∀ (v0 v1 v2 : Value) (a : Nat) (st : List Value) (h : mr_h) (Q : Option Value → mr_h → Prop), mr_wp 129 9 [v0, v1, v2] (.ref a :: st) h Q = mr_gf (h.1 a) 11 6 (fun v => mr_wp 129 12 [v0, v1, v2] (v :: st) h Q)) ∧
    (∀ (v0 v2 : Value) (x : Int32) (st : List Value) (h : mr_h) (Q : Option Value → mr_h → Prop), mr_wp 129 12 [v0, .int x, v2] st h Q = mr_wp 129 13 [v0, .int x, v2] (.int x :: st) h Q) ∧
    (∀ (v0 v1 : Value) (x : Int32) (st : List Value) (h : mr_h) (Q : Option Value → mr_h → Prop), mr_wp 129 13 [v0, v1, .int x] st h Q = mr_wp 129 14 [v0, v1, .int x] (.int x :: st) h Q) ∧
    (∀ (v0 v1 v2 : Value) (a0 : Int32) (a1 : Int32) (a2 : Int32) (h : mr_h) (Q : Option Value → mr_h → Prop), mr_wp 129 14 [v0, v1, v2] [.int a2, .int a1, .int a0] h Q = mr_run 121 [.int a0, .int a1, .int a2] h (fun v h' => mr_wp 129 17 [v0, v1, v2] (v.toList ++ []) h' Q)) ∧
    (∀ (v0 v1 v2 : Value) (x : Int32) (st : List Value) (h : mr_h) (Q : Option Value → mr_h → Prop), mr_wp 129 17 [v0, v1, v2] (.int x :: st) h Q = if x = 0 then mr_wp 129 24 [v0, v1, v2] st h Q else mr_wp 129 20 [v0, v1, v2] st h Q) ∧
    (∀ (v0 v1 v2 : Value) (st : List Value) (h : mr_h) (Q : Option Value → mr_h → Prop), mr_wp 129 20 [v0, v1, v2] st h Q = mr_wp 129 21 [v0, v1, v2] (.int (1) :: st) h Q) ∧
    (∀ (v0 v1 v2 : Value) (st : List Value) (h : mr_h) (Q : Option Value → mr_h → Prop), mr_wp 129 21 [v0, v1, v2] st h Q = mr_wp 129 25 [v0, v1, v2] st h Q) ∧
    (∀ (v0 v1 v2 : Value) (st : List Value) (h : mr_h) (Q : Option Value → mr_h → Prop), mr_wp 129 24 [v0, v1, v2] st h Q = mr_wp 129 25 [v0, v1, v2] (.int (0) :: st) h Q) ∧
    (∀ (v0 v1 v2 : Value) (x : Int32) (h : mr_h) (Q : Option Value → mr_h → Prop) (hv : x &&& 1 = x), mr_wp 129 25 [v0, v1, v2] [.int x] h Q = Q (some (.int x)) h) :=
  ⟨fun v1 v2 x st h Q => gx_one (i := .aload_n 0) (len := 1) (by decide +kernel) rfl,
   fun v0 v1 v2 a st h Q => gx_get (x := 86) (by decide +kernel) (by decide +kernel),
   fun v0 v1 v2 st h Q => gx_one (i := .iconst 2) (len := 1) (by decide +kernel) rfl,
   fun v0 v1 v2 x y st h Q => gx_br (i := .if_icmp .ne 19) (len := 3) (c := .ne) (by decide +kernel) rfl rfl,
   fun v1 v2 x st h Q => gx_one (i := .aload_n 0) (len := 1) (by decide +kernel) rfl,
   fun v0 v1 v2 a st h Q => gx_get (x := 89) (by decide +kernel) (by decide +kernel),
   fun v0 v2 x st h Q => gx_one (i := .iload_n 1) (len := 1) (by decide +kernel) rfl,
   fun v0 v1 x st h Q => gx_one (i := .iload_n 2) (len := 1) (by decide +kernel) rfl,
   fun v0 v1 v2 a0 a1 a2 h Q => gx_stat (x := 69) (t := 121) (n := 3) (by decide +kernel) (by decide +kernel) (by decide) (by decide +kernel) rfl (Or.inl (Nat.le_of_ble_eq_true rfl)) (by show _ ≤ mr_mxl 121; rw [show mr_mxl 121 = 3 from by decide +kernel]; exact Nat.le_of_ble_eq_true rfl),
   fun v0 v1 v2 x st h Q => gx_br (i := .ifCond .eq 7) (len := 3) (c := .eq) (by decide +kernel) rfl rfl,
   fun v0 v1 v2 st h Q => gx_one (i := .iconst 1) (len := 1) (by decide +kernel) rfl,
   fun v0 v1 v2 st h Q => gx_one (i := .goto 4) (len := 3) (by decide +kernel) rfl,
   fun v0 v1 v2 st h Q => gx_one (i := .iconst 0) (len := 1) (by decide +kernel) rfl,
   fun v0 v1 v2 x h Q hv => gx_ret (i := .ireturn) (len := 1) (by decide +kernel) rfl rfl (by simp only [mr_rt, if_pos]; rw [if_pos (Or.inr ⟨by decide +kernel, hv⟩)])⟩
theorem S_mo_has : (∀ (v1 : Value) (x : Int32) (st : List Value) (h : mr_h) (Q : Option Value → mr_h → Prop), mr_wp 130 0 [.int x, v1] st h Q = mr_wp 130 1 [.int x, v1] (.int x :: st) h Q) ∧
    (∀ (v0 : Value) (x : Int32) (st : List Value) (h : mr_h) (Q : Option Value → mr_h → Prop), mr_wp 130 1 [v0, .int x] st h Q = mr_wp 130 2 [v0, .int x] (.int x :: st) h Q) ∧
    (∀ (v0 v1 : Value) (x : Int32) (y : Int32) (st : List Value) (h : mr_h) (Q : Option Value → mr_h → Prop), mr_wp 130 2 [v0, v1] (.int y :: .int x :: st) h Q = mr_wp 130 3 [v0, v1] (.int (x >>> (y &&& 31)) :: st) h Q) ∧
    (∀ (v0 v1 : Value) (st : List Value) (h : mr_h) (Q : Option Value → mr_h → Prop), mr_wp 130 3 [v0, v1] st h Q = mr_wp 130 4 [v0, v1] (.int (1) :: st) h Q) ∧
    (∀ (v0 v1 : Value) (x : Int32) (y : Int32) (st : List Value) (h : mr_h) (Q : Option Value → mr_h → Prop), mr_wp 130 4 [v0, v1] (.int y :: .int x :: st) h Q = mr_wp 130 5 [v0, v1] (.int (x &&& y) :: st) h Q) ∧
    (∀ (v0 v1 : Value) (st : List Value) (h : mr_h) (Q : Option Value → mr_h → Prop), mr_wp 130 5 [v0, v1] st h Q = mr_wp 130 6 [v0, v1] (.int (1) :: st) h Q) ∧
    (∀ (v0 v1 : Value) (x : Int32) (y : Int32) (st : List Value) (h : mr_h) (Q : Option Value → mr_h → Prop), mr_wp 130 6 [v0, v1] (.int y :: .int x :: st) h Q = if ¬ x = y then mr_wp 130 13 [v0, v1] st h Q else mr_wp 130 9 [v0, v1] st h Q) ∧
    (∀ (v0 v1 : Value) (st : List Value) (h : mr_h) (Q : Option Value → mr_h → Prop), mr_wp 130 9 [v0, v1] st h Q = mr_wp 130 10 [v0, v1] (.int (1) :: st) h Q) ∧
    (∀ (v0 v1 : Value) (st : List Value) (h : mr_h) (Q : Option Value → mr_h → Prop), mr_wp 130 10 [v0, v1] st h Q = mr_wp 130 14 [v0, v1] st h Q) ∧
    (∀ (v0 v1 : Value) (st : List Value) (h : mr_h) (Q : Option Value → mr_h → Prop), mr_wp 130 13 [v0, v1] st h Q = mr_wp 130 14 [v0, v1] (.int (0) :: st) h Q) ∧
    (∀ (v0 v1 : Value) (x : Int32) (h : mr_h) (Q : Option Value → mr_h → Prop) (hv : x &&& 1 = x), mr_wp 130 14 [v0, v1] [.int x] h Q = Q (some (.int x)) h) :=
  ⟨fun v1 x st h Q => gx_one (i := .iload_n 0) (len := 1) (by decide +kernel) rfl,
   fun v0 x st h Q => gx_one (i := .iload_n 1) (len := 1) (by decide +kernel) rfl,
   fun v0 v1 x y st h Q => gx_one (i := .ishr) (len := 1) (by decide +kernel) rfl,
   fun v0 v1 st h Q => gx_one (i := .iconst 1) (len := 1) (by decide +kernel) rfl,
   fun v0 v1 x y st h Q => gx_one (i := .iand) (len := 1) (by decide +kernel) rfl,
   fun v0 v1 st h Q => gx_one (i := .iconst 1) (len := 1) (by decide +kernel) rfl,
   fun v0 v1 x y st h Q => gx_br (i := .if_icmp .ne 7) (len := 3) (c := .ne) (by decide +kernel) rfl rfl,
   fun v0 v1 st h Q => gx_one (i := .iconst 1) (len := 1) (by decide +kernel) rfl,
   fun v0 v1 st h Q => gx_one (i := .goto 4) (len := 3) (by decide +kernel) rfl,
   fun v0 v1 st h Q => gx_one (i := .iconst 0) (len := 1) (by decide +kernel) rfl,
   fun v0 v1 x h Q hv => gx_ret (i := .ireturn) (len := 1) (by decide +kernel) rfl rfl (by simp only [mr_rt, if_pos]; rw [if_pos (Or.inr ⟨by decide +kernel, hv⟩)])⟩
theorem S_mo_node_0 : (∀ (v1 v2 : Value) (x : Nat) (st : List Value) (h : mr_h) (Q : Option Value → mr_h → Prop), mr_wp 131 0 [.ref x, v1, v2] st h Q = mr_wp 131 1 [.ref x, v1, v2] (.ref x :: st) h Q) ∧
    (∀ (v0 v1 v2 : Value) (st : List Value) (h : mr_h) (Q : Option Value → mr_h → Prop), mr_wp 131 1 [v0, v1, v2] st h Q = mr_wp 131 2 [v0, v1, v2] (.int (0) :: st) h Q) ∧
    (∀ (v0 v1 v2 : Value) (a : Nat) (x : Int32) (st : List Value) (h : mr_h) (Q : Option Value → mr_h → Prop), mr_wp 131 2 [v0, v1, v2] (.int x :: .ref a :: st) h Q = mr_pf (h.1 a) 11 0 (.int x) (fun c => mr_wp 131 5 [v0, v1, v2] st (mr_up h a c) Q)) ∧
    (∀ (v1 v2 : Value) (x : Nat) (st : List Value) (h : mr_h) (Q : Option Value → mr_h → Prop), mr_wp 131 5 [.ref x, v1, v2] st h Q = mr_wp 131 6 [.ref x, v1, v2] (.ref x :: st) h Q) ∧
    (∀ (v0 v2 : Value) (x : Int32) (st : List Value) (h : mr_h) (Q : Option Value → mr_h → Prop), mr_wp 131 6 [v0, .int x, v2] st h Q = mr_wp 131 7 [v0, .int x, v2] (.int x :: st) h Q) ∧
    (∀ (v0 v1 v2 : Value) (a0 : Int32) (o : Nat) (h : mr_h) (Q : Option Value → mr_h → Prop), mr_wp 131 7 [v0, v1, v2] [.int a0, .ref o] h Q = mr_rc (h.1 o) 11 (mr_run 132 [.ref o, .int a0] h (fun v h' => mr_wp 131 10 [v0, v1, v2] (v.toList ++ []) h' Q))) ∧
    (∀ (v0 v1 v2 : Value) (x : Int32) (st : List Value) (h : mr_h) (Q : Option Value → mr_h → Prop), mr_wp 131 10 [v0, v1, v2] (.int x :: st) h Q = if x = 0 then mr_wp 131 23 [v0, v1, v2] st h Q else mr_wp 131 13 [v0, v1, v2] st h Q) ∧
    (∀ (v0 v1 : Value) (x : Int32) (st : List Value) (h : mr_h) (Q : Option Value → mr_h → Prop), mr_wp 131 13 [v0, v1, .int x] st h Q = mr_wp 131 14 [v0, v1, .int x] (.int x :: st) h Q) ∧
    (∀ (v0 v1 v2 : Value) (st : List Value) (h : mr_h) (Q : Option Value → mr_h → Prop), mr_wp 131 14 [v0, v1, v2] st h Q = mr_wp 131 15 [v0, v1, v2] (.int (0) :: st) h Q) ∧
    (∀ (v0 v1 v2 : Value) (st : List Value) (h : mr_h) (Q : Option Value → mr_h → Prop), mr_wp 131 15 [v0, v1, v2] st h Q = mr_wp 131 17 [v0, v1, v2] (.int (6) :: st) h Q) ∧
    (∀ (v0 v1 v2 : Value) (a0 : Int32) (a1 : Int32) (a2 : Int32) (h : mr_h) (Q : Option Value → mr_h → Prop), mr_wp 131 17 [v0, v1, v2] [.int a2, .int a1, .int a0] h Q = mr_run 121 [.int a0, .int a1, .int a2] h (fun v h' => mr_wp 131 20 [v0, v1, v2] (v.toList ++ []) h' Q)) ∧
    (∀ (v0 v1 v2 : Value) (x : Int32) (st : List Value) (h : mr_h) (Q : Option Value → mr_h → Prop), mr_wp 131 20 [v0, v1, v2] (.int x :: st) h Q = if ¬ x = 0 then mr_wp 131 25 [v0, v1, v2] st h Q else mr_wp 131 23 [v0, v1, v2] st h Q) ∧
    (∀ (v0 v1 v2 : Value) (st : List Value) (h : mr_h) (Q : Option Value → mr_h → Prop), mr_wp 131 23 [v0, v1, v2] st h Q = mr_wp 131 24 [v0, v1, v2] (.int (-1) :: st) h Q) ∧
    (∀ (v0 v1 v2 : Value) (x : Int32) (h : mr_h) (Q : Option Value → mr_h → Prop), mr_wp 131 24 [v0, v1, v2] [.int x] h Q = Q (some (.int x)) h) ∧
    (∀ (v1 v2 : Value) (x : Nat) (st : List Value) (h : mr_h) (Q : Option Value → mr_h → Prop), mr_wp 131 25 [.ref x, v1, v2] st h Q = mr_wp 131 26 [.ref x, v1, v2] (.ref x :: st) h Q) ∧
    (∀ (v1 v2 : Value) (x : Nat) (st : List Value) (h : mr_h) (Q : Option Value → mr_h → Prop), mr_wp 131 26 [.ref x, v1, v2] st h Q = mr_wp 131 27 [.ref x, v1, v2] (.ref x :: st) h Q) ∧
    (∀ (v0 v1 v2 : Value) (a : Nat) (st : List Value) (h : mr_h) (Q : Option Value → mr_h → Prop), mr_wp 131 27 [v0, v1, v2] (.ref a :: st) h Q = mr_gf (h.1 a) 11 12 (fun v => mr_wp 131 30 [v0, v1, v2] (v :: st) h Q)) ∧
    (∀ (v1 v2 : Value) (x : Nat) (st : List Value) (h : mr_h) (Q : Option Value → mr_h → Prop), mr_wp 131 30 [.ref x, v1, v2] st h Q = mr_wp 131 31 [.ref x, v1, v2] (.ref x :: st) h Q) ∧
    (∀ (v0 v1 v2 : Value) (a : Nat) (st : List Value) (h : mr_h) (Q : Option Value → mr_h → Prop), mr_wp 131 31 [v0, v1, v2] (.ref a :: st) h Q = mr_gf (h.1 a) 11 22 (fun v => mr_wp 131 34 [v0, v1, v2] (v :: st) h Q)) ∧
    (∀ (v0 v1 v2 : Value) (a0 : Nat) (a1 : Nat) (o : Nat) (h : mr_h) (Q : Option Value → mr_h → Prop), mr_wp 131 34 [v0, v1, v2] [.ref a1, .ref a0, .ref o] h Q = mr_rc (h.1 o) 11 (mr_run 133 [.ref o, .ref a0, .ref a1] h (fun v h' => mr_wp 131 37 [v0, v1, v2] (v.toList ++ []) h' Q))) ∧
    (∀ (v0 v1 : Value) (x : Int32) (st : List Value) (h : mr_h) (Q : Option Value → mr_h → Prop), mr_wp 131 37 [v0, v1, .int x] st h Q = mr_wp 131 38 [v0, v1, .int x] (.int x :: st) h Q) ∧
    (∀ (v0 v1 v2 : Value) (st : List Value) (h : mr_h) (Q : Option Value → mr_h → Prop), mr_wp 131 38 [v0, v1, v2] st h Q = mr_wp 131 39 [v0, v1, v2] (.int (3) :: st) h Q) ∧
    (∀ (v0 v1 v2 : Value) (x : Int32) (y : Int32) (st : List Value) (h : mr_h) (Q : Option Value → mr_h → Prop), mr_wp 131 39 [v0, v1, v2] (.int y :: .int x :: st) h Q = if y ≤ x then mr_wp 131 77 [v0, v1, v2] st h Q else mr_wp 131 42 [v0, v1, v2] st h Q) ∧
    (∀ (v0 v1 : Value) (x : Int32) (st : List Value) (h : mr_h) (Q : Option Value → mr_h → Prop), mr_wp 131 42 [v0, v1, .int x] st h Q = mr_wp 131 43 [v0, v1, .int x] (.int x :: st) h Q) ∧
    (∀ (v0 v1 v2 : Value) (x : Int32) (st : List Value) (h : mr_h) (Q : Option Value → mr_h → Prop), mr_wp 131 43 [v0, v1, v2] (.int x :: st) h Q = if ¬ x = 0 then mr_wp 131 54 [v0, v1, v2] st h Q else mr_wp 131 46 [v0, v1, v2] st h Q) ∧
    (∀ (v1 v2 : Value) (x : Nat) (st : List Value) (h : mr_h) (Q : Option Value → mr_h → Prop), mr_wp 131 46 [.ref x, v1, v2] st h Q = mr_wp 131 47 [.ref x, v1, v2] (.ref x :: st) h Q) ∧
    (∀ (v0 v2 : Value) (x : Int32) (st : List Value) (h : mr_h) (Q : Option Value → mr_h → Prop), mr_wp 131 47 [v0, .int x, v2] st h Q = mr_wp 131 48 [v0, .int x, v2] (.int x :: st) h Q) ∧
    (∀ (v0 v1 v2 : Value) (a0 : Int32) (o : Nat) (h : mr_h) (Q : Option Value → mr_h → Prop), mr_wp 131 48 [v0, v1, v2] [.int a0, .ref o] h Q = mr_rc (h.1 o) 11 (mr_run 134 [.ref o, .int a0] h (fun v h' => mr_wp 131 51 [v0, v1, v2] (v.toList ++ []) h' Q))) ∧
    (∀ (v0 v1 v2 : Value) (st : List Value) (h : mr_h) (Q : Option Value → mr_h → Prop), mr_wp 131 51 [v0, v1, v2] st h Q = mr_wp 131 76 [v0, v1, v2] st h Q) ∧
    (∀ (v0 v1 : Value) (x : Int32) (st : List Value) (h : mr_h) (Q : Option Value → mr_h → Prop), mr_wp 131 54 [v0, v1, .int x] st h Q = mr_wp 131 55 [v0, v1, .int x] (.int x :: st) h Q) ∧
    (∀ (v0 v1 v2 : Value) (st : List Value) (h : mr_h) (Q : Option Value → mr_h → Prop), mr_wp 131 55 [v0, v1, v2] st h Q = mr_wp 131 56 [v0, v1, v2] (.int (1) :: st) h Q) ∧
    (∀ (v0 v1 v2 : Value) (x : Int32) (y : Int32) (st : List Value) (h : mr_h) (Q : Option Value → mr_h → Prop), mr_wp 131 56 [v0, v1, v2] (.int y :: .int x :: st) h Q = if ¬ x = y then mr_wp 131 67 [v0, v1, v2] st h Q else mr_wp 131 59 [v0, v1, v2] st h Q) ∧
    (∀ (v1 v2 : Value) (x : Nat) (st : List Value) (h : mr_h) (Q : Option Value → mr_h → Prop), mr_wp 131 59 [.ref x, v1, v2] st h Q = mr_wp 131 60 [.ref x, v1, v2] (.ref x :: st) h Q) ∧
    (∀ (v0 v2 : Value) (x : Int32) (st : List Value) (h : mr_h) (Q : Option Value → mr_h → Prop), mr_wp 131 60 [v0, .int x, v2] st h Q = mr_wp 131 61 [v0, .int x, v2] (.int x :: st) h Q) ∧
    (∀ (v0 v1 v2 : Value) (a0 : Int32) (o : Nat) (h : mr_h) (Q : Option Value → mr_h → Prop), mr_wp 131 61 [v0, v1, v2] [.int a0, .ref o] h Q = mr_rc (h.1 o) 11 (mr_run 135 [.ref o, .int a0] h (fun v h' => mr_wp 131 64 [v0, v1, v2] (v.toList ++ []) h' Q))) ∧
    (∀ (v0 v1 v2 : Value) (st : List Value) (h : mr_h) (Q : Option Value → mr_h → Prop), mr_wp 131 64 [v0, v1, v2] st h Q = mr_wp 131 76 [v0, v1, v2] st h Q) ∧
    (∀ (v1 v2 : Value) (x : Nat) (st : List Value) (h : mr_h) (Q : Option Value → mr_h → Prop), mr_wp 131 67 [.ref x, v1, v2] st h Q = mr_wp 131 68 [.ref x, v1, v2] (.ref x :: st) h Q) ∧
    (∀ (v0 v1 v2 : Value) (a : Nat) (st : List Value) (h : mr_h) (Q : Option Value → mr_h → Prop), mr_wp 131 68 [v0, v1, v2] (.ref a :: st) h Q = mr_gf (h.1 a) 11 12 (fun v => mr_wp 131 71 [v0, v1, v2] (v :: st) h Q)) ∧
    (∀ (v0 v1 v2 : Value) (st : List Value) (h : mr_h) (Q : Option Value → mr_h → Prop), mr_wp 131 71 [v0, v1, v2] st h Q = mr_wp 131 73 [v0, v1, v2] (.int (12) :: st) h Q) ∧
    (∀ (v0 v2 : Value) (x : Int32) (st : List Value) (h : mr_h) (Q : Option Value → mr_h → Prop), mr_wp 131 73 [v0, .int x, v2] st h Q = mr_wp 131 74 [v0, .int x, v2] (.int x :: st) h Q) :=
  ⟨fun v1 v2 x st h Q => gx_one (i := .aload_n 0) (len := 1) (by decide +kernel) rfl,
   fun v0 v1 v2 st h Q => gx_one (i := .iconst 0) (len := 1) (by decide +kernel) rfl,
   fun v0 v1 v2 a x st h Q => gx_put (x := 65) (by decide +kernel) (by decide +kernel) ⟨rfl, Or.inl rfl⟩,
   fun v1 v2 x st h Q => gx_one (i := .aload_n 0) (len := 1) (by decide +kernel) rfl,
   fun v0 v2 x st h Q => gx_one (i := .iload_n 1) (len := 1) (by decide +kernel) rfl,
   fun v0 v1 v2 a0 o h Q => gx_virt (x := 132) (n := 1) (by decide +kernel) (by decide +kernel) rfl (Or.inl (Nat.le_of_ble_eq_true rfl)) (by show _ ≤ mr_mxl 132; rw [show mr_mxl 132 = 2 from by decide +kernel]; exact Nat.le_of_ble_eq_true rfl) (by decide +kernel),
   fun v0 v1 v2 x st h Q => gx_br (i := .ifCond .eq 13) (len := 3) (c := .eq) (by decide +kernel) rfl rfl,
   fun v0 v1 x st h Q => gx_one (i := .iload_n 2) (len := 1) (by decide +kernel) rfl,
   fun v0 v1 v2 st h Q => gx_one (i := .iconst 0) (len := 1) (by decide +kernel) rfl,
   fun v0 v1 v2 st h Q => gx_one (i := .bipush 6) (len := 2) (by decide +kernel) rfl,
   fun v0 v1 v2 a0 a1 a2 h Q => gx_stat (x := 69) (t := 121) (n := 3) (by decide +kernel) (by decide +kernel) (by decide) (by decide +kernel) rfl (Or.inl (Nat.le_of_ble_eq_true rfl)) (by show _ ≤ mr_mxl 121; rw [show mr_mxl 121 = 3 from by decide +kernel]; exact Nat.le_of_ble_eq_true rfl),
   fun v0 v1 v2 x st h Q => gx_br (i := .ifCond .ne 5) (len := 3) (c := .ne) (by decide +kernel) rfl rfl,
   fun v0 v1 v2 st h Q => gx_one (i := .iconst (-1)) (len := 1) (by decide +kernel) rfl,
   fun v0 v1 v2 x h Q => gx_ret (i := .ireturn) (len := 1) (by decide +kernel) rfl rfl (by simp only [mr_rt, if_pos]; rw [if_pos (Or.inl (by decide +kernel))]),
   fun v1 v2 x st h Q => gx_one (i := .aload_n 0) (len := 1) (by decide +kernel) rfl,
   fun v1 v2 x st h Q => gx_one (i := .aload_n 0) (len := 1) (by decide +kernel) rfl,
   fun v0 v1 v2 a st h Q => gx_get (x := 16) (by decide +kernel) (by decide +kernel),
   fun v1 v2 x st h Q => gx_one (i := .aload_n 0) (len := 1) (by decide +kernel) rfl,
   fun v0 v1 v2 a st h Q => gx_get (x := 41) (by decide +kernel) (by decide +kernel),
   fun v0 v1 v2 a0 a1 o h Q => gx_virt (x := 158) (n := 2) (by decide +kernel) (by decide +kernel) rfl (Or.inl (Nat.le_of_ble_eq_true rfl)) (by show _ ≤ mr_mxl 133; rw [show mr_mxl 133 = 5 from by decide +kernel]; exact Nat.le_of_ble_eq_true rfl) (by decide +kernel),
   fun v0 v1 x st h Q => gx_one (i := .iload_n 2) (len := 1) (by decide +kernel) rfl,
   fun v0 v1 v2 st h Q => gx_one (i := .iconst 3) (len := 1) (by decide +kernel) rfl,
   fun v0 v1 v2 x y st h Q => gx_br (i := .if_icmp .ge 38) (len := 3) (c := .ge) (by decide +kernel) rfl rfl,
   fun v0 v1 x st h Q => gx_one (i := .iload_n 2) (len := 1) (by decide +kernel) rfl,
   fun v0 v1 v2 x st h Q => gx_br (i := .ifCond .ne 11) (len := 3) (c := .ne) (by decide +kernel) rfl rfl,
   fun v1 v2 x st h Q => gx_one (i := .aload_n 0) (len := 1) (by decide +kernel) rfl,
   fun v0 v2 x st h Q => gx_one (i := .iload_n 1) (len := 1) (by decide +kernel) rfl,
   fun v0 v1 v2 a0 o h Q => gx_virt (x := 148) (n := 1) (by decide +kernel) (by decide +kernel) rfl (Or.inl (Nat.le_of_ble_eq_true rfl)) (by show _ ≤ mr_mxl 134; rw [show mr_mxl 134 = 2 from by decide +kernel]; exact Nat.le_of_ble_eq_true rfl) (by decide +kernel),
   fun v0 v1 v2 st h Q => gx_one (i := .goto 25) (len := 3) (by decide +kernel) rfl,
   fun v0 v1 x st h Q => gx_one (i := .iload_n 2) (len := 1) (by decide +kernel) rfl,
   fun v0 v1 v2 st h Q => gx_one (i := .iconst 1) (len := 1) (by decide +kernel) rfl,
   fun v0 v1 v2 x y st h Q => gx_br (i := .if_icmp .ne 11) (len := 3) (c := .ne) (by decide +kernel) rfl rfl,
   fun v1 v2 x st h Q => gx_one (i := .aload_n 0) (len := 1) (by decide +kernel) rfl,
   fun v0 v2 x st h Q => gx_one (i := .iload_n 1) (len := 1) (by decide +kernel) rfl,
   fun v0 v1 v2 a0 o h Q => gx_virt (x := 142) (n := 1) (by decide +kernel) (by decide +kernel) rfl (Or.inl (Nat.le_of_ble_eq_true rfl)) (by show _ ≤ mr_mxl 135; rw [show mr_mxl 135 = 2 from by decide +kernel]; exact Nat.le_of_ble_eq_true rfl) (by decide +kernel),
   fun v0 v1 v2 st h Q => gx_one (i := .goto 12) (len := 3) (by decide +kernel) rfl,
   fun v1 v2 x st h Q => gx_one (i := .aload_n 0) (len := 1) (by decide +kernel) rfl,
   fun v0 v1 v2 a st h Q => gx_get (x := 16) (by decide +kernel) (by decide +kernel),
   fun v0 v1 v2 st h Q => gx_one (i := .bipush 12) (len := 2) (by decide +kernel) rfl,
   fun v0 v2 x st h Q => gx_one (i := .iload_n 1) (len := 1) (by decide +kernel) rfl⟩
theorem S_mo_node_1 : (∀ (v0 v1 v2 : Value) (x : Int32) (y : Int32) (st : List Value) (h : mr_h) (Q : Option Value → mr_h → Prop), mr_wp 131 74 [v0, v1, v2] (.int y :: .int x :: st) h Q = mr_wp 131 75 [v0, v1, v2] (.int (x + y) :: st) h Q) ∧
    (∀ (v0 v1 v2 : Value) (a : Nat) (x : Int32) (st : List Value) (h : mr_h) (Q : Option Value → mr_h → Prop), mr_wp 131 75 [v0, v1, v2] (.int x :: .ref a :: st) h Q = mr_ai (h.1 a) x (fun v => mr_wp 131 76 [v0, v1, v2] (.int v :: st) h Q)) ∧
    (∀ (v0 v1 v2 : Value) (x : Int32) (h : mr_h) (Q : Option Value → mr_h → Prop), mr_wp 131 76 [v0, v1, v2] [.int x] h Q = Q (some (.int x)) h) ∧
    (∀ (v0 v1 : Value) (x : Int32) (st : List Value) (h : mr_h) (Q : Option Value → mr_h → Prop), mr_wp 131 77 [v0, v1, .int x] st h Q = mr_wp 131 78 [v0, v1, .int x] (.int x :: st) h Q) ∧
    (∀ (v0 v1 v2 : Value) (st : List Value) (h : mr_h) (Q : Option Value → mr_h → Prop), mr_wp 131 78 [v0, v1, v2] st h Q = mr_wp 131 79 [v0, v1, v2] (.int (3) :: st) h Q) ∧
    (∀ (v0 v1 v2 : Value) (x : Int32) (y : Int32) (st : List Value) (h : mr_h) (Q : Option Value → mr_h → Prop), mr_wp 131 79 [v0, v1, v2] (.int y :: .int x :: st) h Q = if ¬ x = y then mr_wp 131 94 [v0, v1, v2] st h Q else mr_wp 131 82 [v0, v1, v2] st h Q) ∧
    (∀ (v1 v2 : Value) (x : Nat) (st : List Value) (h : mr_h) (Q : Option Value → mr_h → Prop), mr_wp 131 82 [.ref x, v1, v2] st h Q = mr_wp 131 83 [.ref x, v1, v2] (.ref x :: st) h Q) ∧
    (∀ (v0 v2 : Value) (x : Int32) (st : List Value) (h : mr_h) (Q : Option Value → mr_h → Prop), mr_wp 131 83 [v0, .int x, v2] st h Q = mr_wp 131 84 [v0, .int x, v2] (.int x :: st) h Q) ∧
    (∀ (v1 v2 : Value) (x : Nat) (st : List Value) (h : mr_h) (Q : Option Value → mr_h → Prop), mr_wp 131 84 [.ref x, v1, v2] st h Q = mr_wp 131 85 [.ref x, v1, v2] (.ref x :: st) h Q) ∧
    (∀ (v0 v1 v2 : Value) (o : Nat) (r0 : Value) (r1 : Value) (h : mr_h) (Q : Option Value → mr_h → Prop), mr_wp 131 85 [v0, v1, v2] [.ref o, r0, r1] h Q = mr_rc (h.1 o) 11 (mr_run 138 [.ref o] h (fun v h' => mr_wp 131 88 [v0, v1, v2] (v.toList ++ [r0, r1]) h' Q))) ∧
    (∀ (v0 v1 v2 : Value) (a0 : Int32) (a1 : Int32) (o : Nat) (h : mr_h) (Q : Option Value → mr_h → Prop), mr_wp 131 88 [v0, v1, v2] [.int a1, .int a0, .ref o] h Q = mr_rc (h.1 o) 11 (mr_run 139 [.ref o, .int a0, .int a1] h (fun v h' => mr_wp 131 91 [v0, v1, v2] (v.toList ++ []) h' Q))) ∧
    (∀ (v0 v1 v2 : Value) (st : List Value) (h : mr_h) (Q : Option Value → mr_h → Prop), mr_wp 131 91 [v0, v1, v2] st h Q = mr_wp 131 130 [v0, v1, v2] st h Q) ∧
    (∀ (v0 v1 : Value) (x : Int32) (st : List Value) (h : mr_h) (Q : Option Value → mr_h → Prop), mr_wp 131 94 [v0, v1, .int x] st h Q = mr_wp 131 95 [v0, v1, .int x] (.int x :: st) h Q) ∧
    (∀ (v0 v1 v2 : Value) (st : List Value) (h : mr_h) (Q : Option Value → mr_h → Prop), mr_wp 131 95 [v0, v1, v2] st h Q = mr_wp 131 96 [v0, v1, v2] (.int (4) :: st) h Q) ∧
    (∀ (v0 v1 v2 : Value) (x : Int32) (y : Int32) (st : List Value) (h : mr_h) (Q : Option Value → mr_h → Prop), mr_wp 131 96 [v0, v1, v2] (.int y :: .int x :: st) h Q = if ¬ x = y then mr_wp 131 111 [v0, v1, v2] st h Q else mr_wp 131 99 [v0, v1, v2] st h Q) ∧
    (∀ (v1 v2 : Value) (x : Nat) (st : List Value) (h : mr_h) (Q : Option Value → mr_h → Prop), mr_wp 131 99 [.ref x, v1, v2] st h Q = mr_wp 131 100 [.ref x, v1, v2] (.ref x :: st) h Q) ∧
    (∀ (v0 v2 : Value) (x : Int32) (st : List Value) (h : mr_h) (Q : Option Value → mr_h → Prop), mr_wp 131 100 [v0, .int x, v2] st h Q = mr_wp 131 101 [v0, .int x, v2] (.int x :: st) h Q) ∧
    (∀ (v1 v2 : Value) (x : Nat) (st : List Value) (h : mr_h) (Q : Option Value → mr_h → Prop), mr_wp 131 101 [.ref x, v1, v2] st h Q = mr_wp 131 102 [.ref x, v1, v2] (.ref x :: st) h Q) ∧
    (∀ (v0 v1 v2 : Value) (o : Nat) (r0 : Value) (r1 : Value) (h : mr_h) (Q : Option Value → mr_h → Prop), mr_wp 131 102 [v0, v1, v2] [.ref o, r0, r1] h Q = mr_rc (h.1 o) 11 (mr_run 138 [.ref o] h (fun v h' => mr_wp 131 105 [v0, v1, v2] (v.toList ++ [r0, r1]) h' Q))) ∧
    (∀ (v0 v1 v2 : Value) (a0 : Int32) (a1 : Int32) (o : Nat) (h : mr_h) (Q : Option Value → mr_h → Prop), mr_wp 131 105 [v0, v1, v2] [.int a1, .int a0, .ref o] h Q = mr_rc (h.1 o) 11 (mr_run 142 [.ref o, .int a0, .int a1] h (fun v h' => mr_wp 131 108 [v0, v1, v2] (v.toList ++ []) h' Q))) ∧
    (∀ (v0 v1 v2 : Value) (st : List Value) (h : mr_h) (Q : Option Value → mr_h → Prop), mr_wp 131 108 [v0, v1, v2] st h Q = mr_wp 131 130 [v0, v1, v2] st h Q) ∧
    (∀ (v0 v1 : Value) (x : Int32) (st : List Value) (h : mr_h) (Q : Option Value → mr_h → Prop), mr_wp 131 111 [v0, v1, .int x] st h Q = mr_wp 131 112 [v0, v1, .int x] (.int x :: st) h Q) ∧
    (∀ (v0 v1 v2 : Value) (st : List Value) (h : mr_h) (Q : Option Value → mr_h → Prop), mr_wp 131 112 [v0, v1, v2] st h Q = mr_wp 131 113 [v0, v1, v2] (.int (5) :: st) h Q) ∧
    (∀ (v0 v1 v2 : Value) (x : Int32) (y : Int32) (st : List Value) (h : mr_h) (Q : Option Value → mr_h → Prop), mr_wp 131 113 [v0, v1, v2] (.int y :: .int x :: st) h Q = if ¬ x = y then mr_wp 131 125 [v0, v1, v2] st h Q else mr_wp 131 116 [v0, v1, v2] st h Q) ∧
    (∀ (v1 v2 : Value) (x : Nat) (st : List Value) (h : mr_h) (Q : Option Value → mr_h → Prop), mr_wp 131 116 [.ref x, v1, v2] st h Q = mr_wp 131 117 [.ref x, v1, v2] (.ref x :: st) h Q) ∧
    (∀ (v0 v1 v2 : Value) (a : Nat) (st : List Value) (h : mr_h) (Q : Option Value → mr_h → Prop), mr_wp 131 117 [v0, v1, v2] (.ref a :: st) h Q = mr_gf (h.1 a) 11 22 (fun v => mr_wp 131 120 [v0, v1, v2] (v :: st) h Q)) ∧
    (∀ (v0 v2 : Value) (x : Int32) (st : List Value) (h : mr_h) (Q : Option Value → mr_h → Prop), mr_wp 131 120 [v0, .int x, v2] st h Q = mr_wp 131 121 [v0, .int x, v2] (.int x :: st) h Q) ∧
    (∀ (v0 v1 v2 : Value) (a : Nat) (x : Int32) (st : List Value) (h : mr_h) (Q : Option Value → mr_h → Prop), mr_wp 131 121 [v0, v1, v2] (.int x :: .ref a :: st) h Q = mr_ai (h.1 a) x (fun v => mr_wp 131 122 [v0, v1, v2] (.int v :: st) h Q)) ∧
    (∀ (v0 v1 v2 : Value) (st : List Value) (h : mr_h) (Q : Option Value → mr_h → Prop), mr_wp 131 122 [v0, v1, v2] st h Q = mr_wp 131 130 [v0, v1, v2] st h Q) ∧
    (∀ (v1 v2 : Value) (x : Nat) (st : List Value) (h : mr_h) (Q : Option Value → mr_h → Prop), mr_wp 131 125 [.ref x, v1, v2] st h Q = mr_wp 131 126 [.ref x, v1, v2] (.ref x :: st) h Q) ∧
    (∀ (v0 v2 : Value) (x : Int32) (st : List Value) (h : mr_h) (Q : Option Value → mr_h → Prop), mr_wp 131 126 [v0, .int x, v2] st h Q = mr_wp 131 127 [v0, .int x, v2] (.int x :: st) h Q) ∧
    (∀ (v0 v1 v2 : Value) (a0 : Int32) (o : Nat) (h : mr_h) (Q : Option Value → mr_h → Prop), mr_wp 131 127 [v0, v1, v2] [.int a0, .ref o] h Q = mr_rc (h.1 o) 11 (mr_run 136 [.ref o, .int a0] h (fun v h' => mr_wp 131 130 [v0, v1, v2] (v.toList ++ []) h' Q))) ∧
    (∀ (v0 v1 v2 : Value) (x : Int32) (h : mr_h) (Q : Option Value → mr_h → Prop), mr_wp 131 130 [v0, v1, v2] [.int x] h Q = Q (some (.int x)) h) :=
  ⟨fun v0 v1 v2 x y st h Q => gx_one (i := .iadd) (len := 1) (by decide +kernel) rfl,
   fun v0 v1 v2 a x st h Q => gx_iald (by decide +kernel),
   fun v0 v1 v2 x h Q => gx_ret (i := .ireturn) (len := 1) (by decide +kernel) rfl rfl (by simp only [mr_rt, if_pos]; rw [if_pos (Or.inl (by decide +kernel))]),
   fun v0 v1 x st h Q => gx_one (i := .iload_n 2) (len := 1) (by decide +kernel) rfl,
   fun v0 v1 v2 st h Q => gx_one (i := .iconst 3) (len := 1) (by decide +kernel) rfl,
   fun v0 v1 v2 x y st h Q => gx_br (i := .if_icmp .ne 15) (len := 3) (c := .ne) (by decide +kernel) rfl rfl,
   fun v1 v2 x st h Q => gx_one (i := .aload_n 0) (len := 1) (by decide +kernel) rfl,
   fun v0 v2 x st h Q => gx_one (i := .iload_n 1) (len := 1) (by decide +kernel) rfl,
   fun v1 v2 x st h Q => gx_one (i := .aload_n 0) (len := 1) (by decide +kernel) rfl,
   fun v0 v1 v2 o r0 r1 h Q => gx_virt (x := 162) (n := 0) (by decide +kernel) (by decide +kernel) rfl (Or.inl (Nat.le_of_ble_eq_true rfl)) (by show _ ≤ mr_mxl 138; rw [show mr_mxl 138 = 3 from by decide +kernel]; exact Nat.le_of_ble_eq_true rfl) (by decide +kernel),
   fun v0 v1 v2 a0 a1 o h Q => gx_virt (x := 166) (n := 2) (by decide +kernel) (by decide +kernel) rfl (Or.inl (Nat.le_of_ble_eq_true rfl)) (by show _ ≤ mr_mxl 139; rw [show mr_mxl 139 = 6 from by decide +kernel]; exact Nat.le_of_ble_eq_true rfl) (by decide +kernel),
   fun v0 v1 v2 st h Q => gx_one (i := .goto 39) (len := 3) (by decide +kernel) rfl,
   fun v0 v1 x st h Q => gx_one (i := .iload_n 2) (len := 1) (by decide +kernel) rfl,
   fun v0 v1 v2 st h Q => gx_one (i := .iconst 4) (len := 1) (by decide +kernel) rfl,
   fun v0 v1 v2 x y st h Q => gx_br (i := .if_icmp .ne 15) (len := 3) (c := .ne) (by decide +kernel) rfl rfl,
   fun v1 v2 x st h Q => gx_one (i := .aload_n 0) (len := 1) (by decide +kernel) rfl,
   fun v0 v2 x st h Q => gx_one (i := .iload_n 1) (len := 1) (by decide +kernel) rfl,
   fun v1 v2 x st h Q => gx_one (i := .aload_n 0) (len := 1) (by decide +kernel) rfl,
   fun v0 v1 v2 o r0 r1 h Q => gx_virt (x := 162) (n := 0) (by decide +kernel) (by decide +kernel) rfl (Or.inl (Nat.le_of_ble_eq_true rfl)) (by show _ ≤ mr_mxl 138; rw [show mr_mxl 138 = 3 from by decide +kernel]; exact Nat.le_of_ble_eq_true rfl) (by decide +kernel),
   fun v0 v1 v2 a0 a1 o h Q => gx_virt (x := 170) (n := 2) (by decide +kernel) (by decide +kernel) rfl (Or.inl (Nat.le_of_ble_eq_true rfl)) (by show _ ≤ mr_mxl 142; rw [show mr_mxl 142 = 6 from by decide +kernel]; exact Nat.le_of_ble_eq_true rfl) (by decide +kernel),
   fun v0 v1 v2 st h Q => gx_one (i := .goto 22) (len := 3) (by decide +kernel) rfl,
   fun v0 v1 x st h Q => gx_one (i := .iload_n 2) (len := 1) (by decide +kernel) rfl,
   fun v0 v1 v2 st h Q => gx_one (i := .iconst 5) (len := 1) (by decide +kernel) rfl,
   fun v0 v1 v2 x y st h Q => gx_br (i := .if_icmp .ne 12) (len := 3) (c := .ne) (by decide +kernel) rfl rfl,
   fun v1 v2 x st h Q => gx_one (i := .aload_n 0) (len := 1) (by decide +kernel) rfl,
   fun v0 v1 v2 a st h Q => gx_get (x := 41) (by decide +kernel) (by decide +kernel),
   fun v0 v2 x st h Q => gx_one (i := .iload_n 1) (len := 1) (by decide +kernel) rfl,
   fun v0 v1 v2 a x st h Q => gx_iald (by decide +kernel),
   fun v0 v1 v2 st h Q => gx_one (i := .goto 8) (len := 3) (by decide +kernel) rfl,
   fun v1 v2 x st h Q => gx_one (i := .aload_n 0) (len := 1) (by decide +kernel) rfl,
   fun v0 v2 x st h Q => gx_one (i := .iload_n 1) (len := 1) (by decide +kernel) rfl,
   fun v0 v1 v2 a0 o h Q => gx_virt (x := 139) (n := 1) (by decide +kernel) (by decide +kernel) rfl (Or.inl (Nat.le_of_ble_eq_true rfl)) (by show _ ≤ mr_mxl 136; rw [show mr_mxl 136 = 4 from by decide +kernel]; exact Nat.le_of_ble_eq_true rfl) (by decide +kernel),
   fun v0 v1 v2 x h Q => gx_ret (i := .ireturn) (len := 1) (by decide +kernel) rfl rfl (by simp only [mr_rt, if_pos]; rw [if_pos (Or.inl (by decide +kernel))])⟩

theorem S_mo_isNode : (∀ (v0 : Value) (x : Int32) (st : List Value) (h : mr_h) (Q : Option Value → mr_h → Prop), mr_wp 132 0 [v0, .int x] st h Q = mr_wp 132 1 [v0, .int x] (.int x :: st) h Q) ∧
    (∀ (v0 v1 : Value) (st : List Value) (h : mr_h) (Q : Option Value → mr_h → Prop), mr_wp 132 1 [v0, v1] st h Q = mr_wp 132 2 [v0, v1] (.int (0) :: st) h Q) ∧
    (∀ (v1 : Value) (x : Nat) (st : List Value) (h : mr_h) (Q : Option Value → mr_h → Prop), mr_wp 132 2 [.ref x, v1] st h Q = mr_wp 132 3 [.ref x, v1] (.ref x :: st) h Q) ∧
    (∀ (v0 v1 : Value) (a : Nat) (st : List Value) (h : mr_h) (Q : Option Value → mr_h → Prop), mr_wp 132 3 [v0, v1] (.ref a :: st) h Q = mr_gf (h.1 a) 11 8 (fun v => mr_wp 132 6 [v0, v1] (v :: st) h Q)) ∧
    (∀ (v0 v1 : Value) (st : List Value) (h : mr_h) (Q : Option Value → mr_h → Prop), mr_wp 132 6 [v0, v1] st h Q = mr_wp 132 7 [v0, v1] (.int (1) :: st) h Q) ∧
    (∀ (v0 v1 : Value) (x : Int32) (y : Int32) (st : List Value) (h : mr_h) (Q : Option Value → mr_h → Prop), mr_wp 132 7 [v0, v1] (.int y :: .int x :: st) h Q = mr_wp 132 8 [v0, v1] (.int (x - y) :: st) h Q) ∧
    (∀ (v0 v1 : Value) (a0 : Int32) (a1 : Int32) (a2 : Int32) (h : mr_h) (Q : Option Value → mr_h → Prop), mr_wp 132 8 [v0, v1] [.int a2, .int a1, .int a0] h Q = mr_run 121 [.int a0, .int a1, .int a2] h (fun v h' => mr_wp 132 11 [v0, v1] (v.toList ++ []) h' Q)) ∧
    (∀ (v0 v1 : Value) (x : Int32) (h : mr_h) (Q : Option Value → mr_h → Prop) (hv : x &&& 1 = x), mr_wp 132 11 [v0, v1] [.int x] h Q = Q (some (.int x)) h) :=
  ⟨fun v0 x st h Q => gx_one (i := .iload_n 1) (len := 1) (by decide +kernel) rfl,
   fun v0 v1 st h Q => gx_one (i := .iconst 0) (len := 1) (by decide +kernel) rfl,
   fun v1 x st h Q => gx_one (i := .aload_n 0) (len := 1) (by decide +kernel) rfl,
   fun v0 v1 a st h Q => gx_get (x := 123) (by decide +kernel) (by decide +kernel),
   fun v0 v1 st h Q => gx_one (i := .iconst 1) (len := 1) (by decide +kernel) rfl,
   fun v0 v1 x y st h Q => gx_one (i := .isub) (len := 1) (by decide +kernel) rfl,
   fun v0 v1 a0 a1 a2 h Q => gx_stat (x := 69) (t := 121) (n := 3) (by decide +kernel) (by decide +kernel) (by decide) (by decide +kernel) rfl (Or.inl (Nat.le_of_ble_eq_true rfl)) (by show _ ≤ mr_mxl 121; rw [show mr_mxl 121 = 3 from by decide +kernel]; exact Nat.le_of_ble_eq_true rfl),
   fun v0 v1 x h Q hv => gx_ret (i := .ireturn) (len := 1) (by decide +kernel) rfl rfl (by simp only [mr_rt, if_pos]; rw [if_pos (Or.inr ⟨by decide +kernel, hv⟩)])⟩
theorem s_mo_comesBy_2 (v0 v1 v2 v4 : Value) (x : Int32) (st : List Value) (h : mr_h) (Q : Option Value → mr_h → Prop) : mr_wp 133 2 [v0, v1, v2, .int x, v4] st h Q = mr_wp 133 3 [v0, v1, v2, .int x, v4] (.int x :: st) h Q := gx_one (i := .iload_n 3) (len := 1) (by decide +kernel) rfl
theorem s_mo_comesBy_30 (v0 v1 v2 v4 : Value) (x : Int32) (st : List Value) (h : mr_h) (Q : Option Value → mr_h → Prop) : mr_wp 133 30 [v0, v1, v2, .int x, v4] st h Q = mr_wp 133 31 [v0, v1, v2, .int x, v4] (.int x :: st) h Q := gx_one (i := .iload_n 3) (len := 1) (by decide +kernel) rfl
theorem s_mo_comesBy_41 (v0 v1 v2 v3 : Value) (x : Int32) (st : List Value) (h : mr_h) (Q : Option Value → mr_h → Prop) : mr_wp 133 41 [v0, v1, v2, v3, .int x] st h Q = mr_wp 133 43 [v0, v1, v2, v3, .int x] (.int x :: st) h Q := gx_one (i := .iload 4) (len := 2) (by decide +kernel) rfl
theorem S_mo_comesBy_0 : (∀ (v0 v1 v2 v3 v4 : Value) (st : List Value) (h : mr_h) (Q : Option Value → mr_h → Prop), mr_wp 133 0 [v0, v1, v2, v3, v4] st h Q = mr_wp 133 1 [v0, v1, v2, v3, v4] (.int (0) :: st) h Q) ∧
    (∀ (v0 v1 v3 v4 : Value) (w2 : Nat) (x : Int32) (st : List Value) (h : mr_h) (Q : Option Value → mr_h → Prop), mr_wp 133 1 [v0, v1, .ref w2, v3, v4] (.int x :: st) h Q = mr_wp 133 2 [v0, v1, .ref w2, .int x, v4] st h Q) ∧
    (∀ (v1 v2 v3 v4 : Value) (x : Nat) (st : List Value) (h : mr_h) (Q : Option Value → mr_h → Prop), mr_wp 133 3 [.ref x, v1, v2, v3, v4] st h Q = mr_wp 133 4 [.ref x, v1, v2, v3, v4] (.ref x :: st) h Q) ∧
    (∀ (v0 v1 v2 v3 v4 : Value) (a : Nat) (st : List Value) (h : mr_h) (Q : Option Value → mr_h → Prop), mr_wp 133 4 [v0, v1, v2, v3, v4] (.ref a :: st) h Q = mr_gf (h.1 a) 11 8 (fun v => mr_wp 133 7 [v0, v1, v2, v3, v4] (v :: st) h Q)) ∧
    (∀ (v0 v1 v2 v3 v4 : Value) (x : Int32) (y : Int32) (st : List Value) (h : mr_h) (Q : Option Value → mr_h → Prop), mr_wp 133 7 [v0, v1, v2, v3, v4] (.int y :: .int x :: st) h Q = if y ≤ x then mr_wp 133 28 [v0, v1, v2, v3, v4] st h Q else mr_wp 133 10 [v0, v1, v2, v3, v4] st h Q) ∧
    (∀ (v0 v1 v3 v4 : Value) (x : Nat) (st : List Value) (h : mr_h) (Q : Option Value → mr_h → Prop), mr_wp 133 10 [v0, v1, .ref x, v3, v4] st h Q = mr_wp 133 11 [v0, v1, .ref x, v3, v4] (.ref x :: st) h Q) ∧
    (∀ (v0 v1 v2 v4 : Value) (x : Int32) (st : List Value) (h : mr_h) (Q : Option Value → mr_h → Prop), mr_wp 133 11 [v0, v1, v2, .int x, v4] st h Q = mr_wp 133 12 [v0, v1, v2, .int x, v4] (.int x :: st) h Q) ∧
    (∀ (v0 v1 v2 v3 v4 : Value) (st : List Value) (h : mr_h) (Q : Option Value → mr_h → Prop), mr_wp 133 12 [v0, v1, v2, v3, v4] st h Q = mr_wp 133 13 [v0, v1, v2, v3, v4] (.int (1) :: st) h Q) ∧
    (∀ (v0 v1 v2 v4 : Value) (x : Int32) (st : List Value) (h : mr_h) (Q : Option Value → mr_h → Prop), mr_wp 133 13 [v0, v1, v2, .int x, v4] st h Q = mr_wp 133 14 [v0, v1, v2, .int x, v4] (.int x :: st) h Q) ∧
    (∀ (v0 v1 v2 v3 v4 : Value) (x : Int32) (y : Int32) (st : List Value) (h : mr_h) (Q : Option Value → mr_h → Prop), mr_wp 133 14 [v0, v1, v2, v3, v4] (.int y :: .int x :: st) h Q = mr_wp 133 15 [v0, v1, v2, v3, v4] (.int (x <<< (y &&& 31)) :: st) h Q) ∧
    (∀ (v0 v2 v3 v4 : Value) (x : Nat) (st : List Value) (h : mr_h) (Q : Option Value → mr_h → Prop), mr_wp 133 15 [v0, .ref x, v2, v3, v4] st h Q = mr_wp 133 16 [v0, .ref x, v2, v3, v4] (.ref x :: st) h Q) ∧
    (∀ (v0 v1 v2 v3 v4 : Value) (st : List Value) (h : mr_h) (Q : Option Value → mr_h → Prop), mr_wp 133 16 [v0, v1, v2, v3, v4] st h Q = mr_wp 133 17 [v0, v1, v2, v3, v4] (.int (0) :: st) h Q) ∧
    (∀ (v0 v1 v2 v4 : Value) (x : Int32) (st : List Value) (h : mr_h) (Q : Option Value → mr_h → Prop), mr_wp 133 17 [v0, v1, v2, .int x, v4] st h Q = mr_wp 133 18 [v0, v1, v2, .int x, v4] (.int x :: st) h Q) ∧
    (∀ (v0 v1 v2 v3 v4 : Value) (x : Int32) (y : Int32) (st : List Value) (h : mr_h) (Q : Option Value → mr_h → Prop), mr_wp 133 18 [v0, v1, v2, v3, v4] (.int y :: .int x :: st) h Q = mr_wp 133 19 [v0, v1, v2, v3, v4] (.int (x + y) :: st) h Q) ∧
    (∀ (v0 v1 v2 v3 v4 : Value) (a : Nat) (x : Int32) (st : List Value) (h : mr_h) (Q : Option Value → mr_h → Prop), mr_wp 133 19 [v0, v1, v2, v3, v4] (.int x :: .ref a :: st) h Q = mr_ai (h.1 a) x (fun v => mr_wp 133 20 [v0, v1, v2, v3, v4] (.int v :: st) h Q)) ∧
    (∀ (v0 v1 v2 v3 v4 : Value) (x : Int32) (y : Int32) (st : List Value) (h : mr_h) (Q : Option Value → mr_h → Prop), mr_wp 133 20 [v0, v1, v2, v3, v4] (.int y :: .int x :: st) h Q = mr_wp 133 21 [v0, v1, v2, v3, v4] (.int (x ||| y) :: st) h Q) ∧
    (∀ (v0 v1 v2 v3 v4 : Value) (a : Nat) (x : Int32) (y : Int32) (st : List Value) (h : mr_h) (Q : Option Value → mr_h → Prop), mr_wp 133 21 [v0, v1, v2, v3, v4] (.int y :: .int x :: .ref a :: st) h Q = mr_si (h.1 a) x y (fun c => mr_wp 133 22 [v0, v1, v2, v3, v4] st (mr_up h a c) Q)) ∧
    (∀ (v0 v1 v4 : Value) (x : Int32) (w2 : Nat) (st : List Value) (h : mr_h) (Q : Option Value → mr_h → Prop), mr_wp 133 22 [v0, v1, .ref w2, .int x, v4] st h Q = mr_wp 133 25 [v0, v1, .ref w2, .int (x + (1)), v4] st h Q) ∧
    (∀ (v0 v1 v2 v3 v4 : Value) (st : List Value) (h : mr_h) (Q : Option Value → mr_h → Prop), mr_wp 133 25 [v0, v1, v2, v3, v4] st h Q = mr_wp 133 2 [v0, v1, v2, v3, v4] st h Q) ∧
    (∀ (v0 v1 v2 v3 v4 : Value) (st : List Value) (h : mr_h) (Q : Option Value → mr_h → Prop), mr_wp 133 28 [v0, v1, v2, v3, v4] st h Q = mr_wp 133 29 [v0, v1, v2, v3, v4] (.int (0) :: st) h Q) ∧
    (∀ (v0 v1 v3 v4 : Value) (w2 : Nat) (x : Int32) (st : List Value) (h : mr_h) (Q : Option Value → mr_h → Prop), mr_wp 133 29 [v0, v1, .ref w2, v3, v4] (.int x :: st) h Q = mr_wp 133 30 [v0, v1, .ref w2, .int x, v4] st h Q) ∧
    (∀ (v1 v2 v3 v4 : Value) (x : Nat) (st : List Value) (h : mr_h) (Q : Option Value → mr_h → Prop), mr_wp 133 31 [.ref x, v1, v2, v3, v4] st h Q = mr_wp 133 32 [.ref x, v1, v2, v3, v4] (.ref x :: st) h Q) ∧
    (∀ (v0 v1 v2 v3 v4 : Value) (a : Nat) (st : List Value) (h : mr_h) (Q : Option Value → mr_h → Prop), mr_wp 133 32 [v0, v1, v2, v3, v4] (.ref a :: st) h Q = mr_gf (h.1 a) 11 8 (fun v => mr_wp 133 35 [v0, v1, v2, v3, v4] (v :: st) h Q)) ∧
    (∀ (v0 v1 v2 v3 v4 : Value) (x : Int32) (y : Int32) (st : List Value) (h : mr_h) (Q : Option Value → mr_h → Prop), mr_wp 133 35 [v0, v1, v2, v3, v4] (.int y :: .int x :: st) h Q = if y ≤ x then mr_wp 133 87 [v0, v1, v2, v3, v4] st h Q else mr_wp 133 38 [v0, v1, v2, v3, v4] st h Q) ∧
    (∀ (v0 v1 v2 v3 v4 : Value) (st : List Value) (h : mr_h) (Q : Option Value → mr_h → Prop), mr_wp 133 38 [v0, v1, v2, v3, v4] st h Q = mr_wp 133 39 [v0, v1, v2, v3, v4] (.int (0) :: st) h Q) ∧
    (∀ (v0 v1 v2 v4 : Value) (w3 : Int32) (x : Int32) (st : List Value) (h : mr_h) (Q : Option Value → mr_h → Prop), mr_wp 133 39 [v0, v1, v2, .int w3, v4] (.int x :: st) h Q = mr_wp 133 41 [v0, v1, v2, .int w3, .int x] st h Q) ∧
    (∀ (v1 v2 v3 v4 : Value) (x : Nat) (st : List Value) (h : mr_h) (Q : Option Value → mr_h → Prop), mr_wp 133 43 [.ref x, v1, v2, v3, v4] st h Q = mr_wp 133 44 [.ref x, v1, v2, v3, v4] (.ref x :: st) h Q) ∧
    (∀ (v0 v1 v2 v3 v4 : Value) (a : Nat) (st : List Value) (h : mr_h) (Q : Option Value → mr_h → Prop), mr_wp 133 44 [v0, v1, v2, v3, v4] (.ref a :: st) h Q = mr_gf (h.1 a) 11 8 (fun v => mr_wp 133 47 [v0, v1, v2, v3, v4] (v :: st) h Q)) ∧
    (∀ (v0 v1 v2 v3 v4 : Value) (x : Int32) (y : Int32) (st : List Value) (h : mr_h) (Q : Option Value → mr_h → Prop), mr_wp 133 47 [v0, v1, v2, v3, v4] (.int y :: .int x :: st) h Q = if y ≤ x then mr_wp 133 81 [v0, v1, v2, v3, v4] st h Q else mr_wp 133 50 [v0, v1, v2, v3, v4] st h Q) ∧
    (∀ (v0 v1 v3 v4 : Value) (x : Nat) (st : List Value) (h : mr_h) (Q : Option Value → mr_h → Prop), mr_wp 133 50 [v0, v1, .ref x, v3, v4] st h Q = mr_wp 133 51 [v0, v1, .ref x, v3, v4] (.ref x :: st) h Q) ∧
    (∀ (v0 v1 v2 v3 : Value) (x : Int32) (st : List Value) (h : mr_h) (Q : Option Value → mr_h → Prop), mr_wp 133 51 [v0, v1, v2, v3, .int x] st h Q = mr_wp 133 53 [v0, v1, v2, v3, .int x] (.int x :: st) h Q) ∧
    (∀ (v0 v1 v2 v3 v4 : Value) (x : Int32) (y : Nat) (st : List Value) (h : mr_h) (Q : Option Value → mr_h → Prop), mr_wp 133 53 [v0, v1, v2, v3, v4] (.int x :: .ref y :: st) h Q = mr_wp 133 54 [v0, v1, v2, v3, v4] (.int x :: .ref y :: .int x :: .ref y :: st) h Q) ∧
    (∀ (v0 v1 v2 v3 v4 : Value) (a : Nat) (x : Int32) (st : List Value) (h : mr_h) (Q : Option Value → mr_h → Prop), mr_wp 133 54 [v0, v1, v2, v3, v4] (.int x :: .ref a :: st) h Q = mr_ai (h.1 a) x (fun v => mr_wp 133 55 [v0, v1, v2, v3, v4] (.int v :: st) h Q)) ∧
    (∀ (v0 v1 v3 v4 : Value) (x : Nat) (st : List Value) (h : mr_h) (Q : Option Value → mr_h → Prop), mr_wp 133 55 [v0, v1, .ref x, v3, v4] st h Q = mr_wp 133 56 [v0, v1, .ref x, v3, v4] (.ref x :: st) h Q) ∧
    (∀ (v0 v1 v2 v3 : Value) (x : Int32) (st : List Value) (h : mr_h) (Q : Option Value → mr_h → Prop), mr_wp 133 56 [v0, v1, v2, v3, .int x] st h Q = mr_wp 133 58 [v0, v1, v2, v3, .int x] (.int x :: st) h Q) ∧
    (∀ (v0 v1 v2 v3 v4 : Value) (a : Nat) (x : Int32) (st : List Value) (h : mr_h) (Q : Option Value → mr_h → Prop), mr_wp 133 58 [v0, v1, v2, v3, v4] (.int x :: .ref a :: st) h Q = mr_ai (h.1 a) x (fun v => mr_wp 133 59 [v0, v1, v2, v3, v4] (.int v :: st) h Q)) ∧
    (∀ (v0 v1 v2 v4 : Value) (x : Int32) (st : List Value) (h : mr_h) (Q : Option Value → mr_h → Prop), mr_wp 133 59 [v0, v1, v2, .int x, v4] st h Q = mr_wp 133 60 [v0, v1, v2, .int x, v4] (.int x :: st) h Q) ∧
    (∀ (v0 v1 v2 v3 v4 : Value) (a0 : Int32) (a1 : Int32) (r0 : Value) (r1 : Value) (r2 : Value) (h : mr_h) (Q : Option Value → mr_h → Prop), mr_wp 133 60 [v0, v1, v2, v3, v4] [.int a1, .int a0, r0, r1, r2] h Q = mr_run 130 [.int a0, .int a1] h (fun v h' => mr_wp 133 63 [v0, v1, v2, v3, v4] (v.toList ++ [r0, r1, r2]) h' Q)) ∧
    (∀ (v0 v1 v2 v3 v4 : Value) (x : Int32) (st : List Value) (h : mr_h) (Q : Option Value → mr_h → Prop), mr_wp 133 63 [v0, v1, v2, v3, v4] (.int x :: st) h Q = if x = 0 then mr_wp 133 72 [v0, v1, v2, v3, v4] st h Q else mr_wp 133 66 [v0, v1, v2, v3, v4] st h Q) ∧
    (∀ (v0 v1 v3 v4 : Value) (x : Nat) (st : List Value) (h : mr_h) (Q : Option Value → mr_h → Prop), mr_wp 133 66 [v0, v1, .ref x, v3, v4] st h Q = mr_wp 133 67 [v0, v1, .ref x, v3, v4] (.ref x :: st) h Q) :=
  ⟨fun v0 v1 v2 v3 v4 st h Q => gx_one (i := .iconst 0) (len := 1) (by decide +kernel) rfl,
   fun v0 v1 v3 v4 w2 x st h Q => gx_one (i := .istore_n 3) (len := 1) (by decide +kernel) rfl,
   fun v1 v2 v3 v4 x st h Q => gx_one (i := .aload_n 0) (len := 1) (by decide +kernel) rfl,
   fun v0 v1 v2 v3 v4 a st h Q => gx_get (x := 123) (by decide +kernel) (by decide +kernel),
   fun v0 v1 v2 v3 v4 x y st h Q => gx_br (i := .if_icmp .ge 21) (len := 3) (c := .ge) (by decide +kernel) rfl rfl,
   fun v0 v1 v3 v4 x st h Q => gx_one (i := .aload_n 2) (len := 1) (by decide +kernel) rfl,
   fun v0 v1 v2 v4 x st h Q => gx_one (i := .iload_n 3) (len := 1) (by decide +kernel) rfl,
   fun v0 v1 v2 v3 v4 st h Q => gx_one (i := .iconst 1) (len := 1) (by decide +kernel) rfl,
   fun v0 v1 v2 v4 x st h Q => gx_one (i := .iload_n 3) (len := 1) (by decide +kernel) rfl,
   fun v0 v1 v2 v3 v4 x y st h Q => gx_one (i := .ishl) (len := 1) (by decide +kernel) rfl,
   fun v0 v2 v3 v4 x st h Q => gx_one (i := .aload_n 1) (len := 1) (by decide +kernel) rfl,
   fun v0 v1 v2 v3 v4 st h Q => gx_one (i := .iconst 0) (len := 1) (by decide +kernel) rfl,
   fun v0 v1 v2 v4 x st h Q => gx_one (i := .iload_n 3) (len := 1) (by decide +kernel) rfl,
   fun v0 v1 v2 v3 v4 x y st h Q => gx_one (i := .iadd) (len := 1) (by decide +kernel) rfl,
   fun v0 v1 v2 v3 v4 a x st h Q => gx_iald (by decide +kernel),
   fun v0 v1 v2 v3 v4 x y st h Q => gx_one (i := .ior) (len := 1) (by decide +kernel) rfl,
   fun v0 v1 v2 v3 v4 a x y st h Q => gx_iast (by decide +kernel),
   fun v0 v1 v4 x w2 st h Q => gx_one (i := .iinc 3 1) (len := 3) (by decide +kernel) rfl,
   fun v0 v1 v2 v3 v4 st h Q => gx_one (i := .goto (-23)) (len := 3) (by decide +kernel) rfl,
   fun v0 v1 v2 v3 v4 st h Q => gx_one (i := .iconst 0) (len := 1) (by decide +kernel) rfl,
   fun v0 v1 v3 v4 w2 x st h Q => gx_one (i := .istore_n 3) (len := 1) (by decide +kernel) rfl,
   fun v1 v2 v3 v4 x st h Q => gx_one (i := .aload_n 0) (len := 1) (by decide +kernel) rfl,
   fun v0 v1 v2 v3 v4 a st h Q => gx_get (x := 123) (by decide +kernel) (by decide +kernel),
   fun v0 v1 v2 v3 v4 x y st h Q => gx_br (i := .if_icmp .ge 52) (len := 3) (c := .ge) (by decide +kernel) rfl rfl,
   fun v0 v1 v2 v3 v4 st h Q => gx_one (i := .iconst 0) (len := 1) (by decide +kernel) rfl,
   fun v0 v1 v2 v4 w3 x st h Q => gx_one (i := .istore 4) (len := 2) (by decide +kernel) rfl,
   fun v1 v2 v3 v4 x st h Q => gx_one (i := .aload_n 0) (len := 1) (by decide +kernel) rfl,
   fun v0 v1 v2 v3 v4 a st h Q => gx_get (x := 123) (by decide +kernel) (by decide +kernel),
   fun v0 v1 v2 v3 v4 x y st h Q => gx_br (i := .if_icmp .ge 34) (len := 3) (c := .ge) (by decide +kernel) rfl rfl,
   fun v0 v1 v3 v4 x st h Q => gx_one (i := .aload_n 2) (len := 1) (by decide +kernel) rfl,
   fun v0 v1 v2 v3 x st h Q => gx_one (i := .iload 4) (len := 2) (by decide +kernel) rfl,
   fun v0 v1 v2 v3 v4 x y st h Q => gx_one (i := .dup2) (len := 1) (by decide +kernel) rfl,
   fun v0 v1 v2 v3 v4 a x st h Q => gx_iald (by decide +kernel),
   fun v0 v1 v3 v4 x st h Q => gx_one (i := .aload_n 2) (len := 1) (by decide +kernel) rfl,
   fun v0 v1 v2 v3 x st h Q => gx_one (i := .iload 4) (len := 2) (by decide +kernel) rfl,
   fun v0 v1 v2 v3 v4 a x st h Q => gx_iald (by decide +kernel),
   fun v0 v1 v2 v4 x st h Q => gx_one (i := .iload_n 3) (len := 1) (by decide +kernel) rfl,
   fun v0 v1 v2 v3 v4 a0 a1 r0 r1 r2 h Q => gx_stat (x := 116) (t := 130) (n := 2) (by decide +kernel) (by decide +kernel) (by decide) (by decide +kernel) rfl (Or.inl (Nat.le_of_ble_eq_true rfl)) (by show _ ≤ mr_mxl 130; rw [show mr_mxl 130 = 2 from by decide +kernel]; exact Nat.le_of_ble_eq_true rfl),
   fun v0 v1 v2 v3 v4 x st h Q => gx_br (i := .ifCond .eq 9) (len := 3) (c := .eq) (by decide +kernel) rfl rfl,
   fun v0 v1 v3 v4 x st h Q => gx_one (i := .aload_n 2) (len := 1) (by decide +kernel) rfl⟩
theorem S_mo_comesBy_1 : (∀ (v0 v1 v2 v4 : Value) (x : Int32) (st : List Value) (h : mr_h) (Q : Option Value → mr_h → Prop), mr_wp 133 67 [v0, v1, v2, .int x, v4] st h Q = mr_wp 133 68 [v0, v1, v2, .int x, v4] (.int x :: st) h Q) ∧
    (∀ (v0 v1 v2 v3 v4 : Value) (a : Nat) (x : Int32) (st : List Value) (h : mr_h) (Q : Option Value → mr_h → Prop), mr_wp 133 68 [v0, v1, v2, v3, v4] (.int x :: .ref a :: st) h Q = mr_ai (h.1 a) x (fun v => mr_wp 133 69 [v0, v1, v2, v3, v4] (.int v :: st) h Q)) ∧
    (∀ (v0 v1 v2 v3 v4 : Value) (st : List Value) (h : mr_h) (Q : Option Value → mr_h → Prop), mr_wp 133 69 [v0, v1, v2, v3, v4] st h Q = mr_wp 133 73 [v0, v1, v2, v3, v4] st h Q) ∧
    (∀ (v0 v1 v2 v3 v4 : Value) (st : List Value) (h : mr_h) (Q : Option Value → mr_h → Prop), mr_wp 133 72 [v0, v1, v2, v3, v4] st h Q = mr_wp 133 73 [v0, v1, v2, v3, v4] (.int (0) :: st) h Q) ∧
    (∀ (v0 v1 v2 v3 v4 : Value) (x : Int32) (y : Int32) (st : List Value) (h : mr_h) (Q : Option Value → mr_h → Prop), mr_wp 133 73 [v0, v1, v2, v3, v4] (.int y :: .int x :: st) h Q = mr_wp 133 74 [v0, v1, v2, v3, v4] (.int (x ||| y) :: st) h Q) ∧
    (∀ (v0 v1 v2 v3 v4 : Value) (a : Nat) (x : Int32) (y : Int32) (st : List Value) (h : mr_h) (Q : Option Value → mr_h → Prop), mr_wp 133 74 [v0, v1, v2, v3, v4] (.int y :: .int x :: .ref a :: st) h Q = mr_si (h.1 a) x y (fun c => mr_wp 133 75 [v0, v1, v2, v3, v4] st (mr_up h a c) Q)) ∧
    (∀ (v0 v1 v2 : Value) (x : Int32) (w3 : Int32) (st : List Value) (h : mr_h) (Q : Option Value → mr_h → Prop), mr_wp 133 75 [v0, v1, v2, .int w3, .int x] st h Q = mr_wp 133 78 [v0, v1, v2, .int w3, .int (x + (1))] st h Q) ∧
    (∀ (v0 v1 v2 v3 v4 : Value) (st : List Value) (h : mr_h) (Q : Option Value → mr_h → Prop), mr_wp 133 78 [v0, v1, v2, v3, v4] st h Q = mr_wp 133 41 [v0, v1, v2, v3, v4] st h Q) ∧
    (∀ (v0 v1 v4 : Value) (x : Int32) (w2 : Nat) (st : List Value) (h : mr_h) (Q : Option Value → mr_h → Prop), mr_wp 133 81 [v0, v1, .ref w2, .int x, v4] st h Q = mr_wp 133 84 [v0, v1, .ref w2, .int (x + (1)), v4] st h Q) ∧
    (∀ (v0 v1 v2 v3 v4 : Value) (st : List Value) (h : mr_h) (Q : Option Value → mr_h → Prop), mr_wp 133 84 [v0, v1, v2, v3, v4] st h Q = mr_wp 133 30 [v0, v1, v2, v3, v4] st h Q) ∧
    (∀ (v0 v1 v2 v3 v4 : Value) (h : mr_h) (Q : Option Value → mr_h → Prop), mr_wp 133 87 [v0, v1, v2, v3, v4] [] h Q = Q none h) :=
  ⟨fun v0 v1 v2 v4 x st h Q => gx_one (i := .iload_n 3) (len := 1) (by decide +kernel) rfl,
   fun v0 v1 v2 v3 v4 a x st h Q => gx_iald (by decide +kernel),
   fun v0 v1 v2 v3 v4 st h Q => gx_one (i := .goto 4) (len := 3) (by decide +kernel) rfl,
   fun v0 v1 v2 v3 v4 st h Q => gx_one (i := .iconst 0) (len := 1) (by decide +kernel) rfl,
   fun v0 v1 v2 v3 v4 x y st h Q => gx_one (i := .ior) (len := 1) (by decide +kernel) rfl,
   fun v0 v1 v2 v3 v4 a x y st h Q => gx_iast (by decide +kernel),
   fun v0 v1 v2 x w3 st h Q => gx_one (i := .iinc 4 1) (len := 3) (by decide +kernel) rfl,
   fun v0 v1 v2 v3 v4 st h Q => gx_one (i := .goto (-37)) (len := 3) (by decide +kernel) rfl,
   fun v0 v1 v4 x w2 st h Q => gx_one (i := .iinc 3 1) (len := 3) (by decide +kernel) rfl,
   fun v0 v1 v2 v3 v4 st h Q => gx_one (i := .goto (-54)) (len := 3) (by decide +kernel) rfl,
   fun v0 v1 v2 v3 v4 h Q => gx_ret (i := .return_) (len := 1) (by decide +kernel) rfl rfl (by simp only [mr_rt, if_pos]; rw [if_pos (by decide +kernel)])⟩

theorem S_mo_nameOf : (∀ (v1 : Value) (x : Nat) (st : List Value) (h : mr_h) (Q : Option Value → mr_h → Prop), mr_wp 134 0 [.ref x, v1] st h Q = mr_wp 134 1 [.ref x, v1] (.ref x :: st) h Q) ∧
    (∀ (v0 : Value) (x : Int32) (st : List Value) (h : mr_h) (Q : Option Value → mr_h → Prop), mr_wp 134 1 [v0, .int x] st h Q = mr_wp 134 2 [v0, .int x] (.int x :: st) h Q) ∧
    (∀ (v0 v1 : Value) (a0 : Int32) (o : Nat) (h : mr_h) (Q : Option Value → mr_h → Prop), mr_wp 134 2 [v0, v1] [.int a0, .ref o] h Q = mr_rc (h.1 o) 11 (mr_run 135 [.ref o, .int a0] h (fun v h' => mr_wp 134 5 [v0, v1] (v.toList ++ []) h' Q))) ∧
    (∀ (v0 v1 : Value) (a0 : Int32) (h : mr_h) (Q : Option Value → mr_h → Prop), mr_wp 134 5 [v0, v1] [.int a0] h Q = mr_run 137 [.int a0] h (fun v h' => mr_wp 134 8 [v0, v1] (v.toList ++ []) h' Q)) ∧
    (∀ (v0 v1 : Value) (x : Int32) (h : mr_h) (Q : Option Value → mr_h → Prop), mr_wp 134 8 [v0, v1] [.int x] h Q = Q (some (.int x)) h) :=
  ⟨fun v1 x st h Q => gx_one (i := .aload_n 0) (len := 1) (by decide +kernel) rfl,
   fun v0 x st h Q => gx_one (i := .iload_n 1) (len := 1) (by decide +kernel) rfl,
   fun v0 v1 a0 o h Q => gx_virt (x := 142) (n := 1) (by decide +kernel) (by decide +kernel) rfl (Or.inl (Nat.le_of_ble_eq_true rfl)) (by show _ ≤ mr_mxl 135; rw [show mr_mxl 135 = 2 from by decide +kernel]; exact Nat.le_of_ble_eq_true rfl) (by decide +kernel),
   fun v0 v1 a0 h Q => gx_stat (x := 145) (t := 137) (n := 1) (by decide +kernel) (by decide +kernel) (by decide) (by decide +kernel) rfl (Or.inl (Nat.le_of_ble_eq_true rfl)) (by show _ ≤ mr_mxl 137; rw [show mr_mxl 137 = 2 from by decide +kernel]; exact Nat.le_of_ble_eq_true rfl),
   fun v0 v1 x h Q => gx_ret (i := .ireturn) (len := 1) (by decide +kernel) rfl rfl (by simp only [mr_rt, if_pos]; rw [if_pos (Or.inl (by decide +kernel))])⟩
theorem S_mo_ringOf : (∀ (v1 : Value) (x : Nat) (st : List Value) (h : mr_h) (Q : Option Value → mr_h → Prop), mr_wp 135 0 [.ref x, v1] st h Q = mr_wp 135 1 [.ref x, v1] (.ref x :: st) h Q) ∧
    (∀ (v0 v1 : Value) (a : Nat) (st : List Value) (h : mr_h) (Q : Option Value → mr_h → Prop), mr_wp 135 1 [v0, v1] (.ref a :: st) h Q = mr_gf (h.1 a) 11 22 (fun v => mr_wp 135 4 [v0, v1] (v :: st) h Q)) ∧
    (∀ (v0 : Value) (x : Int32) (st : List Value) (h : mr_h) (Q : Option Value → mr_h → Prop), mr_wp 135 4 [v0, .int x] st h Q = mr_wp 135 5 [v0, .int x] (.int x :: st) h Q) ∧
    (∀ (v0 v1 : Value) (a : Nat) (x : Int32) (st : List Value) (h : mr_h) (Q : Option Value → mr_h → Prop), mr_wp 135 5 [v0, v1] (.int x :: .ref a :: st) h Q = mr_ai (h.1 a) x (fun v => mr_wp 135 6 [v0, v1] (.int v :: st) h Q)) ∧
    (∀ (v1 : Value) (x : Nat) (st : List Value) (h : mr_h) (Q : Option Value → mr_h → Prop), mr_wp 135 6 [.ref x, v1] st h Q = mr_wp 135 7 [.ref x, v1] (.ref x :: st) h Q) ∧
    (∀ (v0 : Value) (x : Int32) (st : List Value) (h : mr_h) (Q : Option Value → mr_h → Prop), mr_wp 135 7 [v0, .int x] st h Q = mr_wp 135 8 [v0, .int x] (.int x :: st) h Q) ∧
    (∀ (v0 v1 : Value) (a0 : Int32) (o : Nat) (r0 : Value) (h : mr_h) (Q : Option Value → mr_h → Prop), mr_wp 135 8 [v0, v1] [.int a0, .ref o, r0] h Q = mr_rc (h.1 o) 11 (mr_run 136 [.ref o, .int a0] h (fun v h' => mr_wp 135 11 [v0, v1] (v.toList ++ [r0]) h' Q))) ∧
    (∀ (v0 v1 : Value) (x : Int32) (y : Int32) (st : List Value) (h : mr_h) (Q : Option Value → mr_h → Prop), mr_wp 135 11 [v0, v1] (.int y :: .int x :: st) h Q = mr_wp 135 12 [v0, v1] (.int (x &&& y) :: st) h Q) ∧
    (∀ (v0 v1 : Value) (x : Int32) (h : mr_h) (Q : Option Value → mr_h → Prop), mr_wp 135 12 [v0, v1] [.int x] h Q = Q (some (.int x)) h) :=
  ⟨fun v1 x st h Q => gx_one (i := .aload_n 0) (len := 1) (by decide +kernel) rfl,
   fun v0 v1 a st h Q => gx_get (x := 41) (by decide +kernel) (by decide +kernel),
   fun v0 x st h Q => gx_one (i := .iload_n 1) (len := 1) (by decide +kernel) rfl,
   fun v0 v1 a x st h Q => gx_iald (by decide +kernel),
   fun v1 x st h Q => gx_one (i := .aload_n 0) (len := 1) (by decide +kernel) rfl,
   fun v0 x st h Q => gx_one (i := .iload_n 1) (len := 1) (by decide +kernel) rfl,
   fun v0 v1 a0 o r0 h Q => gx_virt (x := 139) (n := 1) (by decide +kernel) (by decide +kernel) rfl (Or.inl (Nat.le_of_ble_eq_true rfl)) (by show _ ≤ mr_mxl 136; rw [show mr_mxl 136 = 4 from by decide +kernel]; exact Nat.le_of_ble_eq_true rfl) (by decide +kernel),
   fun v0 v1 x y st h Q => gx_one (i := .iand) (len := 1) (by decide +kernel) rfl,
   fun v0 v1 x h Q => gx_ret (i := .ireturn) (len := 1) (by decide +kernel) rfl rfl (by simp only [mr_rt, if_pos]; rw [if_pos (Or.inl (by decide +kernel))])⟩
theorem s_mo_comingTo_4 (v0 v1 v2 : Value) (x : Int32) (st : List Value) (h : mr_h) (Q : Option Value → mr_h → Prop) : mr_wp 136 4 [v0, v1, v2, .int x] st h Q = mr_wp 136 5 [v0, v1, v2, .int x] (.int x :: st) h Q := gx_one (i := .iload_n 3) (len := 1) (by decide +kernel) rfl
theorem S_mo_comingTo : (∀ (v0 v1 v2 v3 : Value) (st : List Value) (h : mr_h) (Q : Option Value → mr_h → Prop), mr_wp 136 0 [v0, v1, v2, v3] st h Q = mr_wp 136 1 [v0, v1, v2, v3] (.int (0) :: st) h Q) ∧
    (∀ (v0 v2 v3 : Value) (w1 : Int32) (x : Int32) (st : List Value) (h : mr_h) (Q : Option Value → mr_h → Prop), mr_wp 136 1 [v0, .int w1, v2, v3] (.int x :: st) h Q = mr_wp 136 2 [v0, .int w1, .int x, v3] st h Q) ∧
    (∀ (v0 v1 v2 v3 : Value) (st : List Value) (h : mr_h) (Q : Option Value → mr_h → Prop), mr_wp 136 2 [v0, v1, v2, v3] st h Q = mr_wp 136 3 [v0, v1, v2, v3] (.int (0) :: st) h Q) ∧
    (∀ (v0 v1 v3 : Value) (w2 : Int32) (x : Int32) (st : List Value) (h : mr_h) (Q : Option Value → mr_h → Prop), mr_wp 136 3 [v0, v1, .int w2, v3] (.int x :: st) h Q = mr_wp 136 4 [v0, v1, .int w2, .int x] st h Q) ∧
    (∀ (v1 v2 v3 : Value) (x : Nat) (st : List Value) (h : mr_h) (Q : Option Value → mr_h → Prop), mr_wp 136 5 [.ref x, v1, v2, v3] st h Q = mr_wp 136 6 [.ref x, v1, v2, v3] (.ref x :: st) h Q) ∧
    (∀ (v0 v1 v2 v3 : Value) (a : Nat) (st : List Value) (h : mr_h) (Q : Option Value → mr_h → Prop), mr_wp 136 6 [v0, v1, v2, v3] (.ref a :: st) h Q = mr_gf (h.1 a) 11 8 (fun v => mr_wp 136 9 [v0, v1, v2, v3] (v :: st) h Q)) ∧
    (∀ (v0 v1 v2 v3 : Value) (x : Int32) (y : Int32) (st : List Value) (h : mr_h) (Q : Option Value → mr_h → Prop), mr_wp 136 9 [v0, v1, v2, v3] (.int y :: .int x :: st) h Q = if y ≤ x then mr_wp 136 41 [v0, v1, v2, v3] st h Q else mr_wp 136 12 [v0, v1, v2, v3] st h Q) ∧
    (∀ (v0 v1 v3 : Value) (x : Int32) (st : List Value) (h : mr_h) (Q : Option Value → mr_h → Prop), mr_wp 136 12 [v0, v1, .int x, v3] st h Q = mr_wp 136 13 [v0, v1, .int x, v3] (.int x :: st) h Q) ∧
    (∀ (v1 v2 v3 : Value) (x : Nat) (st : List Value) (h : mr_h) (Q : Option Value → mr_h → Prop), mr_wp 136 13 [.ref x, v1, v2, v3] st h Q = mr_wp 136 14 [.ref x, v1, v2, v3] (.ref x :: st) h Q) ∧
    (∀ (v0 v1 v2 v3 : Value) (a : Nat) (st : List Value) (h : mr_h) (Q : Option Value → mr_h → Prop), mr_wp 136 14 [v0, v1, v2, v3] (.ref a :: st) h Q = mr_gf (h.1 a) 11 22 (fun v => mr_wp 136 17 [v0, v1, v2, v3] (v :: st) h Q)) ∧
    (∀ (v0 v1 v2 : Value) (x : Int32) (st : List Value) (h : mr_h) (Q : Option Value → mr_h → Prop), mr_wp 136 17 [v0, v1, v2, .int x] st h Q = mr_wp 136 18 [v0, v1, v2, .int x] (.int x :: st) h Q) ∧
    (∀ (v0 v1 v2 v3 : Value) (a : Nat) (x : Int32) (st : List Value) (h : mr_h) (Q : Option Value → mr_h → Prop), mr_wp 136 18 [v0, v1, v2, v3] (.int x :: .ref a :: st) h Q = mr_ai (h.1 a) x (fun v => mr_wp 136 19 [v0, v1, v2, v3] (.int v :: st) h Q)) ∧
    (∀ (v0 v2 v3 : Value) (x : Int32) (st : List Value) (h : mr_h) (Q : Option Value → mr_h → Prop), mr_wp 136 19 [v0, .int x, v2, v3] st h Q = mr_wp 136 20 [v0, .int x, v2, v3] (.int x :: st) h Q) ∧
    (∀ (v0 v1 v2 v3 : Value) (a0 : Int32) (a1 : Int32) (r0 : Value) (h : mr_h) (Q : Option Value → mr_h → Prop), mr_wp 136 20 [v0, v1, v2, v3] [.int a1, .int a0, r0] h Q = mr_run 130 [.int a0, .int a1] h (fun v h' => mr_wp 136 23 [v0, v1, v2, v3] (v.toList ++ [r0]) h' Q)) ∧
    (∀ (v0 v1 v2 v3 : Value) (x : Int32) (st : List Value) (h : mr_h) (Q : Option Value → mr_h → Prop), mr_wp 136 23 [v0, v1, v2, v3] (.int x :: st) h Q = if x = 0 then mr_wp 136 32 [v0, v1, v2, v3] st h Q else mr_wp 136 26 [v0, v1, v2, v3] st h Q) ∧
    (∀ (v0 v1 v2 v3 : Value) (st : List Value) (h : mr_h) (Q : Option Value → mr_h → Prop), mr_wp 136 26 [v0, v1, v2, v3] st h Q = mr_wp 136 27 [v0, v1, v2, v3] (.int (1) :: st) h Q) ∧
    (∀ (v0 v1 v2 : Value) (x : Int32) (st : List Value) (h : mr_h) (Q : Option Value → mr_h → Prop), mr_wp 136 27 [v0, v1, v2, .int x] st h Q = mr_wp 136 28 [v0, v1, v2, .int x] (.int x :: st) h Q) ∧
    (∀ (v0 v1 v2 v3 : Value) (x : Int32) (y : Int32) (st : List Value) (h : mr_h) (Q : Option Value → mr_h → Prop), mr_wp 136 28 [v0, v1, v2, v3] (.int y :: .int x :: st) h Q = mr_wp 136 29 [v0, v1, v2, v3] (.int (x <<< (y &&& 31)) :: st) h Q) ∧
    (∀ (v0 v1 v2 v3 : Value) (st : List Value) (h : mr_h) (Q : Option Value → mr_h → Prop), mr_wp 136 29 [v0, v1, v2, v3] st h Q = mr_wp 136 33 [v0, v1, v2, v3] st h Q) ∧
    (∀ (v0 v1 v2 v3 : Value) (st : List Value) (h : mr_h) (Q : Option Value → mr_h → Prop), mr_wp 136 32 [v0, v1, v2, v3] st h Q = mr_wp 136 33 [v0, v1, v2, v3] (.int (0) :: st) h Q) ∧
    (∀ (v0 v1 v2 v3 : Value) (x : Int32) (y : Int32) (st : List Value) (h : mr_h) (Q : Option Value → mr_h → Prop), mr_wp 136 33 [v0, v1, v2, v3] (.int y :: .int x :: st) h Q = mr_wp 136 34 [v0, v1, v2, v3] (.int (x ||| y) :: st) h Q) ∧
    (∀ (v0 v2 v3 : Value) (w1 : Int32) (x : Int32) (st : List Value) (h : mr_h) (Q : Option Value → mr_h → Prop), mr_wp 136 34 [v0, .int w1, v2, v3] (.int x :: st) h Q = mr_wp 136 35 [v0, .int w1, .int x, v3] st h Q) ∧
    (∀ (v0 v1 : Value) (x : Int32) (w2 : Int32) (st : List Value) (h : mr_h) (Q : Option Value → mr_h → Prop), mr_wp 136 35 [v0, v1, .int w2, .int x] st h Q = mr_wp 136 38 [v0, v1, .int w2, .int (x + (1))] st h Q) ∧
    (∀ (v0 v1 v2 v3 : Value) (st : List Value) (h : mr_h) (Q : Option Value → mr_h → Prop), mr_wp 136 38 [v0, v1, v2, v3] st h Q = mr_wp 136 4 [v0, v1, v2, v3] st h Q) ∧
    (∀ (v0 v1 v3 : Value) (x : Int32) (st : List Value) (h : mr_h) (Q : Option Value → mr_h → Prop), mr_wp 136 41 [v0, v1, .int x, v3] st h Q = mr_wp 136 42 [v0, v1, .int x, v3] (.int x :: st) h Q) ∧
    (∀ (v0 v1 v2 v3 : Value) (x : Int32) (h : mr_h) (Q : Option Value → mr_h → Prop), mr_wp 136 42 [v0, v1, v2, v3] [.int x] h Q = Q (some (.int x)) h) :=
  ⟨fun v0 v1 v2 v3 st h Q => gx_one (i := .iconst 0) (len := 1) (by decide +kernel) rfl,
   fun v0 v2 v3 w1 x st h Q => gx_one (i := .istore_n 2) (len := 1) (by decide +kernel) rfl,
   fun v0 v1 v2 v3 st h Q => gx_one (i := .iconst 0) (len := 1) (by decide +kernel) rfl,
   fun v0 v1 v3 w2 x st h Q => gx_one (i := .istore_n 3) (len := 1) (by decide +kernel) rfl,
   fun v1 v2 v3 x st h Q => gx_one (i := .aload_n 0) (len := 1) (by decide +kernel) rfl,
   fun v0 v1 v2 v3 a st h Q => gx_get (x := 123) (by decide +kernel) (by decide +kernel),
   fun v0 v1 v2 v3 x y st h Q => gx_br (i := .if_icmp .ge 32) (len := 3) (c := .ge) (by decide +kernel) rfl rfl,
   fun v0 v1 v3 x st h Q => gx_one (i := .iload_n 2) (len := 1) (by decide +kernel) rfl,
   fun v1 v2 v3 x st h Q => gx_one (i := .aload_n 0) (len := 1) (by decide +kernel) rfl,
   fun v0 v1 v2 v3 a st h Q => gx_get (x := 41) (by decide +kernel) (by decide +kernel),
   fun v0 v1 v2 x st h Q => gx_one (i := .iload_n 3) (len := 1) (by decide +kernel) rfl,
   fun v0 v1 v2 v3 a x st h Q => gx_iald (by decide +kernel),
   fun v0 v2 v3 x st h Q => gx_one (i := .iload_n 1) (len := 1) (by decide +kernel) rfl,
   fun v0 v1 v2 v3 a0 a1 r0 h Q => gx_stat (x := 116) (t := 130) (n := 2) (by decide +kernel) (by decide +kernel) (by decide) (by decide +kernel) rfl (Or.inl (Nat.le_of_ble_eq_true rfl)) (by show _ ≤ mr_mxl 130; rw [show mr_mxl 130 = 2 from by decide +kernel]; exact Nat.le_of_ble_eq_true rfl),
   fun v0 v1 v2 v3 x st h Q => gx_br (i := .ifCond .eq 9) (len := 3) (c := .eq) (by decide +kernel) rfl rfl,
   fun v0 v1 v2 v3 st h Q => gx_one (i := .iconst 1) (len := 1) (by decide +kernel) rfl,
   fun v0 v1 v2 x st h Q => gx_one (i := .iload_n 3) (len := 1) (by decide +kernel) rfl,
   fun v0 v1 v2 v3 x y st h Q => gx_one (i := .ishl) (len := 1) (by decide +kernel) rfl,
   fun v0 v1 v2 v3 st h Q => gx_one (i := .goto 4) (len := 3) (by decide +kernel) rfl,
   fun v0 v1 v2 v3 st h Q => gx_one (i := .iconst 0) (len := 1) (by decide +kernel) rfl,
   fun v0 v1 v2 v3 x y st h Q => gx_one (i := .ior) (len := 1) (by decide +kernel) rfl,
   fun v0 v2 v3 w1 x st h Q => gx_one (i := .istore_n 2) (len := 1) (by decide +kernel) rfl,
   fun v0 v1 x w2 st h Q => gx_one (i := .iinc 3 1) (len := 3) (by decide +kernel) rfl,
   fun v0 v1 v2 v3 st h Q => gx_one (i := .goto (-34)) (len := 3) (by decide +kernel) rfl,
   fun v0 v1 v3 x st h Q => gx_one (i := .iload_n 2) (len := 1) (by decide +kernel) rfl,
   fun v0 v1 v2 v3 x h Q => gx_ret (i := .ireturn) (len := 1) (by decide +kernel) rfl rfl (by simp only [mr_rt, if_pos]; rw [if_pos (Or.inl (by decide +kernel))])⟩
theorem s_mo_lowest_2 (v1 : Value) (x : Int32) (st : List Value) (h : mr_h) (Q : Option Value → mr_h → Prop) : mr_wp 137 2 [.int x, v1] st h Q = mr_wp 137 3 [.int x, v1] (.int x :: st) h Q := gx_one (i := .iload_n 0) (len := 1) (by decide +kernel) rfl
theorem S_mo_lowest : (∀ (v0 v1 : Value) (st : List Value) (h : mr_h) (Q : Option Value → mr_h → Prop), mr_wp 137 0 [v0, v1] st h Q = mr_wp 137 1 [v0, v1] (.int (0) :: st) h Q) ∧
    (∀ (v1 : Value) (w0 : Int32) (x : Int32) (st : List Value) (h : mr_h) (Q : Option Value → mr_h → Prop), mr_wp 137 1 [.int w0, v1] (.int x :: st) h Q = mr_wp 137 2 [.int w0, .int x] st h Q) ∧
    (∀ (v0 : Value) (x : Int32) (st : List Value) (h : mr_h) (Q : Option Value → mr_h → Prop), mr_wp 137 3 [v0, .int x] st h Q = mr_wp 137 4 [v0, .int x] (.int x :: st) h Q) ∧
    (∀ (v0 v1 : Value) (a0 : Int32) (a1 : Int32) (h : mr_h) (Q : Option Value → mr_h → Prop), mr_wp 137 4 [v0, v1] [.int a1, .int a0] h Q = mr_run 130 [.int a0, .int a1] h (fun v h' => mr_wp 137 7 [v0, v1] (v.toList ++ []) h' Q)) ∧
    (∀ (v0 v1 : Value) (x : Int32) (st : List Value) (h : mr_h) (Q : Option Value → mr_h → Prop), mr_wp 137 7 [v0, v1] (.int x :: st) h Q = if ¬ x = 0 then mr_wp 137 16 [v0, v1] st h Q else mr_wp 137 10 [v0, v1] st h Q) ∧
    (∀ (x : Int32) (w0 : Int32) (st : List Value) (h : mr_h) (Q : Option Value → mr_h → Prop), mr_wp 137 10 [.int w0, .int x] st h Q = mr_wp 137 13 [.int w0, .int (x + (1))] st h Q) ∧
    (∀ (v0 v1 : Value) (st : List Value) (h : mr_h) (Q : Option Value → mr_h → Prop), mr_wp 137 13 [v0, v1] st h Q = mr_wp 137 2 [v0, v1] st h Q) ∧
    (∀ (v0 : Value) (x : Int32) (st : List Value) (h : mr_h) (Q : Option Value → mr_h → Prop), mr_wp 137 16 [v0, .int x] st h Q = mr_wp 137 17 [v0, .int x] (.int x :: st) h Q) ∧
    (∀ (v0 v1 : Value) (x : Int32) (h : mr_h) (Q : Option Value → mr_h → Prop), mr_wp 137 17 [v0, v1] [.int x] h Q = Q (some (.int x)) h) :=
  ⟨fun v0 v1 st h Q => gx_one (i := .iconst 0) (len := 1) (by decide +kernel) rfl,
   fun v1 w0 x st h Q => gx_one (i := .istore_n 1) (len := 1) (by decide +kernel) rfl,
   fun v0 x st h Q => gx_one (i := .iload_n 1) (len := 1) (by decide +kernel) rfl,
   fun v0 v1 a0 a1 h Q => gx_stat (x := 116) (t := 130) (n := 2) (by decide +kernel) (by decide +kernel) (by decide) (by decide +kernel) rfl (Or.inl (Nat.le_of_ble_eq_true rfl)) (by show _ ≤ mr_mxl 130; rw [show mr_mxl 130 = 2 from by decide +kernel]; exact Nat.le_of_ble_eq_true rfl),
   fun v0 v1 x st h Q => gx_br (i := .ifCond .ne 9) (len := 3) (c := .ne) (by decide +kernel) rfl rfl,
   fun x w0 st h Q => gx_one (i := .iinc 1 1) (len := 3) (by decide +kernel) rfl,
   fun v0 v1 st h Q => gx_one (i := .goto (-11)) (len := 3) (by decide +kernel) rfl,
   fun v0 x st h Q => gx_one (i := .iload_n 1) (len := 1) (by decide +kernel) rfl,
   fun v0 v1 x h Q => gx_ret (i := .ireturn) (len := 1) (by decide +kernel) rfl rfl (by simp only [mr_rt, if_pos]; rw [if_pos (Or.inl (by decide +kernel))])⟩
theorem s_mo_names_4 (v0 v1 : Value) (x : Int32) (st : List Value) (h : mr_h) (Q : Option Value → mr_h → Prop) : mr_wp 138 4 [v0, v1, .int x] st h Q = mr_wp 138 5 [v0, v1, .int x] (.int x :: st) h Q := gx_one (i := .iload_n 2) (len := 1) (by decide +kernel) rfl
theorem S_mo_names : (∀ (v0 v1 v2 : Value) (st : List Value) (h : mr_h) (Q : Option Value → mr_h → Prop), mr_wp 138 0 [v0, v1, v2] st h Q = mr_wp 138 1 [v0, v1, v2] (.int (0) :: st) h Q) ∧
    (∀ (v1 v2 : Value) (w0 : Nat) (x : Int32) (st : List Value) (h : mr_h) (Q : Option Value → mr_h → Prop), mr_wp 138 1 [.ref w0, v1, v2] (.int x :: st) h Q = mr_wp 138 2 [.ref w0, .int x, v2] st h Q) ∧
    (∀ (v0 v1 v2 : Value) (st : List Value) (h : mr_h) (Q : Option Value → mr_h → Prop), mr_wp 138 2 [v0, v1, v2] st h Q = mr_wp 138 3 [v0, v1, v2] (.int (0) :: st) h Q) ∧
    (∀ (v0 v2 : Value) (w1 : Int32) (x : Int32) (st : List Value) (h : mr_h) (Q : Option Value → mr_h → Prop), mr_wp 138 3 [v0, .int w1, v2] (.int x :: st) h Q = mr_wp 138 4 [v0, .int w1, .int x] st h Q) ∧
    (∀ (v1 v2 : Value) (x : Nat) (st : List Value) (h : mr_h) (Q : Option Value → mr_h → Prop), mr_wp 138 5 [.ref x, v1, v2] st h Q = mr_wp 138 6 [.ref x, v1, v2] (.ref x :: st) h Q) ∧
    (∀ (v0 v1 v2 : Value) (a : Nat) (st : List Value) (h : mr_h) (Q : Option Value → mr_h → Prop), mr_wp 138 6 [v0, v1, v2] (.ref a :: st) h Q = mr_gf (h.1 a) 11 8 (fun v => mr_wp 138 9 [v0, v1, v2] (v :: st) h Q)) ∧
    (∀ (v0 v1 v2 : Value) (x : Int32) (y : Int32) (st : List Value) (h : mr_h) (Q : Option Value → mr_h → Prop), mr_wp 138 9 [v0, v1, v2] (.int y :: .int x :: st) h Q = if y ≤ x then mr_wp 138 28 [v0, v1, v2] st h Q else mr_wp 138 12 [v0, v1, v2] st h Q) ∧
    (∀ (v0 v2 : Value) (x : Int32) (st : List Value) (h : mr_h) (Q : Option Value → mr_h → Prop), mr_wp 138 12 [v0, .int x, v2] st h Q = mr_wp 138 13 [v0, .int x, v2] (.int x :: st) h Q) ∧
    (∀ (v0 v1 v2 : Value) (st : List Value) (h : mr_h) (Q : Option Value → mr_h → Prop), mr_wp 138 13 [v0, v1, v2] st h Q = mr_wp 138 14 [v0, v1, v2] (.int (1) :: st) h Q) ∧
    (∀ (v1 v2 : Value) (x : Nat) (st : List Value) (h : mr_h) (Q : Option Value → mr_h → Prop), mr_wp 138 14 [.ref x, v1, v2] st h Q = mr_wp 138 15 [.ref x, v1, v2] (.ref x :: st) h Q) ∧
    (∀ (v0 v1 : Value) (x : Int32) (st : List Value) (h : mr_h) (Q : Option Value → mr_h → Prop), mr_wp 138 15 [v0, v1, .int x] st h Q = mr_wp 138 16 [v0, v1, .int x] (.int x :: st) h Q) ∧
    (∀ (v0 v1 v2 : Value) (a0 : Int32) (o : Nat) (r0 : Value) (r1 : Value) (h : mr_h) (Q : Option Value → mr_h → Prop), mr_wp 138 16 [v0, v1, v2] [.int a0, .ref o, r0, r1] h Q = mr_rc (h.1 o) 11 (mr_run 134 [.ref o, .int a0] h (fun v h' => mr_wp 138 19 [v0, v1, v2] (v.toList ++ [r0, r1]) h' Q))) ∧
    (∀ (v0 v1 v2 : Value) (x : Int32) (y : Int32) (st : List Value) (h : mr_h) (Q : Option Value → mr_h → Prop), mr_wp 138 19 [v0, v1, v2] (.int y :: .int x :: st) h Q = mr_wp 138 20 [v0, v1, v2] (.int (x <<< (y &&& 31)) :: st) h Q) ∧
    (∀ (v0 v1 v2 : Value) (x : Int32) (y : Int32) (st : List Value) (h : mr_h) (Q : Option Value → mr_h → Prop), mr_wp 138 20 [v0, v1, v2] (.int y :: .int x :: st) h Q = mr_wp 138 21 [v0, v1, v2] (.int (x ||| y) :: st) h Q) ∧
    (∀ (v1 v2 : Value) (w0 : Nat) (x : Int32) (st : List Value) (h : mr_h) (Q : Option Value → mr_h → Prop), mr_wp 138 21 [.ref w0, v1, v2] (.int x :: st) h Q = mr_wp 138 22 [.ref w0, .int x, v2] st h Q) ∧
    (∀ (v0 : Value) (x : Int32) (w1 : Int32) (st : List Value) (h : mr_h) (Q : Option Value → mr_h → Prop), mr_wp 138 22 [v0, .int w1, .int x] st h Q = mr_wp 138 25 [v0, .int w1, .int (x + (1))] st h Q) ∧
    (∀ (v0 v1 v2 : Value) (st : List Value) (h : mr_h) (Q : Option Value → mr_h → Prop), mr_wp 138 25 [v0, v1, v2] st h Q = mr_wp 138 4 [v0, v1, v2] st h Q) ∧
    (∀ (v0 v2 : Value) (x : Int32) (st : List Value) (h : mr_h) (Q : Option Value → mr_h → Prop), mr_wp 138 28 [v0, .int x, v2] st h Q = mr_wp 138 29 [v0, .int x, v2] (.int x :: st) h Q) ∧
    (∀ (v0 v1 v2 : Value) (x : Int32) (h : mr_h) (Q : Option Value → mr_h → Prop), mr_wp 138 29 [v0, v1, v2] [.int x] h Q = Q (some (.int x)) h) :=
  ⟨fun v0 v1 v2 st h Q => gx_one (i := .iconst 0) (len := 1) (by decide +kernel) rfl,
   fun v1 v2 w0 x st h Q => gx_one (i := .istore_n 1) (len := 1) (by decide +kernel) rfl,
   fun v0 v1 v2 st h Q => gx_one (i := .iconst 0) (len := 1) (by decide +kernel) rfl,
   fun v0 v2 w1 x st h Q => gx_one (i := .istore_n 2) (len := 1) (by decide +kernel) rfl,
   fun v1 v2 x st h Q => gx_one (i := .aload_n 0) (len := 1) (by decide +kernel) rfl,
   fun v0 v1 v2 a st h Q => gx_get (x := 123) (by decide +kernel) (by decide +kernel),
   fun v0 v1 v2 x y st h Q => gx_br (i := .if_icmp .ge 19) (len := 3) (c := .ge) (by decide +kernel) rfl rfl,
   fun v0 v2 x st h Q => gx_one (i := .iload_n 1) (len := 1) (by decide +kernel) rfl,
   fun v0 v1 v2 st h Q => gx_one (i := .iconst 1) (len := 1) (by decide +kernel) rfl,
   fun v1 v2 x st h Q => gx_one (i := .aload_n 0) (len := 1) (by decide +kernel) rfl,
   fun v0 v1 x st h Q => gx_one (i := .iload_n 2) (len := 1) (by decide +kernel) rfl,
   fun v0 v1 v2 a0 o r0 r1 h Q => gx_virt (x := 148) (n := 1) (by decide +kernel) (by decide +kernel) rfl (Or.inl (Nat.le_of_ble_eq_true rfl)) (by show _ ≤ mr_mxl 134; rw [show mr_mxl 134 = 2 from by decide +kernel]; exact Nat.le_of_ble_eq_true rfl) (by decide +kernel),
   fun v0 v1 v2 x y st h Q => gx_one (i := .ishl) (len := 1) (by decide +kernel) rfl,
   fun v0 v1 v2 x y st h Q => gx_one (i := .ior) (len := 1) (by decide +kernel) rfl,
   fun v1 v2 w0 x st h Q => gx_one (i := .istore_n 1) (len := 1) (by decide +kernel) rfl,
   fun v0 x w1 st h Q => gx_one (i := .iinc 2 1) (len := 3) (by decide +kernel) rfl,
   fun v0 v1 v2 st h Q => gx_one (i := .goto (-21)) (len := 3) (by decide +kernel) rfl,
   fun v0 v2 x st h Q => gx_one (i := .iload_n 1) (len := 1) (by decide +kernel) rfl,
   fun v0 v1 v2 x h Q => gx_ret (i := .ireturn) (len := 1) (by decide +kernel) rfl rfl (by simp only [mr_rt, if_pos]; rw [if_pos (Or.inl (by decide +kernel))])⟩
theorem s_mo_inOf_12 (v0 v1 v2 v3 v4 : Value) (x : Int32) (st : List Value) (h : mr_h) (Q : Option Value → mr_h → Prop) : mr_wp 139 12 [v0, v1, v2, v3, v4, .int x] st h Q = mr_wp 139 14 [v0, v1, v2, v3, v4, .int x] (.int x :: st) h Q := gx_one (i := .iload 5) (len := 2) (by decide +kernel) rfl
theorem S_mo_inOf : (∀ (v1 v2 v3 v4 v5 : Value) (x : Nat) (st : List Value) (h : mr_h) (Q : Option Value → mr_h → Prop), mr_wp 139 0 [.ref x, v1, v2, v3, v4, v5] st h Q = mr_wp 139 1 [.ref x, v1, v2, v3, v4, v5] (.ref x :: st) h Q) ∧
    (∀ (v0 v2 v3 v4 v5 : Value) (x : Int32) (st : List Value) (h : mr_h) (Q : Option Value → mr_h → Prop), mr_wp 139 1 [v0, .int x, v2, v3, v4, v5] st h Q = mr_wp 139 2 [v0, .int x, v2, v3, v4, v5] (.int x :: st) h Q) ∧
    (∀ (v0 v1 v2 v3 v4 v5 : Value) (a0 : Int32) (o : Nat) (h : mr_h) (Q : Option Value → mr_h → Prop), mr_wp 139 2 [v0, v1, v2, v3, v4, v5] [.int a0, .ref o] h Q = mr_rc (h.1 o) 11 (mr_run 134 [.ref o, .int a0] h (fun v h' => mr_wp 139 5 [v0, v1, v2, v3, v4, v5] (v.toList ++ []) h' Q))) ∧
    (∀ (v0 v1 v3 v4 v5 : Value) (w2 : Int32) (x : Int32) (st : List Value) (h : mr_h) (Q : Option Value → mr_h → Prop), mr_wp 139 5 [v0, v1, .int w2, v3, v4, v5] (.int x :: st) h Q = mr_wp 139 6 [v0, v1, .int w2, .int x, v4, v5] st h Q) ∧
    (∀ (v0 v1 v2 v3 v4 v5 : Value) (st : List Value) (h : mr_h) (Q : Option Value → mr_h → Prop), mr_wp 139 6 [v0, v1, v2, v3, v4, v5] st h Q = mr_wp 139 7 [v0, v1, v2, v3, v4, v5] (.int (0) :: st) h Q) ∧
    (∀ (v0 v1 v2 v4 v5 : Value) (w3 : Int32) (x : Int32) (st : List Value) (h : mr_h) (Q : Option Value → mr_h → Prop), mr_wp 139 7 [v0, v1, v2, .int w3, v4, v5] (.int x :: st) h Q = mr_wp 139 9 [v0, v1, v2, .int w3, .int x, v5] st h Q) ∧
    (∀ (v0 v1 v2 v3 v4 v5 : Value) (st : List Value) (h : mr_h) (Q : Option Value → mr_h → Prop), mr_wp 139 9 [v0, v1, v2, v3, v4, v5] st h Q = mr_wp 139 10 [v0, v1, v2, v3, v4, v5] (.int (0) :: st) h Q) ∧
    (∀ (v0 v1 v2 v3 v5 : Value) (w4 : Int32) (x : Int32) (st : List Value) (h : mr_h) (Q : Option Value → mr_h → Prop), mr_wp 139 10 [v0, v1, v2, v3, .int w4, v5] (.int x :: st) h Q = mr_wp 139 12 [v0, v1, v2, v3, .int w4, .int x] st h Q) ∧
    (∀ (v1 v2 v3 v4 v5 : Value) (x : Nat) (st : List Value) (h : mr_h) (Q : Option Value → mr_h → Prop), mr_wp 139 14 [.ref x, v1, v2, v3, v4, v5] st h Q = mr_wp 139 15 [.ref x, v1, v2, v3, v4, v5] (.ref x :: st) h Q) ∧
    (∀ (v0 v1 v2 v3 v4 v5 : Value) (a : Nat) (st : List Value) (h : mr_h) (Q : Option Value → mr_h → Prop), mr_wp 139 15 [v0, v1, v2, v3, v4, v5] (.ref a :: st) h Q = mr_gf (h.1 a) 11 8 (fun v => mr_wp 139 18 [v0, v1, v2, v3, v4, v5] (v :: st) h Q)) ∧
    (∀ (v0 v1 v2 v3 v4 v5 : Value) (x : Int32) (y : Int32) (st : List Value) (h : mr_h) (Q : Option Value → mr_h → Prop), mr_wp 139 18 [v0, v1, v2, v3, v4, v5] (.int y :: .int x :: st) h Q = if y ≤ x then mr_wp 139 62 [v0, v1, v2, v3, v4, v5] st h Q else mr_wp 139 21 [v0, v1, v2, v3, v4, v5] st h Q) ∧
    (∀ (v0 v1 v2 v3 v5 : Value) (x : Int32) (st : List Value) (h : mr_h) (Q : Option Value → mr_h → Prop), mr_wp 139 21 [v0, v1, v2, v3, .int x, v5] st h Q = mr_wp 139 23 [v0, v1, v2, v3, .int x, v5] (.int x :: st) h Q) ∧
    (∀ (v0 v1 v3 v4 v5 : Value) (x : Int32) (st : List Value) (h : mr_h) (Q : Option Value → mr_h → Prop), mr_wp 139 23 [v0, v1, .int x, v3, v4, v5] st h Q = mr_wp 139 24 [v0, v1, .int x, v3, v4, v5] (.int x :: st) h Q) ∧
    (∀ (v0 v1 v2 v3 v4 : Value) (x : Int32) (st : List Value) (h : mr_h) (Q : Option Value → mr_h → Prop), mr_wp 139 24 [v0, v1, v2, v3, v4, .int x] st h Q = mr_wp 139 26 [v0, v1, v2, v3, v4, .int x] (.int x :: st) h Q) ∧
    (∀ (v0 v1 v2 v3 v4 v5 : Value) (a0 : Int32) (a1 : Int32) (r0 : Value) (h : mr_h) (Q : Option Value → mr_h → Prop), mr_wp 139 26 [v0, v1, v2, v3, v4, v5] [.int a1, .int a0, r0] h Q = mr_run 130 [.int a0, .int a1] h (fun v h' => mr_wp 139 29 [v0, v1, v2, v3, v4, v5] (v.toList ++ [r0]) h' Q)) ∧
    (∀ (v0 v1 v2 v3 v4 v5 : Value) (x : Int32) (st : List Value) (h : mr_h) (Q : Option Value → mr_h → Prop), mr_wp 139 29 [v0, v1, v2, v3, v4, v5] (.int x :: st) h Q = if x = 0 then mr_wp 139 52 [v0, v1, v2, v3, v4, v5] st h Q else mr_wp 139 32 [v0, v1, v2, v3, v4, v5] st h Q) ∧
    (∀ (v1 v2 v3 v4 v5 : Value) (x : Nat) (st : List Value) (h : mr_h) (Q : Option Value → mr_h → Prop), mr_wp 139 32 [.ref x, v1, v2, v3, v4, v5] st h Q = mr_wp 139 33 [.ref x, v1, v2, v3, v4, v5] (.ref x :: st) h Q) ∧
    (∀ (v0 v1 v2 v3 v4 : Value) (x : Int32) (st : List Value) (h : mr_h) (Q : Option Value → mr_h → Prop), mr_wp 139 33 [v0, v1, v2, v3, v4, .int x] st h Q = mr_wp 139 35 [v0, v1, v2, v3, v4, .int x] (.int x :: st) h Q) ∧
    (∀ (v0 v1 v2 v3 v4 : Value) (x : Int32) (st : List Value) (h : mr_h) (Q : Option Value → mr_h → Prop), mr_wp 139 35 [v0, v1, v2, v3, v4, .int x] st h Q = mr_wp 139 37 [v0, v1, v2, v3, v4, .int x] (.int x :: st) h Q) ∧
    (∀ (v0 v1 v2 v4 v5 : Value) (x : Int32) (st : List Value) (h : mr_h) (Q : Option Value → mr_h → Prop), mr_wp 139 37 [v0, v1, v2, .int x, v4, v5] st h Q = mr_wp 139 38 [v0, v1, v2, .int x, v4, v5] (.int x :: st) h Q) ∧
    (∀ (v0 v1 v3 v4 v5 : Value) (x : Int32) (st : List Value) (h : mr_h) (Q : Option Value → mr_h → Prop), mr_wp 139 38 [v0, v1, .int x, v3, v4, v5] st h Q = mr_wp 139 39 [v0, v1, .int x, v3, v4, v5] (.int x :: st) h Q) ∧
    (∀ (v0 v1 v2 v3 v4 v5 : Value) (a0 : Int32) (a1 : Int32) (a2 : Int32) (a3 : Int32) (o : Nat) (r0 : Value) (h : mr_h) (Q : Option Value → mr_h → Prop), mr_wp 139 39 [v0, v1, v2, v3, v4, v5] [.int a3, .int a2, .int a1, .int a0, .ref o, r0] h Q = mr_rc (h.1 o) 11 (mr_run 140 [.ref o, .int a0, .int a1, .int a2, .int a3] h (fun v h' => mr_wp 139 42 [v0, v1, v2, v3, v4, v5] (v.toList ++ [r0]) h' Q))) ∧
    (∀ (v0 v1 v2 v3 v4 v5 : Value) (x : Int32) (st : List Value) (h : mr_h) (Q : Option Value → mr_h → Prop), mr_wp 139 42 [v0, v1, v2, v3, v4, v5] (.int x :: st) h Q = if x = 0 then mr_wp 139 52 [v0, v1, v2, v3, v4, v5] st h Q else mr_wp 139 45 [v0, v1, v2, v3, v4, v5] st h Q) ∧
    (∀ (v0 v1 v2 v3 v4 v5 : Value) (st : List Value) (h : mr_h) (Q : Option Value → mr_h → Prop), mr_wp 139 45 [v0, v1, v2, v3, v4, v5] st h Q = mr_wp 139 46 [v0, v1, v2, v3, v4, v5] (.int (1) :: st) h Q) ∧
    (∀ (v0 v1 v2 v3 v4 : Value) (x : Int32) (st : List Value) (h : mr_h) (Q : Option Value → mr_h → Prop), mr_wp 139 46 [v0, v1, v2, v3, v4, .int x] st h Q = mr_wp 139 48 [v0, v1, v2, v3, v4, .int x] (.int x :: st) h Q) ∧
    (∀ (v0 v1 v2 v3 v4 v5 : Value) (x : Int32) (y : Int32) (st : List Value) (h : mr_h) (Q : Option Value → mr_h → Prop), mr_wp 139 48 [v0, v1, v2, v3, v4, v5] (.int y :: .int x :: st) h Q = mr_wp 139 49 [v0, v1, v2, v3, v4, v5] (.int (x <<< (y &&& 31)) :: st) h Q) ∧
    (∀ (v0 v1 v2 v3 v4 v5 : Value) (st : List Value) (h : mr_h) (Q : Option Value → mr_h → Prop), mr_wp 139 49 [v0, v1, v2, v3, v4, v5] st h Q = mr_wp 139 53 [v0, v1, v2, v3, v4, v5] st h Q) ∧
    (∀ (v0 v1 v2 v3 v4 v5 : Value) (st : List Value) (h : mr_h) (Q : Option Value → mr_h → Prop), mr_wp 139 52 [v0, v1, v2, v3, v4, v5] st h Q = mr_wp 139 53 [v0, v1, v2, v3, v4, v5] (.int (0) :: st) h Q) ∧
    (∀ (v0 v1 v2 v3 v4 v5 : Value) (x : Int32) (y : Int32) (st : List Value) (h : mr_h) (Q : Option Value → mr_h → Prop), mr_wp 139 53 [v0, v1, v2, v3, v4, v5] (.int y :: .int x :: st) h Q = mr_wp 139 54 [v0, v1, v2, v3, v4, v5] (.int (x ||| y) :: st) h Q) ∧
    (∀ (v0 v1 v2 v4 v5 : Value) (w3 : Int32) (x : Int32) (st : List Value) (h : mr_h) (Q : Option Value → mr_h → Prop), mr_wp 139 54 [v0, v1, v2, .int w3, v4, v5] (.int x :: st) h Q = mr_wp 139 56 [v0, v1, v2, .int w3, .int x, v5] st h Q) ∧
    (∀ (v0 v1 v2 v3 : Value) (x : Int32) (w4 : Int32) (st : List Value) (h : mr_h) (Q : Option Value → mr_h → Prop), mr_wp 139 56 [v0, v1, v2, v3, .int w4, .int x] st h Q = mr_wp 139 59 [v0, v1, v2, v3, .int w4, .int (x + (1))] st h Q) ∧
    (∀ (v0 v1 v2 v3 v4 v5 : Value) (st : List Value) (h : mr_h) (Q : Option Value → mr_h → Prop), mr_wp 139 59 [v0, v1, v2, v3, v4, v5] st h Q = mr_wp 139 12 [v0, v1, v2, v3, v4, v5] st h Q) ∧
    (∀ (v0 v1 v2 v3 v5 : Value) (x : Int32) (st : List Value) (h : mr_h) (Q : Option Value → mr_h → Prop), mr_wp 139 62 [v0, v1, v2, v3, .int x, v5] st h Q = mr_wp 139 64 [v0, v1, v2, v3, .int x, v5] (.int x :: st) h Q) ∧
    (∀ (v0 v1 v2 v3 v4 v5 : Value) (x : Int32) (h : mr_h) (Q : Option Value → mr_h → Prop), mr_wp 139 64 [v0, v1, v2, v3, v4, v5] [.int x] h Q = Q (some (.int x)) h) :=
  ⟨fun v1 v2 v3 v4 v5 x st h Q => gx_one (i := .aload_n 0) (len := 1) (by decide +kernel) rfl,
   fun v0 v2 v3 v4 v5 x st h Q => gx_one (i := .iload_n 1) (len := 1) (by decide +kernel) rfl,
   fun v0 v1 v2 v3 v4 v5 a0 o h Q => gx_virt (x := 148) (n := 1) (by decide +kernel) (by decide +kernel) rfl (Or.inl (Nat.le_of_ble_eq_true rfl)) (by show _ ≤ mr_mxl 134; rw [show mr_mxl 134 = 2 from by decide +kernel]; exact Nat.le_of_ble_eq_true rfl) (by decide +kernel),
   fun v0 v1 v3 v4 v5 w2 x st h Q => gx_one (i := .istore_n 3) (len := 1) (by decide +kernel) rfl,
   fun v0 v1 v2 v3 v4 v5 st h Q => gx_one (i := .iconst 0) (len := 1) (by decide +kernel) rfl,
   fun v0 v1 v2 v4 v5 w3 x st h Q => gx_one (i := .istore 4) (len := 2) (by decide +kernel) rfl,
   fun v0 v1 v2 v3 v4 v5 st h Q => gx_one (i := .iconst 0) (len := 1) (by decide +kernel) rfl,
   fun v0 v1 v2 v3 v5 w4 x st h Q => gx_one (i := .istore 5) (len := 2) (by decide +kernel) rfl,
   fun v1 v2 v3 v4 v5 x st h Q => gx_one (i := .aload_n 0) (len := 1) (by decide +kernel) rfl,
   fun v0 v1 v2 v3 v4 v5 a st h Q => gx_get (x := 123) (by decide +kernel) (by decide +kernel),
   fun v0 v1 v2 v3 v4 v5 x y st h Q => gx_br (i := .if_icmp .ge 44) (len := 3) (c := .ge) (by decide +kernel) rfl rfl,
   fun v0 v1 v2 v3 v5 x st h Q => gx_one (i := .iload 4) (len := 2) (by decide +kernel) rfl,
   fun v0 v1 v3 v4 v5 x st h Q => gx_one (i := .iload_n 2) (len := 1) (by decide +kernel) rfl,
   fun v0 v1 v2 v3 v4 x st h Q => gx_one (i := .iload 5) (len := 2) (by decide +kernel) rfl,
   fun v0 v1 v2 v3 v4 v5 a0 a1 r0 h Q => gx_stat (x := 116) (t := 130) (n := 2) (by decide +kernel) (by decide +kernel) (by decide) (by decide +kernel) rfl (Or.inl (Nat.le_of_ble_eq_true rfl)) (by show _ ≤ mr_mxl 130; rw [show mr_mxl 130 = 2 from by decide +kernel]; exact Nat.le_of_ble_eq_true rfl),
   fun v0 v1 v2 v3 v4 v5 x st h Q => gx_br (i := .ifCond .eq 23) (len := 3) (c := .eq) (by decide +kernel) rfl rfl,
   fun v1 v2 v3 v4 v5 x st h Q => gx_one (i := .aload_n 0) (len := 1) (by decide +kernel) rfl,
   fun v0 v1 v2 v3 v4 x st h Q => gx_one (i := .iload 5) (len := 2) (by decide +kernel) rfl,
   fun v0 v1 v2 v3 v4 x st h Q => gx_one (i := .iload 5) (len := 2) (by decide +kernel) rfl,
   fun v0 v1 v2 v4 v5 x st h Q => gx_one (i := .iload_n 3) (len := 1) (by decide +kernel) rfl,
   fun v0 v1 v3 v4 v5 x st h Q => gx_one (i := .iload_n 2) (len := 1) (by decide +kernel) rfl,
   fun v0 v1 v2 v3 v4 v5 a0 a1 a2 a3 o r0 h Q => gx_virt (x := 154) (n := 4) (by decide +kernel) (by decide +kernel) rfl (Or.inl (Nat.le_of_ble_eq_true rfl)) (by show _ ≤ mr_mxl 140; rw [show mr_mxl 140 = 7 from by decide +kernel]; exact Nat.le_of_ble_eq_true rfl) (by decide +kernel),
   fun v0 v1 v2 v3 v4 v5 x st h Q => gx_br (i := .ifCond .eq 10) (len := 3) (c := .eq) (by decide +kernel) rfl rfl,
   fun v0 v1 v2 v3 v4 v5 st h Q => gx_one (i := .iconst 1) (len := 1) (by decide +kernel) rfl,
   fun v0 v1 v2 v3 v4 x st h Q => gx_one (i := .iload 5) (len := 2) (by decide +kernel) rfl,
   fun v0 v1 v2 v3 v4 v5 x y st h Q => gx_one (i := .ishl) (len := 1) (by decide +kernel) rfl,
   fun v0 v1 v2 v3 v4 v5 st h Q => gx_one (i := .goto 4) (len := 3) (by decide +kernel) rfl,
   fun v0 v1 v2 v3 v4 v5 st h Q => gx_one (i := .iconst 0) (len := 1) (by decide +kernel) rfl,
   fun v0 v1 v2 v3 v4 v5 x y st h Q => gx_one (i := .ior) (len := 1) (by decide +kernel) rfl,
   fun v0 v1 v2 v4 v5 w3 x st h Q => gx_one (i := .istore 4) (len := 2) (by decide +kernel) rfl,
   fun v0 v1 v2 v3 x w4 st h Q => gx_one (i := .iinc 5 1) (len := 3) (by decide +kernel) rfl,
   fun v0 v1 v2 v3 v4 v5 st h Q => gx_one (i := .goto (-47)) (len := 3) (by decide +kernel) rfl,
   fun v0 v1 v2 v3 v5 x st h Q => gx_one (i := .iload 4) (len := 2) (by decide +kernel) rfl,
   fun v0 v1 v2 v3 v4 v5 x h Q => gx_ret (i := .ireturn) (len := 1) (by decide +kernel) rfl rfl (by simp only [mr_rt, if_pos]; rw [if_pos (Or.inl (by decide +kernel))])⟩
theorem s_mo_isLabel_15 (v0 v1 v2 v3 v4 v5 : Value) (x : Int32) (st : List Value) (h : mr_h) (Q : Option Value → mr_h → Prop) : mr_wp 140 15 [v0, v1, v2, v3, v4, v5, .int x] st h Q = mr_wp 140 17 [v0, v1, v2, v3, v4, v5, .int x] (.int x :: st) h Q := gx_one (i := .iload 6) (len := 2) (by decide +kernel) rfl
theorem S_mo_isLabel_0 : (∀ (v1 v2 v3 v4 v5 v6 : Value) (x : Nat) (st : List Value) (h : mr_h) (Q : Option Value → mr_h → Prop), mr_wp 140 0 [.ref x, v1, v2, v3, v4, v5, v6] st h Q = mr_wp 140 1 [.ref x, v1, v2, v3, v4, v5, v6] (.ref x :: st) h Q) ∧
    (∀ (v0 v1 v2 v3 v4 v5 v6 : Value) (a : Nat) (st : List Value) (h : mr_h) (Q : Option Value → mr_h → Prop), mr_wp 140 1 [v0, v1, v2, v3, v4, v5, v6] (.ref a :: st) h Q = mr_gf (h.1 a) 11 22 (fun v => mr_wp 140 4 [v0, v1, v2, v3, v4, v5, v6] (v :: st) h Q)) ∧
    (∀ (v0 v1 v3 v4 v5 v6 : Value) (x : Int32) (st : List Value) (h : mr_h) (Q : Option Value → mr_h → Prop), mr_wp 140 4 [v0, v1, .int x, v3, v4, v5, v6] st h Q = mr_wp 140 5 [v0, v1, .int x, v3, v4, v5, v6] (.int x :: st) h Q) ∧
    (∀ (v0 v1 v2 v3 v4 v5 v6 : Value) (a : Nat) (x : Int32) (st : List Value) (h : mr_h) (Q : Option Value → mr_h → Prop), mr_wp 140 5 [v0, v1, v2, v3, v4, v5, v6] (.int x :: .ref a :: st) h Q = mr_ai (h.1 a) x (fun v => mr_wp 140 6 [v0, v1, v2, v3, v4, v5, v6] (.int v :: st) h Q)) ∧
    (∀ (v0 v1 v2 v4 v5 v6 : Value) (x : Int32) (st : List Value) (h : mr_h) (Q : Option Value → mr_h → Prop), mr_wp 140 6 [v0, v1, v2, .int x, v4, v5, v6] st h Q = mr_wp 140 7 [v0, v1, v2, .int x, v4, v5, v6] (.int x :: st) h Q) ∧
    (∀ (v0 v1 v2 v3 v4 v5 v6 : Value) (a0 : Int32) (a1 : Int32) (h : mr_h) (Q : Option Value → mr_h → Prop), mr_wp 140 7 [v0, v1, v2, v3, v4, v5, v6] [.int a1, .int a0] h Q = mr_run 130 [.int a0, .int a1] h (fun v h' => mr_wp 140 10 [v0, v1, v2, v3, v4, v5, v6] (v.toList ++ []) h' Q)) ∧
    (∀ (v0 v1 v2 v3 v5 v6 : Value) (w4 : Int32) (x : Int32) (st : List Value) (h : mr_h) (Q : Option Value → mr_h → Prop), mr_wp 140 10 [v0, v1, v2, v3, .int w4, v5, v6] (.int x :: st) h Q = mr_wp 140 12 [v0, v1, v2, v3, .int w4, .int x, v6] st h Q) ∧
    (∀ (v0 v1 v2 v3 v4 v5 v6 : Value) (st : List Value) (h : mr_h) (Q : Option Value → mr_h → Prop), mr_wp 140 12 [v0, v1, v2, v3, v4, v5, v6] st h Q = mr_wp 140 13 [v0, v1, v2, v3, v4, v5, v6] (.int (0) :: st) h Q) ∧
    (∀ (v0 v1 v2 v3 v4 v6 : Value) (w5 : Int32) (x : Int32) (st : List Value) (h : mr_h) (Q : Option Value → mr_h → Prop), mr_wp 140 13 [v0, v1, v2, v3, v4, .int w5, v6] (.int x :: st) h Q = mr_wp 140 15 [v0, v1, v2, v3, v4, .int w5, .int x] st h Q) ∧
    (∀ (v1 v2 v3 v4 v5 v6 : Value) (x : Nat) (st : List Value) (h : mr_h) (Q : Option Value → mr_h → Prop), mr_wp 140 17 [.ref x, v1, v2, v3, v4, v5, v6] st h Q = mr_wp 140 18 [.ref x, v1, v2, v3, v4, v5, v6] (.ref x :: st) h Q) ∧
    (∀ (v0 v1 v2 v3 v4 v5 v6 : Value) (a : Nat) (st : List Value) (h : mr_h) (Q : Option Value → mr_h → Prop), mr_wp 140 18 [v0, v1, v2, v3, v4, v5, v6] (.ref a :: st) h Q = mr_gf (h.1 a) 11 8 (fun v => mr_wp 140 21 [v0, v1, v2, v3, v4, v5, v6] (v :: st) h Q)) ∧
    (∀ (v0 v1 v2 v3 v4 v5 v6 : Value) (x : Int32) (y : Int32) (st : List Value) (h : mr_h) (Q : Option Value → mr_h → Prop), mr_wp 140 21 [v0, v1, v2, v3, v4, v5, v6] (.int y :: .int x :: st) h Q = if y ≤ x then mr_wp 140 100 [v0, v1, v2, v3, v4, v5, v6] st h Q else mr_wp 140 24 [v0, v1, v2, v3, v4, v5, v6] st h Q) ∧
    (∀ (v0 v1 v2 v3 v4 v6 : Value) (x : Int32) (st : List Value) (h : mr_h) (Q : Option Value → mr_h → Prop), mr_wp 140 24 [v0, v1, v2, v3, v4, .int x, v6] st h Q = mr_wp 140 26 [v0, v1, v2, v3, v4, .int x, v6] (.int x :: st) h Q) ∧
    (∀ (v0 v1 v2 v3 v4 v5 v6 : Value) (x : Int32) (st : List Value) (h : mr_h) (Q : Option Value → mr_h → Prop), mr_wp 140 26 [v0, v1, v2, v3, v4, v5, v6] (.int x :: st) h Q = if x = 0 then mr_wp 140 100 [v0, v1, v2, v3, v4, v5, v6] st h Q else mr_wp 140 29 [v0, v1, v2, v3, v4, v5, v6] st h Q) ∧
    (∀ (v0 v1 v2 v3 v5 v6 : Value) (x : Int32) (st : List Value) (h : mr_h) (Q : Option Value → mr_h → Prop), mr_wp 140 29 [v0, v1, v2, v3, .int x, v5, v6] st h Q = mr_wp 140 31 [v0, v1, v2, v3, .int x, v5, v6] (.int x :: st) h Q) ∧
    (∀ (v0 v1 v2 v3 v4 v5 : Value) (x : Int32) (st : List Value) (h : mr_h) (Q : Option Value → mr_h → Prop), mr_wp 140 31 [v0, v1, v2, v3, v4, v5, .int x] st h Q = mr_wp 140 33 [v0, v1, v2, v3, v4, v5, .int x] (.int x :: st) h Q) ∧
    (∀ (v0 v1 v2 v3 v4 v5 v6 : Value) (a0 : Int32) (a1 : Int32) (h : mr_h) (Q : Option Value → mr_h → Prop), mr_wp 140 33 [v0, v1, v2, v3, v4, v5, v6] [.int a1, .int a0] h Q = mr_run 130 [.int a0, .int a1] h (fun v h' => mr_wp 140 36 [v0, v1, v2, v3, v4, v5, v6] (v.toList ++ []) h' Q)) ∧
    (∀ (v0 v1 v2 v3 v4 v5 v6 : Value) (x : Int32) (st : List Value) (h : mr_h) (Q : Option Value → mr_h → Prop), mr_wp 140 36 [v0, v1, v2, v3, v4, v5, v6] (.int x :: st) h Q = if x = 0 then mr_wp 140 87 [v0, v1, v2, v3, v4, v5, v6] st h Q else mr_wp 140 39 [v0, v1, v2, v3, v4, v5, v6] st h Q) ∧
    (∀ (v0 v1 v2 v3 v4 v5 : Value) (x : Int32) (st : List Value) (h : mr_h) (Q : Option Value → mr_h → Prop), mr_wp 140 39 [v0, v1, v2, v3, v4, v5, .int x] st h Q = mr_wp 140 41 [v0, v1, v2, v3, v4, v5, .int x] (.int x :: st) h Q) ∧
    (∀ (v0 v2 v3 v4 v5 v6 : Value) (x : Int32) (st : List Value) (h : mr_h) (Q : Option Value → mr_h → Prop), mr_wp 140 41 [v0, .int x, v2, v3, v4, v5, v6] st h Q = mr_wp 140 42 [v0, .int x, v2, v3, v4, v5, v6] (.int x :: st) h Q) ∧
    (∀ (v0 v1 v2 v3 v4 v5 v6 : Value) (x : Int32) (y : Int32) (st : List Value) (h : mr_h) (Q : Option Value → mr_h → Prop), mr_wp 140 42 [v0, v1, v2, v3, v4, v5, v6] (.int y :: .int x :: st) h Q = if x = y then mr_wp 140 87 [v0, v1, v2, v3, v4, v5, v6] st h Q else mr_wp 140 45 [v0, v1, v2, v3, v4, v5, v6] st h Q) ∧
    (∀ (v1 v2 v3 v4 v5 v6 : Value) (x : Nat) (st : List Value) (h : mr_h) (Q : Option Value → mr_h → Prop), mr_wp 140 45 [.ref x, v1, v2, v3, v4, v5, v6] st h Q = mr_wp 140 46 [.ref x, v1, v2, v3, v4, v5, v6] (.ref x :: st) h Q) ∧
    (∀ (v0 v1 v2 v3 v4 v5 : Value) (x : Int32) (st : List Value) (h : mr_h) (Q : Option Value → mr_h → Prop), mr_wp 140 46 [v0, v1, v2, v3, v4, v5, .int x] st h Q = mr_wp 140 48 [v0, v1, v2, v3, v4, v5, .int x] (.int x :: st) h Q) ∧
    (∀ (v0 v1 v2 v3 v4 v5 v6 : Value) (a0 : Int32) (o : Nat) (h : mr_h) (Q : Option Value → mr_h → Prop), mr_wp 140 48 [v0, v1, v2, v3, v4, v5, v6] [.int a0, .ref o] h Q = mr_rc (h.1 o) 11 (mr_run 141 [.ref o, .int a0] h (fun v h' => mr_wp 140 51 [v0, v1, v2, v3, v4, v5, v6] (v.toList ++ []) h' Q))) ∧
    (∀ (v1 v2 v3 v4 v5 v6 : Value) (x : Nat) (st : List Value) (h : mr_h) (Q : Option Value → mr_h → Prop), mr_wp 140 51 [.ref x, v1, v2, v3, v4, v5, v6] st h Q = mr_wp 140 52 [.ref x, v1, v2, v3, v4, v5, v6] (.ref x :: st) h Q) ∧
    (∀ (v0 v2 v3 v4 v5 v6 : Value) (x : Int32) (st : List Value) (h : mr_h) (Q : Option Value → mr_h → Prop), mr_wp 140 52 [v0, .int x, v2, v3, v4, v5, v6] st h Q = mr_wp 140 53 [v0, .int x, v2, v3, v4, v5, v6] (.int x :: st) h Q) ∧
    (∀ (v0 v1 v2 v3 v4 v5 v6 : Value) (a0 : Int32) (o : Nat) (r0 : Value) (h : mr_h) (Q : Option Value → mr_h → Prop), mr_wp 140 53 [v0, v1, v2, v3, v4, v5, v6] [.int a0, .ref o, r0] h Q = mr_rc (h.1 o) 11 (mr_run 141 [.ref o, .int a0] h (fun v h' => mr_wp 140 56 [v0, v1, v2, v3, v4, v5, v6] (v.toList ++ [r0]) h' Q))) ∧
    (∀ (v0 v1 v2 v3 v4 v5 v6 : Value) (x : Int32) (y : Int32) (st : List Value) (h : mr_h) (Q : Option Value → mr_h → Prop), mr_wp 140 56 [v0, v1, v2, v3, v4, v5, v6] (.int y :: .int x :: st) h Q = if y ≤ x then mr_wp 140 87 [v0, v1, v2, v3, v4, v5, v6] st h Q else mr_wp 140 59 [v0, v1, v2, v3, v4, v5, v6] st h Q) ∧
    (∀ (v1 v2 v3 v4 v5 v6 : Value) (x : Nat) (st : List Value) (h : mr_h) (Q : Option Value → mr_h → Prop), mr_wp 140 59 [.ref x, v1, v2, v3, v4, v5, v6] st h Q = mr_wp 140 60 [.ref x, v1, v2, v3, v4, v5, v6] (.ref x :: st) h Q) ∧
    (∀ (v0 v1 v2 v3 v4 v5 v6 : Value) (a : Nat) (st : List Value) (h : mr_h) (Q : Option Value → mr_h → Prop), mr_wp 140 60 [v0, v1, v2, v3, v4, v5, v6] (.ref a :: st) h Q = mr_gf (h.1 a) 11 22 (fun v => mr_wp 140 63 [v0, v1, v2, v3, v4, v5, v6] (v :: st) h Q)) ∧
    (∀ (v0 v1 v3 v4 v5 v6 : Value) (x : Int32) (st : List Value) (h : mr_h) (Q : Option Value → mr_h → Prop), mr_wp 140 63 [v0, v1, .int x, v3, v4, v5, v6] st h Q = mr_wp 140 64 [v0, v1, .int x, v3, v4, v5, v6] (.int x :: st) h Q) ∧
    (∀ (v0 v1 v2 v3 v4 v5 v6 : Value) (a : Nat) (x : Int32) (st : List Value) (h : mr_h) (Q : Option Value → mr_h → Prop), mr_wp 140 64 [v0, v1, v2, v3, v4, v5, v6] (.int x :: .ref a :: st) h Q = mr_ai (h.1 a) x (fun v => mr_wp 140 65 [v0, v1, v2, v3, v4, v5, v6] (.int v :: st) h Q)) ∧
    (∀ (v0 v1 v2 v3 v4 v5 : Value) (x : Int32) (st : List Value) (h : mr_h) (Q : Option Value → mr_h → Prop), mr_wp 140 65 [v0, v1, v2, v3, v4, v5, .int x] st h Q = mr_wp 140 67 [v0, v1, v2, v3, v4, v5, .int x] (.int x :: st) h Q) ∧
    (∀ (v0 v1 v2 v3 v4 v5 v6 : Value) (a0 : Int32) (a1 : Int32) (h : mr_h) (Q : Option Value → mr_h → Prop), mr_wp 140 67 [v0, v1, v2, v3, v4, v5, v6] [.int a1, .int a0] h Q = mr_run 130 [.int a0, .int a1] h (fun v h' => mr_wp 140 70 [v0, v1, v2, v3, v4, v5, v6] (v.toList ++ []) h' Q)) ∧
    (∀ (v0 v1 v2 v3 v4 v5 v6 : Value) (x : Int32) (st : List Value) (h : mr_h) (Q : Option Value → mr_h → Prop), mr_wp 140 70 [v0, v1, v2, v3, v4, v5, v6] (.int x :: st) h Q = if x = 0 then mr_wp 140 87 [v0, v1, v2, v3, v4, v5, v6] st h Q else mr_wp 140 73 [v0, v1, v2, v3, v4, v5, v6] st h Q) ∧
    (∀ (v1 v2 v3 v4 v5 v6 : Value) (x : Nat) (st : List Value) (h : mr_h) (Q : Option Value → mr_h → Prop), mr_wp 140 73 [.ref x, v1, v2, v3, v4, v5, v6] st h Q = mr_wp 140 74 [.ref x, v1, v2, v3, v4, v5, v6] (.ref x :: st) h Q) ∧
    (∀ (v0 v1 v2 v3 v4 v5 v6 : Value) (a : Nat) (st : List Value) (h : mr_h) (Q : Option Value → mr_h → Prop), mr_wp 140 74 [v0, v1, v2, v3, v4, v5, v6] (.ref a :: st) h Q = mr_gf (h.1 a) 11 22 (fun v => mr_wp 140 77 [v0, v1, v2, v3, v4, v5, v6] (v :: st) h Q)) ∧
    (∀ (v0 v1 v2 v3 v4 v5 : Value) (x : Int32) (st : List Value) (h : mr_h) (Q : Option Value → mr_h → Prop), mr_wp 140 77 [v0, v1, v2, v3, v4, v5, .int x] st h Q = mr_wp 140 79 [v0, v1, v2, v3, v4, v5, .int x] (.int x :: st) h Q) ∧
    (∀ (v0 v1 v2 v3 v4 v5 v6 : Value) (a : Nat) (x : Int32) (st : List Value) (h : mr_h) (Q : Option Value → mr_h → Prop), mr_wp 140 79 [v0, v1, v2, v3, v4, v5, v6] (.int x :: .ref a :: st) h Q = mr_ai (h.1 a) x (fun v => mr_wp 140 80 [v0, v1, v2, v3, v4, v5, v6] (.int v :: st) h Q)) ∧
    (∀ (v0 v1 v2 v4 v5 v6 : Value) (x : Int32) (st : List Value) (h : mr_h) (Q : Option Value → mr_h → Prop), mr_wp 140 80 [v0, v1, v2, .int x, v4, v5, v6] st h Q = mr_wp 140 81 [v0, v1, v2, .int x, v4, v5, v6] (.int x :: st) h Q) :=
  ⟨fun v1 v2 v3 v4 v5 v6 x st h Q => gx_one (i := .aload_n 0) (len := 1) (by decide +kernel) rfl,
   fun v0 v1 v2 v3 v4 v5 v6 a st h Q => gx_get (x := 41) (by decide +kernel) (by decide +kernel),
   fun v0 v1 v3 v4 v5 v6 x st h Q => gx_one (i := .iload_n 2) (len := 1) (by decide +kernel) rfl,
   fun v0 v1 v2 v3 v4 v5 v6 a x st h Q => gx_iald (by decide +kernel),
   fun v0 v1 v2 v4 v5 v6 x st h Q => gx_one (i := .iload_n 3) (len := 1) (by decide +kernel) rfl,
   fun v0 v1 v2 v3 v4 v5 v6 a0 a1 h Q => gx_stat (x := 116) (t := 130) (n := 2) (by decide +kernel) (by decide +kernel) (by decide) (by decide +kernel) rfl (Or.inl (Nat.le_of_ble_eq_true rfl)) (by show _ ≤ mr_mxl 130; rw [show mr_mxl 130 = 2 from by decide +kernel]; exact Nat.le_of_ble_eq_true rfl),
   fun v0 v1 v2 v3 v5 v6 w4 x st h Q => gx_one (i := .istore 5) (len := 2) (by decide +kernel) rfl,
   fun v0 v1 v2 v3 v4 v5 v6 st h Q => gx_one (i := .iconst 0) (len := 1) (by decide +kernel) rfl,
   fun v0 v1 v2 v3 v4 v6 w5 x st h Q => gx_one (i := .istore 6) (len := 2) (by decide +kernel) rfl,
   fun v1 v2 v3 v4 v5 v6 x st h Q => gx_one (i := .aload_n 0) (len := 1) (by decide +kernel) rfl,
   fun v0 v1 v2 v3 v4 v5 v6 a st h Q => gx_get (x := 123) (by decide +kernel) (by decide +kernel),
   fun v0 v1 v2 v3 v4 v5 v6 x y st h Q => gx_br (i := .if_icmp .ge 79) (len := 3) (c := .ge) (by decide +kernel) rfl rfl,
   fun v0 v1 v2 v3 v4 v6 x st h Q => gx_one (i := .iload 5) (len := 2) (by decide +kernel) rfl,
   fun v0 v1 v2 v3 v4 v5 v6 x st h Q => gx_br (i := .ifCond .eq 74) (len := 3) (c := .eq) (by decide +kernel) rfl rfl,
   fun v0 v1 v2 v3 v5 v6 x st h Q => gx_one (i := .iload 4) (len := 2) (by decide +kernel) rfl,
   fun v0 v1 v2 v3 v4 v5 x st h Q => gx_one (i := .iload 6) (len := 2) (by decide +kernel) rfl,
   fun v0 v1 v2 v3 v4 v5 v6 a0 a1 h Q => gx_stat (x := 116) (t := 130) (n := 2) (by decide +kernel) (by decide +kernel) (by decide) (by decide +kernel) rfl (Or.inl (Nat.le_of_ble_eq_true rfl)) (by show _ ≤ mr_mxl 130; rw [show mr_mxl 130 = 2 from by decide +kernel]; exact Nat.le_of_ble_eq_true rfl),
   fun v0 v1 v2 v3 v4 v5 v6 x st h Q => gx_br (i := .ifCond .eq 51) (len := 3) (c := .eq) (by decide +kernel) rfl rfl,
   fun v0 v1 v2 v3 v4 v5 x st h Q => gx_one (i := .iload 6) (len := 2) (by decide +kernel) rfl,
   fun v0 v2 v3 v4 v5 v6 x st h Q => gx_one (i := .iload_n 1) (len := 1) (by decide +kernel) rfl,
   fun v0 v1 v2 v3 v4 v5 v6 x y st h Q => gx_br (i := .if_icmp .eq 45) (len := 3) (c := .eq) (by decide +kernel) rfl rfl,
   fun v1 v2 v3 v4 v5 v6 x st h Q => gx_one (i := .aload_n 0) (len := 1) (by decide +kernel) rfl,
   fun v0 v1 v2 v3 v4 v5 x st h Q => gx_one (i := .iload 6) (len := 2) (by decide +kernel) rfl,
   fun v0 v1 v2 v3 v4 v5 v6 a0 o h Q => gx_virt (x := 151) (n := 1) (by decide +kernel) (by decide +kernel) rfl (Or.inl (Nat.le_of_ble_eq_true rfl)) (by show _ ≤ mr_mxl 141; rw [show mr_mxl 141 = 5 from by decide +kernel]; exact Nat.le_of_ble_eq_true rfl) (by decide +kernel),
   fun v1 v2 v3 v4 v5 v6 x st h Q => gx_one (i := .aload_n 0) (len := 1) (by decide +kernel) rfl,
   fun v0 v2 v3 v4 v5 v6 x st h Q => gx_one (i := .iload_n 1) (len := 1) (by decide +kernel) rfl,
   fun v0 v1 v2 v3 v4 v5 v6 a0 o r0 h Q => gx_virt (x := 151) (n := 1) (by decide +kernel) (by decide +kernel) rfl (Or.inl (Nat.le_of_ble_eq_true rfl)) (by show _ ≤ mr_mxl 141; rw [show mr_mxl 141 = 5 from by decide +kernel]; exact Nat.le_of_ble_eq_true rfl) (by decide +kernel),
   fun v0 v1 v2 v3 v4 v5 v6 x y st h Q => gx_br (i := .if_icmp .ge 31) (len := 3) (c := .ge) (by decide +kernel) rfl rfl,
   fun v1 v2 v3 v4 v5 v6 x st h Q => gx_one (i := .aload_n 0) (len := 1) (by decide +kernel) rfl,
   fun v0 v1 v2 v3 v4 v5 v6 a st h Q => gx_get (x := 41) (by decide +kernel) (by decide +kernel),
   fun v0 v1 v3 v4 v5 v6 x st h Q => gx_one (i := .iload_n 2) (len := 1) (by decide +kernel) rfl,
   fun v0 v1 v2 v3 v4 v5 v6 a x st h Q => gx_iald (by decide +kernel),
   fun v0 v1 v2 v3 v4 v5 x st h Q => gx_one (i := .iload 6) (len := 2) (by decide +kernel) rfl,
   fun v0 v1 v2 v3 v4 v5 v6 a0 a1 h Q => gx_stat (x := 116) (t := 130) (n := 2) (by decide +kernel) (by decide +kernel) (by decide) (by decide +kernel) rfl (Or.inl (Nat.le_of_ble_eq_true rfl)) (by show _ ≤ mr_mxl 130; rw [show mr_mxl 130 = 2 from by decide +kernel]; exact Nat.le_of_ble_eq_true rfl),
   fun v0 v1 v2 v3 v4 v5 v6 x st h Q => gx_br (i := .ifCond .eq 17) (len := 3) (c := .eq) (by decide +kernel) rfl rfl,
   fun v1 v2 v3 v4 v5 v6 x st h Q => gx_one (i := .aload_n 0) (len := 1) (by decide +kernel) rfl,
   fun v0 v1 v2 v3 v4 v5 v6 a st h Q => gx_get (x := 41) (by decide +kernel) (by decide +kernel),
   fun v0 v1 v2 v3 v4 v5 x st h Q => gx_one (i := .iload 6) (len := 2) (by decide +kernel) rfl,
   fun v0 v1 v2 v3 v4 v5 v6 a x st h Q => gx_iald (by decide +kernel),
   fun v0 v1 v2 v4 v5 v6 x st h Q => gx_one (i := .iload_n 3) (len := 1) (by decide +kernel) rfl⟩
theorem S_mo_isLabel_1 : (∀ (v0 v1 v2 v3 v4 v5 v6 : Value) (a0 : Int32) (a1 : Int32) (h : mr_h) (Q : Option Value → mr_h → Prop), mr_wp 140 81 [v0, v1, v2, v3, v4, v5, v6] [.int a1, .int a0] h Q = mr_run 130 [.int a0, .int a1] h (fun v h' => mr_wp 140 84 [v0, v1, v2, v3, v4, v5, v6] (v.toList ++ []) h' Q)) ∧
    (∀ (v0 v1 v2 v3 v4 v5 v6 : Value) (x : Int32) (st : List Value) (h : mr_h) (Q : Option Value → mr_h → Prop), mr_wp 140 84 [v0, v1, v2, v3, v4, v5, v6] (.int x :: st) h Q = if ¬ x = 0 then mr_wp 140 91 [v0, v1, v2, v3, v4, v5, v6] st h Q else mr_wp 140 87 [v0, v1, v2, v3, v4, v5, v6] st h Q) ∧
    (∀ (v0 v1 v2 v3 v4 v5 v6 : Value) (st : List Value) (h : mr_h) (Q : Option Value → mr_h → Prop), mr_wp 140 87 [v0, v1, v2, v3, v4, v5, v6] st h Q = mr_wp 140 88 [v0, v1, v2, v3, v4, v5, v6] (.int (1) :: st) h Q) ∧
    (∀ (v0 v1 v2 v3 v4 v5 v6 : Value) (st : List Value) (h : mr_h) (Q : Option Value → mr_h → Prop), mr_wp 140 88 [v0, v1, v2, v3, v4, v5, v6] st h Q = mr_wp 140 92 [v0, v1, v2, v3, v4, v5, v6] st h Q) ∧
    (∀ (v0 v1 v2 v3 v4 v5 v6 : Value) (st : List Value) (h : mr_h) (Q : Option Value → mr_h → Prop), mr_wp 140 91 [v0, v1, v2, v3, v4, v5, v6] st h Q = mr_wp 140 92 [v0, v1, v2, v3, v4, v5, v6] (.int (0) :: st) h Q) ∧
    (∀ (v0 v1 v2 v3 v5 v6 : Value) (w4 : Int32) (x : Int32) (st : List Value) (h : mr_h) (Q : Option Value → mr_h → Prop), mr_wp 140 92 [v0, v1, v2, v3, .int w4, v5, v6] (.int x :: st) h Q = mr_wp 140 94 [v0, v1, v2, v3, .int w4, .int x, v6] st h Q) ∧
    (∀ (v0 v1 v2 v3 v4 : Value) (x : Int32) (w5 : Int32) (st : List Value) (h : mr_h) (Q : Option Value → mr_h → Prop), mr_wp 140 94 [v0, v1, v2, v3, v4, .int w5, .int x] st h Q = mr_wp 140 97 [v0, v1, v2, v3, v4, .int w5, .int (x + (1))] st h Q) ∧
    (∀ (v0 v1 v2 v3 v4 v5 v6 : Value) (st : List Value) (h : mr_h) (Q : Option Value → mr_h → Prop), mr_wp 140 97 [v0, v1, v2, v3, v4, v5, v6] st h Q = mr_wp 140 15 [v0, v1, v2, v3, v4, v5, v6] st h Q) ∧
    (∀ (v0 v1 v2 v3 v4 v6 : Value) (x : Int32) (st : List Value) (h : mr_h) (Q : Option Value → mr_h → Prop), mr_wp 140 100 [v0, v1, v2, v3, v4, .int x, v6] st h Q = mr_wp 140 102 [v0, v1, v2, v3, v4, .int x, v6] (.int x :: st) h Q) ∧
    (∀ (v0 v1 v2 v3 v4 v5 v6 : Value) (x : Int32) (h : mr_h) (Q : Option Value → mr_h → Prop) (hv : x &&& 1 = x), mr_wp 140 102 [v0, v1, v2, v3, v4, v5, v6] [.int x] h Q = Q (some (.int x)) h) :=
  ⟨fun v0 v1 v2 v3 v4 v5 v6 a0 a1 h Q => gx_stat (x := 116) (t := 130) (n := 2) (by decide +kernel) (by decide +kernel) (by decide) (by decide +kernel) rfl (Or.inl (Nat.le_of_ble_eq_true rfl)) (by show _ ≤ mr_mxl 130; rw [show mr_mxl 130 = 2 from by decide +kernel]; exact Nat.le_of_ble_eq_true rfl),
   fun v0 v1 v2 v3 v4 v5 v6 x st h Q => gx_br (i := .ifCond .ne 7) (len := 3) (c := .ne) (by decide +kernel) rfl rfl,
   fun v0 v1 v2 v3 v4 v5 v6 st h Q => gx_one (i := .iconst 1) (len := 1) (by decide +kernel) rfl,
   fun v0 v1 v2 v3 v4 v5 v6 st h Q => gx_one (i := .goto 4) (len := 3) (by decide +kernel) rfl,
   fun v0 v1 v2 v3 v4 v5 v6 st h Q => gx_one (i := .iconst 0) (len := 1) (by decide +kernel) rfl,
   fun v0 v1 v2 v3 v5 v6 w4 x st h Q => gx_one (i := .istore 5) (len := 2) (by decide +kernel) rfl,
   fun v0 v1 v2 v3 v4 x w5 st h Q => gx_one (i := .iinc 6 1) (len := 3) (by decide +kernel) rfl,
   fun v0 v1 v2 v3 v4 v5 v6 st h Q => gx_one (i := .goto (-82)) (len := 3) (by decide +kernel) rfl,
   fun v0 v1 v2 v3 v4 v6 x st h Q => gx_one (i := .iload 5) (len := 2) (by decide +kernel) rfl,
   fun v0 v1 v2 v3 v4 v5 v6 x h Q hv => gx_ret (i := .ireturn) (len := 1) (by decide +kernel) rfl rfl (by simp only [mr_rt, if_pos]; rw [if_pos (Or.inr ⟨by decide +kernel, hv⟩)])⟩

theorem s_mo_ringRank_12 (v0 v1 v2 v3 : Value) (x : Int32) (st : List Value) (h : mr_h) (Q : Option Value → mr_h → Prop) : mr_wp 141 12 [v0, v1, v2, v3, .int x] st h Q = mr_wp 141 14 [v0, v1, v2, v3, .int x] (.int x :: st) h Q := gx_one (i := .iload 4) (len := 2) (by decide +kernel) rfl
theorem S_mo_ringRank : (∀ (v1 v2 v3 v4 : Value) (x : Nat) (st : List Value) (h : mr_h) (Q : Option Value → mr_h → Prop), mr_wp 141 0 [.ref x, v1, v2, v3, v4] st h Q = mr_wp 141 1 [.ref x, v1, v2, v3, v4] (.ref x :: st) h Q) ∧
    (∀ (v0 v2 v3 v4 : Value) (x : Int32) (st : List Value) (h : mr_h) (Q : Option Value → mr_h → Prop), mr_wp 141 1 [v0, .int x, v2, v3, v4] st h Q = mr_wp 141 2 [v0, .int x, v2, v3, v4] (.int x :: st) h Q) ∧
    (∀ (v0 v1 v2 v3 v4 : Value) (a0 : Int32) (o : Nat) (h : mr_h) (Q : Option Value → mr_h → Prop), mr_wp 141 2 [v0, v1, v2, v3, v4] [.int a0, .ref o] h Q = mr_rc (h.1 o) 11 (mr_run 135 [.ref o, .int a0] h (fun v h' => mr_wp 141 5 [v0, v1, v2, v3, v4] (v.toList ++ []) h' Q))) ∧
    (∀ (v0 v2 v3 v4 : Value) (w1 : Int32) (x : Int32) (st : List Value) (h : mr_h) (Q : Option Value → mr_h → Prop), mr_wp 141 5 [v0, .int w1, v2, v3, v4] (.int x :: st) h Q = mr_wp 141 6 [v0, .int w1, .int x, v3, v4] st h Q) ∧
    (∀ (v0 v1 v2 v3 v4 : Value) (st : List Value) (h : mr_h) (Q : Option Value → mr_h → Prop), mr_wp 141 6 [v0, v1, v2, v3, v4] st h Q = mr_wp 141 8 [v0, v1, v2, v3, v4] (.int (99) :: st) h Q) ∧
    (∀ (v0 v1 v3 v4 : Value) (w2 : Int32) (x : Int32) (st : List Value) (h : mr_h) (Q : Option Value → mr_h → Prop), mr_wp 141 8 [v0, v1, .int w2, v3, v4] (.int x :: st) h Q = mr_wp 141 9 [v0, v1, .int w2, .int x, v4] st h Q) ∧
    (∀ (v0 v1 v2 v3 v4 : Value) (st : List Value) (h : mr_h) (Q : Option Value → mr_h → Prop), mr_wp 141 9 [v0, v1, v2, v3, v4] st h Q = mr_wp 141 10 [v0, v1, v2, v3, v4] (.int (0) :: st) h Q) ∧
    (∀ (v0 v1 v2 v4 : Value) (w3 : Int32) (x : Int32) (st : List Value) (h : mr_h) (Q : Option Value → mr_h → Prop), mr_wp 141 10 [v0, v1, v2, .int w3, v4] (.int x :: st) h Q = mr_wp 141 12 [v0, v1, v2, .int w3, .int x] st h Q) ∧
    (∀ (v1 v2 v3 v4 : Value) (x : Nat) (st : List Value) (h : mr_h) (Q : Option Value → mr_h → Prop), mr_wp 141 14 [.ref x, v1, v2, v3, v4] st h Q = mr_wp 141 15 [.ref x, v1, v2, v3, v4] (.ref x :: st) h Q) ∧
    (∀ (v0 v1 v2 v3 v4 : Value) (a : Nat) (st : List Value) (h : mr_h) (Q : Option Value → mr_h → Prop), mr_wp 141 15 [v0, v1, v2, v3, v4] (.ref a :: st) h Q = mr_gf (h.1 a) 11 8 (fun v => mr_wp 141 18 [v0, v1, v2, v3, v4] (v :: st) h Q)) ∧
    (∀ (v0 v1 v2 v3 v4 : Value) (x : Int32) (y : Int32) (st : List Value) (h : mr_h) (Q : Option Value → mr_h → Prop), mr_wp 141 18 [v0, v1, v2, v3, v4] (.int y :: .int x :: st) h Q = if y ≤ x then mr_wp 141 65 [v0, v1, v2, v3, v4] st h Q else mr_wp 141 21 [v0, v1, v2, v3, v4] st h Q) ∧
    (∀ (v0 v1 v3 v4 : Value) (x : Int32) (st : List Value) (h : mr_h) (Q : Option Value → mr_h → Prop), mr_wp 141 21 [v0, v1, .int x, v3, v4] st h Q = mr_wp 141 22 [v0, v1, .int x, v3, v4] (.int x :: st) h Q) ∧
    (∀ (v0 v1 v2 v3 : Value) (x : Int32) (st : List Value) (h : mr_h) (Q : Option Value → mr_h → Prop), mr_wp 141 22 [v0, v1, v2, v3, .int x] st h Q = mr_wp 141 24 [v0, v1, v2, v3, .int x] (.int x :: st) h Q) ∧
    (∀ (v0 v1 v2 v3 v4 : Value) (a0 : Int32) (a1 : Int32) (h : mr_h) (Q : Option Value → mr_h → Prop), mr_wp 141 24 [v0, v1, v2, v3, v4] [.int a1, .int a0] h Q = mr_run 130 [.int a0, .int a1] h (fun v h' => mr_wp 141 27 [v0, v1, v2, v3, v4] (v.toList ++ []) h' Q)) ∧
    (∀ (v0 v1 v2 v3 v4 : Value) (x : Int32) (st : List Value) (h : mr_h) (Q : Option Value → mr_h → Prop), mr_wp 141 27 [v0, v1, v2, v3, v4] (.int x :: st) h Q = if x = 0 then mr_wp 141 57 [v0, v1, v2, v3, v4] st h Q else mr_wp 141 30 [v0, v1, v2, v3, v4] st h Q) ∧
    (∀ (v1 v2 v3 v4 : Value) (x : Nat) (st : List Value) (h : mr_h) (Q : Option Value → mr_h → Prop), mr_wp 141 30 [.ref x, v1, v2, v3, v4] st h Q = mr_wp 141 31 [.ref x, v1, v2, v3, v4] (.ref x :: st) h Q) ∧
    (∀ (v0 v1 v2 v3 v4 : Value) (a : Nat) (st : List Value) (h : mr_h) (Q : Option Value → mr_h → Prop), mr_wp 141 31 [v0, v1, v2, v3, v4] (.ref a :: st) h Q = mr_gf (h.1 a) 11 12 (fun v => mr_wp 141 34 [v0, v1, v2, v3, v4] (v :: st) h Q)) ∧
    (∀ (v0 v1 v2 v3 v4 : Value) (st : List Value) (h : mr_h) (Q : Option Value → mr_h → Prop), mr_wp 141 34 [v0, v1, v2, v3, v4] st h Q = mr_wp 141 36 [v0, v1, v2, v3, v4] (.int (12) :: st) h Q) ∧
    (∀ (v0 v1 v2 v3 : Value) (x : Int32) (st : List Value) (h : mr_h) (Q : Option Value → mr_h → Prop), mr_wp 141 36 [v0, v1, v2, v3, .int x] st h Q = mr_wp 141 38 [v0, v1, v2, v3, .int x] (.int x :: st) h Q) ∧
    (∀ (v0 v1 v2 v3 v4 : Value) (x : Int32) (y : Int32) (st : List Value) (h : mr_h) (Q : Option Value → mr_h → Prop), mr_wp 141 38 [v0, v1, v2, v3, v4] (.int y :: .int x :: st) h Q = mr_wp 141 39 [v0, v1, v2, v3, v4] (.int (x + y) :: st) h Q) ∧
    (∀ (v0 v1 v2 v3 v4 : Value) (a : Nat) (x : Int32) (st : List Value) (h : mr_h) (Q : Option Value → mr_h → Prop), mr_wp 141 39 [v0, v1, v2, v3, v4] (.int x :: .ref a :: st) h Q = mr_ai (h.1 a) x (fun v => mr_wp 141 40 [v0, v1, v2, v3, v4] (.int v :: st) h Q)) ∧
    (∀ (v0 v1 v2 v4 : Value) (x : Int32) (st : List Value) (h : mr_h) (Q : Option Value → mr_h → Prop), mr_wp 141 40 [v0, v1, v2, .int x, v4] st h Q = mr_wp 141 41 [v0, v1, v2, .int x, v4] (.int x :: st) h Q) ∧
    (∀ (v0 v1 v2 v3 v4 : Value) (x : Int32) (y : Int32) (st : List Value) (h : mr_h) (Q : Option Value → mr_h → Prop), mr_wp 141 41 [v0, v1, v2, v3, v4] (.int y :: .int x :: st) h Q = if y ≤ x then mr_wp 141 57 [v0, v1, v2, v3, v4] st h Q else mr_wp 141 44 [v0, v1, v2, v3, v4] st h Q) ∧
    (∀ (v1 v2 v3 v4 : Value) (x : Nat) (st : List Value) (h : mr_h) (Q : Option Value → mr_h → Prop), mr_wp 141 44 [.ref x, v1, v2, v3, v4] st h Q = mr_wp 141 45 [.ref x, v1, v2, v3, v4] (.ref x :: st) h Q) ∧
    (∀ (v0 v1 v2 v3 v4 : Value) (a : Nat) (st : List Value) (h : mr_h) (Q : Option Value → mr_h → Prop), mr_wp 141 45 [v0, v1, v2, v3, v4] (.ref a :: st) h Q = mr_gf (h.1 a) 11 12 (fun v => mr_wp 141 48 [v0, v1, v2, v3, v4] (v :: st) h Q)) ∧
    (∀ (v0 v1 v2 v3 v4 : Value) (st : List Value) (h : mr_h) (Q : Option Value → mr_h → Prop), mr_wp 141 48 [v0, v1, v2, v3, v4] st h Q = mr_wp 141 50 [v0, v1, v2, v3, v4] (.int (12) :: st) h Q) ∧
    (∀ (v0 v1 v2 v3 : Value) (x : Int32) (st : List Value) (h : mr_h) (Q : Option Value → mr_h → Prop), mr_wp 141 50 [v0, v1, v2, v3, .int x] st h Q = mr_wp 141 52 [v0, v1, v2, v3, .int x] (.int x :: st) h Q) ∧
    (∀ (v0 v1 v2 v3 v4 : Value) (x : Int32) (y : Int32) (st : List Value) (h : mr_h) (Q : Option Value → mr_h → Prop), mr_wp 141 52 [v0, v1, v2, v3, v4] (.int y :: .int x :: st) h Q = mr_wp 141 53 [v0, v1, v2, v3, v4] (.int (x + y) :: st) h Q) ∧
    (∀ (v0 v1 v2 v3 v4 : Value) (a : Nat) (x : Int32) (st : List Value) (h : mr_h) (Q : Option Value → mr_h → Prop), mr_wp 141 53 [v0, v1, v2, v3, v4] (.int x :: .ref a :: st) h Q = mr_ai (h.1 a) x (fun v => mr_wp 141 54 [v0, v1, v2, v3, v4] (.int v :: st) h Q)) ∧
    (∀ (v0 v1 v2 v3 v4 : Value) (st : List Value) (h : mr_h) (Q : Option Value → mr_h → Prop), mr_wp 141 54 [v0, v1, v2, v3, v4] st h Q = mr_wp 141 58 [v0, v1, v2, v3, v4] st h Q) ∧
    (∀ (v0 v1 v2 v4 : Value) (x : Int32) (st : List Value) (h : mr_h) (Q : Option Value → mr_h → Prop), mr_wp 141 57 [v0, v1, v2, .int x, v4] st h Q = mr_wp 141 58 [v0, v1, v2, .int x, v4] (.int x :: st) h Q) ∧
    (∀ (v0 v1 v3 v4 : Value) (w2 : Int32) (x : Int32) (st : List Value) (h : mr_h) (Q : Option Value → mr_h → Prop), mr_wp 141 58 [v0, v1, .int w2, v3, v4] (.int x :: st) h Q = mr_wp 141 59 [v0, v1, .int w2, .int x, v4] st h Q) ∧
    (∀ (v0 v1 v2 : Value) (x : Int32) (w3 : Int32) (st : List Value) (h : mr_h) (Q : Option Value → mr_h → Prop), mr_wp 141 59 [v0, v1, v2, .int w3, .int x] st h Q = mr_wp 141 62 [v0, v1, v2, .int w3, .int (x + (1))] st h Q) ∧
    (∀ (v0 v1 v2 v3 v4 : Value) (st : List Value) (h : mr_h) (Q : Option Value → mr_h → Prop), mr_wp 141 62 [v0, v1, v2, v3, v4] st h Q = mr_wp 141 12 [v0, v1, v2, v3, v4] st h Q) ∧
    (∀ (v0 v1 v2 v4 : Value) (x : Int32) (st : List Value) (h : mr_h) (Q : Option Value → mr_h → Prop), mr_wp 141 65 [v0, v1, v2, .int x, v4] st h Q = mr_wp 141 66 [v0, v1, v2, .int x, v4] (.int x :: st) h Q) ∧
    (∀ (v0 v1 v2 v3 v4 : Value) (x : Int32) (h : mr_h) (Q : Option Value → mr_h → Prop), mr_wp 141 66 [v0, v1, v2, v3, v4] [.int x] h Q = Q (some (.int x)) h) :=
  ⟨fun v1 v2 v3 v4 x st h Q => gx_one (i := .aload_n 0) (len := 1) (by decide +kernel) rfl,
   fun v0 v2 v3 v4 x st h Q => gx_one (i := .iload_n 1) (len := 1) (by decide +kernel) rfl,
   fun v0 v1 v2 v3 v4 a0 o h Q => gx_virt (x := 142) (n := 1) (by decide +kernel) (by decide +kernel) rfl (Or.inl (Nat.le_of_ble_eq_true rfl)) (by show _ ≤ mr_mxl 135; rw [show mr_mxl 135 = 2 from by decide +kernel]; exact Nat.le_of_ble_eq_true rfl) (by decide +kernel),
   fun v0 v2 v3 v4 w1 x st h Q => gx_one (i := .istore_n 2) (len := 1) (by decide +kernel) rfl,
   fun v0 v1 v2 v3 v4 st h Q => gx_one (i := .bipush 99) (len := 2) (by decide +kernel) rfl,
   fun v0 v1 v3 v4 w2 x st h Q => gx_one (i := .istore_n 3) (len := 1) (by decide +kernel) rfl,
   fun v0 v1 v2 v3 v4 st h Q => gx_one (i := .iconst 0) (len := 1) (by decide +kernel) rfl,
   fun v0 v1 v2 v4 w3 x st h Q => gx_one (i := .istore 4) (len := 2) (by decide +kernel) rfl,
   fun v1 v2 v3 v4 x st h Q => gx_one (i := .aload_n 0) (len := 1) (by decide +kernel) rfl,
   fun v0 v1 v2 v3 v4 a st h Q => gx_get (x := 123) (by decide +kernel) (by decide +kernel),
   fun v0 v1 v2 v3 v4 x y st h Q => gx_br (i := .if_icmp .ge 47) (len := 3) (c := .ge) (by decide +kernel) rfl rfl,
   fun v0 v1 v3 v4 x st h Q => gx_one (i := .iload_n 2) (len := 1) (by decide +kernel) rfl,
   fun v0 v1 v2 v3 x st h Q => gx_one (i := .iload 4) (len := 2) (by decide +kernel) rfl,
   fun v0 v1 v2 v3 v4 a0 a1 h Q => gx_stat (x := 116) (t := 130) (n := 2) (by decide +kernel) (by decide +kernel) (by decide) (by decide +kernel) rfl (Or.inl (Nat.le_of_ble_eq_true rfl)) (by show _ ≤ mr_mxl 130; rw [show mr_mxl 130 = 2 from by decide +kernel]; exact Nat.le_of_ble_eq_true rfl),
   fun v0 v1 v2 v3 v4 x st h Q => gx_br (i := .ifCond .eq 30) (len := 3) (c := .eq) (by decide +kernel) rfl rfl,
   fun v1 v2 v3 v4 x st h Q => gx_one (i := .aload_n 0) (len := 1) (by decide +kernel) rfl,
   fun v0 v1 v2 v3 v4 a st h Q => gx_get (x := 16) (by decide +kernel) (by decide +kernel),
   fun v0 v1 v2 v3 v4 st h Q => gx_one (i := .bipush 12) (len := 2) (by decide +kernel) rfl,
   fun v0 v1 v2 v3 x st h Q => gx_one (i := .iload 4) (len := 2) (by decide +kernel) rfl,
   fun v0 v1 v2 v3 v4 x y st h Q => gx_one (i := .iadd) (len := 1) (by decide +kernel) rfl,
   fun v0 v1 v2 v3 v4 a x st h Q => gx_iald (by decide +kernel),
   fun v0 v1 v2 v4 x st h Q => gx_one (i := .iload_n 3) (len := 1) (by decide +kernel) rfl,
   fun v0 v1 v2 v3 v4 x y st h Q => gx_br (i := .if_icmp .ge 16) (len := 3) (c := .ge) (by decide +kernel) rfl rfl,
   fun v1 v2 v3 v4 x st h Q => gx_one (i := .aload_n 0) (len := 1) (by decide +kernel) rfl,
   fun v0 v1 v2 v3 v4 a st h Q => gx_get (x := 16) (by decide +kernel) (by decide +kernel),
   fun v0 v1 v2 v3 v4 st h Q => gx_one (i := .bipush 12) (len := 2) (by decide +kernel) rfl,
   fun v0 v1 v2 v3 x st h Q => gx_one (i := .iload 4) (len := 2) (by decide +kernel) rfl,
   fun v0 v1 v2 v3 v4 x y st h Q => gx_one (i := .iadd) (len := 1) (by decide +kernel) rfl,
   fun v0 v1 v2 v3 v4 a x st h Q => gx_iald (by decide +kernel),
   fun v0 v1 v2 v3 v4 st h Q => gx_one (i := .goto 4) (len := 3) (by decide +kernel) rfl,
   fun v0 v1 v2 v4 x st h Q => gx_one (i := .iload_n 3) (len := 1) (by decide +kernel) rfl,
   fun v0 v1 v3 v4 w2 x st h Q => gx_one (i := .istore_n 3) (len := 1) (by decide +kernel) rfl,
   fun v0 v1 v2 x w3 st h Q => gx_one (i := .iinc 4 1) (len := 3) (by decide +kernel) rfl,
   fun v0 v1 v2 v3 v4 st h Q => gx_one (i := .goto (-50)) (len := 3) (by decide +kernel) rfl,
   fun v0 v1 v2 v4 x st h Q => gx_one (i := .iload_n 3) (len := 1) (by decide +kernel) rfl,
   fun v0 v1 v2 v3 v4 x h Q => gx_ret (i := .ireturn) (len := 1) (by decide +kernel) rfl rfl (by simp only [mr_rt, if_pos]; rw [if_pos (Or.inl (by decide +kernel))])⟩
theorem s_mo_outOf_12 (v0 v1 v2 v3 v4 : Value) (x : Int32) (st : List Value) (h : mr_h) (Q : Option Value → mr_h → Prop) : mr_wp 142 12 [v0, v1, v2, v3, v4, .int x] st h Q = mr_wp 142 14 [v0, v1, v2, v3, v4, .int x] (.int x :: st) h Q := gx_one (i := .iload 5) (len := 2) (by decide +kernel) rfl
theorem S_mo_outOf : (∀ (v1 v2 v3 v4 v5 : Value) (x : Nat) (st : List Value) (h : mr_h) (Q : Option Value → mr_h → Prop), mr_wp 142 0 [.ref x, v1, v2, v3, v4, v5] st h Q = mr_wp 142 1 [.ref x, v1, v2, v3, v4, v5] (.ref x :: st) h Q) ∧
    (∀ (v0 v2 v3 v4 v5 : Value) (x : Int32) (st : List Value) (h : mr_h) (Q : Option Value → mr_h → Prop), mr_wp 142 1 [v0, .int x, v2, v3, v4, v5] st h Q = mr_wp 142 2 [v0, .int x, v2, v3, v4, v5] (.int x :: st) h Q) ∧
    (∀ (v0 v1 v2 v3 v4 v5 : Value) (a0 : Int32) (o : Nat) (h : mr_h) (Q : Option Value → mr_h → Prop), mr_wp 142 2 [v0, v1, v2, v3, v4, v5] [.int a0, .ref o] h Q = mr_rc (h.1 o) 11 (mr_run 134 [.ref o, .int a0] h (fun v h' => mr_wp 142 5 [v0, v1, v2, v3, v4, v5] (v.toList ++ []) h' Q))) ∧
    (∀ (v0 v1 v3 v4 v5 : Value) (w2 : Int32) (x : Int32) (st : List Value) (h : mr_h) (Q : Option Value → mr_h → Prop), mr_wp 142 5 [v0, v1, .int w2, v3, v4, v5] (.int x :: st) h Q = mr_wp 142 6 [v0, v1, .int w2, .int x, v4, v5] st h Q) ∧
    (∀ (v0 v1 v2 v3 v4 v5 : Value) (st : List Value) (h : mr_h) (Q : Option Value → mr_h → Prop), mr_wp 142 6 [v0, v1, v2, v3, v4, v5] st h Q = mr_wp 142 7 [v0, v1, v2, v3, v4, v5] (.int (0) :: st) h Q) ∧
    (∀ (v0 v1 v2 v4 v5 : Value) (w3 : Int32) (x : Int32) (st : List Value) (h : mr_h) (Q : Option Value → mr_h → Prop), mr_wp 142 7 [v0, v1, v2, .int w3, v4, v5] (.int x :: st) h Q = mr_wp 142 9 [v0, v1, v2, .int w3, .int x, v5] st h Q) ∧
    (∀ (v0 v1 v2 v3 v4 v5 : Value) (st : List Value) (h : mr_h) (Q : Option Value → mr_h → Prop), mr_wp 142 9 [v0, v1, v2, v3, v4, v5] st h Q = mr_wp 142 10 [v0, v1, v2, v3, v4, v5] (.int (0) :: st) h Q) ∧
    (∀ (v0 v1 v2 v3 v5 : Value) (w4 : Int32) (x : Int32) (st : List Value) (h : mr_h) (Q : Option Value → mr_h → Prop), mr_wp 142 10 [v0, v1, v2, v3, .int w4, v5] (.int x :: st) h Q = mr_wp 142 12 [v0, v1, v2, v3, .int w4, .int x] st h Q) ∧
    (∀ (v1 v2 v3 v4 v5 : Value) (x : Nat) (st : List Value) (h : mr_h) (Q : Option Value → mr_h → Prop), mr_wp 142 14 [.ref x, v1, v2, v3, v4, v5] st h Q = mr_wp 142 15 [.ref x, v1, v2, v3, v4, v5] (.ref x :: st) h Q) ∧
    (∀ (v0 v1 v2 v3 v4 v5 : Value) (a : Nat) (st : List Value) (h : mr_h) (Q : Option Value → mr_h → Prop), mr_wp 142 15 [v0, v1, v2, v3, v4, v5] (.ref a :: st) h Q = mr_gf (h.1 a) 11 8 (fun v => mr_wp 142 18 [v0, v1, v2, v3, v4, v5] (v :: st) h Q)) ∧
    (∀ (v0 v1 v2 v3 v4 v5 : Value) (x : Int32) (y : Int32) (st : List Value) (h : mr_h) (Q : Option Value → mr_h → Prop), mr_wp 142 18 [v0, v1, v2, v3, v4, v5] (.int y :: .int x :: st) h Q = if y ≤ x then mr_wp 142 62 [v0, v1, v2, v3, v4, v5] st h Q else mr_wp 142 21 [v0, v1, v2, v3, v4, v5] st h Q) ∧
    (∀ (v0 v1 v2 v3 v5 : Value) (x : Int32) (st : List Value) (h : mr_h) (Q : Option Value → mr_h → Prop), mr_wp 142 21 [v0, v1, v2, v3, .int x, v5] st h Q = mr_wp 142 23 [v0, v1, v2, v3, .int x, v5] (.int x :: st) h Q) ∧
    (∀ (v0 v1 v3 v4 v5 : Value) (x : Int32) (st : List Value) (h : mr_h) (Q : Option Value → mr_h → Prop), mr_wp 142 23 [v0, v1, .int x, v3, v4, v5] st h Q = mr_wp 142 24 [v0, v1, .int x, v3, v4, v5] (.int x :: st) h Q) ∧
    (∀ (v0 v1 v2 v3 v4 : Value) (x : Int32) (st : List Value) (h : mr_h) (Q : Option Value → mr_h → Prop), mr_wp 142 24 [v0, v1, v2, v3, v4, .int x] st h Q = mr_wp 142 26 [v0, v1, v2, v3, v4, .int x] (.int x :: st) h Q) ∧
    (∀ (v0 v1 v2 v3 v4 v5 : Value) (a0 : Int32) (a1 : Int32) (r0 : Value) (h : mr_h) (Q : Option Value → mr_h → Prop), mr_wp 142 26 [v0, v1, v2, v3, v4, v5] [.int a1, .int a0, r0] h Q = mr_run 130 [.int a0, .int a1] h (fun v h' => mr_wp 142 29 [v0, v1, v2, v3, v4, v5] (v.toList ++ [r0]) h' Q)) ∧
    (∀ (v0 v1 v2 v3 v4 v5 : Value) (x : Int32) (st : List Value) (h : mr_h) (Q : Option Value → mr_h → Prop), mr_wp 142 29 [v0, v1, v2, v3, v4, v5] (.int x :: st) h Q = if x = 0 then mr_wp 142 52 [v0, v1, v2, v3, v4, v5] st h Q else mr_wp 142 32 [v0, v1, v2, v3, v4, v5] st h Q) ∧
    (∀ (v1 v2 v3 v4 v5 : Value) (x : Nat) (st : List Value) (h : mr_h) (Q : Option Value → mr_h → Prop), mr_wp 142 32 [.ref x, v1, v2, v3, v4, v5] st h Q = mr_wp 142 33 [.ref x, v1, v2, v3, v4, v5] (.ref x :: st) h Q) ∧
    (∀ (v0 v1 v2 v3 v4 : Value) (x : Int32) (st : List Value) (h : mr_h) (Q : Option Value → mr_h → Prop), mr_wp 142 33 [v0, v1, v2, v3, v4, .int x] st h Q = mr_wp 142 35 [v0, v1, v2, v3, v4, .int x] (.int x :: st) h Q) ∧
    (∀ (v0 v1 v2 v4 v5 : Value) (x : Int32) (st : List Value) (h : mr_h) (Q : Option Value → mr_h → Prop), mr_wp 142 35 [v0, v1, v2, .int x, v4, v5] st h Q = mr_wp 142 36 [v0, v1, v2, .int x, v4, v5] (.int x :: st) h Q) ∧
    (∀ (v0 v1 v2 v3 v4 : Value) (x : Int32) (st : List Value) (h : mr_h) (Q : Option Value → mr_h → Prop), mr_wp 142 36 [v0, v1, v2, v3, v4, .int x] st h Q = mr_wp 142 38 [v0, v1, v2, v3, v4, .int x] (.int x :: st) h Q) ∧
    (∀ (v0 v1 v3 v4 v5 : Value) (x : Int32) (st : List Value) (h : mr_h) (Q : Option Value → mr_h → Prop), mr_wp 142 38 [v0, v1, .int x, v3, v4, v5] st h Q = mr_wp 142 39 [v0, v1, .int x, v3, v4, v5] (.int x :: st) h Q) ∧
    (∀ (v0 v1 v2 v3 v4 v5 : Value) (a0 : Int32) (a1 : Int32) (a2 : Int32) (a3 : Int32) (o : Nat) (r0 : Value) (h : mr_h) (Q : Option Value → mr_h → Prop), mr_wp 142 39 [v0, v1, v2, v3, v4, v5] [.int a3, .int a2, .int a1, .int a0, .ref o, r0] h Q = mr_rc (h.1 o) 11 (mr_run 140 [.ref o, .int a0, .int a1, .int a2, .int a3] h (fun v h' => mr_wp 142 42 [v0, v1, v2, v3, v4, v5] (v.toList ++ [r0]) h' Q))) ∧
    (∀ (v0 v1 v2 v3 v4 v5 : Value) (x : Int32) (st : List Value) (h : mr_h) (Q : Option Value → mr_h → Prop), mr_wp 142 42 [v0, v1, v2, v3, v4, v5] (.int x :: st) h Q = if x = 0 then mr_wp 142 52 [v0, v1, v2, v3, v4, v5] st h Q else mr_wp 142 45 [v0, v1, v2, v3, v4, v5] st h Q) ∧
    (∀ (v0 v1 v2 v3 v4 v5 : Value) (st : List Value) (h : mr_h) (Q : Option Value → mr_h → Prop), mr_wp 142 45 [v0, v1, v2, v3, v4, v5] st h Q = mr_wp 142 46 [v0, v1, v2, v3, v4, v5] (.int (1) :: st) h Q) ∧
    (∀ (v0 v1 v2 v3 v4 : Value) (x : Int32) (st : List Value) (h : mr_h) (Q : Option Value → mr_h → Prop), mr_wp 142 46 [v0, v1, v2, v3, v4, .int x] st h Q = mr_wp 142 48 [v0, v1, v2, v3, v4, .int x] (.int x :: st) h Q) ∧
    (∀ (v0 v1 v2 v3 v4 v5 : Value) (x : Int32) (y : Int32) (st : List Value) (h : mr_h) (Q : Option Value → mr_h → Prop), mr_wp 142 48 [v0, v1, v2, v3, v4, v5] (.int y :: .int x :: st) h Q = mr_wp 142 49 [v0, v1, v2, v3, v4, v5] (.int (x <<< (y &&& 31)) :: st) h Q) ∧
    (∀ (v0 v1 v2 v3 v4 v5 : Value) (st : List Value) (h : mr_h) (Q : Option Value → mr_h → Prop), mr_wp 142 49 [v0, v1, v2, v3, v4, v5] st h Q = mr_wp 142 53 [v0, v1, v2, v3, v4, v5] st h Q) ∧
    (∀ (v0 v1 v2 v3 v4 v5 : Value) (st : List Value) (h : mr_h) (Q : Option Value → mr_h → Prop), mr_wp 142 52 [v0, v1, v2, v3, v4, v5] st h Q = mr_wp 142 53 [v0, v1, v2, v3, v4, v5] (.int (0) :: st) h Q) ∧
    (∀ (v0 v1 v2 v3 v4 v5 : Value) (x : Int32) (y : Int32) (st : List Value) (h : mr_h) (Q : Option Value → mr_h → Prop), mr_wp 142 53 [v0, v1, v2, v3, v4, v5] (.int y :: .int x :: st) h Q = mr_wp 142 54 [v0, v1, v2, v3, v4, v5] (.int (x ||| y) :: st) h Q) ∧
    (∀ (v0 v1 v2 v4 v5 : Value) (w3 : Int32) (x : Int32) (st : List Value) (h : mr_h) (Q : Option Value → mr_h → Prop), mr_wp 142 54 [v0, v1, v2, .int w3, v4, v5] (.int x :: st) h Q = mr_wp 142 56 [v0, v1, v2, .int w3, .int x, v5] st h Q) ∧
    (∀ (v0 v1 v2 v3 : Value) (x : Int32) (w4 : Int32) (st : List Value) (h : mr_h) (Q : Option Value → mr_h → Prop), mr_wp 142 56 [v0, v1, v2, v3, .int w4, .int x] st h Q = mr_wp 142 59 [v0, v1, v2, v3, .int w4, .int (x + (1))] st h Q) ∧
    (∀ (v0 v1 v2 v3 v4 v5 : Value) (st : List Value) (h : mr_h) (Q : Option Value → mr_h → Prop), mr_wp 142 59 [v0, v1, v2, v3, v4, v5] st h Q = mr_wp 142 12 [v0, v1, v2, v3, v4, v5] st h Q) ∧
    (∀ (v0 v1 v2 v3 v5 : Value) (x : Int32) (st : List Value) (h : mr_h) (Q : Option Value → mr_h → Prop), mr_wp 142 62 [v0, v1, v2, v3, .int x, v5] st h Q = mr_wp 142 64 [v0, v1, v2, v3, .int x, v5] (.int x :: st) h Q) ∧
    (∀ (v0 v1 v2 v3 v4 v5 : Value) (x : Int32) (h : mr_h) (Q : Option Value → mr_h → Prop), mr_wp 142 64 [v0, v1, v2, v3, v4, v5] [.int x] h Q = Q (some (.int x)) h) :=
  ⟨fun v1 v2 v3 v4 v5 x st h Q => gx_one (i := .aload_n 0) (len := 1) (by decide +kernel) rfl,
   fun v0 v2 v3 v4 v5 x st h Q => gx_one (i := .iload_n 1) (len := 1) (by decide +kernel) rfl,
   fun v0 v1 v2 v3 v4 v5 a0 o h Q => gx_virt (x := 148) (n := 1) (by decide +kernel) (by decide +kernel) rfl (Or.inl (Nat.le_of_ble_eq_true rfl)) (by show _ ≤ mr_mxl 134; rw [show mr_mxl 134 = 2 from by decide +kernel]; exact Nat.le_of_ble_eq_true rfl) (by decide +kernel),
   fun v0 v1 v3 v4 v5 w2 x st h Q => gx_one (i := .istore_n 3) (len := 1) (by decide +kernel) rfl,
   fun v0 v1 v2 v3 v4 v5 st h Q => gx_one (i := .iconst 0) (len := 1) (by decide +kernel) rfl,
   fun v0 v1 v2 v4 v5 w3 x st h Q => gx_one (i := .istore 4) (len := 2) (by decide +kernel) rfl,
   fun v0 v1 v2 v3 v4 v5 st h Q => gx_one (i := .iconst 0) (len := 1) (by decide +kernel) rfl,
   fun v0 v1 v2 v3 v5 w4 x st h Q => gx_one (i := .istore 5) (len := 2) (by decide +kernel) rfl,
   fun v1 v2 v3 v4 v5 x st h Q => gx_one (i := .aload_n 0) (len := 1) (by decide +kernel) rfl,
   fun v0 v1 v2 v3 v4 v5 a st h Q => gx_get (x := 123) (by decide +kernel) (by decide +kernel),
   fun v0 v1 v2 v3 v4 v5 x y st h Q => gx_br (i := .if_icmp .ge 44) (len := 3) (c := .ge) (by decide +kernel) rfl rfl,
   fun v0 v1 v2 v3 v5 x st h Q => gx_one (i := .iload 4) (len := 2) (by decide +kernel) rfl,
   fun v0 v1 v3 v4 v5 x st h Q => gx_one (i := .iload_n 2) (len := 1) (by decide +kernel) rfl,
   fun v0 v1 v2 v3 v4 x st h Q => gx_one (i := .iload 5) (len := 2) (by decide +kernel) rfl,
   fun v0 v1 v2 v3 v4 v5 a0 a1 r0 h Q => gx_stat (x := 116) (t := 130) (n := 2) (by decide +kernel) (by decide +kernel) (by decide) (by decide +kernel) rfl (Or.inl (Nat.le_of_ble_eq_true rfl)) (by show _ ≤ mr_mxl 130; rw [show mr_mxl 130 = 2 from by decide +kernel]; exact Nat.le_of_ble_eq_true rfl),
   fun v0 v1 v2 v3 v4 v5 x st h Q => gx_br (i := .ifCond .eq 23) (len := 3) (c := .eq) (by decide +kernel) rfl rfl,
   fun v1 v2 v3 v4 v5 x st h Q => gx_one (i := .aload_n 0) (len := 1) (by decide +kernel) rfl,
   fun v0 v1 v2 v3 v4 x st h Q => gx_one (i := .iload 5) (len := 2) (by decide +kernel) rfl,
   fun v0 v1 v2 v4 v5 x st h Q => gx_one (i := .iload_n 3) (len := 1) (by decide +kernel) rfl,
   fun v0 v1 v2 v3 v4 x st h Q => gx_one (i := .iload 5) (len := 2) (by decide +kernel) rfl,
   fun v0 v1 v3 v4 v5 x st h Q => gx_one (i := .iload_n 2) (len := 1) (by decide +kernel) rfl,
   fun v0 v1 v2 v3 v4 v5 a0 a1 a2 a3 o r0 h Q => gx_virt (x := 154) (n := 4) (by decide +kernel) (by decide +kernel) rfl (Or.inl (Nat.le_of_ble_eq_true rfl)) (by show _ ≤ mr_mxl 140; rw [show mr_mxl 140 = 7 from by decide +kernel]; exact Nat.le_of_ble_eq_true rfl) (by decide +kernel),
   fun v0 v1 v2 v3 v4 v5 x st h Q => gx_br (i := .ifCond .eq 10) (len := 3) (c := .eq) (by decide +kernel) rfl rfl,
   fun v0 v1 v2 v3 v4 v5 st h Q => gx_one (i := .iconst 1) (len := 1) (by decide +kernel) rfl,
   fun v0 v1 v2 v3 v4 x st h Q => gx_one (i := .iload 5) (len := 2) (by decide +kernel) rfl,
   fun v0 v1 v2 v3 v4 v5 x y st h Q => gx_one (i := .ishl) (len := 1) (by decide +kernel) rfl,
   fun v0 v1 v2 v3 v4 v5 st h Q => gx_one (i := .goto 4) (len := 3) (by decide +kernel) rfl,
   fun v0 v1 v2 v3 v4 v5 st h Q => gx_one (i := .iconst 0) (len := 1) (by decide +kernel) rfl,
   fun v0 v1 v2 v3 v4 v5 x y st h Q => gx_one (i := .ior) (len := 1) (by decide +kernel) rfl,
   fun v0 v1 v2 v4 v5 w3 x st h Q => gx_one (i := .istore 4) (len := 2) (by decide +kernel) rfl,
   fun v0 v1 v2 v3 x w4 st h Q => gx_one (i := .iinc 5 1) (len := 3) (by decide +kernel) rfl,
   fun v0 v1 v2 v3 v4 v5 st h Q => gx_one (i := .goto (-47)) (len := 3) (by decide +kernel) rfl,
   fun v0 v1 v2 v3 v5 x st h Q => gx_one (i := .iload 4) (len := 2) (by decide +kernel) rfl,
   fun v0 v1 v2 v3 v4 v5 x h Q => gx_ret (i := .ireturn) (len := 1) (by decide +kernel) rfl rfl (by simp only [mr_rt, if_pos]; rw [if_pos (Or.inl (by decide +kernel))])⟩
theorem S_mo_edge : (∀ (v1 v2 : Value) (x : Nat) (st : List Value) (h : mr_h) (Q : Option Value → mr_h → Prop), mr_wp 143 0 [.ref x, v1, v2] st h Q = mr_wp 143 1 [.ref x, v1, v2] (.ref x :: st) h Q) ∧
    (∀ (v0 v1 v2 : Value) (st : List Value) (h : mr_h) (Q : Option Value → mr_h → Prop), mr_wp 143 1 [v0, v1, v2] st h Q = mr_wp 143 2 [v0, v1, v2] (.int (0) :: st) h Q) ∧
    (∀ (v0 v1 v2 : Value) (a : Nat) (x : Int32) (st : List Value) (h : mr_h) (Q : Option Value → mr_h → Prop), mr_wp 143 2 [v0, v1, v2] (.int x :: .ref a :: st) h Q = mr_pf (h.1 a) 11 0 (.int x) (fun c => mr_wp 143 5 [v0, v1, v2] st (mr_up h a c) Q)) ∧
    (∀ (v1 v2 : Value) (x : Nat) (st : List Value) (h : mr_h) (Q : Option Value → mr_h → Prop), mr_wp 143 5 [.ref x, v1, v2] st h Q = mr_wp 143 6 [.ref x, v1, v2] (.ref x :: st) h Q) ∧
    (∀ (v0 v2 : Value) (x : Int32) (st : List Value) (h : mr_h) (Q : Option Value → mr_h → Prop), mr_wp 143 6 [v0, .int x, v2] st h Q = mr_wp 143 7 [v0, .int x, v2] (.int x :: st) h Q) ∧
    (∀ (v0 v1 : Value) (x : Int32) (st : List Value) (h : mr_h) (Q : Option Value → mr_h → Prop), mr_wp 143 7 [v0, v1, .int x] st h Q = mr_wp 143 8 [v0, v1, .int x] (.int x :: st) h Q) ∧
    (∀ (v0 v1 v2 : Value) (a0 : Int32) (a1 : Int32) (o : Nat) (h : mr_h) (Q : Option Value → mr_h → Prop), mr_wp 143 8 [v0, v1, v2] [.int a1, .int a0, .ref o] h Q = mr_rc (h.1 o) 11 (mr_run 144 [.ref o, .int a0, .int a1] h (fun v h' => mr_wp 143 11 [v0, v1, v2] (v.toList ++ []) h' Q))) ∧
    (∀ (v0 v1 v2 : Value) (x : Int32) (st : List Value) (h : mr_h) (Q : Option Value → mr_h → Prop), mr_wp 143 11 [v0, v1, v2] (.int x :: st) h Q = if x = 0 then mr_wp 143 29 [v0, v1, v2] st h Q else mr_wp 143 14 [v0, v1, v2] st h Q) ∧
    (∀ (v1 v2 : Value) (x : Nat) (st : List Value) (h : mr_h) (Q : Option Value → mr_h → Prop), mr_wp 143 14 [.ref x, v1, v2] st h Q = mr_wp 143 15 [.ref x, v1, v2] (.ref x :: st) h Q) ∧
    (∀ (v0 v1 v2 : Value) (a : Nat) (st : List Value) (h : mr_h) (Q : Option Value → mr_h → Prop), mr_wp 143 15 [v0, v1, v2] (.ref a :: st) h Q = mr_gf (h.1 a) 11 12 (fun v => mr_wp 143 18 [v0, v1, v2] (v :: st) h Q)) ∧
    (∀ (v0 v1 v2 : Value) (st : List Value) (h : mr_h) (Q : Option Value → mr_h → Prop), mr_wp 143 18 [v0, v1, v2] st h Q = mr_wp 143 19 [v0, v1, v2] (.int (0) :: st) h Q) ∧
    (∀ (v0 v2 : Value) (x : Int32) (st : List Value) (h : mr_h) (Q : Option Value → mr_h → Prop), mr_wp 143 19 [v0, .int x, v2] st h Q = mr_wp 143 20 [v0, .int x, v2] (.int x :: st) h Q) ∧
    (∀ (v0 v1 v2 : Value) (x : Int32) (y : Int32) (st : List Value) (h : mr_h) (Q : Option Value → mr_h → Prop), mr_wp 143 20 [v0, v1, v2] (.int y :: .int x :: st) h Q = mr_wp 143 21 [v0, v1, v2] (.int (x + y) :: st) h Q) ∧
    (∀ (v0 v1 v2 : Value) (a : Nat) (x : Int32) (st : List Value) (h : mr_h) (Q : Option Value → mr_h → Prop), mr_wp 143 21 [v0, v1, v2] (.int x :: .ref a :: st) h Q = mr_ai (h.1 a) x (fun v => mr_wp 143 22 [v0, v1, v2] (.int v :: st) h Q)) ∧
    (∀ (v0 v1 : Value) (x : Int32) (st : List Value) (h : mr_h) (Q : Option Value → mr_h → Prop), mr_wp 143 22 [v0, v1, .int x] st h Q = mr_wp 143 23 [v0, v1, .int x] (.int x :: st) h Q) ∧
    (∀ (v0 v1 v2 : Value) (x : Int32) (y : Int32) (st : List Value) (h : mr_h) (Q : Option Value → mr_h → Prop), mr_wp 143 23 [v0, v1, v2] (.int y :: .int x :: st) h Q = mr_wp 143 24 [v0, v1, v2] (.int (x >>> (y &&& 31)) :: st) h Q) ∧
    (∀ (v0 v1 v2 : Value) (st : List Value) (h : mr_h) (Q : Option Value → mr_h → Prop), mr_wp 143 24 [v0, v1, v2] st h Q = mr_wp 143 25 [v0, v1, v2] (.int (1) :: st) h Q) ∧
    (∀ (v0 v1 v2 : Value) (x : Int32) (y : Int32) (st : List Value) (h : mr_h) (Q : Option Value → mr_h → Prop), mr_wp 143 25 [v0, v1, v2] (.int y :: .int x :: st) h Q = mr_wp 143 26 [v0, v1, v2] (.int (x &&& y) :: st) h Q) ∧
    (∀ (v0 v1 v2 : Value) (st : List Value) (h : mr_h) (Q : Option Value → mr_h → Prop), mr_wp 143 26 [v0, v1, v2] st h Q = mr_wp 143 30 [v0, v1, v2] st h Q) ∧
    (∀ (v0 v1 v2 : Value) (st : List Value) (h : mr_h) (Q : Option Value → mr_h → Prop), mr_wp 143 29 [v0, v1, v2] st h Q = mr_wp 143 30 [v0, v1, v2] (.int (-1) :: st) h Q) ∧
    (∀ (v0 v1 v2 : Value) (x : Int32) (h : mr_h) (Q : Option Value → mr_h → Prop), mr_wp 143 30 [v0, v1, v2] [.int x] h Q = Q (some (.int x)) h) :=
  ⟨fun v1 v2 x st h Q => gx_one (i := .aload_n 0) (len := 1) (by decide +kernel) rfl,
   fun v0 v1 v2 st h Q => gx_one (i := .iconst 0) (len := 1) (by decide +kernel) rfl,
   fun v0 v1 v2 a x st h Q => gx_put (x := 65) (by decide +kernel) (by decide +kernel) ⟨rfl, Or.inl rfl⟩,
   fun v1 v2 x st h Q => gx_one (i := .aload_n 0) (len := 1) (by decide +kernel) rfl,
   fun v0 v2 x st h Q => gx_one (i := .iload_n 1) (len := 1) (by decide +kernel) rfl,
   fun v0 v1 x st h Q => gx_one (i := .iload_n 2) (len := 1) (by decide +kernel) rfl,
   fun v0 v1 v2 a0 a1 o h Q => gx_virt (x := 173) (n := 2) (by decide +kernel) (by decide +kernel) rfl (Or.inl (Nat.le_of_ble_eq_true rfl)) (by show _ ≤ mr_mxl 144; rw [show mr_mxl 144 = 3 from by decide +kernel]; exact Nat.le_of_ble_eq_true rfl) (by decide +kernel),
   fun v0 v1 v2 x st h Q => gx_br (i := .ifCond .eq 18) (len := 3) (c := .eq) (by decide +kernel) rfl rfl,
   fun v1 v2 x st h Q => gx_one (i := .aload_n 0) (len := 1) (by decide +kernel) rfl,
   fun v0 v1 v2 a st h Q => gx_get (x := 16) (by decide +kernel) (by decide +kernel),
   fun v0 v1 v2 st h Q => gx_one (i := .iconst 0) (len := 1) (by decide +kernel) rfl,
   fun v0 v2 x st h Q => gx_one (i := .iload_n 1) (len := 1) (by decide +kernel) rfl,
   fun v0 v1 v2 x y st h Q => gx_one (i := .iadd) (len := 1) (by decide +kernel) rfl,
   fun v0 v1 v2 a x st h Q => gx_iald (by decide +kernel),
   fun v0 v1 x st h Q => gx_one (i := .iload_n 2) (len := 1) (by decide +kernel) rfl,
   fun v0 v1 v2 x y st h Q => gx_one (i := .ishr) (len := 1) (by decide +kernel) rfl,
   fun v0 v1 v2 st h Q => gx_one (i := .iconst 1) (len := 1) (by decide +kernel) rfl,
   fun v0 v1 v2 x y st h Q => gx_one (i := .iand) (len := 1) (by decide +kernel) rfl,
   fun v0 v1 v2 st h Q => gx_one (i := .goto 4) (len := 3) (by decide +kernel) rfl,
   fun v0 v1 v2 st h Q => gx_one (i := .iconst (-1)) (len := 1) (by decide +kernel) rfl,
   fun v0 v1 v2 x h Q => gx_ret (i := .ireturn) (len := 1) (by decide +kernel) rfl rfl (by simp only [mr_rt, if_pos]; rw [if_pos (Or.inl (by decide +kernel))])⟩
theorem S_mo_isTwo : (∀ (v1 v2 : Value) (x : Nat) (st : List Value) (h : mr_h) (Q : Option Value → mr_h → Prop), mr_wp 144 0 [.ref x, v1, v2] st h Q = mr_wp 144 1 [.ref x, v1, v2] (.ref x :: st) h Q) ∧
    (∀ (v0 v2 : Value) (x : Int32) (st : List Value) (h : mr_h) (Q : Option Value → mr_h → Prop), mr_wp 144 1 [v0, .int x, v2] st h Q = mr_wp 144 2 [v0, .int x, v2] (.int x :: st) h Q) ∧
    (∀ (v0 v1 v2 : Value) (a0 : Int32) (o : Nat) (h : mr_h) (Q : Option Value → mr_h → Prop), mr_wp 144 2 [v0, v1, v2] [.int a0, .ref o] h Q = mr_rc (h.1 o) 11 (mr_run 132 [.ref o, .int a0] h (fun v h' => mr_wp 144 5 [v0, v1, v2] (v.toList ++ []) h' Q))) ∧
    (∀ (v0 v1 v2 : Value) (x : Int32) (st : List Value) (h : mr_h) (Q : Option Value → mr_h → Prop), mr_wp 144 5 [v0, v1, v2] (.int x :: st) h Q = if x = 0 then mr_wp 144 25 [v0, v1, v2] st h Q else mr_wp 144 8 [v0, v1, v2] st h Q) ∧
    (∀ (v1 v2 : Value) (x : Nat) (st : List Value) (h : mr_h) (Q : Option Value → mr_h → Prop), mr_wp 144 8 [.ref x, v1, v2] st h Q = mr_wp 144 9 [.ref x, v1, v2] (.ref x :: st) h Q) ∧
    (∀ (v0 v1 : Value) (x : Int32) (st : List Value) (h : mr_h) (Q : Option Value → mr_h → Prop), mr_wp 144 9 [v0, v1, .int x] st h Q = mr_wp 144 10 [v0, v1, .int x] (.int x :: st) h Q) ∧
    (∀ (v0 v1 v2 : Value) (a0 : Int32) (o : Nat) (h : mr_h) (Q : Option Value → mr_h → Prop), mr_wp 144 10 [v0, v1, v2] [.int a0, .ref o] h Q = mr_rc (h.1 o) 11 (mr_run 132 [.ref o, .int a0] h (fun v h' => mr_wp 144 13 [v0, v1, v2] (v.toList ++ []) h' Q))) ∧
    (∀ (v0 v1 v2 : Value) (x : Int32) (st : List Value) (h : mr_h) (Q : Option Value → mr_h → Prop), mr_wp 144 13 [v0, v1, v2] (.int x :: st) h Q = if x = 0 then mr_wp 144 25 [v0, v1, v2] st h Q else mr_wp 144 16 [v0, v1, v2] st h Q) ∧
    (∀ (v0 v2 : Value) (x : Int32) (st : List Value) (h : mr_h) (Q : Option Value → mr_h → Prop), mr_wp 144 16 [v0, .int x, v2] st h Q = mr_wp 144 17 [v0, .int x, v2] (.int x :: st) h Q) ∧
    (∀ (v0 v1 : Value) (x : Int32) (st : List Value) (h : mr_h) (Q : Option Value → mr_h → Prop), mr_wp 144 17 [v0, v1, .int x] st h Q = mr_wp 144 18 [v0, v1, .int x] (.int x :: st) h Q) ∧
    (∀ (v0 v1 v2 : Value) (x : Int32) (y : Int32) (st : List Value) (h : mr_h) (Q : Option Value → mr_h → Prop), mr_wp 144 18 [v0, v1, v2] (.int y :: .int x :: st) h Q = if x = y then mr_wp 144 25 [v0, v1, v2] st h Q else mr_wp 144 21 [v0, v1, v2] st h Q) ∧
    (∀ (v0 v1 v2 : Value) (st : List Value) (h : mr_h) (Q : Option Value → mr_h → Prop), mr_wp 144 21 [v0, v1, v2] st h Q = mr_wp 144 22 [v0, v1, v2] (.int (1) :: st) h Q) ∧
    (∀ (v0 v1 v2 : Value) (st : List Value) (h : mr_h) (Q : Option Value → mr_h → Prop), mr_wp 144 22 [v0, v1, v2] st h Q = mr_wp 144 26 [v0, v1, v2] st h Q) ∧
    (∀ (v0 v1 v2 : Value) (st : List Value) (h : mr_h) (Q : Option Value → mr_h → Prop), mr_wp 144 25 [v0, v1, v2] st h Q = mr_wp 144 26 [v0, v1, v2] (.int (0) :: st) h Q) ∧
    (∀ (v0 v1 v2 : Value) (x : Int32) (h : mr_h) (Q : Option Value → mr_h → Prop) (hv : x &&& 1 = x), mr_wp 144 26 [v0, v1, v2] [.int x] h Q = Q (some (.int x)) h) :=
  ⟨fun v1 v2 x st h Q => gx_one (i := .aload_n 0) (len := 1) (by decide +kernel) rfl,
   fun v0 v2 x st h Q => gx_one (i := .iload_n 1) (len := 1) (by decide +kernel) rfl,
   fun v0 v1 v2 a0 o h Q => gx_virt (x := 132) (n := 1) (by decide +kernel) (by decide +kernel) rfl (Or.inl (Nat.le_of_ble_eq_true rfl)) (by show _ ≤ mr_mxl 132; rw [show mr_mxl 132 = 2 from by decide +kernel]; exact Nat.le_of_ble_eq_true rfl) (by decide +kernel),
   fun v0 v1 v2 x st h Q => gx_br (i := .ifCond .eq 20) (len := 3) (c := .eq) (by decide +kernel) rfl rfl,
   fun v1 v2 x st h Q => gx_one (i := .aload_n 0) (len := 1) (by decide +kernel) rfl,
   fun v0 v1 x st h Q => gx_one (i := .iload_n 2) (len := 1) (by decide +kernel) rfl,
   fun v0 v1 v2 a0 o h Q => gx_virt (x := 132) (n := 1) (by decide +kernel) (by decide +kernel) rfl (Or.inl (Nat.le_of_ble_eq_true rfl)) (by show _ ≤ mr_mxl 132; rw [show mr_mxl 132 = 2 from by decide +kernel]; exact Nat.le_of_ble_eq_true rfl) (by decide +kernel),
   fun v0 v1 v2 x st h Q => gx_br (i := .ifCond .eq 12) (len := 3) (c := .eq) (by decide +kernel) rfl rfl,
   fun v0 v2 x st h Q => gx_one (i := .iload_n 1) (len := 1) (by decide +kernel) rfl,
   fun v0 v1 x st h Q => gx_one (i := .iload_n 2) (len := 1) (by decide +kernel) rfl,
   fun v0 v1 v2 x y st h Q => gx_br (i := .if_icmp .eq 7) (len := 3) (c := .eq) (by decide +kernel) rfl rfl,
   fun v0 v1 v2 st h Q => gx_one (i := .iconst 1) (len := 1) (by decide +kernel) rfl,
   fun v0 v1 v2 st h Q => gx_one (i := .goto 4) (len := 3) (by decide +kernel) rfl,
   fun v0 v1 v2 st h Q => gx_one (i := .iconst 0) (len := 1) (by decide +kernel) rfl,
   fun v0 v1 v2 x h Q hv => gx_ret (i := .ireturn) (len := 1) (by decide +kernel) rfl rfl (by simp only [mr_rt, if_pos]; rw [if_pos (Or.inr ⟨by decide +kernel, hv⟩)])⟩
theorem S_mo_now_0 : (∀ (v1 : Value) (x : Nat) (st : List Value) (h : mr_h) (Q : Option Value → mr_h → Prop), mr_wp 145 0 [.ref x, v1] st h Q = mr_wp 145 1 [.ref x, v1] (.ref x :: st) h Q) ∧
    (∀ (v0 v1 : Value) (st : List Value) (h : mr_h) (Q : Option Value → mr_h → Prop), mr_wp 145 1 [v0, v1] st h Q = mr_wp 145 2 [v0, v1] (.int (0) :: st) h Q) ∧
    (∀ (v0 v1 : Value) (a : Nat) (x : Int32) (st : List Value) (h : mr_h) (Q : Option Value → mr_h → Prop), mr_wp 145 2 [v0, v1] (.int x :: .ref a :: st) h Q = mr_pf (h.1 a) 11 0 (.int x) (fun c => mr_wp 145 5 [v0, v1] st (mr_up h a c) Q)) ∧
    (∀ (v0 : Value) (x : Int32) (st : List Value) (h : mr_h) (Q : Option Value → mr_h → Prop), mr_wp 145 5 [v0, .int x] st h Q = mr_wp 145 6 [v0, .int x] (.int x :: st) h Q) ∧
    (∀ (v0 v1 : Value) (st : List Value) (h : mr_h) (Q : Option Value → mr_h → Prop), mr_wp 145 6 [v0, v1] st h Q = mr_wp 145 7 [v0, v1] (.int (0) :: st) h Q) ∧
    (∀ (v0 v1 : Value) (st : List Value) (h : mr_h) (Q : Option Value → mr_h → Prop), mr_wp 145 7 [v0, v1] st h Q = mr_wp 145 9 [v0, v1] (.int (7) :: st) h Q) ∧
    (∀ (v0 v1 : Value) (a0 : Int32) (a1 : Int32) (a2 : Int32) (h : mr_h) (Q : Option Value → mr_h → Prop), mr_wp 145 9 [v0, v1] [.int a2, .int a1, .int a0] h Q = mr_run 121 [.int a0, .int a1, .int a2] h (fun v h' => mr_wp 145 12 [v0, v1] (v.toList ++ []) h' Q)) ∧
    (∀ (v0 v1 : Value) (x : Int32) (st : List Value) (h : mr_h) (Q : Option Value → mr_h → Prop), mr_wp 145 12 [v0, v1] (.int x :: st) h Q = if ¬ x = 0 then mr_wp 145 17 [v0, v1] st h Q else mr_wp 145 15 [v0, v1] st h Q) ∧
    (∀ (v0 v1 : Value) (st : List Value) (h : mr_h) (Q : Option Value → mr_h → Prop), mr_wp 145 15 [v0, v1] st h Q = mr_wp 145 16 [v0, v1] (.int (-1) :: st) h Q) ∧
    (∀ (v0 v1 : Value) (x : Int32) (h : mr_h) (Q : Option Value → mr_h → Prop), mr_wp 145 16 [v0, v1] [.int x] h Q = Q (some (.int x)) h) ∧
    (∀ (v1 : Value) (x : Nat) (st : List Value) (h : mr_h) (Q : Option Value → mr_h → Prop), mr_wp 145 17 [.ref x, v1] st h Q = mr_wp 145 18 [.ref x, v1] (.ref x :: st) h Q) ∧
    (∀ (v1 : Value) (x : Nat) (st : List Value) (h : mr_h) (Q : Option Value → mr_h → Prop), mr_wp 145 18 [.ref x, v1] st h Q = mr_wp 145 19 [.ref x, v1] (.ref x :: st) h Q) ∧
    (∀ (v0 v1 : Value) (a : Nat) (st : List Value) (h : mr_h) (Q : Option Value → mr_h → Prop), mr_wp 145 19 [v0, v1] (.ref a :: st) h Q = mr_gf (h.1 a) 11 12 (fun v => mr_wp 145 22 [v0, v1] (v :: st) h Q)) ∧
    (∀ (v1 : Value) (x : Nat) (st : List Value) (h : mr_h) (Q : Option Value → mr_h → Prop), mr_wp 145 22 [.ref x, v1] st h Q = mr_wp 145 23 [.ref x, v1] (.ref x :: st) h Q) ∧
    (∀ (v0 v1 : Value) (a : Nat) (st : List Value) (h : mr_h) (Q : Option Value → mr_h → Prop), mr_wp 145 23 [v0, v1] (.ref a :: st) h Q = mr_gf (h.1 a) 11 22 (fun v => mr_wp 145 26 [v0, v1] (v :: st) h Q)) ∧
    (∀ (v0 v1 : Value) (a0 : Nat) (a1 : Nat) (o : Nat) (h : mr_h) (Q : Option Value → mr_h → Prop), mr_wp 145 26 [v0, v1] [.ref a1, .ref a0, .ref o] h Q = mr_rc (h.1 o) 11 (mr_run 133 [.ref o, .ref a0, .ref a1] h (fun v h' => mr_wp 145 29 [v0, v1] (v.toList ++ []) h' Q))) ∧
    (∀ (v0 : Value) (x : Int32) (st : List Value) (h : mr_h) (Q : Option Value → mr_h → Prop), mr_wp 145 29 [v0, .int x] st h Q = mr_wp 145 30 [v0, .int x] (.int x :: st) h Q) ∧
    (∀ (v0 v1 : Value) (st : List Value) (h : mr_h) (Q : Option Value → mr_h → Prop), mr_wp 145 30 [v0, v1] st h Q = mr_wp 145 31 [v0, v1] (.int (4) :: st) h Q) ∧
    (∀ (v0 v1 : Value) (x : Int32) (y : Int32) (st : List Value) (h : mr_h) (Q : Option Value → mr_h → Prop), mr_wp 145 31 [v0, v1] (.int y :: .int x :: st) h Q = if y ≤ x then mr_wp 145 85 [v0, v1] st h Q else mr_wp 145 34 [v0, v1] st h Q) ∧
    (∀ (v0 : Value) (x : Int32) (st : List Value) (h : mr_h) (Q : Option Value → mr_h → Prop), mr_wp 145 34 [v0, .int x] st h Q = mr_wp 145 35 [v0, .int x] (.int x :: st) h Q) ∧
    (∀ (v0 v1 : Value) (x : Int32) (st : List Value) (h : mr_h) (Q : Option Value → mr_h → Prop), mr_wp 145 35 [v0, v1] (.int x :: st) h Q = if ¬ x = 0 then mr_wp 145 49 [v0, v1] st h Q else mr_wp 145 38 [v0, v1] st h Q) ∧
    (∀ (v1 : Value) (x : Nat) (st : List Value) (h : mr_h) (Q : Option Value → mr_h → Prop), mr_wp 145 38 [.ref x, v1] st h Q = mr_wp 145 39 [.ref x, v1] (.ref x :: st) h Q) ∧
    (∀ (v1 : Value) (x : Nat) (st : List Value) (h : mr_h) (Q : Option Value → mr_h → Prop), mr_wp 145 39 [.ref x, v1] st h Q = mr_wp 145 40 [.ref x, v1] (.ref x :: st) h Q) ∧
    (∀ (v0 v1 : Value) (a : Nat) (st : List Value) (h : mr_h) (Q : Option Value → mr_h → Prop), mr_wp 145 40 [v0, v1] (.ref a :: st) h Q = mr_gf (h.1 a) 11 12 (fun v => mr_wp 145 43 [v0, v1] (v :: st) h Q)) ∧
    (∀ (v0 v1 : Value) (a0 : Nat) (o : Nat) (h : mr_h) (Q : Option Value → mr_h → Prop), mr_wp 145 43 [v0, v1] [.ref a0, .ref o] h Q = mr_rc (h.1 o) 11 (mr_run 146 [.ref o, .ref a0] h (fun v h' => mr_wp 145 46 [v0, v1] (v.toList ++ []) h' Q))) ∧
    (∀ (v0 v1 : Value) (st : List Value) (h : mr_h) (Q : Option Value → mr_h → Prop), mr_wp 145 46 [v0, v1] st h Q = mr_wp 145 84 [v0, v1] st h Q) ∧
    (∀ (v0 : Value) (x : Int32) (st : List Value) (h : mr_h) (Q : Option Value → mr_h → Prop), mr_wp 145 49 [v0, .int x] st h Q = mr_wp 145 50 [v0, .int x] (.int x :: st) h Q) ∧
    (∀ (v0 v1 : Value) (st : List Value) (h : mr_h) (Q : Option Value → mr_h → Prop), mr_wp 145 50 [v0, v1] st h Q = mr_wp 145 51 [v0, v1] (.int (1) :: st) h Q) ∧
    (∀ (v0 v1 : Value) (x : Int32) (y : Int32) (st : List Value) (h : mr_h) (Q : Option Value → mr_h → Prop), mr_wp 145 51 [v0, v1] (.int y :: .int x :: st) h Q = if ¬ x = y then mr_wp 145 64 [v0, v1] st h Q else mr_wp 145 54 [v0, v1] st h Q) ∧
    (∀ (v1 : Value) (x : Nat) (st : List Value) (h : mr_h) (Q : Option Value → mr_h → Prop), mr_wp 145 54 [.ref x, v1] st h Q = mr_wp 145 55 [.ref x, v1] (.ref x :: st) h Q) ∧
    (∀ (v0 v1 : Value) (o : Nat) (h : mr_h) (Q : Option Value → mr_h → Prop), mr_wp 145 55 [v0, v1] [.ref o] h Q = mr_rc (h.1 o) 11 (mr_run 138 [.ref o] h (fun v h' => mr_wp 145 58 [v0, v1] (v.toList ++ []) h' Q))) ∧
    (∀ (v0 v1 : Value) (a0 : Int32) (h : mr_h) (Q : Option Value → mr_h → Prop), mr_wp 145 58 [v0, v1] [.int a0] h Q = mr_run 147 [.int a0] h (fun v h' => mr_wp 145 61 [v0, v1] (v.toList ++ []) h' Q)) ∧
    (∀ (v0 v1 : Value) (st : List Value) (h : mr_h) (Q : Option Value → mr_h → Prop), mr_wp 145 61 [v0, v1] st h Q = mr_wp 145 84 [v0, v1] st h Q) ∧
    (∀ (v0 : Value) (x : Int32) (st : List Value) (h : mr_h) (Q : Option Value → mr_h → Prop), mr_wp 145 64 [v0, .int x] st h Q = mr_wp 145 65 [v0, .int x] (.int x :: st) h Q) ∧
    (∀ (v0 v1 : Value) (st : List Value) (h : mr_h) (Q : Option Value → mr_h → Prop), mr_wp 145 65 [v0, v1] st h Q = mr_wp 145 66 [v0, v1] (.int (2) :: st) h Q) ∧
    (∀ (v0 v1 : Value) (x : Int32) (y : Int32) (st : List Value) (h : mr_h) (Q : Option Value → mr_h → Prop), mr_wp 145 66 [v0, v1] (.int y :: .int x :: st) h Q = if ¬ x = y then mr_wp 145 76 [v0, v1] st h Q else mr_wp 145 69 [v0, v1] st h Q) ∧
    (∀ (v1 : Value) (x : Nat) (st : List Value) (h : mr_h) (Q : Option Value → mr_h → Prop), mr_wp 145 69 [.ref x, v1] st h Q = mr_wp 145 70 [.ref x, v1] (.ref x :: st) h Q) ∧
    (∀ (v0 v1 : Value) (o : Nat) (h : mr_h) (Q : Option Value → mr_h → Prop), mr_wp 145 70 [v0, v1] [.ref o] h Q = mr_rc (h.1 o) 11 (mr_run 148 [.ref o] h (fun v h' => mr_wp 145 73 [v0, v1] (v.toList ++ []) h' Q))) ∧
    (∀ (v0 v1 : Value) (st : List Value) (h : mr_h) (Q : Option Value → mr_h → Prop), mr_wp 145 73 [v0, v1] st h Q = mr_wp 145 84 [v0, v1] st h Q) ∧
    (∀ (v1 : Value) (x : Nat) (st : List Value) (h : mr_h) (Q : Option Value → mr_h → Prop), mr_wp 145 76 [.ref x, v1] st h Q = mr_wp 145 77 [.ref x, v1] (.ref x :: st) h Q) :=
  ⟨fun v1 x st h Q => gx_one (i := .aload_n 0) (len := 1) (by decide +kernel) rfl,
   fun v0 v1 st h Q => gx_one (i := .iconst 0) (len := 1) (by decide +kernel) rfl,
   fun v0 v1 a x st h Q => gx_put (x := 65) (by decide +kernel) (by decide +kernel) ⟨rfl, Or.inl rfl⟩,
   fun v0 x st h Q => gx_one (i := .iload_n 1) (len := 1) (by decide +kernel) rfl,
   fun v0 v1 st h Q => gx_one (i := .iconst 0) (len := 1) (by decide +kernel) rfl,
   fun v0 v1 st h Q => gx_one (i := .bipush 7) (len := 2) (by decide +kernel) rfl,
   fun v0 v1 a0 a1 a2 h Q => gx_stat (x := 69) (t := 121) (n := 3) (by decide +kernel) (by decide +kernel) (by decide) (by decide +kernel) rfl (Or.inl (Nat.le_of_ble_eq_true rfl)) (by show _ ≤ mr_mxl 121; rw [show mr_mxl 121 = 3 from by decide +kernel]; exact Nat.le_of_ble_eq_true rfl),
   fun v0 v1 x st h Q => gx_br (i := .ifCond .ne 5) (len := 3) (c := .ne) (by decide +kernel) rfl rfl,
   fun v0 v1 st h Q => gx_one (i := .iconst (-1)) (len := 1) (by decide +kernel) rfl,
   fun v0 v1 x h Q => gx_ret (i := .ireturn) (len := 1) (by decide +kernel) rfl rfl (by simp only [mr_rt, if_pos]; rw [if_pos (Or.inl (by decide +kernel))]),
   fun v1 x st h Q => gx_one (i := .aload_n 0) (len := 1) (by decide +kernel) rfl,
   fun v1 x st h Q => gx_one (i := .aload_n 0) (len := 1) (by decide +kernel) rfl,
   fun v0 v1 a st h Q => gx_get (x := 16) (by decide +kernel) (by decide +kernel),
   fun v1 x st h Q => gx_one (i := .aload_n 0) (len := 1) (by decide +kernel) rfl,
   fun v0 v1 a st h Q => gx_get (x := 41) (by decide +kernel) (by decide +kernel),
   fun v0 v1 a0 a1 o h Q => gx_virt (x := 158) (n := 2) (by decide +kernel) (by decide +kernel) rfl (Or.inl (Nat.le_of_ble_eq_true rfl)) (by show _ ≤ mr_mxl 133; rw [show mr_mxl 133 = 5 from by decide +kernel]; exact Nat.le_of_ble_eq_true rfl) (by decide +kernel),
   fun v0 x st h Q => gx_one (i := .iload_n 1) (len := 1) (by decide +kernel) rfl,
   fun v0 v1 st h Q => gx_one (i := .iconst 4) (len := 1) (by decide +kernel) rfl,
   fun v0 v1 x y st h Q => gx_br (i := .if_icmp .ge 54) (len := 3) (c := .ge) (by decide +kernel) rfl rfl,
   fun v0 x st h Q => gx_one (i := .iload_n 1) (len := 1) (by decide +kernel) rfl,
   fun v0 v1 x st h Q => gx_br (i := .ifCond .ne 14) (len := 3) (c := .ne) (by decide +kernel) rfl rfl,
   fun v1 x st h Q => gx_one (i := .aload_n 0) (len := 1) (by decide +kernel) rfl,
   fun v1 x st h Q => gx_one (i := .aload_n 0) (len := 1) (by decide +kernel) rfl,
   fun v0 v1 a st h Q => gx_get (x := 16) (by decide +kernel) (by decide +kernel),
   fun v0 v1 a0 o h Q => gx_virt (x := 189) (n := 1) (by decide +kernel) (by decide +kernel) rfl (Or.inl (Nat.le_of_ble_eq_true rfl)) (by show _ ≤ mr_mxl 146; rw [show mr_mxl 146 = 4 from by decide +kernel]; exact Nat.le_of_ble_eq_true rfl) (by decide +kernel),
   fun v0 v1 st h Q => gx_one (i := .goto 38) (len := 3) (by decide +kernel) rfl,
   fun v0 x st h Q => gx_one (i := .iload_n 1) (len := 1) (by decide +kernel) rfl,
   fun v0 v1 st h Q => gx_one (i := .iconst 1) (len := 1) (by decide +kernel) rfl,
   fun v0 v1 x y st h Q => gx_br (i := .if_icmp .ne 13) (len := 3) (c := .ne) (by decide +kernel) rfl rfl,
   fun v1 x st h Q => gx_one (i := .aload_n 0) (len := 1) (by decide +kernel) rfl,
   fun v0 v1 o h Q => gx_virt (x := 162) (n := 0) (by decide +kernel) (by decide +kernel) rfl (Or.inl (Nat.le_of_ble_eq_true rfl)) (by show _ ≤ mr_mxl 138; rw [show mr_mxl 138 = 3 from by decide +kernel]; exact Nat.le_of_ble_eq_true rfl) (by decide +kernel),
   fun v0 v1 a0 h Q => gx_stat (x := 136) (t := 147) (n := 1) (by decide +kernel) (by decide +kernel) (by decide) (by decide +kernel) rfl (Or.inl (Nat.le_of_ble_eq_true rfl)) (by show _ ≤ mr_mxl 147; rw [show mr_mxl 147 = 3 from by decide +kernel]; exact Nat.le_of_ble_eq_true rfl),
   fun v0 v1 st h Q => gx_one (i := .goto 23) (len := 3) (by decide +kernel) rfl,
   fun v0 x st h Q => gx_one (i := .iload_n 1) (len := 1) (by decide +kernel) rfl,
   fun v0 v1 st h Q => gx_one (i := .iconst 2) (len := 1) (by decide +kernel) rfl,
   fun v0 v1 x y st h Q => gx_br (i := .if_icmp .ne 10) (len := 3) (c := .ne) (by decide +kernel) rfl rfl,
   fun v1 x st h Q => gx_one (i := .aload_n 0) (len := 1) (by decide +kernel) rfl,
   fun v0 v1 o h Q => gx_virt (x := 192) (n := 0) (by decide +kernel) (by decide +kernel) rfl (Or.inl (Nat.le_of_ble_eq_true rfl)) (by show _ ≤ mr_mxl 148; rw [show mr_mxl 148 = 4 from by decide +kernel]; exact Nat.le_of_ble_eq_true rfl) (by decide +kernel),
   fun v0 v1 st h Q => gx_one (i := .goto 11) (len := 3) (by decide +kernel) rfl,
   fun v1 x st h Q => gx_one (i := .aload_n 0) (len := 1) (by decide +kernel) rfl⟩
theorem S_mo_now_1 : (∀ (v1 : Value) (x : Nat) (st : List Value) (h : mr_h) (Q : Option Value → mr_h → Prop), mr_wp 145 77 [.ref x, v1] st h Q = mr_wp 145 78 [.ref x, v1] (.ref x :: st) h Q) ∧
    (∀ (v0 v1 : Value) (a : Nat) (st : List Value) (h : mr_h) (Q : Option Value → mr_h → Prop), mr_wp 145 78 [v0, v1] (.ref a :: st) h Q = mr_gf (h.1 a) 11 22 (fun v => mr_wp 145 81 [v0, v1] (v :: st) h Q)) ∧
    (∀ (v0 v1 : Value) (a0 : Nat) (o : Nat) (h : mr_h) (Q : Option Value → mr_h → Prop), mr_wp 145 81 [v0, v1] [.ref a0, .ref o] h Q = mr_rc (h.1 o) 11 (mr_run 149 [.ref o, .ref a0] h (fun v h' => mr_wp 145 84 [v0, v1] (v.toList ++ []) h' Q))) ∧
    (∀ (v0 v1 : Value) (x : Int32) (h : mr_h) (Q : Option Value → mr_h → Prop), mr_wp 145 84 [v0, v1] [.int x] h Q = Q (some (.int x)) h) ∧
    (∀ (v0 : Value) (x : Int32) (st : List Value) (h : mr_h) (Q : Option Value → mr_h → Prop), mr_wp 145 85 [v0, .int x] st h Q = mr_wp 145 86 [v0, .int x] (.int x :: st) h Q) ∧
    (∀ (v0 v1 : Value) (st : List Value) (h : mr_h) (Q : Option Value → mr_h → Prop), mr_wp 145 86 [v0, v1] st h Q = mr_wp 145 87 [v0, v1] (.int (4) :: st) h Q) ∧
    (∀ (v0 v1 : Value) (x : Int32) (y : Int32) (st : List Value) (h : mr_h) (Q : Option Value → mr_h → Prop), mr_wp 145 87 [v0, v1] (.int y :: .int x :: st) h Q = if ¬ x = y then mr_wp 145 97 [v0, v1] st h Q else mr_wp 145 90 [v0, v1] st h Q) ∧
    (∀ (v1 : Value) (x : Nat) (st : List Value) (h : mr_h) (Q : Option Value → mr_h → Prop), mr_wp 145 90 [.ref x, v1] st h Q = mr_wp 145 91 [.ref x, v1] (.ref x :: st) h Q) ∧
    (∀ (v0 v1 : Value) (o : Nat) (h : mr_h) (Q : Option Value → mr_h → Prop), mr_wp 145 91 [v0, v1] [.ref o] h Q = mr_rc (h.1 o) 11 (mr_run 150 [.ref o] h (fun v h' => mr_wp 145 94 [v0, v1] (v.toList ++ []) h' Q))) ∧
    (∀ (v0 v1 : Value) (st : List Value) (h : mr_h) (Q : Option Value → mr_h → Prop), mr_wp 145 94 [v0, v1] st h Q = mr_wp 145 126 [v0, v1] st h Q) ∧
    (∀ (v0 : Value) (x : Int32) (st : List Value) (h : mr_h) (Q : Option Value → mr_h → Prop), mr_wp 145 97 [v0, .int x] st h Q = mr_wp 145 98 [v0, .int x] (.int x :: st) h Q) ∧
    (∀ (v0 v1 : Value) (st : List Value) (h : mr_h) (Q : Option Value → mr_h → Prop), mr_wp 145 98 [v0, v1] st h Q = mr_wp 145 99 [v0, v1] (.int (5) :: st) h Q) ∧
    (∀ (v0 v1 : Value) (x : Int32) (y : Int32) (st : List Value) (h : mr_h) (Q : Option Value → mr_h → Prop), mr_wp 145 99 [v0, v1] (.int y :: .int x :: st) h Q = if ¬ x = y then mr_wp 145 109 [v0, v1] st h Q else mr_wp 145 102 [v0, v1] st h Q) ∧
    (∀ (v1 : Value) (x : Nat) (st : List Value) (h : mr_h) (Q : Option Value → mr_h → Prop), mr_wp 145 102 [.ref x, v1] st h Q = mr_wp 145 103 [.ref x, v1] (.ref x :: st) h Q) ∧
    (∀ (v0 v1 : Value) (o : Nat) (h : mr_h) (Q : Option Value → mr_h → Prop), mr_wp 145 103 [v0, v1] [.ref o] h Q = mr_rc (h.1 o) 11 (mr_run 154 [.ref o] h (fun v h' => mr_wp 145 106 [v0, v1] (v.toList ++ []) h' Q))) ∧
    (∀ (v0 v1 : Value) (st : List Value) (h : mr_h) (Q : Option Value → mr_h → Prop), mr_wp 145 106 [v0, v1] st h Q = mr_wp 145 126 [v0, v1] st h Q) ∧
    (∀ (v0 : Value) (x : Int32) (st : List Value) (h : mr_h) (Q : Option Value → mr_h → Prop), mr_wp 145 109 [v0, .int x] st h Q = mr_wp 145 110 [v0, .int x] (.int x :: st) h Q) ∧
    (∀ (v0 v1 : Value) (st : List Value) (h : mr_h) (Q : Option Value → mr_h → Prop), mr_wp 145 110 [v0, v1] st h Q = mr_wp 145 112 [v0, v1] (.int (6) :: st) h Q) ∧
    (∀ (v0 v1 : Value) (x : Int32) (y : Int32) (st : List Value) (h : mr_h) (Q : Option Value → mr_h → Prop), mr_wp 145 112 [v0, v1] (.int y :: .int x :: st) h Q = if ¬ x = y then mr_wp 145 122 [v0, v1] st h Q else mr_wp 145 115 [v0, v1] st h Q) ∧
    (∀ (v1 : Value) (x : Nat) (st : List Value) (h : mr_h) (Q : Option Value → mr_h → Prop), mr_wp 145 115 [.ref x, v1] st h Q = mr_wp 145 116 [.ref x, v1] (.ref x :: st) h Q) ∧
    (∀ (v0 v1 : Value) (o : Nat) (h : mr_h) (Q : Option Value → mr_h → Prop), mr_wp 145 116 [v0, v1] [.ref o] h Q = mr_rc (h.1 o) 11 (mr_run 155 [.ref o] h (fun v h' => mr_wp 145 119 [v0, v1] (v.toList ++ []) h' Q))) ∧
    (∀ (v0 v1 : Value) (st : List Value) (h : mr_h) (Q : Option Value → mr_h → Prop), mr_wp 145 119 [v0, v1] st h Q = mr_wp 145 126 [v0, v1] st h Q) ∧
    (∀ (v1 : Value) (x : Nat) (st : List Value) (h : mr_h) (Q : Option Value → mr_h → Prop), mr_wp 145 122 [.ref x, v1] st h Q = mr_wp 145 123 [.ref x, v1] (.ref x :: st) h Q) ∧
    (∀ (v0 v1 : Value) (a : Nat) (st : List Value) (h : mr_h) (Q : Option Value → mr_h → Prop), mr_wp 145 123 [v0, v1] (.ref a :: st) h Q = mr_gf (h.1 a) 11 17 (fun v => mr_wp 145 126 [v0, v1] (v :: st) h Q)) ∧
    (∀ (v0 v1 : Value) (x : Int32) (h : mr_h) (Q : Option Value → mr_h → Prop), mr_wp 145 126 [v0, v1] [.int x] h Q = Q (some (.int x)) h) :=
  ⟨fun v1 x st h Q => gx_one (i := .aload_n 0) (len := 1) (by decide +kernel) rfl,
   fun v0 v1 a st h Q => gx_get (x := 41) (by decide +kernel) (by decide +kernel),
   fun v0 v1 a0 o h Q => gx_virt (x := 179) (n := 1) (by decide +kernel) (by decide +kernel) rfl (Or.inl (Nat.le_of_ble_eq_true rfl)) (by show _ ≤ mr_mxl 149; rw [show mr_mxl 149 = 4 from by decide +kernel]; exact Nat.le_of_ble_eq_true rfl) (by decide +kernel),
   fun v0 v1 x h Q => gx_ret (i := .ireturn) (len := 1) (by decide +kernel) rfl rfl (by simp only [mr_rt, if_pos]; rw [if_pos (Or.inl (by decide +kernel))]),
   fun v0 x st h Q => gx_one (i := .iload_n 1) (len := 1) (by decide +kernel) rfl,
   fun v0 v1 st h Q => gx_one (i := .iconst 4) (len := 1) (by decide +kernel) rfl,
   fun v0 v1 x y st h Q => gx_br (i := .if_icmp .ne 10) (len := 3) (c := .ne) (by decide +kernel) rfl rfl,
   fun v1 x st h Q => gx_one (i := .aload_n 0) (len := 1) (by decide +kernel) rfl,
   fun v0 v1 o h Q => gx_virt (x := 195) (n := 0) (by decide +kernel) (by decide +kernel) rfl (Or.inl (Nat.le_of_ble_eq_true rfl)) (by show _ ≤ mr_mxl 150; rw [show mr_mxl 150 = 5 from by decide +kernel]; exact Nat.le_of_ble_eq_true rfl) (by decide +kernel),
   fun v0 v1 st h Q => gx_one (i := .goto 32) (len := 3) (by decide +kernel) rfl,
   fun v0 x st h Q => gx_one (i := .iload_n 1) (len := 1) (by decide +kernel) rfl,
   fun v0 v1 st h Q => gx_one (i := .iconst 5) (len := 1) (by decide +kernel) rfl,
   fun v0 v1 x y st h Q => gx_br (i := .if_icmp .ne 10) (len := 3) (c := .ne) (by decide +kernel) rfl rfl,
   fun v1 x st h Q => gx_one (i := .aload_n 0) (len := 1) (by decide +kernel) rfl,
   fun v0 v1 o h Q => gx_virt (x := 198) (n := 0) (by decide +kernel) (by decide +kernel) rfl (Or.inl (Nat.le_of_ble_eq_true rfl)) (by show _ ≤ mr_mxl 154; rw [show mr_mxl 154 = 5 from by decide +kernel]; exact Nat.le_of_ble_eq_true rfl) (by decide +kernel),
   fun v0 v1 st h Q => gx_one (i := .goto 20) (len := 3) (by decide +kernel) rfl,
   fun v0 x st h Q => gx_one (i := .iload_n 1) (len := 1) (by decide +kernel) rfl,
   fun v0 v1 st h Q => gx_one (i := .bipush 6) (len := 2) (by decide +kernel) rfl,
   fun v0 v1 x y st h Q => gx_br (i := .if_icmp .ne 10) (len := 3) (c := .ne) (by decide +kernel) rfl rfl,
   fun v1 x st h Q => gx_one (i := .aload_n 0) (len := 1) (by decide +kernel) rfl,
   fun v0 v1 o h Q => gx_virt (x := 201) (n := 0) (by decide +kernel) (by decide +kernel) rfl (Or.inl (Nat.le_of_ble_eq_true rfl)) (by show _ ≤ mr_mxl 155; rw [show mr_mxl 155 = 7 from by decide +kernel]; exact Nat.le_of_ble_eq_true rfl) (by decide +kernel),
   fun v0 v1 st h Q => gx_one (i := .goto 7) (len := 3) (by decide +kernel) rfl,
   fun v1 x st h Q => gx_one (i := .aload_n 0) (len := 1) (by decide +kernel) rfl,
   fun v0 v1 a st h Q => gx_get (x := 129) (by decide +kernel) (by decide +kernel),
   fun v0 v1 x h Q => gx_ret (i := .ireturn) (len := 1) (by decide +kernel) rfl rfl (by simp only [mr_rt, if_pos]; rw [if_pos (Or.inl (by decide +kernel))])⟩

theorem s_mo_edges_4 (v0 v1 v2 : Value) (x : Int32) (st : List Value) (h : mr_h) (Q : Option Value → mr_h → Prop) : mr_wp 146 4 [v0, v1, v2, .int x] st h Q = mr_wp 146 5 [v0, v1, v2, .int x] (.int x :: st) h Q := gx_one (i := .iload_n 3) (len := 1) (by decide +kernel) rfl
theorem S_mo_edges : (∀ (v0 v1 v2 v3 : Value) (st : List Value) (h : mr_h) (Q : Option Value → mr_h → Prop), mr_wp 146 0 [v0, v1, v2, v3] st h Q = mr_wp 146 1 [v0, v1, v2, v3] (.int (0) :: st) h Q) ∧
    (∀ (v0 v2 v3 : Value) (w1 : Nat) (x : Int32) (st : List Value) (h : mr_h) (Q : Option Value → mr_h → Prop), mr_wp 146 1 [v0, .ref w1, v2, v3] (.int x :: st) h Q = mr_wp 146 2 [v0, .ref w1, .int x, v3] st h Q) ∧
    (∀ (v0 v1 v2 v3 : Value) (st : List Value) (h : mr_h) (Q : Option Value → mr_h → Prop), mr_wp 146 2 [v0, v1, v2, v3] st h Q = mr_wp 146 3 [v0, v1, v2, v3] (.int (0) :: st) h Q) ∧
    (∀ (v0 v1 v3 : Value) (w2 : Int32) (x : Int32) (st : List Value) (h : mr_h) (Q : Option Value → mr_h → Prop), mr_wp 146 3 [v0, v1, .int w2, v3] (.int x :: st) h Q = mr_wp 146 4 [v0, v1, .int w2, .int x] st h Q) ∧
    (∀ (v1 v2 v3 : Value) (x : Nat) (st : List Value) (h : mr_h) (Q : Option Value → mr_h → Prop), mr_wp 146 5 [.ref x, v1, v2, v3] st h Q = mr_wp 146 6 [.ref x, v1, v2, v3] (.ref x :: st) h Q) ∧
    (∀ (v0 v1 v2 v3 : Value) (a : Nat) (st : List Value) (h : mr_h) (Q : Option Value → mr_h → Prop), mr_wp 146 6 [v0, v1, v2, v3] (.ref a :: st) h Q = mr_gf (h.1 a) 11 8 (fun v => mr_wp 146 9 [v0, v1, v2, v3] (v :: st) h Q)) ∧
    (∀ (v0 v1 v2 v3 : Value) (x : Int32) (y : Int32) (st : List Value) (h : mr_h) (Q : Option Value → mr_h → Prop), mr_wp 146 9 [v0, v1, v2, v3] (.int y :: .int x :: st) h Q = if y ≤ x then mr_wp 146 29 [v0, v1, v2, v3] st h Q else mr_wp 146 12 [v0, v1, v2, v3] st h Q) ∧
    (∀ (v0 v1 v3 : Value) (x : Int32) (st : List Value) (h : mr_h) (Q : Option Value → mr_h → Prop), mr_wp 146 12 [v0, v1, .int x, v3] st h Q = mr_wp 146 13 [v0, v1, .int x, v3] (.int x :: st) h Q) ∧
    (∀ (v0 v2 v3 : Value) (x : Nat) (st : List Value) (h : mr_h) (Q : Option Value → mr_h → Prop), mr_wp 146 13 [v0, .ref x, v2, v3] st h Q = mr_wp 146 14 [v0, .ref x, v2, v3] (.ref x :: st) h Q) ∧
    (∀ (v0 v1 v2 v3 : Value) (st : List Value) (h : mr_h) (Q : Option Value → mr_h → Prop), mr_wp 146 14 [v0, v1, v2, v3] st h Q = mr_wp 146 15 [v0, v1, v2, v3] (.int (0) :: st) h Q) ∧
    (∀ (v0 v1 v2 : Value) (x : Int32) (st : List Value) (h : mr_h) (Q : Option Value → mr_h → Prop), mr_wp 146 15 [v0, v1, v2, .int x] st h Q = mr_wp 146 16 [v0, v1, v2, .int x] (.int x :: st) h Q) ∧
    (∀ (v0 v1 v2 v3 : Value) (x : Int32) (y : Int32) (st : List Value) (h : mr_h) (Q : Option Value → mr_h → Prop), mr_wp 146 16 [v0, v1, v2, v3] (.int y :: .int x :: st) h Q = mr_wp 146 17 [v0, v1, v2, v3] (.int (x + y) :: st) h Q) ∧
    (∀ (v0 v1 v2 v3 : Value) (a : Nat) (x : Int32) (st : List Value) (h : mr_h) (Q : Option Value → mr_h → Prop), mr_wp 146 17 [v0, v1, v2, v3] (.int x :: .ref a :: st) h Q = mr_ai (h.1 a) x (fun v => mr_wp 146 18 [v0, v1, v2, v3] (.int v :: st) h Q)) ∧
    (∀ (v0 v1 v2 v3 : Value) (a0 : Int32) (r0 : Value) (h : mr_h) (Q : Option Value → mr_h → Prop), mr_wp 146 18 [v0, v1, v2, v3] [.int a0, r0] h Q = mr_run 147 [.int a0] h (fun v h' => mr_wp 146 21 [v0, v1, v2, v3] (v.toList ++ [r0]) h' Q)) ∧
    (∀ (v0 v1 v2 v3 : Value) (x : Int32) (y : Int32) (st : List Value) (h : mr_h) (Q : Option Value → mr_h → Prop), mr_wp 146 21 [v0, v1, v2, v3] (.int y :: .int x :: st) h Q = mr_wp 146 22 [v0, v1, v2, v3] (.int (x + y) :: st) h Q) ∧
    (∀ (v0 v2 v3 : Value) (w1 : Nat) (x : Int32) (st : List Value) (h : mr_h) (Q : Option Value → mr_h → Prop), mr_wp 146 22 [v0, .ref w1, v2, v3] (.int x :: st) h Q = mr_wp 146 23 [v0, .ref w1, .int x, v3] st h Q) ∧
    (∀ (v0 v1 : Value) (x : Int32) (w2 : Int32) (st : List Value) (h : mr_h) (Q : Option Value → mr_h → Prop), mr_wp 146 23 [v0, v1, .int w2, .int x] st h Q = mr_wp 146 26 [v0, v1, .int w2, .int (x + (1))] st h Q) ∧
    (∀ (v0 v1 v2 v3 : Value) (st : List Value) (h : mr_h) (Q : Option Value → mr_h → Prop), mr_wp 146 26 [v0, v1, v2, v3] st h Q = mr_wp 146 4 [v0, v1, v2, v3] st h Q) ∧
    (∀ (v0 v1 v3 : Value) (x : Int32) (st : List Value) (h : mr_h) (Q : Option Value → mr_h → Prop), mr_wp 146 29 [v0, v1, .int x, v3] st h Q = mr_wp 146 30 [v0, v1, .int x, v3] (.int x :: st) h Q) ∧
    (∀ (v0 v1 v2 v3 : Value) (x : Int32) (h : mr_h) (Q : Option Value → mr_h → Prop), mr_wp 146 30 [v0, v1, v2, v3] [.int x] h Q = Q (some (.int x)) h) :=
  ⟨fun v0 v1 v2 v3 st h Q => gx_one (i := .iconst 0) (len := 1) (by decide +kernel) rfl,
   fun v0 v2 v3 w1 x st h Q => gx_one (i := .istore_n 2) (len := 1) (by decide +kernel) rfl,
   fun v0 v1 v2 v3 st h Q => gx_one (i := .iconst 0) (len := 1) (by decide +kernel) rfl,
   fun v0 v1 v3 w2 x st h Q => gx_one (i := .istore_n 3) (len := 1) (by decide +kernel) rfl,
   fun v1 v2 v3 x st h Q => gx_one (i := .aload_n 0) (len := 1) (by decide +kernel) rfl,
   fun v0 v1 v2 v3 a st h Q => gx_get (x := 123) (by decide +kernel) (by decide +kernel),
   fun v0 v1 v2 v3 x y st h Q => gx_br (i := .if_icmp .ge 20) (len := 3) (c := .ge) (by decide +kernel) rfl rfl,
   fun v0 v1 v3 x st h Q => gx_one (i := .iload_n 2) (len := 1) (by decide +kernel) rfl,
   fun v0 v2 v3 x st h Q => gx_one (i := .aload_n 1) (len := 1) (by decide +kernel) rfl,
   fun v0 v1 v2 v3 st h Q => gx_one (i := .iconst 0) (len := 1) (by decide +kernel) rfl,
   fun v0 v1 v2 x st h Q => gx_one (i := .iload_n 3) (len := 1) (by decide +kernel) rfl,
   fun v0 v1 v2 v3 x y st h Q => gx_one (i := .iadd) (len := 1) (by decide +kernel) rfl,
   fun v0 v1 v2 v3 a x st h Q => gx_iald (by decide +kernel),
   fun v0 v1 v2 v3 a0 r0 h Q => gx_stat (x := 136) (t := 147) (n := 1) (by decide +kernel) (by decide +kernel) (by decide) (by decide +kernel) rfl (Or.inl (Nat.le_of_ble_eq_true rfl)) (by show _ ≤ mr_mxl 147; rw [show mr_mxl 147 = 3 from by decide +kernel]; exact Nat.le_of_ble_eq_true rfl),
   fun v0 v1 v2 v3 x y st h Q => gx_one (i := .iadd) (len := 1) (by decide +kernel) rfl,
   fun v0 v2 v3 w1 x st h Q => gx_one (i := .istore_n 2) (len := 1) (by decide +kernel) rfl,
   fun v0 v1 x w2 st h Q => gx_one (i := .iinc 3 1) (len := 3) (by decide +kernel) rfl,
   fun v0 v1 v2 v3 st h Q => gx_one (i := .goto (-22)) (len := 3) (by decide +kernel) rfl,
   fun v0 v1 v3 x st h Q => gx_one (i := .iload_n 2) (len := 1) (by decide +kernel) rfl,
   fun v0 v1 v2 v3 x h Q => gx_ret (i := .ireturn) (len := 1) (by decide +kernel) rfl rfl (by simp only [mr_rt, if_pos]; rw [if_pos (Or.inl (by decide +kernel))])⟩
theorem s_mo_ones_4 (v0 v1 : Value) (x : Int32) (st : List Value) (h : mr_h) (Q : Option Value → mr_h → Prop) : mr_wp 147 4 [v0, v1, .int x] st h Q = mr_wp 147 5 [v0, v1, .int x] (.int x :: st) h Q := gx_one (i := .iload_n 2) (len := 1) (by decide +kernel) rfl
theorem S_mo_ones : (∀ (v0 v1 v2 : Value) (st : List Value) (h : mr_h) (Q : Option Value → mr_h → Prop), mr_wp 147 0 [v0, v1, v2] st h Q = mr_wp 147 1 [v0, v1, v2] (.int (0) :: st) h Q) ∧
    (∀ (v1 v2 : Value) (w0 : Int32) (x : Int32) (st : List Value) (h : mr_h) (Q : Option Value → mr_h → Prop), mr_wp 147 1 [.int w0, v1, v2] (.int x :: st) h Q = mr_wp 147 2 [.int w0, .int x, v2] st h Q) ∧
    (∀ (v1 v2 : Value) (x : Int32) (st : List Value) (h : mr_h) (Q : Option Value → mr_h → Prop), mr_wp 147 2 [.int x, v1, v2] st h Q = mr_wp 147 3 [.int x, v1, v2] (.int x :: st) h Q) ∧
    (∀ (v0 v2 : Value) (w1 : Int32) (x : Int32) (st : List Value) (h : mr_h) (Q : Option Value → mr_h → Prop), mr_wp 147 3 [v0, .int w1, v2] (.int x :: st) h Q = mr_wp 147 4 [v0, .int w1, .int x] st h Q) ∧
    (∀ (v0 v1 v2 : Value) (x : Int32) (st : List Value) (h : mr_h) (Q : Option Value → mr_h → Prop), mr_wp 147 5 [v0, v1, v2] (.int x :: st) h Q = if x = 0 then mr_wp 147 20 [v0, v1, v2] st h Q else mr_wp 147 8 [v0, v1, v2] st h Q) ∧
    (∀ (v2 : Value) (x : Int32) (w0 : Int32) (st : List Value) (h : mr_h) (Q : Option Value → mr_h → Prop), mr_wp 147 8 [.int w0, .int x, v2] st h Q = mr_wp 147 11 [.int w0, .int (x + (1)), v2] st h Q) ∧
    (∀ (v0 v1 : Value) (x : Int32) (st : List Value) (h : mr_h) (Q : Option Value → mr_h → Prop), mr_wp 147 11 [v0, v1, .int x] st h Q = mr_wp 147 12 [v0, v1, .int x] (.int x :: st) h Q) ∧
    (∀ (v0 v1 : Value) (x : Int32) (st : List Value) (h : mr_h) (Q : Option Value → mr_h → Prop), mr_wp 147 12 [v0, v1, .int x] st h Q = mr_wp 147 13 [v0, v1, .int x] (.int x :: st) h Q) ∧
    (∀ (v0 v1 v2 : Value) (st : List Value) (h : mr_h) (Q : Option Value → mr_h → Prop), mr_wp 147 13 [v0, v1, v2] st h Q = mr_wp 147 14 [v0, v1, v2] (.int (1) :: st) h Q) ∧
    (∀ (v0 v1 v2 : Value) (x : Int32) (y : Int32) (st : List Value) (h : mr_h) (Q : Option Value → mr_h → Prop), mr_wp 147 14 [v0, v1, v2] (.int y :: .int x :: st) h Q = mr_wp 147 15 [v0, v1, v2] (.int (x - y) :: st) h Q) ∧
    (∀ (v0 v1 v2 : Value) (x : Int32) (y : Int32) (st : List Value) (h : mr_h) (Q : Option Value → mr_h → Prop), mr_wp 147 15 [v0, v1, v2] (.int y :: .int x :: st) h Q = mr_wp 147 16 [v0, v1, v2] (.int (x &&& y) :: st) h Q) ∧
    (∀ (v0 v2 : Value) (w1 : Int32) (x : Int32) (st : List Value) (h : mr_h) (Q : Option Value → mr_h → Prop), mr_wp 147 16 [v0, .int w1, v2] (.int x :: st) h Q = mr_wp 147 17 [v0, .int w1, .int x] st h Q) ∧
    (∀ (v0 v1 v2 : Value) (st : List Value) (h : mr_h) (Q : Option Value → mr_h → Prop), mr_wp 147 17 [v0, v1, v2] st h Q = mr_wp 147 4 [v0, v1, v2] st h Q) ∧
    (∀ (v0 v2 : Value) (x : Int32) (st : List Value) (h : mr_h) (Q : Option Value → mr_h → Prop), mr_wp 147 20 [v0, .int x, v2] st h Q = mr_wp 147 21 [v0, .int x, v2] (.int x :: st) h Q) ∧
    (∀ (v0 v1 v2 : Value) (x : Int32) (h : mr_h) (Q : Option Value → mr_h → Prop), mr_wp 147 21 [v0, v1, v2] [.int x] h Q = Q (some (.int x)) h) :=
  ⟨fun v0 v1 v2 st h Q => gx_one (i := .iconst 0) (len := 1) (by decide +kernel) rfl,
   fun v1 v2 w0 x st h Q => gx_one (i := .istore_n 1) (len := 1) (by decide +kernel) rfl,
   fun v1 v2 x st h Q => gx_one (i := .iload_n 0) (len := 1) (by decide +kernel) rfl,
   fun v0 v2 w1 x st h Q => gx_one (i := .istore_n 2) (len := 1) (by decide +kernel) rfl,
   fun v0 v1 v2 x st h Q => gx_br (i := .ifCond .eq 15) (len := 3) (c := .eq) (by decide +kernel) rfl rfl,
   fun v2 x w0 st h Q => gx_one (i := .iinc 1 1) (len := 3) (by decide +kernel) rfl,
   fun v0 v1 x st h Q => gx_one (i := .iload_n 2) (len := 1) (by decide +kernel) rfl,
   fun v0 v1 x st h Q => gx_one (i := .iload_n 2) (len := 1) (by decide +kernel) rfl,
   fun v0 v1 v2 st h Q => gx_one (i := .iconst 1) (len := 1) (by decide +kernel) rfl,
   fun v0 v1 v2 x y st h Q => gx_one (i := .isub) (len := 1) (by decide +kernel) rfl,
   fun v0 v1 v2 x y st h Q => gx_one (i := .iand) (len := 1) (by decide +kernel) rfl,
   fun v0 v2 w1 x st h Q => gx_one (i := .istore_n 2) (len := 1) (by decide +kernel) rfl,
   fun v0 v1 v2 st h Q => gx_one (i := .goto (-13)) (len := 3) (by decide +kernel) rfl,
   fun v0 v2 x st h Q => gx_one (i := .iload_n 1) (len := 1) (by decide +kernel) rfl,
   fun v0 v1 v2 x h Q => gx_ret (i := .ireturn) (len := 1) (by decide +kernel) rfl rfl (by simp only [mr_rt, if_pos]; rw [if_pos (Or.inl (by decide +kernel))])⟩
theorem s_mo_labels_21 (v0 v1 v2 : Value) (x : Int32) (st : List Value) (h : mr_h) (Q : Option Value → mr_h → Prop) : mr_wp 148 21 [v0, v1, v2, .int x] st h Q = mr_wp 148 22 [v0, v1, v2, .int x] (.int x :: st) h Q := gx_one (i := .iload_n 3) (len := 1) (by decide +kernel) rfl
theorem S_mo_labels : (∀ (v1 v2 v3 : Value) (x : Nat) (st : List Value) (h : mr_h) (Q : Option Value → mr_h → Prop), mr_wp 148 0 [.ref x, v1, v2, v3] st h Q = mr_wp 148 1 [.ref x, v1, v2, v3] (.ref x :: st) h Q) ∧
    (∀ (v1 v2 v3 : Value) (x : Nat) (st : List Value) (h : mr_h) (Q : Option Value → mr_h → Prop), mr_wp 148 1 [.ref x, v1, v2, v3] st h Q = mr_wp 148 2 [.ref x, v1, v2, v3] (.ref x :: st) h Q) ∧
    (∀ (v0 v1 v2 v3 : Value) (a : Nat) (st : List Value) (h : mr_h) (Q : Option Value → mr_h → Prop), mr_wp 148 2 [v0, v1, v2, v3] (.ref a :: st) h Q = mr_gf (h.1 a) 11 12 (fun v => mr_wp 148 5 [v0, v1, v2, v3] (v :: st) h Q)) ∧
    (∀ (v1 v2 v3 : Value) (x : Nat) (st : List Value) (h : mr_h) (Q : Option Value → mr_h → Prop), mr_wp 148 5 [.ref x, v1, v2, v3] st h Q = mr_wp 148 6 [.ref x, v1, v2, v3] (.ref x :: st) h Q) ∧
    (∀ (v0 v1 v2 v3 : Value) (a : Nat) (st : List Value) (h : mr_h) (Q : Option Value → mr_h → Prop), mr_wp 148 6 [v0, v1, v2, v3] (.ref a :: st) h Q = mr_gf (h.1 a) 11 22 (fun v => mr_wp 148 9 [v0, v1, v2, v3] (v :: st) h Q)) ∧
    (∀ (v0 v1 v2 v3 : Value) (a0 : Nat) (a1 : Nat) (o : Nat) (h : mr_h) (Q : Option Value → mr_h → Prop), mr_wp 148 9 [v0, v1, v2, v3] [.ref a1, .ref a0, .ref o] h Q = mr_rc (h.1 o) 11 (mr_run 133 [.ref o, .ref a0, .ref a1] h (fun v h' => mr_wp 148 12 [v0, v1, v2, v3] (v.toList ++ []) h' Q))) ∧
    (∀ (v1 v2 v3 : Value) (x : Nat) (st : List Value) (h : mr_h) (Q : Option Value → mr_h → Prop), mr_wp 148 12 [.ref x, v1, v2, v3] st h Q = mr_wp 148 13 [.ref x, v1, v2, v3] (.ref x :: st) h Q) ∧
    (∀ (v0 v1 v2 v3 : Value) (o : Nat) (h : mr_h) (Q : Option Value → mr_h → Prop), mr_wp 148 13 [v0, v1, v2, v3] [.ref o] h Q = mr_rc (h.1 o) 11 (mr_run 138 [.ref o] h (fun v h' => mr_wp 148 16 [v0, v1, v2, v3] (v.toList ++ []) h' Q))) ∧
    (∀ (v1 v2 v3 : Value) (w0 : Nat) (x : Int32) (st : List Value) (h : mr_h) (Q : Option Value → mr_h → Prop), mr_wp 148 16 [.ref w0, v1, v2, v3] (.int x :: st) h Q = mr_wp 148 17 [.ref w0, .int x, v2, v3] st h Q) ∧
    (∀ (v0 v1 v2 v3 : Value) (st : List Value) (h : mr_h) (Q : Option Value → mr_h → Prop), mr_wp 148 17 [v0, v1, v2, v3] st h Q = mr_wp 148 18 [v0, v1, v2, v3] (.int (0) :: st) h Q) ∧
    (∀ (v0 v2 v3 : Value) (w1 : Int32) (x : Int32) (st : List Value) (h : mr_h) (Q : Option Value → mr_h → Prop), mr_wp 148 18 [v0, .int w1, v2, v3] (.int x :: st) h Q = mr_wp 148 19 [v0, .int w1, .int x, v3] st h Q) ∧
    (∀ (v0 v1 v2 v3 : Value) (st : List Value) (h : mr_h) (Q : Option Value → mr_h → Prop), mr_wp 148 19 [v0, v1, v2, v3] st h Q = mr_wp 148 20 [v0, v1, v2, v3] (.int (0) :: st) h Q) ∧
    (∀ (v0 v1 v3 : Value) (w2 : Int32) (x : Int32) (st : List Value) (h : mr_h) (Q : Option Value → mr_h → Prop), mr_wp 148 20 [v0, v1, .int w2, v3] (.int x :: st) h Q = mr_wp 148 21 [v0, v1, .int w2, .int x] st h Q) ∧
    (∀ (v1 v2 v3 : Value) (x : Nat) (st : List Value) (h : mr_h) (Q : Option Value → mr_h → Prop), mr_wp 148 22 [.ref x, v1, v2, v3] st h Q = mr_wp 148 23 [.ref x, v1, v2, v3] (.ref x :: st) h Q) ∧
    (∀ (v0 v1 v2 v3 : Value) (a : Nat) (st : List Value) (h : mr_h) (Q : Option Value → mr_h → Prop), mr_wp 148 23 [v0, v1, v2, v3] (.ref a :: st) h Q = mr_gf (h.1 a) 11 8 (fun v => mr_wp 148 26 [v0, v1, v2, v3] (v :: st) h Q)) ∧
    (∀ (v0 v1 v2 v3 : Value) (x : Int32) (y : Int32) (st : List Value) (h : mr_h) (Q : Option Value → mr_h → Prop), mr_wp 148 26 [v0, v1, v2, v3] (.int y :: .int x :: st) h Q = if y ≤ x then mr_wp 148 69 [v0, v1, v2, v3] st h Q else mr_wp 148 29 [v0, v1, v2, v3] st h Q) ∧
    (∀ (v0 v1 v3 : Value) (x : Int32) (st : List Value) (h : mr_h) (Q : Option Value → mr_h → Prop), mr_wp 148 29 [v0, v1, .int x, v3] st h Q = mr_wp 148 30 [v0, v1, .int x, v3] (.int x :: st) h Q) ∧
    (∀ (v0 v2 v3 : Value) (x : Int32) (st : List Value) (h : mr_h) (Q : Option Value → mr_h → Prop), mr_wp 148 30 [v0, .int x, v2, v3] st h Q = mr_wp 148 31 [v0, .int x, v2, v3] (.int x :: st) h Q) ∧
    (∀ (v0 v1 v2 : Value) (x : Int32) (st : List Value) (h : mr_h) (Q : Option Value → mr_h → Prop), mr_wp 148 31 [v0, v1, v2, .int x] st h Q = mr_wp 148 32 [v0, v1, v2, .int x] (.int x :: st) h Q) ∧
    (∀ (v0 v1 v2 v3 : Value) (a0 : Int32) (a1 : Int32) (r0 : Value) (h : mr_h) (Q : Option Value → mr_h → Prop), mr_wp 148 32 [v0, v1, v2, v3] [.int a1, .int a0, r0] h Q = mr_run 130 [.int a0, .int a1] h (fun v h' => mr_wp 148 35 [v0, v1, v2, v3] (v.toList ++ [r0]) h' Q)) ∧
    (∀ (v0 v1 v2 v3 : Value) (x : Int32) (st : List Value) (h : mr_h) (Q : Option Value → mr_h → Prop), mr_wp 148 35 [v0, v1, v2, v3] (.int x :: st) h Q = if x = 0 then mr_wp 148 60 [v0, v1, v2, v3] st h Q else mr_wp 148 38 [v0, v1, v2, v3] st h Q) ∧
    (∀ (v1 v2 v3 : Value) (x : Nat) (st : List Value) (h : mr_h) (Q : Option Value → mr_h → Prop), mr_wp 148 38 [.ref x, v1, v2, v3] st h Q = mr_wp 148 39 [.ref x, v1, v2, v3] (.ref x :: st) h Q) ∧
    (∀ (v0 v1 v2 : Value) (x : Int32) (st : List Value) (h : mr_h) (Q : Option Value → mr_h → Prop), mr_wp 148 39 [v0, v1, v2, .int x] st h Q = mr_wp 148 40 [v0, v1, v2, .int x] (.int x :: st) h Q) ∧
    (∀ (v0 v2 v3 : Value) (x : Int32) (st : List Value) (h : mr_h) (Q : Option Value → mr_h → Prop), mr_wp 148 40 [v0, .int x, v2, v3] st h Q = mr_wp 148 41 [v0, .int x, v2, v3] (.int x :: st) h Q) ∧
    (∀ (v0 v1 v2 v3 : Value) (a0 : Int32) (a1 : Int32) (o : Nat) (r0 : Value) (h : mr_h) (Q : Option Value → mr_h → Prop), mr_wp 148 41 [v0, v1, v2, v3] [.int a1, .int a0, .ref o, r0] h Q = mr_rc (h.1 o) 11 (mr_run 139 [.ref o, .int a0, .int a1] h (fun v h' => mr_wp 148 44 [v0, v1, v2, v3] (v.toList ++ [r0]) h' Q))) ∧
    (∀ (v0 v1 v2 v3 : Value) (a0 : Int32) (r0 : Value) (h : mr_h) (Q : Option Value → mr_h → Prop), mr_wp 148 44 [v0, v1, v2, v3] [.int a0, r0] h Q = mr_run 147 [.int a0] h (fun v h' => mr_wp 148 47 [v0, v1, v2, v3] (v.toList ++ [r0]) h' Q)) ∧
    (∀ (v1 v2 v3 : Value) (x : Nat) (st : List Value) (h : mr_h) (Q : Option Value → mr_h → Prop), mr_wp 148 47 [.ref x, v1, v2, v3] st h Q = mr_wp 148 48 [.ref x, v1, v2, v3] (.ref x :: st) h Q) ∧
    (∀ (v0 v1 v2 : Value) (x : Int32) (st : List Value) (h : mr_h) (Q : Option Value → mr_h → Prop), mr_wp 148 48 [v0, v1, v2, .int x] st h Q = mr_wp 148 49 [v0, v1, v2, .int x] (.int x :: st) h Q) ∧
    (∀ (v0 v2 v3 : Value) (x : Int32) (st : List Value) (h : mr_h) (Q : Option Value → mr_h → Prop), mr_wp 148 49 [v0, .int x, v2, v3] st h Q = mr_wp 148 50 [v0, .int x, v2, v3] (.int x :: st) h Q) ∧
    (∀ (v0 v1 v2 v3 : Value) (a0 : Int32) (a1 : Int32) (o : Nat) (r0 : Value) (r1 : Value) (h : mr_h) (Q : Option Value → mr_h → Prop), mr_wp 148 50 [v0, v1, v2, v3] [.int a1, .int a0, .ref o, r0, r1] h Q = mr_rc (h.1 o) 11 (mr_run 142 [.ref o, .int a0, .int a1] h (fun v h' => mr_wp 148 53 [v0, v1, v2, v3] (v.toList ++ [r0, r1]) h' Q))) ∧
    (∀ (v0 v1 v2 v3 : Value) (a0 : Int32) (r0 : Value) (r1 : Value) (h : mr_h) (Q : Option Value → mr_h → Prop), mr_wp 148 53 [v0, v1, v2, v3] [.int a0, r0, r1] h Q = mr_run 147 [.int a0] h (fun v h' => mr_wp 148 56 [v0, v1, v2, v3] (v.toList ++ [r0, r1]) h' Q)) ∧
    (∀ (v0 v1 v2 v3 : Value) (x : Int32) (y : Int32) (st : List Value) (h : mr_h) (Q : Option Value → mr_h → Prop), mr_wp 148 56 [v0, v1, v2, v3] (.int y :: .int x :: st) h Q = mr_wp 148 57 [v0, v1, v2, v3] (.int (x + y) :: st) h Q) ∧
    (∀ (v0 v1 v2 v3 : Value) (st : List Value) (h : mr_h) (Q : Option Value → mr_h → Prop), mr_wp 148 57 [v0, v1, v2, v3] st h Q = mr_wp 148 61 [v0, v1, v2, v3] st h Q) ∧
    (∀ (v0 v1 v2 v3 : Value) (st : List Value) (h : mr_h) (Q : Option Value → mr_h → Prop), mr_wp 148 60 [v0, v1, v2, v3] st h Q = mr_wp 148 61 [v0, v1, v2, v3] (.int (0) :: st) h Q) ∧
    (∀ (v0 v1 v2 v3 : Value) (x : Int32) (y : Int32) (st : List Value) (h : mr_h) (Q : Option Value → mr_h → Prop), mr_wp 148 61 [v0, v1, v2, v3] (.int y :: .int x :: st) h Q = mr_wp 148 62 [v0, v1, v2, v3] (.int (x + y) :: st) h Q) ∧
    (∀ (v0 v2 v3 : Value) (w1 : Int32) (x : Int32) (st : List Value) (h : mr_h) (Q : Option Value → mr_h → Prop), mr_wp 148 62 [v0, .int w1, v2, v3] (.int x :: st) h Q = mr_wp 148 63 [v0, .int w1, .int x, v3] st h Q) ∧
    (∀ (v0 v1 : Value) (x : Int32) (w2 : Int32) (st : List Value) (h : mr_h) (Q : Option Value → mr_h → Prop), mr_wp 148 63 [v0, v1, .int w2, .int x] st h Q = mr_wp 148 66 [v0, v1, .int w2, .int (x + (1))] st h Q) ∧
    (∀ (v0 v1 v2 v3 : Value) (st : List Value) (h : mr_h) (Q : Option Value → mr_h → Prop), mr_wp 148 66 [v0, v1, v2, v3] st h Q = mr_wp 148 21 [v0, v1, v2, v3] st h Q) ∧
    (∀ (v0 v1 v3 : Value) (x : Int32) (st : List Value) (h : mr_h) (Q : Option Value → mr_h → Prop), mr_wp 148 69 [v0, v1, .int x, v3] st h Q = mr_wp 148 70 [v0, v1, .int x, v3] (.int x :: st) h Q) ∧
    (∀ (v0 v1 v2 v3 : Value) (x : Int32) (h : mr_h) (Q : Option Value → mr_h → Prop), mr_wp 148 70 [v0, v1, v2, v3] [.int x] h Q = Q (some (.int x)) h) :=
  ⟨fun v1 v2 v3 x st h Q => gx_one (i := .aload_n 0) (len := 1) (by decide +kernel) rfl,
   fun v1 v2 v3 x st h Q => gx_one (i := .aload_n 0) (len := 1) (by decide +kernel) rfl,
   fun v0 v1 v2 v3 a st h Q => gx_get (x := 16) (by decide +kernel) (by decide +kernel),
   fun v1 v2 v3 x st h Q => gx_one (i := .aload_n 0) (len := 1) (by decide +kernel) rfl,
   fun v0 v1 v2 v3 a st h Q => gx_get (x := 41) (by decide +kernel) (by decide +kernel),
   fun v0 v1 v2 v3 a0 a1 o h Q => gx_virt (x := 158) (n := 2) (by decide +kernel) (by decide +kernel) rfl (Or.inl (Nat.le_of_ble_eq_true rfl)) (by show _ ≤ mr_mxl 133; rw [show mr_mxl 133 = 5 from by decide +kernel]; exact Nat.le_of_ble_eq_true rfl) (by decide +kernel),
   fun v1 v2 v3 x st h Q => gx_one (i := .aload_n 0) (len := 1) (by decide +kernel) rfl,
   fun v0 v1 v2 v3 o h Q => gx_virt (x := 162) (n := 0) (by decide +kernel) (by decide +kernel) rfl (Or.inl (Nat.le_of_ble_eq_true rfl)) (by show _ ≤ mr_mxl 138; rw [show mr_mxl 138 = 3 from by decide +kernel]; exact Nat.le_of_ble_eq_true rfl) (by decide +kernel),
   fun v1 v2 v3 w0 x st h Q => gx_one (i := .istore_n 1) (len := 1) (by decide +kernel) rfl,
   fun v0 v1 v2 v3 st h Q => gx_one (i := .iconst 0) (len := 1) (by decide +kernel) rfl,
   fun v0 v2 v3 w1 x st h Q => gx_one (i := .istore_n 2) (len := 1) (by decide +kernel) rfl,
   fun v0 v1 v2 v3 st h Q => gx_one (i := .iconst 0) (len := 1) (by decide +kernel) rfl,
   fun v0 v1 v3 w2 x st h Q => gx_one (i := .istore_n 3) (len := 1) (by decide +kernel) rfl,
   fun v1 v2 v3 x st h Q => gx_one (i := .aload_n 0) (len := 1) (by decide +kernel) rfl,
   fun v0 v1 v2 v3 a st h Q => gx_get (x := 123) (by decide +kernel) (by decide +kernel),
   fun v0 v1 v2 v3 x y st h Q => gx_br (i := .if_icmp .ge 43) (len := 3) (c := .ge) (by decide +kernel) rfl rfl,
   fun v0 v1 v3 x st h Q => gx_one (i := .iload_n 2) (len := 1) (by decide +kernel) rfl,
   fun v0 v2 v3 x st h Q => gx_one (i := .iload_n 1) (len := 1) (by decide +kernel) rfl,
   fun v0 v1 v2 x st h Q => gx_one (i := .iload_n 3) (len := 1) (by decide +kernel) rfl,
   fun v0 v1 v2 v3 a0 a1 r0 h Q => gx_stat (x := 116) (t := 130) (n := 2) (by decide +kernel) (by decide +kernel) (by decide) (by decide +kernel) rfl (Or.inl (Nat.le_of_ble_eq_true rfl)) (by show _ ≤ mr_mxl 130; rw [show mr_mxl 130 = 2 from by decide +kernel]; exact Nat.le_of_ble_eq_true rfl),
   fun v0 v1 v2 v3 x st h Q => gx_br (i := .ifCond .eq 25) (len := 3) (c := .eq) (by decide +kernel) rfl rfl,
   fun v1 v2 v3 x st h Q => gx_one (i := .aload_n 0) (len := 1) (by decide +kernel) rfl,
   fun v0 v1 v2 x st h Q => gx_one (i := .iload_n 3) (len := 1) (by decide +kernel) rfl,
   fun v0 v2 v3 x st h Q => gx_one (i := .iload_n 1) (len := 1) (by decide +kernel) rfl,
   fun v0 v1 v2 v3 a0 a1 o r0 h Q => gx_virt (x := 166) (n := 2) (by decide +kernel) (by decide +kernel) rfl (Or.inl (Nat.le_of_ble_eq_true rfl)) (by show _ ≤ mr_mxl 139; rw [show mr_mxl 139 = 6 from by decide +kernel]; exact Nat.le_of_ble_eq_true rfl) (by decide +kernel),
   fun v0 v1 v2 v3 a0 r0 h Q => gx_stat (x := 136) (t := 147) (n := 1) (by decide +kernel) (by decide +kernel) (by decide) (by decide +kernel) rfl (Or.inl (Nat.le_of_ble_eq_true rfl)) (by show _ ≤ mr_mxl 147; rw [show mr_mxl 147 = 3 from by decide +kernel]; exact Nat.le_of_ble_eq_true rfl),
   fun v1 v2 v3 x st h Q => gx_one (i := .aload_n 0) (len := 1) (by decide +kernel) rfl,
   fun v0 v1 v2 x st h Q => gx_one (i := .iload_n 3) (len := 1) (by decide +kernel) rfl,
   fun v0 v2 v3 x st h Q => gx_one (i := .iload_n 1) (len := 1) (by decide +kernel) rfl,
   fun v0 v1 v2 v3 a0 a1 o r0 r1 h Q => gx_virt (x := 170) (n := 2) (by decide +kernel) (by decide +kernel) rfl (Or.inl (Nat.le_of_ble_eq_true rfl)) (by show _ ≤ mr_mxl 142; rw [show mr_mxl 142 = 6 from by decide +kernel]; exact Nat.le_of_ble_eq_true rfl) (by decide +kernel),
   fun v0 v1 v2 v3 a0 r0 r1 h Q => gx_stat (x := 136) (t := 147) (n := 1) (by decide +kernel) (by decide +kernel) (by decide) (by decide +kernel) rfl (Or.inl (Nat.le_of_ble_eq_true rfl)) (by show _ ≤ mr_mxl 147; rw [show mr_mxl 147 = 3 from by decide +kernel]; exact Nat.le_of_ble_eq_true rfl),
   fun v0 v1 v2 v3 x y st h Q => gx_one (i := .iadd) (len := 1) (by decide +kernel) rfl,
   fun v0 v1 v2 v3 st h Q => gx_one (i := .goto 4) (len := 3) (by decide +kernel) rfl,
   fun v0 v1 v2 v3 st h Q => gx_one (i := .iconst 0) (len := 1) (by decide +kernel) rfl,
   fun v0 v1 v2 v3 x y st h Q => gx_one (i := .iadd) (len := 1) (by decide +kernel) rfl,
   fun v0 v2 v3 w1 x st h Q => gx_one (i := .istore_n 2) (len := 1) (by decide +kernel) rfl,
   fun v0 v1 x w2 st h Q => gx_one (i := .iinc 3 1) (len := 3) (by decide +kernel) rfl,
   fun v0 v1 v2 v3 st h Q => gx_one (i := .goto (-45)) (len := 3) (by decide +kernel) rfl,
   fun v0 v1 v3 x st h Q => gx_one (i := .iload_n 2) (len := 1) (by decide +kernel) rfl,
   fun v0 v1 v2 v3 x h Q => gx_ret (i := .ireturn) (len := 1) (by decide +kernel) rfl rfl (by simp only [mr_rt, if_pos]; rw [if_pos (Or.inl (by decide +kernel))])⟩
theorem s_mo_pairsOf_4 (v0 v1 v2 : Value) (x : Int32) (st : List Value) (h : mr_h) (Q : Option Value → mr_h → Prop) : mr_wp 149 4 [v0, v1, v2, .int x] st h Q = mr_wp 149 5 [v0, v1, v2, .int x] (.int x :: st) h Q := gx_one (i := .iload_n 3) (len := 1) (by decide +kernel) rfl
theorem S_mo_pairsOf : (∀ (v0 v1 v2 v3 : Value) (st : List Value) (h : mr_h) (Q : Option Value → mr_h → Prop), mr_wp 149 0 [v0, v1, v2, v3] st h Q = mr_wp 149 1 [v0, v1, v2, v3] (.int (0) :: st) h Q) ∧
    (∀ (v0 v2 v3 : Value) (w1 : Nat) (x : Int32) (st : List Value) (h : mr_h) (Q : Option Value → mr_h → Prop), mr_wp 149 1 [v0, .ref w1, v2, v3] (.int x :: st) h Q = mr_wp 149 2 [v0, .ref w1, .int x, v3] st h Q) ∧
    (∀ (v0 v1 v2 v3 : Value) (st : List Value) (h : mr_h) (Q : Option Value → mr_h → Prop), mr_wp 149 2 [v0, v1, v2, v3] st h Q = mr_wp 149 3 [v0, v1, v2, v3] (.int (0) :: st) h Q) ∧
    (∀ (v0 v1 v3 : Value) (w2 : Int32) (x : Int32) (st : List Value) (h : mr_h) (Q : Option Value → mr_h → Prop), mr_wp 149 3 [v0, v1, .int w2, v3] (.int x :: st) h Q = mr_wp 149 4 [v0, v1, .int w2, .int x] st h Q) ∧
    (∀ (v1 v2 v3 : Value) (x : Nat) (st : List Value) (h : mr_h) (Q : Option Value → mr_h → Prop), mr_wp 149 5 [.ref x, v1, v2, v3] st h Q = mr_wp 149 6 [.ref x, v1, v2, v3] (.ref x :: st) h Q) ∧
    (∀ (v0 v1 v2 v3 : Value) (a : Nat) (st : List Value) (h : mr_h) (Q : Option Value → mr_h → Prop), mr_wp 149 6 [v0, v1, v2, v3] (.ref a :: st) h Q = mr_gf (h.1 a) 11 8 (fun v => mr_wp 149 9 [v0, v1, v2, v3] (v :: st) h Q)) ∧
    (∀ (v0 v1 v2 v3 : Value) (x : Int32) (y : Int32) (st : List Value) (h : mr_h) (Q : Option Value → mr_h → Prop), mr_wp 149 9 [v0, v1, v2, v3] (.int y :: .int x :: st) h Q = if y ≤ x then mr_wp 149 29 [v0, v1, v2, v3] st h Q else mr_wp 149 12 [v0, v1, v2, v3] st h Q) ∧
    (∀ (v0 v1 v3 : Value) (x : Int32) (st : List Value) (h : mr_h) (Q : Option Value → mr_h → Prop), mr_wp 149 12 [v0, v1, .int x, v3] st h Q = mr_wp 149 13 [v0, v1, .int x, v3] (.int x :: st) h Q) ∧
    (∀ (v0 v2 v3 : Value) (x : Nat) (st : List Value) (h : mr_h) (Q : Option Value → mr_h → Prop), mr_wp 149 13 [v0, .ref x, v2, v3] st h Q = mr_wp 149 14 [v0, .ref x, v2, v3] (.ref x :: st) h Q) ∧
    (∀ (v0 v1 v2 : Value) (x : Int32) (st : List Value) (h : mr_h) (Q : Option Value → mr_h → Prop), mr_wp 149 14 [v0, v1, v2, .int x] st h Q = mr_wp 149 15 [v0, v1, v2, .int x] (.int x :: st) h Q) ∧
    (∀ (v0 v1 v2 v3 : Value) (a : Nat) (x : Int32) (st : List Value) (h : mr_h) (Q : Option Value → mr_h → Prop), mr_wp 149 15 [v0, v1, v2, v3] (.int x :: .ref a :: st) h Q = mr_ai (h.1 a) x (fun v => mr_wp 149 16 [v0, v1, v2, v3] (.int v :: st) h Q)) ∧
    (∀ (v0 v1 v2 v3 : Value) (a0 : Int32) (r0 : Value) (h : mr_h) (Q : Option Value → mr_h → Prop), mr_wp 149 16 [v0, v1, v2, v3] [.int a0, r0] h Q = mr_run 147 [.int a0] h (fun v h' => mr_wp 149 19 [v0, v1, v2, v3] (v.toList ++ [r0]) h' Q)) ∧
    (∀ (v0 v1 v2 v3 : Value) (st : List Value) (h : mr_h) (Q : Option Value → mr_h → Prop), mr_wp 149 19 [v0, v1, v2, v3] st h Q = mr_wp 149 20 [v0, v1, v2, v3] (.int (1) :: st) h Q) ∧
    (∀ (v0 v1 v2 v3 : Value) (x : Int32) (y : Int32) (st : List Value) (h : mr_h) (Q : Option Value → mr_h → Prop), mr_wp 149 20 [v0, v1, v2, v3] (.int y :: .int x :: st) h Q = mr_wp 149 21 [v0, v1, v2, v3] (.int (x - y) :: st) h Q) ∧
    (∀ (v0 v1 v2 v3 : Value) (x : Int32) (y : Int32) (st : List Value) (h : mr_h) (Q : Option Value → mr_h → Prop), mr_wp 149 21 [v0, v1, v2, v3] (.int y :: .int x :: st) h Q = mr_wp 149 22 [v0, v1, v2, v3] (.int (x + y) :: st) h Q) ∧
    (∀ (v0 v2 v3 : Value) (w1 : Nat) (x : Int32) (st : List Value) (h : mr_h) (Q : Option Value → mr_h → Prop), mr_wp 149 22 [v0, .ref w1, v2, v3] (.int x :: st) h Q = mr_wp 149 23 [v0, .ref w1, .int x, v3] st h Q) ∧
    (∀ (v0 v1 : Value) (x : Int32) (w2 : Int32) (st : List Value) (h : mr_h) (Q : Option Value → mr_h → Prop), mr_wp 149 23 [v0, v1, .int w2, .int x] st h Q = mr_wp 149 26 [v0, v1, .int w2, .int (x + (1))] st h Q) ∧
    (∀ (v0 v1 v2 v3 : Value) (st : List Value) (h : mr_h) (Q : Option Value → mr_h → Prop), mr_wp 149 26 [v0, v1, v2, v3] st h Q = mr_wp 149 4 [v0, v1, v2, v3] st h Q) ∧
    (∀ (v0 v1 v3 : Value) (x : Int32) (st : List Value) (h : mr_h) (Q : Option Value → mr_h → Prop), mr_wp 149 29 [v0, v1, .int x, v3] st h Q = mr_wp 149 30 [v0, v1, .int x, v3] (.int x :: st) h Q) ∧
    (∀ (v0 v1 v2 v3 : Value) (x : Int32) (h : mr_h) (Q : Option Value → mr_h → Prop), mr_wp 149 30 [v0, v1, v2, v3] [.int x] h Q = Q (some (.int x)) h) :=
  ⟨fun v0 v1 v2 v3 st h Q => gx_one (i := .iconst 0) (len := 1) (by decide +kernel) rfl,
   fun v0 v2 v3 w1 x st h Q => gx_one (i := .istore_n 2) (len := 1) (by decide +kernel) rfl,
   fun v0 v1 v2 v3 st h Q => gx_one (i := .iconst 0) (len := 1) (by decide +kernel) rfl,
   fun v0 v1 v3 w2 x st h Q => gx_one (i := .istore_n 3) (len := 1) (by decide +kernel) rfl,
   fun v1 v2 v3 x st h Q => gx_one (i := .aload_n 0) (len := 1) (by decide +kernel) rfl,
   fun v0 v1 v2 v3 a st h Q => gx_get (x := 123) (by decide +kernel) (by decide +kernel),
   fun v0 v1 v2 v3 x y st h Q => gx_br (i := .if_icmp .ge 20) (len := 3) (c := .ge) (by decide +kernel) rfl rfl,
   fun v0 v1 v3 x st h Q => gx_one (i := .iload_n 2) (len := 1) (by decide +kernel) rfl,
   fun v0 v2 v3 x st h Q => gx_one (i := .aload_n 1) (len := 1) (by decide +kernel) rfl,
   fun v0 v1 v2 x st h Q => gx_one (i := .iload_n 3) (len := 1) (by decide +kernel) rfl,
   fun v0 v1 v2 v3 a x st h Q => gx_iald (by decide +kernel),
   fun v0 v1 v2 v3 a0 r0 h Q => gx_stat (x := 136) (t := 147) (n := 1) (by decide +kernel) (by decide +kernel) (by decide) (by decide +kernel) rfl (Or.inl (Nat.le_of_ble_eq_true rfl)) (by show _ ≤ mr_mxl 147; rw [show mr_mxl 147 = 3 from by decide +kernel]; exact Nat.le_of_ble_eq_true rfl),
   fun v0 v1 v2 v3 st h Q => gx_one (i := .iconst 1) (len := 1) (by decide +kernel) rfl,
   fun v0 v1 v2 v3 x y st h Q => gx_one (i := .isub) (len := 1) (by decide +kernel) rfl,
   fun v0 v1 v2 v3 x y st h Q => gx_one (i := .iadd) (len := 1) (by decide +kernel) rfl,
   fun v0 v2 v3 w1 x st h Q => gx_one (i := .istore_n 2) (len := 1) (by decide +kernel) rfl,
   fun v0 v1 x w2 st h Q => gx_one (i := .iinc 3 1) (len := 3) (by decide +kernel) rfl,
   fun v0 v1 v2 v3 st h Q => gx_one (i := .goto (-22)) (len := 3) (by decide +kernel) rfl,
   fun v0 v1 v3 x st h Q => gx_one (i := .iload_n 2) (len := 1) (by decide +kernel) rfl,
   fun v0 v1 v2 v3 x h Q => gx_ret (i := .ireturn) (len := 1) (by decide +kernel) rfl rfl (by simp only [mr_rt, if_pos]; rw [if_pos (Or.inl (by decide +kernel))])⟩
