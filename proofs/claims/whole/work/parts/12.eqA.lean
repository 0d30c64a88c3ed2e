/-! step equations, printed by wip/whole/gen12run.py; S_x: all of a method but the heads of its loops; s_x_pc: a head -/
theorem s_ne_startAnew_7 (v0 : Value) (x : Int32) (st : List Value) (h : mr_h) (Q : Option Value → mr_h → Prop) : mr_wp 2 7 [v0, .int x] st h Q = mr_wp 2 8 [v0, .int x] (.int x :: st) h Q := gx_one (i := .iload_n 1) (len := 1) (by decide +kernel) rfl
theorem S_ne_startAnew : (∀ (v1 : Value) (x : Nat) (st : List Value) (h : mr_h) (Q : Option Value → mr_h → Prop), mr_wp 2 0 [.ref x, v1] st h Q = mr_wp 2 1 [.ref x, v1] (.ref x :: st) h Q) ∧
    (∀ (v0 v1 : Value) (st : List Value) (h : mr_h) (Q : Option Value → mr_h → Prop), mr_wp 2 1 [v0, v1] st h Q = mr_wp 2 2 [v0, v1] (.int (4) :: st) h Q) ∧
    (∀ (v0 v1 : Value) (a : Nat) (x : Int32) (st : List Value) (h : mr_h) (Q : Option Value → mr_h → Prop), mr_wp 2 2 [v0, v1] (.int x :: .ref a :: st) h Q = mr_pf (h.1 a) 3 0 (.int x) (fun c => mr_wp 2 5 [v0, v1] st (mr_up h a c) Q)) ∧
    (∀ (v0 v1 : Value) (st : List Value) (h : mr_h) (Q : Option Value → mr_h → Prop), mr_wp 2 5 [v0, v1] st h Q = mr_wp 2 6 [v0, v1] (.int (0) :: st) h Q) ∧
    (∀ (v1 : Value) (w0 : Nat) (x : Int32) (st : List Value) (h : mr_h) (Q : Option Value → mr_h → Prop), mr_wp 2 6 [.ref w0, v1] (.int x :: st) h Q = mr_wp 2 7 [.ref w0, .int x] st h Q) ∧
    (∀ (v0 v1 : Value) (st : List Value) (h : mr_h) (Q : Option Value → mr_h → Prop), mr_wp 2 8 [v0, v1] st h Q = mr_wp 2 10 [v0, v1] (.int (12) :: st) h Q) ∧
    (∀ (v0 v1 : Value) (x : Int32) (y : Int32) (st : List Value) (h : mr_h) (Q : Option Value → mr_h → Prop), mr_wp 2 10 [v0, v1] (.int y :: .int x :: st) h Q = if y ≤ x then mr_wp 2 33 [v0, v1] st h Q else mr_wp 2 13 [v0, v1] st h Q) ∧
    (∀ (v1 : Value) (x : Nat) (st : List Value) (h : mr_h) (Q : Option Value → mr_h → Prop), mr_wp 2 13 [.ref x, v1] st h Q = mr_wp 2 14 [.ref x, v1] (.ref x :: st) h Q) ∧
    (∀ (v0 v1 : Value) (a : Nat) (st : List Value) (h : mr_h) (Q : Option Value → mr_h → Prop), mr_wp 2 14 [v0, v1] (.ref a :: st) h Q = mr_gf (h.1 a) 3 1 (fun v => mr_wp 2 17 [v0, v1] (v :: st) h Q)) ∧
    (∀ (v0 : Value) (x : Int32) (st : List Value) (h : mr_h) (Q : Option Value → mr_h → Prop), mr_wp 2 17 [v0, .int x] st h Q = mr_wp 2 18 [v0, .int x] (.int x :: st) h Q) ∧
    (∀ (v0 v1 : Value) (st : List Value) (h : mr_h) (Q : Option Value → mr_h → Prop), mr_wp 2 18 [v0, v1] st h Q = mr_wp 2 19 [v0, v1] (.int (0) :: st) h Q) ∧
    (∀ (v0 v1 : Value) (a : Nat) (x : Int32) (y : Int32) (st : List Value) (h : mr_h) (Q : Option Value → mr_h → Prop), mr_wp 2 19 [v0, v1] (.int y :: .int x :: .ref a :: st) h Q = mr_si (h.1 a) x y (fun c => mr_wp 2 20 [v0, v1] st (mr_up h a c) Q)) ∧
    (∀ (v1 : Value) (x : Nat) (st : List Value) (h : mr_h) (Q : Option Value → mr_h → Prop), mr_wp 2 20 [.ref x, v1] st h Q = mr_wp 2 21 [.ref x, v1] (.ref x :: st) h Q) ∧
    (∀ (v0 v1 : Value) (a : Nat) (st : List Value) (h : mr_h) (Q : Option Value → mr_h → Prop), mr_wp 2 21 [v0, v1] (.ref a :: st) h Q = mr_gf (h.1 a) 3 2 (fun v => mr_wp 2 24 [v0, v1] (v :: st) h Q)) ∧
    (∀ (v0 : Value) (x : Int32) (st : List Value) (h : mr_h) (Q : Option Value → mr_h → Prop), mr_wp 2 24 [v0, .int x] st h Q = mr_wp 2 25 [v0, .int x] (.int x :: st) h Q) ∧
    (∀ (v0 v1 : Value) (st : List Value) (h : mr_h) (Q : Option Value → mr_h → Prop), mr_wp 2 25 [v0, v1] st h Q = mr_wp 2 26 [v0, v1] (.int (-1) :: st) h Q) ∧
    (∀ (v0 v1 : Value) (a : Nat) (x : Int32) (y : Int32) (st : List Value) (h : mr_h) (Q : Option Value → mr_h → Prop), mr_wp 2 26 [v0, v1] (.int y :: .int x :: .ref a :: st) h Q = mr_si (h.1 a) x y (fun c => mr_wp 2 27 [v0, v1] st (mr_up h a c) Q)) ∧
    (∀ (x : Int32) (w0 : Nat) (st : List Value) (h : mr_h) (Q : Option Value → mr_h → Prop), mr_wp 2 27 [.ref w0, .int x] st h Q = mr_wp 2 30 [.ref w0, .int (x + (1))] st h Q) ∧
    (∀ (v0 v1 : Value) (st : List Value) (h : mr_h) (Q : Option Value → mr_h → Prop), mr_wp 2 30 [v0, v1] st h Q = mr_wp 2 7 [v0, v1] st h Q) ∧
    (∀ (v0 v1 : Value) (h : mr_h) (Q : Option Value → mr_h → Prop), mr_wp 2 33 [v0, v1] [] h Q = Q none h) :=
  ⟨fun v1 x st h Q => gx_one (i := .aload_n 0) (len := 1) (by decide +kernel) rfl,
   fun v0 v1 st h Q => gx_one (i := .iconst 4) (len := 1) (by decide +kernel) rfl,
   fun v0 v1 a x st h Q => gx_put (x := 25) (by decide +kernel) (by decide +kernel) ⟨rfl, Or.inl rfl⟩,
   fun v0 v1 st h Q => gx_one (i := .iconst 0) (len := 1) (by decide +kernel) rfl,
   fun v1 w0 x st h Q => gx_one (i := .istore_n 1) (len := 1) (by decide +kernel) rfl,
   fun v0 v1 st h Q => gx_one (i := .bipush 12) (len := 2) (by decide +kernel) rfl,
   fun v0 v1 x y st h Q => gx_br (i := .if_icmp .ge 23) (len := 3) (c := .ge) (by decide +kernel) rfl rfl,
   fun v1 x st h Q => gx_one (i := .aload_n 0) (len := 1) (by decide +kernel) rfl,
   fun v0 v1 a st h Q => gx_get (x := 9) (by decide +kernel) (by decide +kernel),
   fun v0 x st h Q => gx_one (i := .iload_n 1) (len := 1) (by decide +kernel) rfl,
   fun v0 v1 st h Q => gx_one (i := .iconst 0) (len := 1) (by decide +kernel) rfl,
   fun v0 v1 a x y st h Q => gx_iast (by decide +kernel),
   fun v1 x st h Q => gx_one (i := .aload_n 0) (len := 1) (by decide +kernel) rfl,
   fun v0 v1 a st h Q => gx_get (x := 15) (by decide +kernel) (by decide +kernel),
   fun v0 x st h Q => gx_one (i := .iload_n 1) (len := 1) (by decide +kernel) rfl,
   fun v0 v1 st h Q => gx_one (i := .iconst (-1)) (len := 1) (by decide +kernel) rfl,
   fun v0 v1 a x y st h Q => gx_iast (by decide +kernel),
   fun x w0 st h Q => gx_one (i := .iinc 1 1) (len := 3) (by decide +kernel) rfl,
   fun v0 v1 st h Q => gx_one (i := .goto (-23)) (len := 3) (by decide +kernel) rfl,
   fun v0 v1 h Q => gx_ret (i := .return_) (len := 1) (by decide +kernel) rfl rfl (by simp only [mr_rt, if_pos]; rw [if_pos (by decide +kernel)])⟩
theorem s_ne_rankRest_4 (v0 v1 v2 : Value) (x : Int32) (st : List Value) (h : mr_h) (Q : Option Value → mr_h → Prop) : mr_wp 3 4 [v0, v1, v2, .int x] st h Q = mr_wp 3 5 [v0, v1, v2, .int x] (.int x :: st) h Q := gx_one (i := .iload_n 3) (len := 1) (by decide +kernel) rfl
theorem S_ne_rankRest : (∀ (v0 v2 v3 : Value) (x : Int32) (st : List Value) (h : mr_h) (Q : Option Value → mr_h → Prop), mr_wp 3 0 [v0, .int x, v2, v3] st h Q = mr_wp 3 1 [v0, .int x, v2, v3] (.int x :: st) h Q) ∧
    (∀ (v0 v2 v3 : Value) (w1 : Int32) (x : Int32) (st : List Value) (h : mr_h) (Q : Option Value → mr_h → Prop), mr_wp 3 1 [v0, .int w1, v2, v3] (.int x :: st) h Q = mr_wp 3 2 [v0, .int w1, .int x, v3] st h Q) ∧
    (∀ (v0 v1 v2 v3 : Value) (st : List Value) (h : mr_h) (Q : Option Value → mr_h → Prop), mr_wp 3 2 [v0, v1, v2, v3] st h Q = mr_wp 3 3 [v0, v1, v2, v3] (.int (0) :: st) h Q) ∧
    (∀ (v0 v1 v3 : Value) (w2 : Int32) (x : Int32) (st : List Value) (h : mr_h) (Q : Option Value → mr_h → Prop), mr_wp 3 3 [v0, v1, .int w2, v3] (.int x :: st) h Q = mr_wp 3 4 [v0, v1, .int w2, .int x] st h Q) ∧
    (∀ (v1 v2 v3 : Value) (x : Nat) (st : List Value) (h : mr_h) (Q : Option Value → mr_h → Prop), mr_wp 3 5 [.ref x, v1, v2, v3] st h Q = mr_wp 3 6 [.ref x, v1, v2, v3] (.ref x :: st) h Q) ∧
    (∀ (v0 v1 v2 v3 : Value) (a : Nat) (st : List Value) (h : mr_h) (Q : Option Value → mr_h → Prop), mr_wp 3 6 [v0, v1, v2, v3] (.ref a :: st) h Q = mr_gf (h.1 a) 3 0 (fun v => mr_wp 3 9 [v0, v1, v2, v3] (v :: st) h Q)) ∧
    (∀ (v0 v1 v2 v3 : Value) (x : Int32) (y : Int32) (st : List Value) (h : mr_h) (Q : Option Value → mr_h → Prop), mr_wp 3 9 [v0, v1, v2, v3] (.int y :: .int x :: st) h Q = if y ≤ x then mr_wp 3 36 [v0, v1, v2, v3] st h Q else mr_wp 3 12 [v0, v1, v2, v3] st h Q) ∧
    (∀ (v1 v2 v3 : Value) (x : Nat) (st : List Value) (h : mr_h) (Q : Option Value → mr_h → Prop), mr_wp 3 12 [.ref x, v1, v2, v3] st h Q = mr_wp 3 13 [.ref x, v1, v2, v3] (.ref x :: st) h Q) ∧
    (∀ (v0 v1 v2 : Value) (x : Int32) (st : List Value) (h : mr_h) (Q : Option Value → mr_h → Prop), mr_wp 3 13 [v0, v1, v2, .int x] st h Q = mr_wp 3 14 [v0, v1, v2, .int x] (.int x :: st) h Q) ∧
    (∀ (v0 v1 v2 v3 : Value) (a0 : Int32) (o : Nat) (h : mr_h) (Q : Option Value → mr_h → Prop), mr_wp 3 14 [v0, v1, v2, v3] [.int a0, .ref o] h Q = mr_rc (h.1 o) 3 (mr_run 4 [.ref o, .int a0] h (fun v h' => mr_wp 3 17 [v0, v1, v2, v3] (v.toList ++ []) h' Q))) ∧
    (∀ (v0 v1 v2 v3 : Value) (x : Int32) (st : List Value) (h : mr_h) (Q : Option Value → mr_h → Prop), mr_wp 3 17 [v0, v1, v2, v3] (.int x :: st) h Q = if ¬ x = 0 then mr_wp 3 30 [v0, v1, v2, v3] st h Q else mr_wp 3 20 [v0, v1, v2, v3] st h Q) ∧
    (∀ (v1 v2 v3 : Value) (x : Nat) (st : List Value) (h : mr_h) (Q : Option Value → mr_h → Prop), mr_wp 3 20 [.ref x, v1, v2, v3] st h Q = mr_wp 3 21 [.ref x, v1, v2, v3] (.ref x :: st) h Q) ∧
    (∀ (v0 v1 v2 v3 : Value) (a : Nat) (st : List Value) (h : mr_h) (Q : Option Value → mr_h → Prop), mr_wp 3 21 [v0, v1, v2, v3] (.ref a :: st) h Q = mr_gf (h.1 a) 3 2 (fun v => mr_wp 3 24 [v0, v1, v2, v3] (v :: st) h Q)) ∧
    (∀ (v0 v1 v2 : Value) (x : Int32) (st : List Value) (h : mr_h) (Q : Option Value → mr_h → Prop), mr_wp 3 24 [v0, v1, v2, .int x] st h Q = mr_wp 3 25 [v0, v1, v2, .int x] (.int x :: st) h Q) ∧
    (∀ (v0 v1 v3 : Value) (x : Int32) (st : List Value) (h : mr_h) (Q : Option Value → mr_h → Prop), mr_wp 3 25 [v0, v1, .int x, v3] st h Q = mr_wp 3 26 [v0, v1, .int x, v3] (.int x :: st) h Q) ∧
    (∀ (v0 v1 v2 v3 : Value) (a : Nat) (x : Int32) (y : Int32) (st : List Value) (h : mr_h) (Q : Option Value → mr_h → Prop), mr_wp 3 26 [v0, v1, v2, v3] (.int y :: .int x :: .ref a :: st) h Q = mr_si (h.1 a) x y (fun c => mr_wp 3 27 [v0, v1, v2, v3] st (mr_up h a c) Q)) ∧
    (∀ (v0 v3 : Value) (x : Int32) (w1 : Int32) (st : List Value) (h : mr_h) (Q : Option Value → mr_h → Prop), mr_wp 3 27 [v0, .int w1, .int x, v3] st h Q = mr_wp 3 30 [v0, .int w1, .int (x + (1)), v3] st h Q) ∧
    (∀ (v0 v1 : Value) (x : Int32) (w2 : Int32) (st : List Value) (h : mr_h) (Q : Option Value → mr_h → Prop), mr_wp 3 30 [v0, v1, .int w2, .int x] st h Q = mr_wp 3 33 [v0, v1, .int w2, .int (x + (1))] st h Q) ∧
    (∀ (v0 v1 v2 v3 : Value) (st : List Value) (h : mr_h) (Q : Option Value → mr_h → Prop), mr_wp 3 33 [v0, v1, v2, v3] st h Q = mr_wp 3 4 [v0, v1, v2, v3] st h Q) ∧
    (∀ (v0 v1 v2 v3 : Value) (h : mr_h) (Q : Option Value → mr_h → Prop), mr_wp 3 36 [v0, v1, v2, v3] [] h Q = Q none h) :=
  ⟨fun v0 v2 v3 x st h Q => gx_one (i := .iload_n 1) (len := 1) (by decide +kernel) rfl,
   fun v0 v2 v3 w1 x st h Q => gx_one (i := .istore_n 2) (len := 1) (by decide +kernel) rfl,
   fun v0 v1 v2 v3 st h Q => gx_one (i := .iconst 0) (len := 1) (by decide +kernel) rfl,
   fun v0 v1 v3 w2 x st h Q => gx_one (i := .istore_n 3) (len := 1) (by decide +kernel) rfl,
   fun v1 v2 v3 x st h Q => gx_one (i := .aload_n 0) (len := 1) (by decide +kernel) rfl,
   fun v0 v1 v2 v3 a st h Q => gx_get (x := 25) (by decide +kernel) (by decide +kernel),
   fun v0 v1 v2 v3 x y st h Q => gx_br (i := .if_icmp .ge 27) (len := 3) (c := .ge) (by decide +kernel) rfl rfl,
   fun v1 v2 v3 x st h Q => gx_one (i := .aload_n 0) (len := 1) (by decide +kernel) rfl,
   fun v0 v1 v2 x st h Q => gx_one (i := .iload_n 3) (len := 1) (by decide +kernel) rfl,
   fun v0 v1 v2 v3 a0 o h Q => gx_virt (x := 52) (n := 1) (by decide +kernel) (by decide +kernel) rfl (Or.inl (Nat.le_of_ble_eq_true rfl)) (by show _ ≤ mr_mxl 4; rw [show mr_mxl 4 = 2 from by decide +kernel]; exact Nat.le_of_ble_eq_true rfl) (by decide +kernel),
   fun v0 v1 v2 v3 x st h Q => gx_br (i := .ifCond .ne 13) (len := 3) (c := .ne) (by decide +kernel) rfl rfl,
   fun v1 v2 v3 x st h Q => gx_one (i := .aload_n 0) (len := 1) (by decide +kernel) rfl,
   fun v0 v1 v2 v3 a st h Q => gx_get (x := 15) (by decide +kernel) (by decide +kernel),
   fun v0 v1 v2 x st h Q => gx_one (i := .iload_n 3) (len := 1) (by decide +kernel) rfl,
   fun v0 v1 v3 x st h Q => gx_one (i := .iload_n 2) (len := 1) (by decide +kernel) rfl,
   fun v0 v1 v2 v3 a x y st h Q => gx_iast (by decide +kernel),
   fun v0 v3 x w1 st h Q => gx_one (i := .iinc 2 1) (len := 3) (by decide +kernel) rfl,
   fun v0 v1 x w2 st h Q => gx_one (i := .iinc 3 1) (len := 3) (by decide +kernel) rfl,
   fun v0 v1 v2 v3 st h Q => gx_one (i := .goto (-29)) (len := 3) (by decide +kernel) rfl,
   fun v0 v1 v2 v3 h Q => gx_ret (i := .return_) (len := 1) (by decide +kernel) rfl rfl (by simp only [mr_rt, if_pos]; rw [if_pos (by decide +kernel)])⟩
theorem S_ne_isRanked : (∀ (v1 : Value) (x : Nat) (st : List Value) (h : mr_h) (Q : Option Value → mr_h → Prop), mr_wp 4 0 [.ref x, v1] st h Q = mr_wp 4 1 [.ref x, v1] (.ref x :: st) h Q) ∧
    (∀ (v0 v1 : Value) (a : Nat) (st : List Value) (h : mr_h) (Q : Option Value → mr_h → Prop), mr_wp 4 1 [v0, v1] (.ref a :: st) h Q = mr_gf (h.1 a) 3 2 (fun v => mr_wp 4 4 [v0, v1] (v :: st) h Q)) ∧
    (∀ (v0 : Value) (x : Int32) (st : List Value) (h : mr_h) (Q : Option Value → mr_h → Prop), mr_wp 4 4 [v0, .int x] st h Q = mr_wp 4 5 [v0, .int x] (.int x :: st) h Q) ∧
    (∀ (v0 v1 : Value) (a : Nat) (x : Int32) (st : List Value) (h : mr_h) (Q : Option Value → mr_h → Prop), mr_wp 4 5 [v0, v1] (.int x :: .ref a :: st) h Q = mr_ai (h.1 a) x (fun v => mr_wp 4 6 [v0, v1] (.int v :: st) h Q)) ∧
    (∀ (v0 v1 : Value) (st : List Value) (h : mr_h) (Q : Option Value → mr_h → Prop), mr_wp 4 6 [v0, v1] st h Q = mr_wp 4 7 [v0, v1] (.int (-1) :: st) h Q) ∧
    (∀ (v0 v1 : Value) (x : Int32) (y : Int32) (st : List Value) (h : mr_h) (Q : Option Value → mr_h → Prop), mr_wp 4 7 [v0, v1] (.int y :: .int x :: st) h Q = if x = y then mr_wp 4 14 [v0, v1] st h Q else mr_wp 4 10 [v0, v1] st h Q) ∧
    (∀ (v0 v1 : Value) (st : List Value) (h : mr_h) (Q : Option Value → mr_h → Prop), mr_wp 4 10 [v0, v1] st h Q = mr_wp 4 11 [v0, v1] (.int (1) :: st) h Q) ∧
    (∀ (v0 v1 : Value) (st : List Value) (h : mr_h) (Q : Option Value → mr_h → Prop), mr_wp 4 11 [v0, v1] st h Q = mr_wp 4 15 [v0, v1] st h Q) ∧
    (∀ (v0 v1 : Value) (st : List Value) (h : mr_h) (Q : Option Value → mr_h → Prop), mr_wp 4 14 [v0, v1] st h Q = mr_wp 4 15 [v0, v1] (.int (0) :: st) h Q) ∧
    (∀ (v0 v1 : Value) (x : Int32) (h : mr_h) (Q : Option Value → mr_h → Prop) (hv : x &&& 1 = x), mr_wp 4 15 [v0, v1] [.int x] h Q = Q (some (.int x)) h) :=
  ⟨fun v1 x st h Q => gx_one (i := .aload_n 0) (len := 1) (by decide +kernel) rfl,
   fun v0 v1 a st h Q => gx_get (x := 15) (by decide +kernel) (by decide +kernel),
   fun v0 x st h Q => gx_one (i := .iload_n 1) (len := 1) (by decide +kernel) rfl,
   fun v0 v1 a x st h Q => gx_iald (by decide +kernel),
   fun v0 v1 st h Q => gx_one (i := .iconst (-1)) (len := 1) (by decide +kernel) rfl,
   fun v0 v1 x y st h Q => gx_br (i := .if_icmp .eq 7) (len := 3) (c := .eq) (by decide +kernel) rfl rfl,
   fun v0 v1 st h Q => gx_one (i := .iconst 1) (len := 1) (by decide +kernel) rfl,
   fun v0 v1 st h Q => gx_one (i := .goto 4) (len := 3) (by decide +kernel) rfl,
   fun v0 v1 st h Q => gx_one (i := .iconst 0) (len := 1) (by decide +kernel) rfl,
   fun v0 v1 x h Q hv => gx_ret (i := .ireturn) (len := 1) (by decide +kernel) rfl rfl (by simp only [mr_rt, if_pos]; rw [if_pos (Or.inr ⟨by decide +kernel, hv⟩)])⟩
theorem S_re_derive : (∀ (v1 : Value) (x : Nat) (st : List Value) (h : mr_h) (Q : Option Value → mr_h → Prop), mr_wp 14 0 [.ref x, v1] st h Q = mr_wp 14 1 [.ref x, v1] (.ref x :: st) h Q) ∧
    (∀ (v0 : Value) (x : Nat) (st : List Value) (h : mr_h) (Q : Option Value → mr_h → Prop), mr_wp 14 1 [v0, .ref x] st h Q = mr_wp 14 2 [v0, .ref x] (.ref x :: st) h Q) ∧
    (∀ (v0 v1 : Value) (a : Nat) (st : List Value) (h : mr_h) (Q : Option Value → mr_h → Prop), mr_wp 14 2 [v0, v1] (.ref a :: st) h Q = mr_gf (h.1 a) 3 0 (fun v => mr_wp 14 5 [v0, v1] (v :: st) h Q)) ∧
    (∀ (v0 v1 : Value) (a : Nat) (x : Int32) (st : List Value) (h : mr_h) (Q : Option Value → mr_h → Prop), mr_wp 14 5 [v0, v1] (.int x :: .ref a :: st) h Q = mr_pf (h.1 a) 6 8 (.int x) (fun c => mr_wp 14 8 [v0, v1] st (mr_up h a c) Q)) ∧
    (∀ (v0 : Value) (x : Nat) (st : List Value) (h : mr_h) (Q : Option Value → mr_h → Prop), mr_wp 14 8 [v0, .ref x] st h Q = mr_wp 14 9 [v0, .ref x] (.ref x :: st) h Q) ∧
    (∀ (v0 v1 : Value) (a : Nat) (st : List Value) (h : mr_h) (Q : Option Value → mr_h → Prop), mr_wp 14 9 [v0, v1] (.ref a :: st) h Q = mr_gf (h.1 a) 3 1 (fun v => mr_wp 14 12 [v0, v1] (v :: st) h Q)) ∧
    (∀ (v0 v1 : Value) (st : List Value) (h : mr_h) (Q : Option Value → mr_h → Prop), mr_wp 14 12 [v0, v1] st h Q = mr_wp 14 13 [v0, v1] (.int (0) :: st) h Q) ∧
    (∀ (v1 : Value) (x : Nat) (st : List Value) (h : mr_h) (Q : Option Value → mr_h → Prop), mr_wp 14 13 [.ref x, v1] st h Q = mr_wp 14 14 [.ref x, v1] (.ref x :: st) h Q) ∧
    (∀ (v0 v1 : Value) (a : Nat) (st : List Value) (h : mr_h) (Q : Option Value → mr_h → Prop), mr_wp 14 14 [v0, v1] (.ref a :: st) h Q = mr_gf (h.1 a) 6 0 (fun v => mr_wp 14 17 [v0, v1] (v :: st) h Q)) ∧
    (∀ (v0 v1 : Value) (st : List Value) (h : mr_h) (Q : Option Value → mr_h → Prop), mr_wp 14 17 [v0, v1] st h Q = mr_wp 14 18 [v0, v1] (.int (0) :: st) h Q) ∧
    (∀ (v1 : Value) (x : Nat) (st : List Value) (h : mr_h) (Q : Option Value → mr_h → Prop), mr_wp 14 18 [.ref x, v1] st h Q = mr_wp 14 19 [.ref x, v1] (.ref x :: st) h Q) ∧
    (∀ (v0 v1 : Value) (a : Nat) (st : List Value) (h : mr_h) (Q : Option Value → mr_h → Prop), mr_wp 14 19 [v0, v1] (.ref a :: st) h Q = mr_gf (h.1 a) 6 8 (fun v => mr_wp 14 22 [v0, v1] (v :: st) h Q)) ∧
    (∀ (v0 v1 : Value) (x : Int32) (y : Int32) (a : Nat) (z : Int32) (b : Nat) (h : mr_h) (Q : Option Value → mr_h → Prop), mr_wp 14 22 [v0, v1] [.int x, .int y, .ref a, .int z, .ref b] h Q = mr_cpy (h.1 a) (h.1 b) a b z y x (fun c => mr_wp 14 25 [v0, v1] [] (mr_up h a c) Q)) ∧
    (∀ (v1 : Value) (x : Nat) (st : List Value) (h : mr_h) (Q : Option Value → mr_h → Prop), mr_wp 14 25 [.ref x, v1] st h Q = mr_wp 14 26 [.ref x, v1] (.ref x :: st) h Q) ∧
    (∀ (v0 v1 : Value) (a : Nat) (st : List Value) (h : mr_h) (Q : Option Value → mr_h → Prop), mr_wp 14 26 [v0, v1] (.ref a :: st) h Q = mr_gf (h.1 a) 6 0 (fun v => mr_wp 14 29 [v0, v1] (v :: st) h Q)) ∧
    (∀ (v1 : Value) (x : Nat) (st : List Value) (h : mr_h) (Q : Option Value → mr_h → Prop), mr_wp 14 29 [.ref x, v1] st h Q = mr_wp 14 30 [.ref x, v1] (.ref x :: st) h Q) ∧
    (∀ (v0 v1 : Value) (a : Nat) (st : List Value) (h : mr_h) (Q : Option Value → mr_h → Prop), mr_wp 14 30 [v0, v1] (.ref a :: st) h Q = mr_gf (h.1 a) 6 8 (fun v => mr_wp 14 33 [v0, v1] (v :: st) h Q)) ∧
    (∀ (v0 v1 : Value) (a0 : Nat) (a1 : Int32) (h : mr_h) (Q : Option Value → mr_h → Prop), mr_wp 14 33 [v0, v1] [.int a1, .ref a0] h Q = mr_run 15 [.ref a0, .int a1] h (fun v h' => mr_wp 14 36 [v0, v1] (v.toList ++ []) h' Q)) ∧
    (∀ (v1 : Value) (x : Nat) (st : List Value) (h : mr_h) (Q : Option Value → mr_h → Prop), mr_wp 14 36 [.ref x, v1] st h Q = mr_wp 14 37 [.ref x, v1] (.ref x :: st) h Q) ∧
    (∀ (v0 v1 : Value) (o : Nat) (h : mr_h) (Q : Option Value → mr_h → Prop), mr_wp 14 37 [v0, v1] [.ref o] h Q = mr_rc (h.1 o) 6 (mr_run 18 [.ref o] h (fun v h' => mr_wp 14 40 [v0, v1] (v.toList ++ []) h' Q))) ∧
    (∀ (v1 : Value) (x : Nat) (st : List Value) (h : mr_h) (Q : Option Value → mr_h → Prop), mr_wp 14 40 [.ref x, v1] st h Q = mr_wp 14 41 [.ref x, v1] (.ref x :: st) h Q) ∧
    (∀ (v0 v1 : Value) (o : Nat) (h : mr_h) (Q : Option Value → mr_h → Prop), mr_wp 14 41 [v0, v1] [.ref o] h Q = mr_rc (h.1 o) 6 (mr_run 19 [.ref o] h (fun v h' => mr_wp 14 44 [v0, v1] (v.toList ++ []) h' Q))) ∧
    (∀ (v1 : Value) (x : Nat) (st : List Value) (h : mr_h) (Q : Option Value → mr_h → Prop), mr_wp 14 44 [.ref x, v1] st h Q = mr_wp 14 45 [.ref x, v1] (.ref x :: st) h Q) ∧
    (∀ (v0 : Value) (x : Nat) (st : List Value) (h : mr_h) (Q : Option Value → mr_h → Prop), mr_wp 14 45 [v0, .ref x] st h Q = mr_wp 14 46 [v0, .ref x] (.ref x :: st) h Q) ∧
    (∀ (v0 v1 : Value) (a : Nat) (st : List Value) (h : mr_h) (Q : Option Value → mr_h → Prop), mr_wp 14 46 [v0, v1] (.ref a :: st) h Q = mr_gf (h.1 a) 3 2 (fun v => mr_wp 14 49 [v0, v1] (v :: st) h Q)) ∧
    (∀ (v0 v1 : Value) (a0 : Nat) (o : Nat) (h : mr_h) (Q : Option Value → mr_h → Prop), mr_wp 14 49 [v0, v1] [.ref a0, .ref o] h Q = mr_rc (h.1 o) 6 (mr_run 22 [.ref o, .ref a0] h (fun v h' => mr_wp 14 52 [v0, v1] (v.toList ++ []) h' Q))) ∧
    (∀ (v1 : Value) (x : Nat) (st : List Value) (h : mr_h) (Q : Option Value → mr_h → Prop), mr_wp 14 52 [.ref x, v1] st h Q = mr_wp 14 53 [.ref x, v1] (.ref x :: st) h Q) ∧
    (∀ (v0 v1 : Value) (o : Nat) (h : mr_h) (Q : Option Value → mr_h → Prop), mr_wp 14 53 [v0, v1] [.ref o] h Q = mr_rc (h.1 o) 6 (mr_run 24 [.ref o] h (fun v h' => mr_wp 14 56 [v0, v1] (v.toList ++ []) h' Q))) ∧
    (∀ (v0 v1 : Value) (h : mr_h) (Q : Option Value → mr_h → Prop), mr_wp 14 56 [v0, v1] [] h Q = Q none h) :=
  ⟨fun v1 x st h Q => gx_one (i := .aload_n 0) (len := 1) (by decide +kernel) rfl,
   fun v0 x st h Q => gx_one (i := .aload_n 1) (len := 1) (by decide +kernel) rfl,
   fun v0 v1 a st h Q => gx_get (x := 43) (by decide +kernel) (by decide +kernel),
   fun v0 v1 a x st h Q => gx_put (x := 36) (by decide +kernel) (by decide +kernel) ⟨rfl, Or.inl rfl⟩,
   fun v0 x st h Q => gx_one (i := .aload_n 1) (len := 1) (by decide +kernel) rfl,
   fun v0 v1 a st h Q => gx_get (x := 46) (by decide +kernel) (by decide +kernel),
   fun v0 v1 st h Q => gx_one (i := .iconst 0) (len := 1) (by decide +kernel) rfl,
   fun v1 x st h Q => gx_one (i := .aload_n 0) (len := 1) (by decide +kernel) rfl,
   fun v0 v1 a st h Q => gx_get (x := 9) (by decide +kernel) (by decide +kernel),
   fun v0 v1 st h Q => gx_one (i := .iconst 0) (len := 1) (by decide +kernel) rfl,
   fun v1 x st h Q => gx_one (i := .aload_n 0) (len := 1) (by decide +kernel) rfl,
   fun v0 v1 a st h Q => gx_get (x := 36) (by decide +kernel) (by decide +kernel),
   fun v0 v1 x y a z b h Q => gx_copy (x := 49) (by decide +kernel) (by decide +kernel) (by decide +kernel) (Nat.le_of_ble_eq_true rfl),
   fun v1 x st h Q => gx_one (i := .aload_n 0) (len := 1) (by decide +kernel) rfl,
   fun v0 v1 a st h Q => gx_get (x := 9) (by decide +kernel) (by decide +kernel),
   fun v1 x st h Q => gx_one (i := .aload_n 0) (len := 1) (by decide +kernel) rfl,
   fun v0 v1 a st h Q => gx_get (x := 36) (by decide +kernel) (by decide +kernel),
   fun v0 v1 a0 a1 h Q => gx_stat (x := 55) (t := 15) (n := 2) (by decide +kernel) (by decide +kernel) (by decide) (by decide +kernel) rfl (Or.inl (Nat.le_of_ble_eq_true rfl)) (by show _ ≤ mr_mxl 15; rw [show mr_mxl 15 = 4 from by decide +kernel]; exact Nat.le_of_ble_eq_true rfl),
   fun v1 x st h Q => gx_one (i := .aload_n 0) (len := 1) (by decide +kernel) rfl,
   fun v0 v1 o h Q => gx_virt (x := 59) (n := 0) (by decide +kernel) (by decide +kernel) rfl (Or.inl (Nat.le_of_ble_eq_true rfl)) (by show _ ≤ mr_mxl 18; rw [show mr_mxl 18 = 3 from by decide +kernel]; exact Nat.le_of_ble_eq_true rfl) (by decide +kernel),
   fun v1 x st h Q => gx_one (i := .aload_n 0) (len := 1) (by decide +kernel) rfl,
   fun v0 v1 o h Q => gx_virt (x := 62) (n := 0) (by decide +kernel) (by decide +kernel) rfl (Or.inl (Nat.le_of_ble_eq_true rfl)) (by show _ ≤ mr_mxl 19; rw [show mr_mxl 19 = 2 from by decide +kernel]; exact Nat.le_of_ble_eq_true rfl) (by decide +kernel),
   fun v1 x st h Q => gx_one (i := .aload_n 0) (len := 1) (by decide +kernel) rfl,
   fun v0 x st h Q => gx_one (i := .aload_n 1) (len := 1) (by decide +kernel) rfl,
   fun v0 v1 a st h Q => gx_get (x := 65) (by decide +kernel) (by decide +kernel),
   fun v0 v1 a0 o h Q => gx_virt (x := 68) (n := 1) (by decide +kernel) (by decide +kernel) rfl (Or.inl (Nat.le_of_ble_eq_true rfl)) (by show _ ≤ mr_mxl 22; rw [show mr_mxl 22 = 4 from by decide +kernel]; exact Nat.le_of_ble_eq_true rfl) (by decide +kernel),
   fun v1 x st h Q => gx_one (i := .aload_n 0) (len := 1) (by decide +kernel) rfl,
   fun v0 v1 o h Q => gx_virt (x := 72) (n := 0) (by decide +kernel) (by decide +kernel) rfl (Or.inl (Nat.le_of_ble_eq_true rfl)) (by show _ ≤ mr_mxl 24; rw [show mr_mxl 24 = 3 from by decide +kernel]; exact Nat.le_of_ble_eq_true rfl) (by decide +kernel),
   fun v0 v1 h Q => gx_ret (i := .return_) (len := 1) (by decide +kernel) rfl rfl (by simp only [mr_rt, if_pos]; rw [if_pos (by decide +kernel)])⟩
theorem s_rl_close_2 (v0 v1 v3 : Value) (x : Int32) (st : List Value) (h : mr_h) (Q : Option Value → mr_h → Prop) : mr_wp 15 2 [v0, v1, .int x, v3] st h Q = mr_wp 15 3 [v0, v1, .int x, v3] (.int x :: st) h Q := gx_one (i := .iload_n 2) (len := 1) (by decide +kernel) rfl
theorem s_rl_close_25 (v0 v1 v3 : Value) (x : Int32) (st : List Value) (h : mr_h) (Q : Option Value → mr_h → Prop) : mr_wp 15 25 [v0, v1, .int x, v3] st h Q = mr_wp 15 26 [v0, v1, .int x, v3] (.int x :: st) h Q := gx_one (i := .iload_n 2) (len := 1) (by decide +kernel) rfl
theorem s_rl_close_32 (v0 v1 v2 : Value) (x : Int32) (st : List Value) (h : mr_h) (Q : Option Value → mr_h → Prop) : mr_wp 15 32 [v0, v1, v2, .int x] st h Q = mr_wp 15 33 [v0, v1, v2, .int x] (.int x :: st) h Q := gx_one (i := .iload_n 3) (len := 1) (by decide +kernel) rfl
theorem S_rl_close_0 : (∀ (v0 v1 v2 v3 : Value) (st : List Value) (h : mr_h) (Q : Option Value → mr_h → Prop), mr_wp 15 0 [v0, v1, v2, v3] st h Q = mr_wp 15 1 [v0, v1, v2, v3] (.int (0) :: st) h Q) ∧
    (∀ (v0 v2 v3 : Value) (w1 : Int32) (x : Int32) (st : List Value) (h : mr_h) (Q : Option Value → mr_h → Prop), mr_wp 15 1 [v0, .int w1, v2, v3] (.int x :: st) h Q = mr_wp 15 2 [v0, .int w1, .int x, v3] st h Q) ∧
    (∀ (v0 v2 v3 : Value) (x : Int32) (st : List Value) (h : mr_h) (Q : Option Value → mr_h → Prop), mr_wp 15 3 [v0, .int x, v2, v3] st h Q = mr_wp 15 4 [v0, .int x, v2, v3] (.int x :: st) h Q) ∧
    (∀ (v0 v1 v2 v3 : Value) (x : Int32) (y : Int32) (st : List Value) (h : mr_h) (Q : Option Value → mr_h → Prop), mr_wp 15 4 [v0, v1, v2, v3] (.int y :: .int x :: st) h Q = if y ≤ x then mr_wp 15 23 [v0, v1, v2, v3] st h Q else mr_wp 15 7 [v0, v1, v2, v3] st h Q) ∧
    (∀ (v1 v2 v3 : Value) (x : Nat) (st : List Value) (h : mr_h) (Q : Option Value → mr_h → Prop), mr_wp 15 7 [.ref x, v1, v2, v3] st h Q = mr_wp 15 8 [.ref x, v1, v2, v3] (.ref x :: st) h Q) ∧
    (∀ (v0 v1 v3 : Value) (x : Int32) (st : List Value) (h : mr_h) (Q : Option Value → mr_h → Prop), mr_wp 15 8 [v0, v1, .int x, v3] st h Q = mr_wp 15 9 [v0, v1, .int x, v3] (.int x :: st) h Q) ∧
    (∀ (v0 v1 v2 v3 : Value) (x : Int32) (y : Nat) (st : List Value) (h : mr_h) (Q : Option Value → mr_h → Prop), mr_wp 15 9 [v0, v1, v2, v3] (.int x :: .ref y :: st) h Q = mr_wp 15 10 [v0, v1, v2, v3] (.int x :: .ref y :: .int x :: .ref y :: st) h Q) ∧
    (∀ (v0 v1 v2 v3 : Value) (a : Nat) (x : Int32) (st : List Value) (h : mr_h) (Q : Option Value → mr_h → Prop), mr_wp 15 10 [v0, v1, v2, v3] (.int x :: .ref a :: st) h Q = mr_ai (h.1 a) x (fun v => mr_wp 15 11 [v0, v1, v2, v3] (.int v :: st) h Q)) ∧
    (∀ (v0 v1 v3 : Value) (x : Int32) (st : List Value) (h : mr_h) (Q : Option Value → mr_h → Prop), mr_wp 15 11 [v0, v1, .int x, v3] st h Q = mr_wp 15 12 [v0, v1, .int x, v3] (.int x :: st) h Q) ∧
    (∀ (v0 v1 v2 v3 : Value) (a0 : Int32) (r0 : Value) (r1 : Value) (r2 : Value) (h : mr_h) (Q : Option Value → mr_h → Prop), mr_wp 15 12 [v0, v1, v2, v3] [.int a0, r0, r1, r2] h Q = mr_run 16 [.int a0] h (fun v h' => mr_wp 15 15 [v0, v1, v2, v3] (v.toList ++ [r0, r1, r2]) h' Q)) ∧
    (∀ (v0 v1 v2 v3 : Value) (x : Int32) (y : Int32) (st : List Value) (h : mr_h) (Q : Option Value → mr_h → Prop), mr_wp 15 15 [v0, v1, v2, v3] (.int y :: .int x :: st) h Q = mr_wp 15 16 [v0, v1, v2, v3] (.int (x ||| y) :: st) h Q) ∧
    (∀ (v0 v1 v2 v3 : Value) (a : Nat) (x : Int32) (y : Int32) (st : List Value) (h : mr_h) (Q : Option Value → mr_h → Prop), mr_wp 15 16 [v0, v1, v2, v3] (.int y :: .int x :: .ref a :: st) h Q = mr_si (h.1 a) x y (fun c => mr_wp 15 17 [v0, v1, v2, v3] st (mr_up h a c) Q)) ∧
    (∀ (v0 v3 : Value) (x : Int32) (w1 : Int32) (st : List Value) (h : mr_h) (Q : Option Value → mr_h → Prop), mr_wp 15 17 [v0, .int w1, .int x, v3] st h Q = mr_wp 15 20 [v0, .int w1, .int (x + (1)), v3] st h Q) ∧
    (∀ (v0 v1 v2 v3 : Value) (st : List Value) (h : mr_h) (Q : Option Value → mr_h → Prop), mr_wp 15 20 [v0, v1, v2, v3] st h Q = mr_wp 15 2 [v0, v1, v2, v3] st h Q) ∧
    (∀ (v0 v1 v2 v3 : Value) (st : List Value) (h : mr_h) (Q : Option Value → mr_h → Prop), mr_wp 15 23 [v0, v1, v2, v3] st h Q = mr_wp 15 24 [v0, v1, v2, v3] (.int (0) :: st) h Q) ∧
    (∀ (v0 v2 v3 : Value) (w1 : Int32) (x : Int32) (st : List Value) (h : mr_h) (Q : Option Value → mr_h → Prop), mr_wp 15 24 [v0, .int w1, v2, v3] (.int x :: st) h Q = mr_wp 15 25 [v0, .int w1, .int x, v3] st h Q) ∧
    (∀ (v0 v2 v3 : Value) (x : Int32) (st : List Value) (h : mr_h) (Q : Option Value → mr_h → Prop), mr_wp 15 26 [v0, .int x, v2, v3] st h Q = mr_wp 15 27 [v0, .int x, v2, v3] (.int x :: st) h Q) ∧
    (∀ (v0 v1 v2 v3 : Value) (x : Int32) (y : Int32) (st : List Value) (h : mr_h) (Q : Option Value → mr_h → Prop), mr_wp 15 27 [v0, v1, v2, v3] (.int y :: .int x :: st) h Q = if y ≤ x then mr_wp 15 68 [v0, v1, v2, v3] st h Q else mr_wp 15 30 [v0, v1, v2, v3] st h Q) ∧
    (∀ (v0 v1 v2 v3 : Value) (st : List Value) (h : mr_h) (Q : Option Value → mr_h → Prop), mr_wp 15 30 [v0, v1, v2, v3] st h Q = mr_wp 15 31 [v0, v1, v2, v3] (.int (0) :: st) h Q) ∧
    (∀ (v0 v1 v3 : Value) (w2 : Int32) (x : Int32) (st : List Value) (h : mr_h) (Q : Option Value → mr_h → Prop), mr_wp 15 31 [v0, v1, .int w2, v3] (.int x :: st) h Q = mr_wp 15 32 [v0, v1, .int w2, .int x] st h Q) ∧
    (∀ (v0 v2 v3 : Value) (x : Int32) (st : List Value) (h : mr_h) (Q : Option Value → mr_h → Prop), mr_wp 15 33 [v0, .int x, v2, v3] st h Q = mr_wp 15 34 [v0, .int x, v2, v3] (.int x :: st) h Q) ∧
    (∀ (v0 v1 v2 v3 : Value) (x : Int32) (y : Int32) (st : List Value) (h : mr_h) (Q : Option Value → mr_h → Prop), mr_wp 15 34 [v0, v1, v2, v3] (.int y :: .int x :: st) h Q = if y ≤ x then mr_wp 15 62 [v0, v1, v2, v3] st h Q else mr_wp 15 37 [v0, v1, v2, v3] st h Q) ∧
    (∀ (v1 v2 v3 : Value) (x : Nat) (st : List Value) (h : mr_h) (Q : Option Value → mr_h → Prop), mr_wp 15 37 [.ref x, v1, v2, v3] st h Q = mr_wp 15 38 [.ref x, v1, v2, v3] (.ref x :: st) h Q) ∧
    (∀ (v0 v1 v2 : Value) (x : Int32) (st : List Value) (h : mr_h) (Q : Option Value → mr_h → Prop), mr_wp 15 38 [v0, v1, v2, .int x] st h Q = mr_wp 15 39 [v0, v1, v2, .int x] (.int x :: st) h Q) ∧
    (∀ (v0 v1 v2 v3 : Value) (a : Nat) (x : Int32) (st : List Value) (h : mr_h) (Q : Option Value → mr_h → Prop), mr_wp 15 39 [v0, v1, v2, v3] (.int x :: .ref a :: st) h Q = mr_ai (h.1 a) x (fun v => mr_wp 15 40 [v0, v1, v2, v3] (.int v :: st) h Q)) ∧
    (∀ (v0 v1 v3 : Value) (x : Int32) (st : List Value) (h : mr_h) (Q : Option Value → mr_h → Prop), mr_wp 15 40 [v0, v1, .int x, v3] st h Q = mr_wp 15 41 [v0, v1, .int x, v3] (.int x :: st) h Q) ∧
    (∀ (v0 v1 v2 v3 : Value) (a0 : Int32) (a1 : Int32) (h : mr_h) (Q : Option Value → mr_h → Prop), mr_wp 15 41 [v0, v1, v2, v3] [.int a1, .int a0] h Q = mr_run 17 [.int a0, .int a1] h (fun v h' => mr_wp 15 44 [v0, v1, v2, v3] (v.toList ++ []) h' Q)) ∧
    (∀ (v0 v1 v2 v3 : Value) (x : Int32) (st : List Value) (h : mr_h) (Q : Option Value → mr_h → Prop), mr_wp 15 44 [v0, v1, v2, v3] (.int x :: st) h Q = if x = 0 then mr_wp 15 56 [v0, v1, v2, v3] st h Q else mr_wp 15 47 [v0, v1, v2, v3] st h Q) ∧
    (∀ (v1 v2 v3 : Value) (x : Nat) (st : List Value) (h : mr_h) (Q : Option Value → mr_h → Prop), mr_wp 15 47 [.ref x, v1, v2, v3] st h Q = mr_wp 15 48 [.ref x, v1, v2, v3] (.ref x :: st) h Q) ∧
    (∀ (v0 v1 v2 : Value) (x : Int32) (st : List Value) (h : mr_h) (Q : Option Value → mr_h → Prop), mr_wp 15 48 [v0, v1, v2, .int x] st h Q = mr_wp 15 49 [v0, v1, v2, .int x] (.int x :: st) h Q) ∧
    (∀ (v0 v1 v2 v3 : Value) (x : Int32) (y : Nat) (st : List Value) (h : mr_h) (Q : Option Value → mr_h → Prop), mr_wp 15 49 [v0, v1, v2, v3] (.int x :: .ref y :: st) h Q = mr_wp 15 50 [v0, v1, v2, v3] (.int x :: .ref y :: .int x :: .ref y :: st) h Q) ∧
    (∀ (v0 v1 v2 v3 : Value) (a : Nat) (x : Int32) (st : List Value) (h : mr_h) (Q : Option Value → mr_h → Prop), mr_wp 15 50 [v0, v1, v2, v3] (.int x :: .ref a :: st) h Q = mr_ai (h.1 a) x (fun v => mr_wp 15 51 [v0, v1, v2, v3] (.int v :: st) h Q)) ∧
    (∀ (v1 v2 v3 : Value) (x : Nat) (st : List Value) (h : mr_h) (Q : Option Value → mr_h → Prop), mr_wp 15 51 [.ref x, v1, v2, v3] st h Q = mr_wp 15 52 [.ref x, v1, v2, v3] (.ref x :: st) h Q) ∧
    (∀ (v0 v1 v3 : Value) (x : Int32) (st : List Value) (h : mr_h) (Q : Option Value → mr_h → Prop), mr_wp 15 52 [v0, v1, .int x, v3] st h Q = mr_wp 15 53 [v0, v1, .int x, v3] (.int x :: st) h Q) ∧
    (∀ (v0 v1 v2 v3 : Value) (a : Nat) (x : Int32) (st : List Value) (h : mr_h) (Q : Option Value → mr_h → Prop), mr_wp 15 53 [v0, v1, v2, v3] (.int x :: .ref a :: st) h Q = mr_ai (h.1 a) x (fun v => mr_wp 15 54 [v0, v1, v2, v3] (.int v :: st) h Q)) ∧
    (∀ (v0 v1 v2 v3 : Value) (x : Int32) (y : Int32) (st : List Value) (h : mr_h) (Q : Option Value → mr_h → Prop), mr_wp 15 54 [v0, v1, v2, v3] (.int y :: .int x :: st) h Q = mr_wp 15 55 [v0, v1, v2, v3] (.int (x ||| y) :: st) h Q) ∧
    (∀ (v0 v1 v2 v3 : Value) (a : Nat) (x : Int32) (y : Int32) (st : List Value) (h : mr_h) (Q : Option Value → mr_h → Prop), mr_wp 15 55 [v0, v1, v2, v3] (.int y :: .int x :: .ref a :: st) h Q = mr_si (h.1 a) x y (fun c => mr_wp 15 56 [v0, v1, v2, v3] st (mr_up h a c) Q)) ∧
    (∀ (v0 v1 : Value) (x : Int32) (w2 : Int32) (st : List Value) (h : mr_h) (Q : Option Value → mr_h → Prop), mr_wp 15 56 [v0, v1, .int w2, .int x] st h Q = mr_wp 15 59 [v0, v1, .int w2, .int (x + (1))] st h Q) ∧
    (∀ (v0 v1 v2 v3 : Value) (st : List Value) (h : mr_h) (Q : Option Value → mr_h → Prop), mr_wp 15 59 [v0, v1, v2, v3] st h Q = mr_wp 15 32 [v0, v1, v2, v3] st h Q) ∧
    (∀ (v0 v3 : Value) (x : Int32) (w1 : Int32) (st : List Value) (h : mr_h) (Q : Option Value → mr_h → Prop), mr_wp 15 62 [v0, .int w1, .int x, v3] st h Q = mr_wp 15 65 [v0, .int w1, .int (x + (1)), v3] st h Q) :=
  ⟨fun v0 v1 v2 v3 st h Q => gx_one (i := .iconst 0) (len := 1) (by decide +kernel) rfl,
   fun v0 v2 v3 w1 x st h Q => gx_one (i := .istore_n 2) (len := 1) (by decide +kernel) rfl,
   fun v0 v2 v3 x st h Q => gx_one (i := .iload_n 1) (len := 1) (by decide +kernel) rfl,
   fun v0 v1 v2 v3 x y st h Q => gx_br (i := .if_icmp .ge 19) (len := 3) (c := .ge) (by decide +kernel) rfl rfl,
   fun v1 v2 v3 x st h Q => gx_one (i := .aload_n 0) (len := 1) (by decide +kernel) rfl,
   fun v0 v1 v3 x st h Q => gx_one (i := .iload_n 2) (len := 1) (by decide +kernel) rfl,
   fun v0 v1 v2 v3 x y st h Q => gx_one (i := .dup2) (len := 1) (by decide +kernel) rfl,
   fun v0 v1 v2 v3 a x st h Q => gx_iald (by decide +kernel),
   fun v0 v1 v3 x st h Q => gx_one (i := .iload_n 2) (len := 1) (by decide +kernel) rfl,
   fun v0 v1 v2 v3 a0 r0 r1 r2 h Q => gx_stat (x := 259) (t := 16) (n := 1) (by decide +kernel) (by decide +kernel) (by decide) (by decide +kernel) rfl (Or.inl (Nat.le_of_ble_eq_true rfl)) (by show _ ≤ mr_mxl 16; rw [show mr_mxl 16 = 1 from by decide +kernel]; exact Nat.le_of_ble_eq_true rfl),
   fun v0 v1 v2 v3 x y st h Q => gx_one (i := .ior) (len := 1) (by decide +kernel) rfl,
   fun v0 v1 v2 v3 a x y st h Q => gx_iast (by decide +kernel),
   fun v0 v3 x w1 st h Q => gx_one (i := .iinc 2 1) (len := 3) (by decide +kernel) rfl,
   fun v0 v1 v2 v3 st h Q => gx_one (i := .goto (-18)) (len := 3) (by decide +kernel) rfl,
   fun v0 v1 v2 v3 st h Q => gx_one (i := .iconst 0) (len := 1) (by decide +kernel) rfl,
   fun v0 v2 v3 w1 x st h Q => gx_one (i := .istore_n 2) (len := 1) (by decide +kernel) rfl,
   fun v0 v2 v3 x st h Q => gx_one (i := .iload_n 1) (len := 1) (by decide +kernel) rfl,
   fun v0 v1 v2 v3 x y st h Q => gx_br (i := .if_icmp .ge 41) (len := 3) (c := .ge) (by decide +kernel) rfl rfl,
   fun v0 v1 v2 v3 st h Q => gx_one (i := .iconst 0) (len := 1) (by decide +kernel) rfl,
   fun v0 v1 v3 w2 x st h Q => gx_one (i := .istore_n 3) (len := 1) (by decide +kernel) rfl,
   fun v0 v2 v3 x st h Q => gx_one (i := .iload_n 1) (len := 1) (by decide +kernel) rfl,
   fun v0 v1 v2 v3 x y st h Q => gx_br (i := .if_icmp .ge 28) (len := 3) (c := .ge) (by decide +kernel) rfl rfl,
   fun v1 v2 v3 x st h Q => gx_one (i := .aload_n 0) (len := 1) (by decide +kernel) rfl,
   fun v0 v1 v2 x st h Q => gx_one (i := .iload_n 3) (len := 1) (by decide +kernel) rfl,
   fun v0 v1 v2 v3 a x st h Q => gx_iald (by decide +kernel),
   fun v0 v1 v3 x st h Q => gx_one (i := .iload_n 2) (len := 1) (by decide +kernel) rfl,
   fun v0 v1 v2 v3 a0 a1 h Q => gx_stat (x := 256) (t := 17) (n := 2) (by decide +kernel) (by decide +kernel) (by decide) (by decide +kernel) rfl (Or.inl (Nat.le_of_ble_eq_true rfl)) (by show _ ≤ mr_mxl 17; rw [show mr_mxl 17 = 2 from by decide +kernel]; exact Nat.le_of_ble_eq_true rfl),
   fun v0 v1 v2 v3 x st h Q => gx_br (i := .ifCond .eq 12) (len := 3) (c := .eq) (by decide +kernel) rfl rfl,
   fun v1 v2 v3 x st h Q => gx_one (i := .aload_n 0) (len := 1) (by decide +kernel) rfl,
   fun v0 v1 v2 x st h Q => gx_one (i := .iload_n 3) (len := 1) (by decide +kernel) rfl,
   fun v0 v1 v2 v3 x y st h Q => gx_one (i := .dup2) (len := 1) (by decide +kernel) rfl,
   fun v0 v1 v2 v3 a x st h Q => gx_iald (by decide +kernel),
   fun v1 v2 v3 x st h Q => gx_one (i := .aload_n 0) (len := 1) (by decide +kernel) rfl,
   fun v0 v1 v3 x st h Q => gx_one (i := .iload_n 2) (len := 1) (by decide +kernel) rfl,
   fun v0 v1 v2 v3 a x st h Q => gx_iald (by decide +kernel),
   fun v0 v1 v2 v3 x y st h Q => gx_one (i := .ior) (len := 1) (by decide +kernel) rfl,
   fun v0 v1 v2 v3 a x y st h Q => gx_iast (by decide +kernel),
   fun v0 v1 x w2 st h Q => gx_one (i := .iinc 3 1) (len := 3) (by decide +kernel) rfl,
   fun v0 v1 v2 v3 st h Q => gx_one (i := .goto (-27)) (len := 3) (by decide +kernel) rfl,
   fun v0 v3 x w1 st h Q => gx_one (i := .iinc 2 1) (len := 3) (by decide +kernel) rfl⟩
theorem S_rl_close_1 : (∀ (v0 v1 v2 v3 : Value) (st : List Value) (h : mr_h) (Q : Option Value → mr_h → Prop), mr_wp 15 65 [v0, v1, v2, v3] st h Q = mr_wp 15 25 [v0, v1, v2, v3] st h Q) ∧
    (∀ (v0 v1 v2 v3 : Value) (h : mr_h) (Q : Option Value → mr_h → Prop), mr_wp 15 68 [v0, v1, v2, v3] [] h Q = Q none h) :=
  ⟨fun v0 v1 v2 v3 st h Q => gx_one (i := .goto (-40)) (len := 3) (by decide +kernel) rfl,
   fun v0 v1 v2 v3 h Q => gx_ret (i := .return_) (len := 1) (by decide +kernel) rfl rfl (by simp only [mr_rt, if_pos]; rw [if_pos (by decide +kernel)])⟩

theorem S_rl_bit : (∀ (v0 : Value) (st : List Value) (h : mr_h) (Q : Option Value → mr_h → Prop), mr_wp 16 0 [v0] st h Q = mr_wp 16 1 [v0] (.int (1) :: st) h Q) ∧
    (∀ (x : Int32) (st : List Value) (h : mr_h) (Q : Option Value → mr_h → Prop), mr_wp 16 1 [.int x] st h Q = mr_wp 16 2 [.int x] (.int x :: st) h Q) ∧
    (∀ (v0 : Value) (x : Int32) (y : Int32) (st : List Value) (h : mr_h) (Q : Option Value → mr_h → Prop), mr_wp 16 2 [v0] (.int y :: .int x :: st) h Q = mr_wp 16 3 [v0] (.int (x <<< (y &&& 31)) :: st) h Q) ∧
    (∀ (v0 : Value) (x : Int32) (h : mr_h) (Q : Option Value → mr_h → Prop), mr_wp 16 3 [v0] [.int x] h Q = Q (some (.int x)) h) :=
  ⟨fun v0 st h Q => gx_one (i := .iconst 1) (len := 1) (by decide +kernel) rfl,
   fun x st h Q => gx_one (i := .iload_n 0) (len := 1) (by decide +kernel) rfl,
   fun v0 x y st h Q => gx_one (i := .ishl) (len := 1) (by decide +kernel) rfl,
   fun v0 x h Q => gx_ret (i := .ireturn) (len := 1) (by decide +kernel) rfl rfl (by simp only [mr_rt, if_pos]; rw [if_pos (Or.inl (by decide +kernel))])⟩
theorem S_rl_holds : (∀ (v1 : Value) (x : Int32) (st : List Value) (h : mr_h) (Q : Option Value → mr_h → Prop), mr_wp 17 0 [.int x, v1] st h Q = mr_wp 17 1 [.int x, v1] (.int x :: st) h Q) ∧
    (∀ (v0 : Value) (x : Int32) (st : List Value) (h : mr_h) (Q : Option Value → mr_h → Prop), mr_wp 17 1 [v0, .int x] st h Q = mr_wp 17 2 [v0, .int x] (.int x :: st) h Q) ∧
    (∀ (v0 v1 : Value) (x : Int32) (y : Int32) (st : List Value) (h : mr_h) (Q : Option Value → mr_h → Prop), mr_wp 17 2 [v0, v1] (.int y :: .int x :: st) h Q = mr_wp 17 3 [v0, v1] (.int (x >>> (y &&& 31)) :: st) h Q) ∧
    (∀ (v0 v1 : Value) (st : List Value) (h : mr_h) (Q : Option Value → mr_h → Prop), mr_wp 17 3 [v0, v1] st h Q = mr_wp 17 4 [v0, v1] (.int (1) :: st) h Q) ∧
    (∀ (v0 v1 : Value) (x : Int32) (y : Int32) (st : List Value) (h : mr_h) (Q : Option Value → mr_h → Prop), mr_wp 17 4 [v0, v1] (.int y :: .int x :: st) h Q = mr_wp 17 5 [v0, v1] (.int (x &&& y) :: st) h Q) ∧
    (∀ (v0 v1 : Value) (x : Int32) (st : List Value) (h : mr_h) (Q : Option Value → mr_h → Prop), mr_wp 17 5 [v0, v1] (.int x :: st) h Q = if x = 0 then mr_wp 17 12 [v0, v1] st h Q else mr_wp 17 8 [v0, v1] st h Q) ∧
    (∀ (v0 v1 : Value) (st : List Value) (h : mr_h) (Q : Option Value → mr_h → Prop), mr_wp 17 8 [v0, v1] st h Q = mr_wp 17 9 [v0, v1] (.int (1) :: st) h Q) ∧
    (∀ (v0 v1 : Value) (st : List Value) (h : mr_h) (Q : Option Value → mr_h → Prop), mr_wp 17 9 [v0, v1] st h Q = mr_wp 17 13 [v0, v1] st h Q) ∧
    (∀ (v0 v1 : Value) (st : List Value) (h : mr_h) (Q : Option Value → mr_h → Prop), mr_wp 17 12 [v0, v1] st h Q = mr_wp 17 13 [v0, v1] (.int (0) :: st) h Q) ∧
    (∀ (v0 v1 : Value) (x : Int32) (h : mr_h) (Q : Option Value → mr_h → Prop) (hv : x &&& 1 = x), mr_wp 17 13 [v0, v1] [.int x] h Q = Q (some (.int x)) h) :=
  ⟨fun v1 x st h Q => gx_one (i := .iload_n 0) (len := 1) (by decide +kernel) rfl,
   fun v0 x st h Q => gx_one (i := .iload_n 1) (len := 1) (by decide +kernel) rfl,
   fun v0 v1 x y st h Q => gx_one (i := .ishr) (len := 1) (by decide +kernel) rfl,
   fun v0 v1 st h Q => gx_one (i := .iconst 1) (len := 1) (by decide +kernel) rfl,
   fun v0 v1 x y st h Q => gx_one (i := .iand) (len := 1) (by decide +kernel) rfl,
   fun v0 v1 x st h Q => gx_br (i := .ifCond .eq 7) (len := 3) (c := .eq) (by decide +kernel) rfl rfl,
   fun v0 v1 st h Q => gx_one (i := .iconst 1) (len := 1) (by decide +kernel) rfl,
   fun v0 v1 st h Q => gx_one (i := .goto 4) (len := 3) (by decide +kernel) rfl,
   fun v0 v1 st h Q => gx_one (i := .iconst 0) (len := 1) (by decide +kernel) rfl,
   fun v0 v1 x h Q hv => gx_ret (i := .ireturn) (len := 1) (by decide +kernel) rfl rfl (by simp only [mr_rt, if_pos]; rw [if_pos (Or.inr ⟨by decide +kernel, hv⟩)])⟩
theorem s_re_turnAround_2 (v0 v2 : Value) (x : Int32) (st : List Value) (h : mr_h) (Q : Option Value → mr_h → Prop) : mr_wp 18 2 [v0, .int x, v2] st h Q = mr_wp 18 3 [v0, .int x, v2] (.int x :: st) h Q := gx_one (i := .iload_n 1) (len := 1) (by decide +kernel) rfl
theorem s_re_turnAround_19 (v0 v1 : Value) (x : Int32) (st : List Value) (h : mr_h) (Q : Option Value → mr_h → Prop) : mr_wp 18 19 [v0, v1, .int x] st h Q = mr_wp 18 20 [v0, v1, .int x] (.int x :: st) h Q := gx_one (i := .iload_n 2) (len := 1) (by decide +kernel) rfl
theorem S_re_turnAround : (∀ (v0 v1 v2 : Value) (st : List Value) (h : mr_h) (Q : Option Value → mr_h → Prop), mr_wp 18 0 [v0, v1, v2] st h Q = mr_wp 18 1 [v0, v1, v2] (.int (0) :: st) h Q) ∧
    (∀ (v1 v2 : Value) (w0 : Nat) (x : Int32) (st : List Value) (h : mr_h) (Q : Option Value → mr_h → Prop), mr_wp 18 1 [.ref w0, v1, v2] (.int x :: st) h Q = mr_wp 18 2 [.ref w0, .int x, v2] st h Q) ∧
    (∀ (v1 v2 : Value) (x : Nat) (st : List Value) (h : mr_h) (Q : Option Value → mr_h → Prop), mr_wp 18 3 [.ref x, v1, v2] st h Q = mr_wp 18 4 [.ref x, v1, v2] (.ref x :: st) h Q) ∧
    (∀ (v0 v1 v2 : Value) (a : Nat) (st : List Value) (h : mr_h) (Q : Option Value → mr_h → Prop), mr_wp 18 4 [v0, v1, v2] (.ref a :: st) h Q = mr_gf (h.1 a) 6 8 (fun v => mr_wp 18 7 [v0, v1, v2] (v :: st) h Q)) ∧
    (∀ (v0 v1 v2 : Value) (x : Int32) (y : Int32) (st : List Value) (h : mr_h) (Q : Option Value → mr_h → Prop), mr_wp 18 7 [v0, v1, v2] (.int y :: .int x :: st) h Q = if y ≤ x then mr_wp 18 65 [v0, v1, v2] st h Q else mr_wp 18 10 [v0, v1, v2] st h Q) ∧
    (∀ (v1 v2 : Value) (x : Nat) (st : List Value) (h : mr_h) (Q : Option Value → mr_h → Prop), mr_wp 18 10 [.ref x, v1, v2] st h Q = mr_wp 18 11 [.ref x, v1, v2] (.ref x :: st) h Q) ∧
    (∀ (v0 v1 v2 : Value) (a : Nat) (st : List Value) (h : mr_h) (Q : Option Value → mr_h → Prop), mr_wp 18 11 [v0, v1, v2] (.ref a :: st) h Q = mr_gf (h.1 a) 6 1 (fun v => mr_wp 18 14 [v0, v1, v2] (v :: st) h Q)) ∧
    (∀ (v0 v2 : Value) (x : Int32) (st : List Value) (h : mr_h) (Q : Option Value → mr_h → Prop), mr_wp 18 14 [v0, .int x, v2] st h Q = mr_wp 18 15 [v0, .int x, v2] (.int x :: st) h Q) ∧
    (∀ (v0 v1 v2 : Value) (st : List Value) (h : mr_h) (Q : Option Value → mr_h → Prop), mr_wp 18 15 [v0, v1, v2] st h Q = mr_wp 18 16 [v0, v1, v2] (.int (0) :: st) h Q) ∧
    (∀ (v0 v1 v2 : Value) (a : Nat) (x : Int32) (y : Int32) (st : List Value) (h : mr_h) (Q : Option Value → mr_h → Prop), mr_wp 18 16 [v0, v1, v2] (.int y :: .int x :: .ref a :: st) h Q = mr_si (h.1 a) x y (fun c => mr_wp 18 17 [v0, v1, v2] st (mr_up h a c) Q)) ∧
    (∀ (v0 v1 v2 : Value) (st : List Value) (h : mr_h) (Q : Option Value → mr_h → Prop), mr_wp 18 17 [v0, v1, v2] st h Q = mr_wp 18 18 [v0, v1, v2] (.int (0) :: st) h Q) ∧
    (∀ (v0 v2 : Value) (w1 : Int32) (x : Int32) (st : List Value) (h : mr_h) (Q : Option Value → mr_h → Prop), mr_wp 18 18 [v0, .int w1, v2] (.int x :: st) h Q = mr_wp 18 19 [v0, .int w1, .int x] st h Q) ∧
    (∀ (v1 v2 : Value) (x : Nat) (st : List Value) (h : mr_h) (Q : Option Value → mr_h → Prop), mr_wp 18 20 [.ref x, v1, v2] st h Q = mr_wp 18 21 [.ref x, v1, v2] (.ref x :: st) h Q) ∧
    (∀ (v0 v1 v2 : Value) (a : Nat) (st : List Value) (h : mr_h) (Q : Option Value → mr_h → Prop), mr_wp 18 21 [v0, v1, v2] (.ref a :: st) h Q = mr_gf (h.1 a) 6 8 (fun v => mr_wp 18 24 [v0, v1, v2] (v :: st) h Q)) ∧
    (∀ (v0 v1 v2 : Value) (x : Int32) (y : Int32) (st : List Value) (h : mr_h) (Q : Option Value → mr_h → Prop), mr_wp 18 24 [v0, v1, v2] (.int y :: .int x :: st) h Q = if y ≤ x then mr_wp 18 59 [v0, v1, v2] st h Q else mr_wp 18 27 [v0, v1, v2] st h Q) ∧
    (∀ (v1 v2 : Value) (x : Nat) (st : List Value) (h : mr_h) (Q : Option Value → mr_h → Prop), mr_wp 18 27 [.ref x, v1, v2] st h Q = mr_wp 18 28 [.ref x, v1, v2] (.ref x :: st) h Q) ∧
    (∀ (v0 v1 v2 : Value) (a : Nat) (st : List Value) (h : mr_h) (Q : Option Value → mr_h → Prop), mr_wp 18 28 [v0, v1, v2] (.ref a :: st) h Q = mr_gf (h.1 a) 6 0 (fun v => mr_wp 18 31 [v0, v1, v2] (v :: st) h Q)) ∧
    (∀ (v0 v1 : Value) (x : Int32) (st : List Value) (h : mr_h) (Q : Option Value → mr_h → Prop), mr_wp 18 31 [v0, v1, .int x] st h Q = mr_wp 18 32 [v0, v1, .int x] (.int x :: st) h Q) ∧
    (∀ (v0 v1 v2 : Value) (a : Nat) (x : Int32) (st : List Value) (h : mr_h) (Q : Option Value → mr_h → Prop), mr_wp 18 32 [v0, v1, v2] (.int x :: .ref a :: st) h Q = mr_ai (h.1 a) x (fun v => mr_wp 18 33 [v0, v1, v2] (.int v :: st) h Q)) ∧
    (∀ (v0 v2 : Value) (x : Int32) (st : List Value) (h : mr_h) (Q : Option Value → mr_h → Prop), mr_wp 18 33 [v0, .int x, v2] st h Q = mr_wp 18 34 [v0, .int x, v2] (.int x :: st) h Q) ∧
    (∀ (v0 v1 v2 : Value) (a0 : Int32) (a1 : Int32) (h : mr_h) (Q : Option Value → mr_h → Prop), mr_wp 18 34 [v0, v1, v2] [.int a1, .int a0] h Q = mr_run 17 [.int a0, .int a1] h (fun v h' => mr_wp 18 37 [v0, v1, v2] (v.toList ++ []) h' Q)) ∧
    (∀ (v0 v1 v2 : Value) (x : Int32) (st : List Value) (h : mr_h) (Q : Option Value → mr_h → Prop), mr_wp 18 37 [v0, v1, v2] (.int x :: st) h Q = if x = 0 then mr_wp 18 53 [v0, v1, v2] st h Q else mr_wp 18 40 [v0, v1, v2] st h Q) ∧
    (∀ (v1 v2 : Value) (x : Nat) (st : List Value) (h : mr_h) (Q : Option Value → mr_h → Prop), mr_wp 18 40 [.ref x, v1, v2] st h Q = mr_wp 18 41 [.ref x, v1, v2] (.ref x :: st) h Q) ∧
    (∀ (v0 v1 v2 : Value) (a : Nat) (st : List Value) (h : mr_h) (Q : Option Value → mr_h → Prop), mr_wp 18 41 [v0, v1, v2] (.ref a :: st) h Q = mr_gf (h.1 a) 6 1 (fun v => mr_wp 18 44 [v0, v1, v2] (v :: st) h Q)) ∧
    (∀ (v0 v2 : Value) (x : Int32) (st : List Value) (h : mr_h) (Q : Option Value → mr_h → Prop), mr_wp 18 44 [v0, .int x, v2] st h Q = mr_wp 18 45 [v0, .int x, v2] (.int x :: st) h Q) ∧
    (∀ (v0 v1 v2 : Value) (x : Int32) (y : Nat) (st : List Value) (h : mr_h) (Q : Option Value → mr_h → Prop), mr_wp 18 45 [v0, v1, v2] (.int x :: .ref y :: st) h Q = mr_wp 18 46 [v0, v1, v2] (.int x :: .ref y :: .int x :: .ref y :: st) h Q) ∧
    (∀ (v0 v1 v2 : Value) (a : Nat) (x : Int32) (st : List Value) (h : mr_h) (Q : Option Value → mr_h → Prop), mr_wp 18 46 [v0, v1, v2] (.int x :: .ref a :: st) h Q = mr_ai (h.1 a) x (fun v => mr_wp 18 47 [v0, v1, v2] (.int v :: st) h Q)) ∧
    (∀ (v0 v1 : Value) (x : Int32) (st : List Value) (h : mr_h) (Q : Option Value → mr_h → Prop), mr_wp 18 47 [v0, v1, .int x] st h Q = mr_wp 18 48 [v0, v1, .int x] (.int x :: st) h Q) ∧
    (∀ (v0 v1 v2 : Value) (a0 : Int32) (r0 : Value) (r1 : Value) (r2 : Value) (h : mr_h) (Q : Option Value → mr_h → Prop), mr_wp 18 48 [v0, v1, v2] [.int a0, r0, r1, r2] h Q = mr_run 16 [.int a0] h (fun v h' => mr_wp 18 51 [v0, v1, v2] (v.toList ++ [r0, r1, r2]) h' Q)) ∧
    (∀ (v0 v1 v2 : Value) (x : Int32) (y : Int32) (st : List Value) (h : mr_h) (Q : Option Value → mr_h → Prop), mr_wp 18 51 [v0, v1, v2] (.int y :: .int x :: st) h Q = mr_wp 18 52 [v0, v1, v2] (.int (x ||| y) :: st) h Q) ∧
    (∀ (v0 v1 v2 : Value) (a : Nat) (x : Int32) (y : Int32) (st : List Value) (h : mr_h) (Q : Option Value → mr_h → Prop), mr_wp 18 52 [v0, v1, v2] (.int y :: .int x :: .ref a :: st) h Q = mr_si (h.1 a) x y (fun c => mr_wp 18 53 [v0, v1, v2] st (mr_up h a c) Q)) ∧
    (∀ (v0 : Value) (x : Int32) (w1 : Int32) (st : List Value) (h : mr_h) (Q : Option Value → mr_h → Prop), mr_wp 18 53 [v0, .int w1, .int x] st h Q = mr_wp 18 56 [v0, .int w1, .int (x + (1))] st h Q) ∧
    (∀ (v0 v1 v2 : Value) (st : List Value) (h : mr_h) (Q : Option Value → mr_h → Prop), mr_wp 18 56 [v0, v1, v2] st h Q = mr_wp 18 19 [v0, v1, v2] st h Q) ∧
    (∀ (v2 : Value) (x : Int32) (w0 : Nat) (st : List Value) (h : mr_h) (Q : Option Value → mr_h → Prop), mr_wp 18 59 [.ref w0, .int x, v2] st h Q = mr_wp 18 62 [.ref w0, .int (x + (1)), v2] st h Q) ∧
    (∀ (v0 v1 v2 : Value) (st : List Value) (h : mr_h) (Q : Option Value → mr_h → Prop), mr_wp 18 62 [v0, v1, v2] st h Q = mr_wp 18 2 [v0, v1, v2] st h Q) ∧
    (∀ (v0 v1 v2 : Value) (h : mr_h) (Q : Option Value → mr_h → Prop), mr_wp 18 65 [v0, v1, v2] [] h Q = Q none h) :=
  ⟨fun v0 v1 v2 st h Q => gx_one (i := .iconst 0) (len := 1) (by decide +kernel) rfl,
   fun v1 v2 w0 x st h Q => gx_one (i := .istore_n 1) (len := 1) (by decide +kernel) rfl,
   fun v1 v2 x st h Q => gx_one (i := .aload_n 0) (len := 1) (by decide +kernel) rfl,
   fun v0 v1 v2 a st h Q => gx_get (x := 36) (by decide +kernel) (by decide +kernel),
   fun v0 v1 v2 x y st h Q => gx_br (i := .if_icmp .ge 58) (len := 3) (c := .ge) (by decide +kernel) rfl rfl,
   fun v1 v2 x st h Q => gx_one (i := .aload_n 0) (len := 1) (by decide +kernel) rfl,
   fun v0 v1 v2 a st h Q => gx_get (x := 15) (by decide +kernel) (by decide +kernel),
   fun v0 v2 x st h Q => gx_one (i := .iload_n 1) (len := 1) (by decide +kernel) rfl,
   fun v0 v1 v2 st h Q => gx_one (i := .iconst 0) (len := 1) (by decide +kernel) rfl,
   fun v0 v1 v2 a x y st h Q => gx_iast (by decide +kernel),
   fun v0 v1 v2 st h Q => gx_one (i := .iconst 0) (len := 1) (by decide +kernel) rfl,
   fun v0 v2 w1 x st h Q => gx_one (i := .istore_n 2) (len := 1) (by decide +kernel) rfl,
   fun v1 v2 x st h Q => gx_one (i := .aload_n 0) (len := 1) (by decide +kernel) rfl,
   fun v0 v1 v2 a st h Q => gx_get (x := 36) (by decide +kernel) (by decide +kernel),
   fun v0 v1 v2 x y st h Q => gx_br (i := .if_icmp .ge 35) (len := 3) (c := .ge) (by decide +kernel) rfl rfl,
   fun v1 v2 x st h Q => gx_one (i := .aload_n 0) (len := 1) (by decide +kernel) rfl,
   fun v0 v1 v2 a st h Q => gx_get (x := 9) (by decide +kernel) (by decide +kernel),
   fun v0 v1 x st h Q => gx_one (i := .iload_n 2) (len := 1) (by decide +kernel) rfl,
   fun v0 v1 v2 a x st h Q => gx_iald (by decide +kernel),
   fun v0 v2 x st h Q => gx_one (i := .iload_n 1) (len := 1) (by decide +kernel) rfl,
   fun v0 v1 v2 a0 a1 h Q => gx_stat (x := 75) (t := 17) (n := 2) (by decide +kernel) (by decide +kernel) (by decide) (by decide +kernel) rfl (Or.inl (Nat.le_of_ble_eq_true rfl)) (by show _ ≤ mr_mxl 17; rw [show mr_mxl 17 = 2 from by decide +kernel]; exact Nat.le_of_ble_eq_true rfl),
   fun v0 v1 v2 x st h Q => gx_br (i := .ifCond .eq 16) (len := 3) (c := .eq) (by decide +kernel) rfl rfl,
   fun v1 v2 x st h Q => gx_one (i := .aload_n 0) (len := 1) (by decide +kernel) rfl,
   fun v0 v1 v2 a st h Q => gx_get (x := 15) (by decide +kernel) (by decide +kernel),
   fun v0 v2 x st h Q => gx_one (i := .iload_n 1) (len := 1) (by decide +kernel) rfl,
   fun v0 v1 v2 x y st h Q => gx_one (i := .dup2) (len := 1) (by decide +kernel) rfl,
   fun v0 v1 v2 a x st h Q => gx_iald (by decide +kernel),
   fun v0 v1 x st h Q => gx_one (i := .iload_n 2) (len := 1) (by decide +kernel) rfl,
   fun v0 v1 v2 a0 r0 r1 r2 h Q => gx_stat (x := 105) (t := 16) (n := 1) (by decide +kernel) (by decide +kernel) (by decide) (by decide +kernel) rfl (Or.inl (Nat.le_of_ble_eq_true rfl)) (by show _ ≤ mr_mxl 16; rw [show mr_mxl 16 = 1 from by decide +kernel]; exact Nat.le_of_ble_eq_true rfl),
   fun v0 v1 v2 x y st h Q => gx_one (i := .ior) (len := 1) (by decide +kernel) rfl,
   fun v0 v1 v2 a x y st h Q => gx_iast (by decide +kernel),
   fun v0 x w1 st h Q => gx_one (i := .iinc 2 1) (len := 3) (by decide +kernel) rfl,
   fun v0 v1 v2 st h Q => gx_one (i := .goto (-37)) (len := 3) (by decide +kernel) rfl,
   fun v2 x w0 st h Q => gx_one (i := .iinc 1 1) (len := 3) (by decide +kernel) rfl,
   fun v0 v1 v2 st h Q => gx_one (i := .goto (-60)) (len := 3) (by decide +kernel) rfl,
   fun v0 v1 v2 h Q => gx_ret (i := .return_) (len := 1) (by decide +kernel) rfl rfl (by simp only [mr_rt, if_pos]; rw [if_pos (by decide +kernel)])⟩
theorem s_re_nameRings_7 (v0 : Value) (x : Int32) (st : List Value) (h : mr_h) (Q : Option Value → mr_h → Prop) : mr_wp 19 7 [v0, .int x] st h Q = mr_wp 19 8 [v0, .int x] (.int x :: st) h Q := gx_one (i := .iload_n 1) (len := 1) (by decide +kernel) rfl
theorem S_re_nameRings : (∀ (v1 : Value) (x : Nat) (st : List Value) (h : mr_h) (Q : Option Value → mr_h → Prop), mr_wp 19 0 [.ref x, v1] st h Q = mr_wp 19 1 [.ref x, v1] (.ref x :: st) h Q) ∧
    (∀ (v0 v1 : Value) (st : List Value) (h : mr_h) (Q : Option Value → mr_h → Prop), mr_wp 19 1 [v0, v1] st h Q = mr_wp 19 2 [v0, v1] (.int (0) :: st) h Q) ∧
    (∀ (v0 v1 : Value) (a : Nat) (x : Int32) (st : List Value) (h : mr_h) (Q : Option Value → mr_h → Prop), mr_wp 19 2 [v0, v1] (.int x :: .ref a :: st) h Q = mr_pf (h.1 a) 6 9 (.int x) (fun c => mr_wp 19 5 [v0, v1] st (mr_up h a c) Q)) ∧
    (∀ (v0 v1 : Value) (st : List Value) (h : mr_h) (Q : Option Value → mr_h → Prop), mr_wp 19 5 [v0, v1] st h Q = mr_wp 19 6 [v0, v1] (.int (0) :: st) h Q) ∧
    (∀ (v1 : Value) (w0 : Nat) (x : Int32) (st : List Value) (h : mr_h) (Q : Option Value → mr_h → Prop), mr_wp 19 6 [.ref w0, v1] (.int x :: st) h Q = mr_wp 19 7 [.ref w0, .int x] st h Q) ∧
    (∀ (v1 : Value) (x : Nat) (st : List Value) (h : mr_h) (Q : Option Value → mr_h → Prop), mr_wp 19 8 [.ref x, v1] st h Q = mr_wp 19 9 [.ref x, v1] (.ref x :: st) h Q) ∧
    (∀ (v0 v1 : Value) (a : Nat) (st : List Value) (h : mr_h) (Q : Option Value → mr_h → Prop), mr_wp 19 9 [v0, v1] (.ref a :: st) h Q = mr_gf (h.1 a) 6 8 (fun v => mr_wp 19 12 [v0, v1] (v :: st) h Q)) ∧
    (∀ (v0 v1 : Value) (x : Int32) (y : Int32) (st : List Value) (h : mr_h) (Q : Option Value → mr_h → Prop), mr_wp 19 12 [v0, v1] (.int y :: .int x :: st) h Q = if y ≤ x then mr_wp 19 53 [v0, v1] st h Q else mr_wp 19 15 [v0, v1] st h Q) ∧
    (∀ (v1 : Value) (x : Nat) (st : List Value) (h : mr_h) (Q : Option Value → mr_h → Prop), mr_wp 19 15 [.ref x, v1] st h Q = mr_wp 19 16 [.ref x, v1] (.ref x :: st) h Q) ∧
    (∀ (v0 v1 : Value) (a : Nat) (st : List Value) (h : mr_h) (Q : Option Value → mr_h → Prop), mr_wp 19 16 [v0, v1] (.ref a :: st) h Q = mr_gf (h.1 a) 6 2 (fun v => mr_wp 19 19 [v0, v1] (v :: st) h Q)) ∧
    (∀ (v0 : Value) (x : Int32) (st : List Value) (h : mr_h) (Q : Option Value → mr_h → Prop), mr_wp 19 19 [v0, .int x] st h Q = mr_wp 19 20 [v0, .int x] (.int x :: st) h Q) ∧
    (∀ (v1 : Value) (x : Nat) (st : List Value) (h : mr_h) (Q : Option Value → mr_h → Prop), mr_wp 19 20 [.ref x, v1] st h Q = mr_wp 19 21 [.ref x, v1] (.ref x :: st) h Q) ∧
    (∀ (v0 : Value) (x : Int32) (st : List Value) (h : mr_h) (Q : Option Value → mr_h → Prop), mr_wp 19 21 [v0, .int x] st h Q = mr_wp 19 22 [v0, .int x] (.int x :: st) h Q) ∧
    (∀ (v0 v1 : Value) (a0 : Int32) (o : Nat) (r0 : Value) (r1 : Value) (h : mr_h) (Q : Option Value → mr_h → Prop), mr_wp 19 22 [v0, v1] [.int a0, .ref o, r0, r1] h Q = mr_rc (h.1 o) 6 (mr_run 20 [.ref o, .int a0] h (fun v h' => mr_wp 19 25 [v0, v1] (v.toList ++ [r0, r1]) h' Q))) ∧
    (∀ (v0 v1 : Value) (a0 : Int32) (r0 : Value) (r1 : Value) (h : mr_h) (Q : Option Value → mr_h → Prop), mr_wp 19 25 [v0, v1] [.int a0, r0, r1] h Q = mr_run 21 [.int a0] h (fun v h' => mr_wp 19 28 [v0, v1] (v.toList ++ [r0, r1]) h' Q)) ∧
    (∀ (v0 v1 : Value) (a : Nat) (x : Int32) (y : Int32) (st : List Value) (h : mr_h) (Q : Option Value → mr_h → Prop), mr_wp 19 28 [v0, v1] (.int y :: .int x :: .ref a :: st) h Q = mr_si (h.1 a) x y (fun c => mr_wp 19 29 [v0, v1] st (mr_up h a c) Q)) ∧
    (∀ (v1 : Value) (x : Nat) (st : List Value) (h : mr_h) (Q : Option Value → mr_h → Prop), mr_wp 19 29 [.ref x, v1] st h Q = mr_wp 19 30 [.ref x, v1] (.ref x :: st) h Q) ∧
    (∀ (v0 v1 : Value) (x : Nat) (st : List Value) (h : mr_h) (Q : Option Value → mr_h → Prop), mr_wp 19 30 [v0, v1] (.ref x :: st) h Q = mr_wp 19 31 [v0, v1] (.ref x :: .ref x :: st) h Q) ∧
    (∀ (v0 v1 : Value) (a : Nat) (st : List Value) (h : mr_h) (Q : Option Value → mr_h → Prop), mr_wp 19 31 [v0, v1] (.ref a :: st) h Q = mr_gf (h.1 a) 6 9 (fun v => mr_wp 19 34 [v0, v1] (v :: st) h Q)) ∧
    (∀ (v1 : Value) (x : Nat) (st : List Value) (h : mr_h) (Q : Option Value → mr_h → Prop), mr_wp 19 34 [.ref x, v1] st h Q = mr_wp 19 35 [.ref x, v1] (.ref x :: st) h Q) ∧
    (∀ (v0 v1 : Value) (a : Nat) (st : List Value) (h : mr_h) (Q : Option Value → mr_h → Prop), mr_wp 19 35 [v0, v1] (.ref a :: st) h Q = mr_gf (h.1 a) 6 2 (fun v => mr_wp 19 38 [v0, v1] (v :: st) h Q)) ∧
    (∀ (v0 : Value) (x : Int32) (st : List Value) (h : mr_h) (Q : Option Value → mr_h → Prop), mr_wp 19 38 [v0, .int x] st h Q = mr_wp 19 39 [v0, .int x] (.int x :: st) h Q) ∧
    (∀ (v0 v1 : Value) (a : Nat) (x : Int32) (st : List Value) (h : mr_h) (Q : Option Value → mr_h → Prop), mr_wp 19 39 [v0, v1] (.int x :: .ref a :: st) h Q = mr_ai (h.1 a) x (fun v => mr_wp 19 40 [v0, v1] (.int v :: st) h Q)) ∧
    (∀ (v0 v1 : Value) (a0 : Int32) (r0 : Value) (r1 : Value) (h : mr_h) (Q : Option Value → mr_h → Prop), mr_wp 19 40 [v0, v1] [.int a0, r0, r1] h Q = mr_run 16 [.int a0] h (fun v h' => mr_wp 19 43 [v0, v1] (v.toList ++ [r0, r1]) h' Q)) ∧
    (∀ (v0 v1 : Value) (x : Int32) (y : Int32) (st : List Value) (h : mr_h) (Q : Option Value → mr_h → Prop), mr_wp 19 43 [v0, v1] (.int y :: .int x :: st) h Q = mr_wp 19 44 [v0, v1] (.int (x ||| y) :: st) h Q) ∧
    (∀ (v0 v1 : Value) (a : Nat) (x : Int32) (st : List Value) (h : mr_h) (Q : Option Value → mr_h → Prop), mr_wp 19 44 [v0, v1] (.int x :: .ref a :: st) h Q = mr_pf (h.1 a) 6 9 (.int x) (fun c => mr_wp 19 47 [v0, v1] st (mr_up h a c) Q)) ∧
    (∀ (x : Int32) (w0 : Nat) (st : List Value) (h : mr_h) (Q : Option Value → mr_h → Prop), mr_wp 19 47 [.ref w0, .int x] st h Q = mr_wp 19 50 [.ref w0, .int (x + (1))] st h Q) ∧
    (∀ (v0 v1 : Value) (st : List Value) (h : mr_h) (Q : Option Value → mr_h → Prop), mr_wp 19 50 [v0, v1] st h Q = mr_wp 19 7 [v0, v1] st h Q) ∧
    (∀ (v0 v1 : Value) (h : mr_h) (Q : Option Value → mr_h → Prop), mr_wp 19 53 [v0, v1] [] h Q = Q none h) :=
  ⟨fun v1 x st h Q => gx_one (i := .aload_n 0) (len := 1) (by decide +kernel) rfl,
   fun v0 v1 st h Q => gx_one (i := .iconst 0) (len := 1) (by decide +kernel) rfl,
   fun v0 v1 a x st h Q => gx_put (x := 40) (by decide +kernel) (by decide +kernel) ⟨rfl, Or.inl rfl⟩,
   fun v0 v1 st h Q => gx_one (i := .iconst 0) (len := 1) (by decide +kernel) rfl,
   fun v1 w0 x st h Q => gx_one (i := .istore_n 1) (len := 1) (by decide +kernel) rfl,
   fun v1 x st h Q => gx_one (i := .aload_n 0) (len := 1) (by decide +kernel) rfl,
   fun v0 v1 a st h Q => gx_get (x := 36) (by decide +kernel) (by decide +kernel),
   fun v0 v1 x y st h Q => gx_br (i := .if_icmp .ge 41) (len := 3) (c := .ge) (by decide +kernel) rfl rfl,
   fun v1 x st h Q => gx_one (i := .aload_n 0) (len := 1) (by decide +kernel) rfl,
   fun v0 v1 a st h Q => gx_get (x := 18) (by decide +kernel) (by decide +kernel),
   fun v0 x st h Q => gx_one (i := .iload_n 1) (len := 1) (by decide +kernel) rfl,
   fun v1 x st h Q => gx_one (i := .aload_n 0) (len := 1) (by decide +kernel) rfl,
   fun v0 x st h Q => gx_one (i := .iload_n 1) (len := 1) (by decide +kernel) rfl,
   fun v0 v1 a0 o r0 r1 h Q => gx_virt (x := 93) (n := 1) (by decide +kernel) (by decide +kernel) rfl (Or.inl (Nat.le_of_ble_eq_true rfl)) (by show _ ≤ mr_mxl 20; rw [show mr_mxl 20 = 2 from by decide +kernel]; exact Nat.le_of_ble_eq_true rfl) (by decide +kernel),
   fun v0 v1 a0 r0 r1 h Q => gx_stat (x := 108) (t := 21) (n := 1) (by decide +kernel) (by decide +kernel) (by decide) (by decide +kernel) rfl (Or.inl (Nat.le_of_ble_eq_true rfl)) (by show _ ≤ mr_mxl 21; rw [show mr_mxl 21 = 2 from by decide +kernel]; exact Nat.le_of_ble_eq_true rfl),
   fun v0 v1 a x y st h Q => gx_iast (by decide +kernel),
   fun v1 x st h Q => gx_one (i := .aload_n 0) (len := 1) (by decide +kernel) rfl,
   fun v0 v1 x st h Q => gx_one (i := .dup) (len := 1) (by decide +kernel) rfl,
   fun v0 v1 a st h Q => gx_get (x := 40) (by decide +kernel) (by decide +kernel),
   fun v1 x st h Q => gx_one (i := .aload_n 0) (len := 1) (by decide +kernel) rfl,
   fun v0 v1 a st h Q => gx_get (x := 18) (by decide +kernel) (by decide +kernel),
   fun v0 x st h Q => gx_one (i := .iload_n 1) (len := 1) (by decide +kernel) rfl,
   fun v0 v1 a x st h Q => gx_iald (by decide +kernel),
   fun v0 v1 a0 r0 r1 h Q => gx_stat (x := 105) (t := 16) (n := 1) (by decide +kernel) (by decide +kernel) (by decide) (by decide +kernel) rfl (Or.inl (Nat.le_of_ble_eq_true rfl)) (by show _ ≤ mr_mxl 16; rw [show mr_mxl 16 = 1 from by decide +kernel]; exact Nat.le_of_ble_eq_true rfl),
   fun v0 v1 x y st h Q => gx_one (i := .ior) (len := 1) (by decide +kernel) rfl,
   fun v0 v1 a x st h Q => gx_put (x := 40) (by decide +kernel) (by decide +kernel) ⟨rfl, Or.inl rfl⟩,
   fun x w0 st h Q => gx_one (i := .iinc 1 1) (len := 3) (by decide +kernel) rfl,
   fun v0 v1 st h Q => gx_one (i := .goto (-43)) (len := 3) (by decide +kernel) rfl,
   fun v0 v1 h Q => gx_ret (i := .return_) (len := 1) (by decide +kernel) rfl rfl (by simp only [mr_rt, if_pos]; rw [if_pos (by decide +kernel)])⟩
theorem S_re_ringOf : (∀ (v1 : Value) (x : Nat) (st : List Value) (h : mr_h) (Q : Option Value → mr_h → Prop), mr_wp 20 0 [.ref x, v1] st h Q = mr_wp 20 1 [.ref x, v1] (.ref x :: st) h Q) ∧
    (∀ (v0 v1 : Value) (a : Nat) (st : List Value) (h : mr_h) (Q : Option Value → mr_h → Prop), mr_wp 20 1 [v0, v1] (.ref a :: st) h Q = mr_gf (h.1 a) 6 0 (fun v => mr_wp 20 4 [v0, v1] (v :: st) h Q)) ∧
    (∀ (v0 : Value) (x : Int32) (st : List Value) (h : mr_h) (Q : Option Value → mr_h → Prop), mr_wp 20 4 [v0, .int x] st h Q = mr_wp 20 5 [v0, .int x] (.int x :: st) h Q) ∧
    (∀ (v0 v1 : Value) (a : Nat) (x : Int32) (st : List Value) (h : mr_h) (Q : Option Value → mr_h → Prop), mr_wp 20 5 [v0, v1] (.int x :: .ref a :: st) h Q = mr_ai (h.1 a) x (fun v => mr_wp 20 6 [v0, v1] (.int v :: st) h Q)) ∧
    (∀ (v1 : Value) (x : Nat) (st : List Value) (h : mr_h) (Q : Option Value → mr_h → Prop), mr_wp 20 6 [.ref x, v1] st h Q = mr_wp 20 7 [.ref x, v1] (.ref x :: st) h Q) ∧
    (∀ (v0 v1 : Value) (a : Nat) (st : List Value) (h : mr_h) (Q : Option Value → mr_h → Prop), mr_wp 20 7 [v0, v1] (.ref a :: st) h Q = mr_gf (h.1 a) 6 1 (fun v => mr_wp 20 10 [v0, v1] (v :: st) h Q)) ∧
    (∀ (v0 : Value) (x : Int32) (st : List Value) (h : mr_h) (Q : Option Value → mr_h → Prop), mr_wp 20 10 [v0, .int x] st h Q = mr_wp 20 11 [v0, .int x] (.int x :: st) h Q) ∧
    (∀ (v0 v1 : Value) (a : Nat) (x : Int32) (st : List Value) (h : mr_h) (Q : Option Value → mr_h → Prop), mr_wp 20 11 [v0, v1] (.int x :: .ref a :: st) h Q = mr_ai (h.1 a) x (fun v => mr_wp 20 12 [v0, v1] (.int v :: st) h Q)) ∧
    (∀ (v0 v1 : Value) (x : Int32) (y : Int32) (st : List Value) (h : mr_h) (Q : Option Value → mr_h → Prop), mr_wp 20 12 [v0, v1] (.int y :: .int x :: st) h Q = mr_wp 20 13 [v0, v1] (.int (x &&& y) :: st) h Q) ∧
    (∀ (v0 v1 : Value) (x : Int32) (h : mr_h) (Q : Option Value → mr_h → Prop), mr_wp 20 13 [v0, v1] [.int x] h Q = Q (some (.int x)) h) :=
  ⟨fun v1 x st h Q => gx_one (i := .aload_n 0) (len := 1) (by decide +kernel) rfl,
   fun v0 v1 a st h Q => gx_get (x := 9) (by decide +kernel) (by decide +kernel),
   fun v0 x st h Q => gx_one (i := .iload_n 1) (len := 1) (by decide +kernel) rfl,
   fun v0 v1 a x st h Q => gx_iald (by decide +kernel),
   fun v1 x st h Q => gx_one (i := .aload_n 0) (len := 1) (by decide +kernel) rfl,
   fun v0 v1 a st h Q => gx_get (x := 15) (by decide +kernel) (by decide +kernel),
   fun v0 x st h Q => gx_one (i := .iload_n 1) (len := 1) (by decide +kernel) rfl,
   fun v0 v1 a x st h Q => gx_iald (by decide +kernel),
   fun v0 v1 x y st h Q => gx_one (i := .iand) (len := 1) (by decide +kernel) rfl,
   fun v0 v1 x h Q => gx_ret (i := .ireturn) (len := 1) (by decide +kernel) rfl rfl (by simp only [mr_rt, if_pos]; rw [if_pos (Or.inl (by decide +kernel))])⟩
theorem s_rl_lowest_2 (v0 : Value) (x : Int32) (st : List Value) (h : mr_h) (Q : Option Value → mr_h → Prop) : mr_wp 21 2 [v0, .int x] st h Q = mr_wp 21 3 [v0, .int x] (.int x :: st) h Q := gx_one (i := .iload_n 1) (len := 1) (by decide +kernel) rfl
theorem S_rl_lowest : (∀ (v0 v1 : Value) (st : List Value) (h : mr_h) (Q : Option Value → mr_h → Prop), mr_wp 21 0 [v0, v1] st h Q = mr_wp 21 1 [v0, v1] (.int (0) :: st) h Q) ∧
    (∀ (v1 : Value) (w0 : Int32) (x : Int32) (st : List Value) (h : mr_h) (Q : Option Value → mr_h → Prop), mr_wp 21 1 [.int w0, v1] (.int x :: st) h Q = mr_wp 21 2 [.int w0, .int x] st h Q) ∧
    (∀ (v0 v1 : Value) (st : List Value) (h : mr_h) (Q : Option Value → mr_h → Prop), mr_wp 21 3 [v0, v1] st h Q = mr_wp 21 5 [v0, v1] (.int (12) :: st) h Q) ∧
    (∀ (v0 v1 : Value) (x : Int32) (y : Int32) (st : List Value) (h : mr_h) (Q : Option Value → mr_h → Prop), mr_wp 21 5 [v0, v1] (.int y :: .int x :: st) h Q = if y ≤ x then mr_wp 21 24 [v0, v1] st h Q else mr_wp 21 8 [v0, v1] st h Q) ∧
    (∀ (v1 : Value) (x : Int32) (st : List Value) (h : mr_h) (Q : Option Value → mr_h → Prop), mr_wp 21 8 [.int x, v1] st h Q = mr_wp 21 9 [.int x, v1] (.int x :: st) h Q) ∧
    (∀ (v0 : Value) (x : Int32) (st : List Value) (h : mr_h) (Q : Option Value → mr_h → Prop), mr_wp 21 9 [v0, .int x] st h Q = mr_wp 21 10 [v0, .int x] (.int x :: st) h Q) ∧
    (∀ (v0 v1 : Value) (a0 : Int32) (a1 : Int32) (h : mr_h) (Q : Option Value → mr_h → Prop), mr_wp 21 10 [v0, v1] [.int a1, .int a0] h Q = mr_run 17 [.int a0, .int a1] h (fun v h' => mr_wp 21 13 [v0, v1] (v.toList ++ []) h' Q)) ∧
    (∀ (v0 v1 : Value) (x : Int32) (st : List Value) (h : mr_h) (Q : Option Value → mr_h → Prop), mr_wp 21 13 [v0, v1] (.int x :: st) h Q = if x = 0 then mr_wp 21 18 [v0, v1] st h Q else mr_wp 21 16 [v0, v1] st h Q) ∧
    (∀ (v0 : Value) (x : Int32) (st : List Value) (h : mr_h) (Q : Option Value → mr_h → Prop), mr_wp 21 16 [v0, .int x] st h Q = mr_wp 21 17 [v0, .int x] (.int x :: st) h Q) ∧
    (∀ (v0 v1 : Value) (x : Int32) (h : mr_h) (Q : Option Value → mr_h → Prop), mr_wp 21 17 [v0, v1] [.int x] h Q = Q (some (.int x)) h) ∧
    (∀ (x : Int32) (w0 : Int32) (st : List Value) (h : mr_h) (Q : Option Value → mr_h → Prop), mr_wp 21 18 [.int w0, .int x] st h Q = mr_wp 21 21 [.int w0, .int (x + (1))] st h Q) ∧
    (∀ (v0 v1 : Value) (st : List Value) (h : mr_h) (Q : Option Value → mr_h → Prop), mr_wp 21 21 [v0, v1] st h Q = mr_wp 21 2 [v0, v1] st h Q) ∧
    (∀ (v0 v1 : Value) (st : List Value) (h : mr_h) (Q : Option Value → mr_h → Prop), mr_wp 21 24 [v0, v1] st h Q = mr_wp 21 25 [v0, v1] (.int (0) :: st) h Q) ∧
    (∀ (v0 v1 : Value) (x : Int32) (h : mr_h) (Q : Option Value → mr_h → Prop), mr_wp 21 25 [v0, v1] [.int x] h Q = Q (some (.int x)) h) :=
  ⟨fun v0 v1 st h Q => gx_one (i := .iconst 0) (len := 1) (by decide +kernel) rfl,
   fun v1 w0 x st h Q => gx_one (i := .istore_n 1) (len := 1) (by decide +kernel) rfl,
   fun v0 v1 st h Q => gx_one (i := .bipush 12) (len := 2) (by decide +kernel) rfl,
   fun v0 v1 x y st h Q => gx_br (i := .if_icmp .ge 19) (len := 3) (c := .ge) (by decide +kernel) rfl rfl,
   fun v1 x st h Q => gx_one (i := .iload_n 0) (len := 1) (by decide +kernel) rfl,
   fun v0 x st h Q => gx_one (i := .iload_n 1) (len := 1) (by decide +kernel) rfl,
   fun v0 v1 a0 a1 h Q => gx_stat (x := 256) (t := 17) (n := 2) (by decide +kernel) (by decide +kernel) (by decide) (by decide +kernel) rfl (Or.inl (Nat.le_of_ble_eq_true rfl)) (by show _ ≤ mr_mxl 17; rw [show mr_mxl 17 = 2 from by decide +kernel]; exact Nat.le_of_ble_eq_true rfl),
   fun v0 v1 x st h Q => gx_br (i := .ifCond .eq 5) (len := 3) (c := .eq) (by decide +kernel) rfl rfl,
   fun v0 x st h Q => gx_one (i := .iload_n 1) (len := 1) (by decide +kernel) rfl,
   fun v0 v1 x h Q => gx_ret (i := .ireturn) (len := 1) (by decide +kernel) rfl rfl (by simp only [mr_rt, if_pos]; rw [if_pos (Or.inl (by decide +kernel))]),
   fun x w0 st h Q => gx_one (i := .iinc 1 1) (len := 3) (by decide +kernel) rfl,
   fun v0 v1 st h Q => gx_one (i := .goto (-19)) (len := 3) (by decide +kernel) rfl,
   fun v0 v1 st h Q => gx_one (i := .iconst 0) (len := 1) (by decide +kernel) rfl,
   fun v0 v1 x h Q => gx_ret (i := .ireturn) (len := 1) (by decide +kernel) rfl rfl (by simp only [mr_rt, if_pos]; rw [if_pos (Or.inl (by decide +kernel))])⟩
theorem s_re_rankRings_2 (v0 v1 v3 : Value) (x : Int32) (st : List Value) (h : mr_h) (Q : Option Value → mr_h → Prop) : mr_wp 22 2 [v0, v1, .int x, v3] st h Q = mr_wp 22 3 [v0, v1, .int x, v3] (.int x :: st) h Q := gx_one (i := .iload_n 2) (len := 1) (by decide +kernel) rfl
theorem s_re_rankRings_21 (v0 v1 v2 : Value) (x : Int32) (st : List Value) (h : mr_h) (Q : Option Value → mr_h → Prop) : mr_wp 22 21 [v0, v1, v2, .int x] st h Q = mr_wp 22 22 [v0, v1, v2, .int x] (.int x :: st) h Q := gx_one (i := .iload_n 3) (len := 1) (by decide +kernel) rfl
theorem s_re_rankRings_74 (v0 v1 v2 : Value) (x : Int32) (st : List Value) (h : mr_h) (Q : Option Value → mr_h → Prop) : mr_wp 22 74 [v0, v1, v2, .int x] st h Q = mr_wp 22 75 [v0, v1, v2, .int x] (.int x :: st) h Q := gx_one (i := .iload_n 3) (len := 1) (by decide +kernel) rfl
theorem S_re_rankRings_0 : (∀ (v0 v1 v2 v3 : Value) (st : List Value) (h : mr_h) (Q : Option Value → mr_h → Prop), mr_wp 22 0 [v0, v1, v2, v3] st h Q = mr_wp 22 1 [v0, v1, v2, v3] (.int (0) :: st) h Q) ∧
    (∀ (v0 v2 v3 : Value) (w1 : Nat) (x : Int32) (st : List Value) (h : mr_h) (Q : Option Value → mr_h → Prop), mr_wp 22 1 [v0, .ref w1, v2, v3] (.int x :: st) h Q = mr_wp 22 2 [v0, .ref w1, .int x, v3] st h Q) ∧
    (∀ (v1 v2 v3 : Value) (x : Nat) (st : List Value) (h : mr_h) (Q : Option Value → mr_h → Prop), mr_wp 22 3 [.ref x, v1, v2, v3] st h Q = mr_wp 22 4 [.ref x, v1, v2, v3] (.ref x :: st) h Q) ∧
    (∀ (v0 v1 v2 v3 : Value) (a : Nat) (st : List Value) (h : mr_h) (Q : Option Value → mr_h → Prop), mr_wp 22 4 [v0, v1, v2, v3] (.ref a :: st) h Q = mr_gf (h.1 a) 6 8 (fun v => mr_wp 22 7 [v0, v1, v2, v3] (v :: st) h Q)) ∧
    (∀ (v0 v1 v2 v3 : Value) (x : Int32) (y : Int32) (st : List Value) (h : mr_h) (Q : Option Value → mr_h → Prop), mr_wp 22 7 [v0, v1, v2, v3] (.int y :: .int x :: st) h Q = if y ≤ x then mr_wp 22 119 [v0, v1, v2, v3] st h Q else mr_wp 22 10 [v0, v1, v2, v3] st h Q) ∧
    (∀ (v1 v2 v3 : Value) (x : Nat) (st : List Value) (h : mr_h) (Q : Option Value → mr_h → Prop), mr_wp 22 10 [.ref x, v1, v2, v3] st h Q = mr_wp 22 11 [.ref x, v1, v2, v3] (.ref x :: st) h Q) ∧
    (∀ (v0 v1 v2 v3 : Value) (a : Nat) (st : List Value) (h : mr_h) (Q : Option Value → mr_h → Prop), mr_wp 22 11 [v0, v1, v2, v3] (.ref a :: st) h Q = mr_gf (h.1 a) 6 5 (fun v => mr_wp 22 14 [v0, v1, v2, v3] (v :: st) h Q)) ∧
    (∀ (v0 v1 v3 : Value) (x : Int32) (st : List Value) (h : mr_h) (Q : Option Value → mr_h → Prop), mr_wp 22 14 [v0, v1, .int x, v3] st h Q = mr_wp 22 15 [v0, v1, .int x, v3] (.int x :: st) h Q) ∧
    (∀ (v0 v2 v3 : Value) (x : Nat) (st : List Value) (h : mr_h) (Q : Option Value → mr_h → Prop), mr_wp 22 15 [v0, .ref x, v2, v3] st h Q = mr_wp 22 16 [v0, .ref x, v2, v3] (.ref x :: st) h Q) ∧
    (∀ (v0 v1 v3 : Value) (x : Int32) (st : List Value) (h : mr_h) (Q : Option Value → mr_h → Prop), mr_wp 22 16 [v0, v1, .int x, v3] st h Q = mr_wp 22 17 [v0, v1, .int x, v3] (.int x :: st) h Q) ∧
    (∀ (v0 v1 v2 v3 : Value) (a : Nat) (x : Int32) (st : List Value) (h : mr_h) (Q : Option Value → mr_h → Prop), mr_wp 22 17 [v0, v1, v2, v3] (.int x :: .ref a :: st) h Q = mr_ai (h.1 a) x (fun v => mr_wp 22 18 [v0, v1, v2, v3] (.int v :: st) h Q)) ∧
    (∀ (v0 v1 v2 v3 : Value) (a : Nat) (x : Int32) (y : Int32) (st : List Value) (h : mr_h) (Q : Option Value → mr_h → Prop), mr_wp 22 18 [v0, v1, v2, v3] (.int y :: .int x :: .ref a :: st) h Q = mr_si (h.1 a) x y (fun c => mr_wp 22 19 [v0, v1, v2, v3] st (mr_up h a c) Q)) ∧
    (∀ (v0 v1 v2 v3 : Value) (st : List Value) (h : mr_h) (Q : Option Value → mr_h → Prop), mr_wp 22 19 [v0, v1, v2, v3] st h Q = mr_wp 22 20 [v0, v1, v2, v3] (.int (0) :: st) h Q) ∧
    (∀ (v0 v1 v3 : Value) (w2 : Int32) (x : Int32) (st : List Value) (h : mr_h) (Q : Option Value → mr_h → Prop), mr_wp 22 20 [v0, v1, .int w2, v3] (.int x :: st) h Q = mr_wp 22 21 [v0, v1, .int w2, .int x] st h Q) ∧
    (∀ (v1 v2 v3 : Value) (x : Nat) (st : List Value) (h : mr_h) (Q : Option Value → mr_h → Prop), mr_wp 22 22 [.ref x, v1, v2, v3] st h Q = mr_wp 22 23 [.ref x, v1, v2, v3] (.ref x :: st) h Q) ∧
    (∀ (v0 v1 v2 v3 : Value) (a : Nat) (st : List Value) (h : mr_h) (Q : Option Value → mr_h → Prop), mr_wp 22 23 [v0, v1, v2, v3] (.ref a :: st) h Q = mr_gf (h.1 a) 6 8 (fun v => mr_wp 22 26 [v0, v1, v2, v3] (v :: st) h Q)) ∧
    (∀ (v0 v1 v2 v3 : Value) (x : Int32) (y : Int32) (st : List Value) (h : mr_h) (Q : Option Value → mr_h → Prop), mr_wp 22 26 [v0, v1, v2, v3] (.int y :: .int x :: st) h Q = if y ≤ x then mr_wp 22 65 [v0, v1, v2, v3] st h Q else mr_wp 22 29 [v0, v1, v2, v3] st h Q) ∧
    (∀ (v1 v2 v3 : Value) (x : Nat) (st : List Value) (h : mr_h) (Q : Option Value → mr_h → Prop), mr_wp 22 29 [.ref x, v1, v2, v3] st h Q = mr_wp 22 30 [.ref x, v1, v2, v3] (.ref x :: st) h Q) ∧
    (∀ (v0 v1 v3 : Value) (x : Int32) (st : List Value) (h : mr_h) (Q : Option Value → mr_h → Prop), mr_wp 22 30 [v0, v1, .int x, v3] st h Q = mr_wp 22 31 [v0, v1, .int x, v3] (.int x :: st) h Q) ∧
    (∀ (v0 v1 v2 v3 : Value) (a0 : Int32) (o : Nat) (h : mr_h) (Q : Option Value → mr_h → Prop), mr_wp 22 31 [v0, v1, v2, v3] [.int a0, .ref o] h Q = mr_rc (h.1 o) 6 (mr_run 20 [.ref o, .int a0] h (fun v h' => mr_wp 22 34 [v0, v1, v2, v3] (v.toList ++ []) h' Q))) ∧
    (∀ (v0 v1 v2 : Value) (x : Int32) (st : List Value) (h : mr_h) (Q : Option Value → mr_h → Prop), mr_wp 22 34 [v0, v1, v2, .int x] st h Q = mr_wp 22 35 [v0, v1, v2, .int x] (.int x :: st) h Q) ∧
    (∀ (v0 v1 v2 v3 : Value) (a0 : Int32) (a1 : Int32) (h : mr_h) (Q : Option Value → mr_h → Prop), mr_wp 22 35 [v0, v1, v2, v3] [.int a1, .int a0] h Q = mr_run 17 [.int a0, .int a1] h (fun v h' => mr_wp 22 38 [v0, v1, v2, v3] (v.toList ++ []) h' Q)) ∧
    (∀ (v0 v1 v2 v3 : Value) (x : Int32) (st : List Value) (h : mr_h) (Q : Option Value → mr_h → Prop), mr_wp 22 38 [v0, v1, v2, v3] (.int x :: st) h Q = if x = 0 then mr_wp 22 59 [v0, v1, v2, v3] st h Q else mr_wp 22 41 [v0, v1, v2, v3] st h Q) ∧
    (∀ (v1 v2 v3 : Value) (x : Nat) (st : List Value) (h : mr_h) (Q : Option Value → mr_h → Prop), mr_wp 22 41 [.ref x, v1, v2, v3] st h Q = mr_wp 22 42 [.ref x, v1, v2, v3] (.ref x :: st) h Q) ∧
    (∀ (v0 v1 v2 v3 : Value) (a : Nat) (st : List Value) (h : mr_h) (Q : Option Value → mr_h → Prop), mr_wp 22 42 [v0, v1, v2, v3] (.ref a :: st) h Q = mr_gf (h.1 a) 6 5 (fun v => mr_wp 22 45 [v0, v1, v2, v3] (v :: st) h Q)) ∧
    (∀ (v0 v1 v3 : Value) (x : Int32) (st : List Value) (h : mr_h) (Q : Option Value → mr_h → Prop), mr_wp 22 45 [v0, v1, .int x, v3] st h Q = mr_wp 22 46 [v0, v1, .int x, v3] (.int x :: st) h Q) ∧
    (∀ (v1 v2 v3 : Value) (x : Nat) (st : List Value) (h : mr_h) (Q : Option Value → mr_h → Prop), mr_wp 22 46 [.ref x, v1, v2, v3] st h Q = mr_wp 22 47 [.ref x, v1, v2, v3] (.ref x :: st) h Q) ∧
    (∀ (v0 v1 v2 v3 : Value) (a : Nat) (st : List Value) (h : mr_h) (Q : Option Value → mr_h → Prop), mr_wp 22 47 [v0, v1, v2, v3] (.ref a :: st) h Q = mr_gf (h.1 a) 6 5 (fun v => mr_wp 22 50 [v0, v1, v2, v3] (v :: st) h Q)) ∧
    (∀ (v0 v1 v3 : Value) (x : Int32) (st : List Value) (h : mr_h) (Q : Option Value → mr_h → Prop), mr_wp 22 50 [v0, v1, .int x, v3] st h Q = mr_wp 22 51 [v0, v1, .int x, v3] (.int x :: st) h Q) ∧
    (∀ (v0 v1 v2 v3 : Value) (a : Nat) (x : Int32) (st : List Value) (h : mr_h) (Q : Option Value → mr_h → Prop), mr_wp 22 51 [v0, v1, v2, v3] (.int x :: .ref a :: st) h Q = mr_ai (h.1 a) x (fun v => mr_wp 22 52 [v0, v1, v2, v3] (.int v :: st) h Q)) ∧
    (∀ (v0 v2 v3 : Value) (x : Nat) (st : List Value) (h : mr_h) (Q : Option Value → mr_h → Prop), mr_wp 22 52 [v0, .ref x, v2, v3] st h Q = mr_wp 22 53 [v0, .ref x, v2, v3] (.ref x :: st) h Q) ∧
    (∀ (v0 v1 v2 : Value) (x : Int32) (st : List Value) (h : mr_h) (Q : Option Value → mr_h → Prop), mr_wp 22 53 [v0, v1, v2, .int x] st h Q = mr_wp 22 54 [v0, v1, v2, .int x] (.int x :: st) h Q) ∧
    (∀ (v0 v1 v2 v3 : Value) (a : Nat) (x : Int32) (st : List Value) (h : mr_h) (Q : Option Value → mr_h → Prop), mr_wp 22 54 [v0, v1, v2, v3] (.int x :: .ref a :: st) h Q = mr_ai (h.1 a) x (fun v => mr_wp 22 55 [v0, v1, v2, v3] (.int v :: st) h Q)) ∧
    (∀ (v0 v1 v2 v3 : Value) (x : Int32) (y : Int32) (r0 : Value) (r1 : Value) (h : mr_h) (Q : Option Value → mr_h → Prop), mr_wp 22 55 [v0, v1, v2, v3] [.int y, .int x, r0, r1] h Q = mr_wp 22 58 [v0, v1, v2, v3] [.int (if y < x then y else x), r0, r1] h Q) ∧
    (∀ (v0 v1 v2 v3 : Value) (a : Nat) (x : Int32) (y : Int32) (st : List Value) (h : mr_h) (Q : Option Value → mr_h → Prop), mr_wp 22 58 [v0, v1, v2, v3] (.int y :: .int x :: .ref a :: st) h Q = mr_si (h.1 a) x y (fun c => mr_wp 22 59 [v0, v1, v2, v3] st (mr_up h a c) Q)) ∧
    (∀ (v0 v1 : Value) (x : Int32) (w2 : Int32) (st : List Value) (h : mr_h) (Q : Option Value → mr_h → Prop), mr_wp 22 59 [v0, v1, .int w2, .int x] st h Q = mr_wp 22 62 [v0, v1, .int w2, .int (x + (1))] st h Q) ∧
    (∀ (v0 v1 v2 v3 : Value) (st : List Value) (h : mr_h) (Q : Option Value → mr_h → Prop), mr_wp 22 62 [v0, v1, v2, v3] st h Q = mr_wp 22 21 [v0, v1, v2, v3] st h Q) ∧
    (∀ (v1 v2 v3 : Value) (x : Nat) (st : List Value) (h : mr_h) (Q : Option Value → mr_h → Prop), mr_wp 22 65 [.ref x, v1, v2, v3] st h Q = mr_wp 22 66 [.ref x, v1, v2, v3] (.ref x :: st) h Q) ∧
    (∀ (v0 v1 v2 v3 : Value) (a : Nat) (st : List Value) (h : mr_h) (Q : Option Value → mr_h → Prop), mr_wp 22 66 [v0, v1, v2, v3] (.ref a :: st) h Q = mr_gf (h.1 a) 6 6 (fun v => mr_wp 22 69 [v0, v1, v2, v3] (v :: st) h Q)) ∧
    (∀ (v0 v1 v3 : Value) (x : Int32) (st : List Value) (h : mr_h) (Q : Option Value → mr_h → Prop), mr_wp 22 69 [v0, v1, .int x, v3] st h Q = mr_wp 22 70 [v0, v1, .int x, v3] (.int x :: st) h Q) :=
  ⟨fun v0 v1 v2 v3 st h Q => gx_one (i := .iconst 0) (len := 1) (by decide +kernel) rfl,
   fun v0 v2 v3 w1 x st h Q => gx_one (i := .istore_n 2) (len := 1) (by decide +kernel) rfl,
   fun v1 v2 v3 x st h Q => gx_one (i := .aload_n 0) (len := 1) (by decide +kernel) rfl,
   fun v0 v1 v2 v3 a st h Q => gx_get (x := 36) (by decide +kernel) (by decide +kernel),
   fun v0 v1 v2 v3 x y st h Q => gx_br (i := .if_icmp .ge 112) (len := 3) (c := .ge) (by decide +kernel) rfl rfl,
   fun v1 v2 v3 x st h Q => gx_one (i := .aload_n 0) (len := 1) (by decide +kernel) rfl,
   fun v0 v1 v2 v3 a st h Q => gx_get (x := 27) (by decide +kernel) (by decide +kernel),
   fun v0 v1 v3 x st h Q => gx_one (i := .iload_n 2) (len := 1) (by decide +kernel) rfl,
   fun v0 v2 v3 x st h Q => gx_one (i := .aload_n 1) (len := 1) (by decide +kernel) rfl,
   fun v0 v1 v3 x st h Q => gx_one (i := .iload_n 2) (len := 1) (by decide +kernel) rfl,
   fun v0 v1 v2 v3 a x st h Q => gx_iald (by decide +kernel),
   fun v0 v1 v2 v3 a x y st h Q => gx_iast (by decide +kernel),
   fun v0 v1 v2 v3 st h Q => gx_one (i := .iconst 0) (len := 1) (by decide +kernel) rfl,
   fun v0 v1 v3 w2 x st h Q => gx_one (i := .istore_n 3) (len := 1) (by decide +kernel) rfl,
   fun v1 v2 v3 x st h Q => gx_one (i := .aload_n 0) (len := 1) (by decide +kernel) rfl,
   fun v0 v1 v2 v3 a st h Q => gx_get (x := 36) (by decide +kernel) (by decide +kernel),
   fun v0 v1 v2 v3 x y st h Q => gx_br (i := .if_icmp .ge 39) (len := 3) (c := .ge) (by decide +kernel) rfl rfl,
   fun v1 v2 v3 x st h Q => gx_one (i := .aload_n 0) (len := 1) (by decide +kernel) rfl,
   fun v0 v1 v3 x st h Q => gx_one (i := .iload_n 2) (len := 1) (by decide +kernel) rfl,
   fun v0 v1 v2 v3 a0 o h Q => gx_virt (x := 93) (n := 1) (by decide +kernel) (by decide +kernel) rfl (Or.inl (Nat.le_of_ble_eq_true rfl)) (by show _ ≤ mr_mxl 20; rw [show mr_mxl 20 = 2 from by decide +kernel]; exact Nat.le_of_ble_eq_true rfl) (by decide +kernel),
   fun v0 v1 v2 x st h Q => gx_one (i := .iload_n 3) (len := 1) (by decide +kernel) rfl,
   fun v0 v1 v2 v3 a0 a1 h Q => gx_stat (x := 75) (t := 17) (n := 2) (by decide +kernel) (by decide +kernel) (by decide) (by decide +kernel) rfl (Or.inl (Nat.le_of_ble_eq_true rfl)) (by show _ ≤ mr_mxl 17; rw [show mr_mxl 17 = 2 from by decide +kernel]; exact Nat.le_of_ble_eq_true rfl),
   fun v0 v1 v2 v3 x st h Q => gx_br (i := .ifCond .eq 21) (len := 3) (c := .eq) (by decide +kernel) rfl rfl,
   fun v1 v2 v3 x st h Q => gx_one (i := .aload_n 0) (len := 1) (by decide +kernel) rfl,
   fun v0 v1 v2 v3 a st h Q => gx_get (x := 27) (by decide +kernel) (by decide +kernel),
   fun v0 v1 v3 x st h Q => gx_one (i := .iload_n 2) (len := 1) (by decide +kernel) rfl,
   fun v1 v2 v3 x st h Q => gx_one (i := .aload_n 0) (len := 1) (by decide +kernel) rfl,
   fun v0 v1 v2 v3 a st h Q => gx_get (x := 27) (by decide +kernel) (by decide +kernel),
   fun v0 v1 v3 x st h Q => gx_one (i := .iload_n 2) (len := 1) (by decide +kernel) rfl,
   fun v0 v1 v2 v3 a x st h Q => gx_iald (by decide +kernel),
   fun v0 v2 v3 x st h Q => gx_one (i := .aload_n 1) (len := 1) (by decide +kernel) rfl,
   fun v0 v1 v2 x st h Q => gx_one (i := .iload_n 3) (len := 1) (by decide +kernel) rfl,
   fun v0 v1 v2 v3 a x st h Q => gx_iald (by decide +kernel),
   fun v0 v1 v2 v3 x y r0 r1 h Q => gx_min (x := 111) (by decide +kernel) (by decide +kernel) (Nat.le_of_ble_eq_true rfl),
   fun v0 v1 v2 v3 a x y st h Q => gx_iast (by decide +kernel),
   fun v0 v1 x w2 st h Q => gx_one (i := .iinc 3 1) (len := 3) (by decide +kernel) rfl,
   fun v0 v1 v2 v3 st h Q => gx_one (i := .goto (-41)) (len := 3) (by decide +kernel) rfl,
   fun v1 v2 v3 x st h Q => gx_one (i := .aload_n 0) (len := 1) (by decide +kernel) rfl,
   fun v0 v1 v2 v3 a st h Q => gx_get (x := 30) (by decide +kernel) (by decide +kernel),
   fun v0 v1 v3 x st h Q => gx_one (i := .iload_n 2) (len := 1) (by decide +kernel) rfl⟩
theorem S_re_rankRings_1 : (∀ (v0 v1 v2 v3 : Value) (st : List Value) (h : mr_h) (Q : Option Value → mr_h → Prop), mr_wp 22 70 [v0, v1, v2, v3] st h Q = mr_wp 22 71 [v0, v1, v2, v3] (.int (0) :: st) h Q) ∧
    (∀ (v0 v1 v2 v3 : Value) (a : Nat) (x : Int32) (y : Int32) (st : List Value) (h : mr_h) (Q : Option Value → mr_h → Prop), mr_wp 22 71 [v0, v1, v2, v3] (.int y :: .int x :: .ref a :: st) h Q = mr_si (h.1 a) x y (fun c => mr_wp 22 72 [v0, v1, v2, v3] st (mr_up h a c) Q)) ∧
    (∀ (v0 v1 v2 v3 : Value) (st : List Value) (h : mr_h) (Q : Option Value → mr_h → Prop), mr_wp 22 72 [v0, v1, v2, v3] st h Q = mr_wp 22 73 [v0, v1, v2, v3] (.int (0) :: st) h Q) ∧
    (∀ (v0 v1 v3 : Value) (w2 : Int32) (x : Int32) (st : List Value) (h : mr_h) (Q : Option Value → mr_h → Prop), mr_wp 22 73 [v0, v1, .int w2, v3] (.int x :: st) h Q = mr_wp 22 74 [v0, v1, .int w2, .int x] st h Q) ∧
    (∀ (v1 v2 v3 : Value) (x : Nat) (st : List Value) (h : mr_h) (Q : Option Value → mr_h → Prop), mr_wp 22 75 [.ref x, v1, v2, v3] st h Q = mr_wp 22 76 [.ref x, v1, v2, v3] (.ref x :: st) h Q) ∧
    (∀ (v0 v1 v2 v3 : Value) (a : Nat) (st : List Value) (h : mr_h) (Q : Option Value → mr_h → Prop), mr_wp 22 76 [v0, v1, v2, v3] (.ref a :: st) h Q = mr_gf (h.1 a) 6 8 (fun v => mr_wp 22 79 [v0, v1, v2, v3] (v :: st) h Q)) ∧
    (∀ (v0 v1 v2 v3 : Value) (x : Int32) (y : Int32) (st : List Value) (h : mr_h) (Q : Option Value → mr_h → Prop), mr_wp 22 79 [v0, v1, v2, v3] (.int y :: .int x :: st) h Q = if y ≤ x then mr_wp 22 113 [v0, v1, v2, v3] st h Q else mr_wp 22 82 [v0, v1, v2, v3] st h Q) ∧
    (∀ (v0 v2 v3 : Value) (x : Nat) (st : List Value) (h : mr_h) (Q : Option Value → mr_h → Prop), mr_wp 22 82 [v0, .ref x, v2, v3] st h Q = mr_wp 22 83 [v0, .ref x, v2, v3] (.ref x :: st) h Q) ∧
    (∀ (v0 v1 v2 : Value) (x : Int32) (st : List Value) (h : mr_h) (Q : Option Value → mr_h → Prop), mr_wp 22 83 [v0, v1, v2, .int x] st h Q = mr_wp 22 84 [v0, v1, v2, .int x] (.int x :: st) h Q) ∧
    (∀ (v0 v1 v2 v3 : Value) (a : Nat) (x : Int32) (st : List Value) (h : mr_h) (Q : Option Value → mr_h → Prop), mr_wp 22 84 [v0, v1, v2, v3] (.int x :: .ref a :: st) h Q = mr_ai (h.1 a) x (fun v => mr_wp 22 85 [v0, v1, v2, v3] (.int v :: st) h Q)) ∧
    (∀ (v1 v2 v3 : Value) (x : Nat) (st : List Value) (h : mr_h) (Q : Option Value → mr_h → Prop), mr_wp 22 85 [.ref x, v1, v2, v3] st h Q = mr_wp 22 86 [.ref x, v1, v2, v3] (.ref x :: st) h Q) ∧
    (∀ (v0 v1 v2 v3 : Value) (a : Nat) (st : List Value) (h : mr_h) (Q : Option Value → mr_h → Prop), mr_wp 22 86 [v0, v1, v2, v3] (.ref a :: st) h Q = mr_gf (h.1 a) 6 5 (fun v => mr_wp 22 89 [v0, v1, v2, v3] (v :: st) h Q)) ∧
    (∀ (v0 v1 v3 : Value) (x : Int32) (st : List Value) (h : mr_h) (Q : Option Value → mr_h → Prop), mr_wp 22 89 [v0, v1, .int x, v3] st h Q = mr_wp 22 90 [v0, v1, .int x, v3] (.int x :: st) h Q) ∧
    (∀ (v0 v1 v2 v3 : Value) (a : Nat) (x : Int32) (st : List Value) (h : mr_h) (Q : Option Value → mr_h → Prop), mr_wp 22 90 [v0, v1, v2, v3] (.int x :: .ref a :: st) h Q = mr_ai (h.1 a) x (fun v => mr_wp 22 91 [v0, v1, v2, v3] (.int v :: st) h Q)) ∧
    (∀ (v0 v1 v2 v3 : Value) (x : Int32) (y : Int32) (st : List Value) (h : mr_h) (Q : Option Value → mr_h → Prop), mr_wp 22 91 [v0, v1, v2, v3] (.int y :: .int x :: st) h Q = if y ≤ x then mr_wp 22 107 [v0, v1, v2, v3] st h Q else mr_wp 22 94 [v0, v1, v2, v3] st h Q) ∧
    (∀ (v1 v2 v3 : Value) (x : Nat) (st : List Value) (h : mr_h) (Q : Option Value → mr_h → Prop), mr_wp 22 94 [.ref x, v1, v2, v3] st h Q = mr_wp 22 95 [.ref x, v1, v2, v3] (.ref x :: st) h Q) ∧
    (∀ (v0 v1 v2 v3 : Value) (a : Nat) (st : List Value) (h : mr_h) (Q : Option Value → mr_h → Prop), mr_wp 22 95 [v0, v1, v2, v3] (.ref a :: st) h Q = mr_gf (h.1 a) 6 6 (fun v => mr_wp 22 98 [v0, v1, v2, v3] (v :: st) h Q)) ∧
    (∀ (v0 v1 v3 : Value) (x : Int32) (st : List Value) (h : mr_h) (Q : Option Value → mr_h → Prop), mr_wp 22 98 [v0, v1, .int x, v3] st h Q = mr_wp 22 99 [v0, v1, .int x, v3] (.int x :: st) h Q) ∧
    (∀ (v0 v1 v2 v3 : Value) (x : Int32) (y : Nat) (st : List Value) (h : mr_h) (Q : Option Value → mr_h → Prop), mr_wp 22 99 [v0, v1, v2, v3] (.int x :: .ref y :: st) h Q = mr_wp 22 100 [v0, v1, v2, v3] (.int x :: .ref y :: .int x :: .ref y :: st) h Q) ∧
    (∀ (v0 v1 v2 v3 : Value) (a : Nat) (x : Int32) (st : List Value) (h : mr_h) (Q : Option Value → mr_h → Prop), mr_wp 22 100 [v0, v1, v2, v3] (.int x :: .ref a :: st) h Q = mr_ai (h.1 a) x (fun v => mr_wp 22 101 [v0, v1, v2, v3] (.int v :: st) h Q)) ∧
    (∀ (v0 v1 v2 : Value) (x : Int32) (st : List Value) (h : mr_h) (Q : Option Value → mr_h → Prop), mr_wp 22 101 [v0, v1, v2, .int x] st h Q = mr_wp 22 102 [v0, v1, v2, .int x] (.int x :: st) h Q) ∧
    (∀ (v0 v1 v2 v3 : Value) (a0 : Int32) (r0 : Value) (r1 : Value) (r2 : Value) (h : mr_h) (Q : Option Value → mr_h → Prop), mr_wp 22 102 [v0, v1, v2, v3] [.int a0, r0, r1, r2] h Q = mr_run 16 [.int a0] h (fun v h' => mr_wp 22 105 [v0, v1, v2, v3] (v.toList ++ [r0, r1, r2]) h' Q)) ∧
    (∀ (v0 v1 v2 v3 : Value) (x : Int32) (y : Int32) (st : List Value) (h : mr_h) (Q : Option Value → mr_h → Prop), mr_wp 22 105 [v0, v1, v2, v3] (.int y :: .int x :: st) h Q = mr_wp 22 106 [v0, v1, v2, v3] (.int (x ||| y) :: st) h Q) ∧
    (∀ (v0 v1 v2 v3 : Value) (a : Nat) (x : Int32) (y : Int32) (st : List Value) (h : mr_h) (Q : Option Value → mr_h → Prop), mr_wp 22 106 [v0, v1, v2, v3] (.int y :: .int x :: .ref a :: st) h Q = mr_si (h.1 a) x y (fun c => mr_wp 22 107 [v0, v1, v2, v3] st (mr_up h a c) Q)) ∧
    (∀ (v0 v1 : Value) (x : Int32) (w2 : Int32) (st : List Value) (h : mr_h) (Q : Option Value → mr_h → Prop), mr_wp 22 107 [v0, v1, .int w2, .int x] st h Q = mr_wp 22 110 [v0, v1, .int w2, .int (x + (1))] st h Q) ∧
    (∀ (v0 v1 v2 v3 : Value) (st : List Value) (h : mr_h) (Q : Option Value → mr_h → Prop), mr_wp 22 110 [v0, v1, v2, v3] st h Q = mr_wp 22 74 [v0, v1, v2, v3] st h Q) ∧
    (∀ (v0 v3 : Value) (x : Int32) (w1 : Nat) (st : List Value) (h : mr_h) (Q : Option Value → mr_h → Prop), mr_wp 22 113 [v0, .ref w1, .int x, v3] st h Q = mr_wp 22 116 [v0, .ref w1, .int (x + (1)), v3] st h Q) ∧
    (∀ (v0 v1 v2 v3 : Value) (st : List Value) (h : mr_h) (Q : Option Value → mr_h → Prop), mr_wp 22 116 [v0, v1, v2, v3] st h Q = mr_wp 22 2 [v0, v1, v2, v3] st h Q) ∧
    (∀ (v0 v1 v2 v3 : Value) (h : mr_h) (Q : Option Value → mr_h → Prop), mr_wp 22 119 [v0, v1, v2, v3] [] h Q = Q none h) :=
  ⟨fun v0 v1 v2 v3 st h Q => gx_one (i := .iconst 0) (len := 1) (by decide +kernel) rfl,
   fun v0 v1 v2 v3 a x y st h Q => gx_iast (by decide +kernel),
   fun v0 v1 v2 v3 st h Q => gx_one (i := .iconst 0) (len := 1) (by decide +kernel) rfl,
   fun v0 v1 v3 w2 x st h Q => gx_one (i := .istore_n 3) (len := 1) (by decide +kernel) rfl,
   fun v1 v2 v3 x st h Q => gx_one (i := .aload_n 0) (len := 1) (by decide +kernel) rfl,
   fun v0 v1 v2 v3 a st h Q => gx_get (x := 36) (by decide +kernel) (by decide +kernel),
   fun v0 v1 v2 v3 x y st h Q => gx_br (i := .if_icmp .ge 34) (len := 3) (c := .ge) (by decide +kernel) rfl rfl,
   fun v0 v2 v3 x st h Q => gx_one (i := .aload_n 1) (len := 1) (by decide +kernel) rfl,
   fun v0 v1 v2 x st h Q => gx_one (i := .iload_n 3) (len := 1) (by decide +kernel) rfl,
   fun v0 v1 v2 v3 a x st h Q => gx_iald (by decide +kernel),
   fun v1 v2 v3 x st h Q => gx_one (i := .aload_n 0) (len := 1) (by decide +kernel) rfl,
   fun v0 v1 v2 v3 a st h Q => gx_get (x := 27) (by decide +kernel) (by decide +kernel),
   fun v0 v1 v3 x st h Q => gx_one (i := .iload_n 2) (len := 1) (by decide +kernel) rfl,
   fun v0 v1 v2 v3 a x st h Q => gx_iald (by decide +kernel),
   fun v0 v1 v2 v3 x y st h Q => gx_br (i := .if_icmp .ge 16) (len := 3) (c := .ge) (by decide +kernel) rfl rfl,
   fun v1 v2 v3 x st h Q => gx_one (i := .aload_n 0) (len := 1) (by decide +kernel) rfl,
   fun v0 v1 v2 v3 a st h Q => gx_get (x := 30) (by decide +kernel) (by decide +kernel),
   fun v0 v1 v3 x st h Q => gx_one (i := .iload_n 2) (len := 1) (by decide +kernel) rfl,
   fun v0 v1 v2 v3 x y st h Q => gx_one (i := .dup2) (len := 1) (by decide +kernel) rfl,
   fun v0 v1 v2 v3 a x st h Q => gx_iald (by decide +kernel),
   fun v0 v1 v2 x st h Q => gx_one (i := .iload_n 3) (len := 1) (by decide +kernel) rfl,
   fun v0 v1 v2 v3 a0 r0 r1 r2 h Q => gx_stat (x := 105) (t := 16) (n := 1) (by decide +kernel) (by decide +kernel) (by decide) (by decide +kernel) rfl (Or.inl (Nat.le_of_ble_eq_true rfl)) (by show _ ≤ mr_mxl 16; rw [show mr_mxl 16 = 1 from by decide +kernel]; exact Nat.le_of_ble_eq_true rfl),
   fun v0 v1 v2 v3 x y st h Q => gx_one (i := .ior) (len := 1) (by decide +kernel) rfl,
   fun v0 v1 v2 v3 a x y st h Q => gx_iast (by decide +kernel),
   fun v0 v1 x w2 st h Q => gx_one (i := .iinc 3 1) (len := 3) (by decide +kernel) rfl,
   fun v0 v1 v2 v3 st h Q => gx_one (i := .goto (-36)) (len := 3) (by decide +kernel) rfl,
   fun v0 v3 x w1 st h Q => gx_one (i := .iinc 2 1) (len := 3) (by decide +kernel) rfl,
   fun v0 v1 v2 v3 st h Q => gx_one (i := .goto (-114)) (len := 3) (by decide +kernel) rfl,
   fun v0 v1 v2 v3 h Q => gx_ret (i := .return_) (len := 1) (by decide +kernel) rfl rfl (by simp only [mr_rt, if_pos]; rw [if_pos (by decide +kernel)])⟩

theorem s_re_label_2 (v0 v2 : Value) (x : Int32) (st : List Value) (h : mr_h) (Q : Option Value → mr_h → Prop) : mr_wp 24 2 [v0, .int x, v2] st h Q = mr_wp 24 3 [v0, .int x, v2] (.int x :: st) h Q := gx_one (i := .iload_n 1) (len := 1) (by decide +kernel) rfl
theorem s_re_label_26 (v0 v1 : Value) (x : Int32) (st : List Value) (h : mr_h) (Q : Option Value → mr_h → Prop) : mr_wp 24 26 [v0, v1, .int x] st h Q = mr_wp 24 27 [v0, v1, .int x] (.int x :: st) h Q := gx_one (i := .iload_n 2) (len := 1) (by decide +kernel) rfl
theorem S_re_label_0 : (∀ (v0 v1 v2 : Value) (st : List Value) (h : mr_h) (Q : Option Value → mr_h → Prop), mr_wp 24 0 [v0, v1, v2] st h Q = mr_wp 24 1 [v0, v1, v2] (.int (0) :: st) h Q) ∧
    (∀ (v1 v2 : Value) (w0 : Nat) (x : Int32) (st : List Value) (h : mr_h) (Q : Option Value → mr_h → Prop), mr_wp 24 1 [.ref w0, v1, v2] (.int x :: st) h Q = mr_wp 24 2 [.ref w0, .int x, v2] st h Q) ∧
    (∀ (v1 v2 : Value) (x : Nat) (st : List Value) (h : mr_h) (Q : Option Value → mr_h → Prop), mr_wp 24 3 [.ref x, v1, v2] st h Q = mr_wp 24 4 [.ref x, v1, v2] (.ref x :: st) h Q) ∧
    (∀ (v0 v1 v2 : Value) (a : Nat) (st : List Value) (h : mr_h) (Q : Option Value → mr_h → Prop), mr_wp 24 4 [v0, v1, v2] (.ref a :: st) h Q = mr_gf (h.1 a) 6 8 (fun v => mr_wp 24 7 [v0, v1, v2] (v :: st) h Q)) ∧
    (∀ (v0 v1 v2 : Value) (x : Int32) (y : Int32) (st : List Value) (h : mr_h) (Q : Option Value → mr_h → Prop), mr_wp 24 7 [v0, v1, v2] (.int y :: .int x :: st) h Q = if y ≤ x then mr_wp 24 150 [v0, v1, v2] st h Q else mr_wp 24 10 [v0, v1, v2] st h Q) ∧
    (∀ (v1 v2 : Value) (x : Nat) (st : List Value) (h : mr_h) (Q : Option Value → mr_h → Prop), mr_wp 24 10 [.ref x, v1, v2] st h Q = mr_wp 24 11 [.ref x, v1, v2] (.ref x :: st) h Q) ∧
    (∀ (v0 v1 v2 : Value) (a : Nat) (st : List Value) (h : mr_h) (Q : Option Value → mr_h → Prop), mr_wp 24 11 [v0, v1, v2] (.ref a :: st) h Q = mr_gf (h.1 a) 6 3 (fun v => mr_wp 24 14 [v0, v1, v2] (v :: st) h Q)) ∧
    (∀ (v0 v2 : Value) (x : Int32) (st : List Value) (h : mr_h) (Q : Option Value → mr_h → Prop), mr_wp 24 14 [v0, .int x, v2] st h Q = mr_wp 24 15 [v0, .int x, v2] (.int x :: st) h Q) ∧
    (∀ (v0 v1 v2 : Value) (st : List Value) (h : mr_h) (Q : Option Value → mr_h → Prop), mr_wp 24 15 [v0, v1, v2] st h Q = mr_wp 24 16 [v0, v1, v2] (.int (0) :: st) h Q) ∧
    (∀ (v0 v1 v2 : Value) (a : Nat) (x : Int32) (y : Int32) (st : List Value) (h : mr_h) (Q : Option Value → mr_h → Prop), mr_wp 24 16 [v0, v1, v2] (.int y :: .int x :: .ref a :: st) h Q = mr_si (h.1 a) x y (fun c => mr_wp 24 17 [v0, v1, v2] st (mr_up h a c) Q)) ∧
    (∀ (v1 v2 : Value) (x : Nat) (st : List Value) (h : mr_h) (Q : Option Value → mr_h → Prop), mr_wp 24 17 [.ref x, v1, v2] st h Q = mr_wp 24 18 [.ref x, v1, v2] (.ref x :: st) h Q) ∧
    (∀ (v0 v1 v2 : Value) (a : Nat) (st : List Value) (h : mr_h) (Q : Option Value → mr_h → Prop), mr_wp 24 18 [v0, v1, v2] (.ref a :: st) h Q = mr_gf (h.1 a) 6 4 (fun v => mr_wp 24 21 [v0, v1, v2] (v :: st) h Q)) ∧
    (∀ (v0 v2 : Value) (x : Int32) (st : List Value) (h : mr_h) (Q : Option Value → mr_h → Prop), mr_wp 24 21 [v0, .int x, v2] st h Q = mr_wp 24 22 [v0, .int x, v2] (.int x :: st) h Q) ∧
    (∀ (v0 v1 v2 : Value) (st : List Value) (h : mr_h) (Q : Option Value → mr_h → Prop), mr_wp 24 22 [v0, v1, v2] st h Q = mr_wp 24 23 [v0, v1, v2] (.int (0) :: st) h Q) ∧
    (∀ (v0 v1 v2 : Value) (a : Nat) (x : Int32) (y : Int32) (st : List Value) (h : mr_h) (Q : Option Value → mr_h → Prop), mr_wp 24 23 [v0, v1, v2] (.int y :: .int x :: .ref a :: st) h Q = mr_si (h.1 a) x y (fun c => mr_wp 24 24 [v0, v1, v2] st (mr_up h a c) Q)) ∧
    (∀ (v0 v1 v2 : Value) (st : List Value) (h : mr_h) (Q : Option Value → mr_h → Prop), mr_wp 24 24 [v0, v1, v2] st h Q = mr_wp 24 25 [v0, v1, v2] (.int (0) :: st) h Q) ∧
    (∀ (v0 v2 : Value) (w1 : Int32) (x : Int32) (st : List Value) (h : mr_h) (Q : Option Value → mr_h → Prop), mr_wp 24 25 [v0, .int w1, v2] (.int x :: st) h Q = mr_wp 24 26 [v0, .int w1, .int x] st h Q) ∧
    (∀ (v1 v2 : Value) (x : Nat) (st : List Value) (h : mr_h) (Q : Option Value → mr_h → Prop), mr_wp 24 27 [.ref x, v1, v2] st h Q = mr_wp 24 28 [.ref x, v1, v2] (.ref x :: st) h Q) ∧
    (∀ (v0 v1 v2 : Value) (a : Nat) (st : List Value) (h : mr_h) (Q : Option Value → mr_h → Prop), mr_wp 24 28 [v0, v1, v2] (.ref a :: st) h Q = mr_gf (h.1 a) 6 8 (fun v => mr_wp 24 31 [v0, v1, v2] (v :: st) h Q)) ∧
    (∀ (v0 v1 v2 : Value) (x : Int32) (y : Int32) (st : List Value) (h : mr_h) (Q : Option Value → mr_h → Prop), mr_wp 24 31 [v0, v1, v2] (.int y :: .int x :: st) h Q = if y ≤ x then mr_wp 24 144 [v0, v1, v2] st h Q else mr_wp 24 34 [v0, v1, v2] st h Q) ∧
    (∀ (v1 v2 : Value) (x : Nat) (st : List Value) (h : mr_h) (Q : Option Value → mr_h → Prop), mr_wp 24 34 [.ref x, v1, v2] st h Q = mr_wp 24 35 [.ref x, v1, v2] (.ref x :: st) h Q) ∧
    (∀ (v0 v1 v2 : Value) (a : Nat) (st : List Value) (h : mr_h) (Q : Option Value → mr_h → Prop), mr_wp 24 35 [v0, v1, v2] (.ref a :: st) h Q = mr_gf (h.1 a) 6 9 (fun v => mr_wp 24 38 [v0, v1, v2] (v :: st) h Q)) ∧
    (∀ (v0 v1 : Value) (x : Int32) (st : List Value) (h : mr_h) (Q : Option Value → mr_h → Prop), mr_wp 24 38 [v0, v1, .int x] st h Q = mr_wp 24 39 [v0, v1, .int x] (.int x :: st) h Q) ∧
    (∀ (v0 v1 v2 : Value) (a0 : Int32) (a1 : Int32) (h : mr_h) (Q : Option Value → mr_h → Prop), mr_wp 24 39 [v0, v1, v2] [.int a1, .int a0] h Q = mr_run 17 [.int a0, .int a1] h (fun v h' => mr_wp 24 42 [v0, v1, v2] (v.toList ++ []) h' Q)) ∧
    (∀ (v0 v1 v2 : Value) (x : Int32) (st : List Value) (h : mr_h) (Q : Option Value → mr_h → Prop), mr_wp 24 42 [v0, v1, v2] (.int x :: st) h Q = if ¬ x = 0 then mr_wp 24 48 [v0, v1, v2] st h Q else mr_wp 24 45 [v0, v1, v2] st h Q) ∧
    (∀ (v0 v1 v2 : Value) (st : List Value) (h : mr_h) (Q : Option Value → mr_h → Prop), mr_wp 24 45 [v0, v1, v2] st h Q = mr_wp 24 138 [v0, v1, v2] st h Q) ∧
    (∀ (v1 v2 : Value) (x : Nat) (st : List Value) (h : mr_h) (Q : Option Value → mr_h → Prop), mr_wp 24 48 [.ref x, v1, v2] st h Q = mr_wp 24 49 [.ref x, v1, v2] (.ref x :: st) h Q) ∧
    (∀ (v0 v1 : Value) (x : Int32) (st : List Value) (h : mr_h) (Q : Option Value → mr_h → Prop), mr_wp 24 49 [v0, v1, .int x] st h Q = mr_wp 24 50 [v0, v1, .int x] (.int x :: st) h Q) ∧
    (∀ (v0 v2 : Value) (x : Int32) (st : List Value) (h : mr_h) (Q : Option Value → mr_h → Prop), mr_wp 24 50 [v0, .int x, v2] st h Q = mr_wp 24 51 [v0, .int x, v2] (.int x :: st) h Q) ∧
    (∀ (v0 v1 v2 : Value) (a0 : Int32) (a1 : Int32) (o : Nat) (h : mr_h) (Q : Option Value → mr_h → Prop), mr_wp 24 51 [v0, v1, v2] [.int a1, .int a0, .ref o] h Q = mr_rc (h.1 o) 6 (mr_run 25 [.ref o, .int a0, .int a1] h (fun v h' => mr_wp 24 54 [v0, v1, v2] (v.toList ++ []) h' Q))) ∧
    (∀ (v0 v1 v2 : Value) (x : Int32) (st : List Value) (h : mr_h) (Q : Option Value → mr_h → Prop), mr_wp 24 54 [v0, v1, v2] (.int x :: st) h Q = if x = 0 then mr_wp 24 93 [v0, v1, v2] st h Q else mr_wp 24 57 [v0, v1, v2] st h Q) ∧
    (∀ (v1 v2 : Value) (x : Nat) (st : List Value) (h : mr_h) (Q : Option Value → mr_h → Prop), mr_wp 24 57 [.ref x, v1, v2] st h Q = mr_wp 24 58 [.ref x, v1, v2] (.ref x :: st) h Q) ∧
    (∀ (v0 v1 v2 : Value) (a : Nat) (st : List Value) (h : mr_h) (Q : Option Value → mr_h → Prop), mr_wp 24 58 [v0, v1, v2] (.ref a :: st) h Q = mr_gf (h.1 a) 6 0 (fun v => mr_wp 24 61 [v0, v1, v2] (v :: st) h Q)) ∧
    (∀ (v0 v1 : Value) (x : Int32) (st : List Value) (h : mr_h) (Q : Option Value → mr_h → Prop), mr_wp 24 61 [v0, v1, .int x] st h Q = mr_wp 24 62 [v0, v1, .int x] (.int x :: st) h Q) ∧
    (∀ (v0 v1 v2 : Value) (a : Nat) (x : Int32) (st : List Value) (h : mr_h) (Q : Option Value → mr_h → Prop), mr_wp 24 62 [v0, v1, v2] (.int x :: .ref a :: st) h Q = mr_ai (h.1 a) x (fun v => mr_wp 24 63 [v0, v1, v2] (.int v :: st) h Q)) ∧
    (∀ (v1 v2 : Value) (x : Nat) (st : List Value) (h : mr_h) (Q : Option Value → mr_h → Prop), mr_wp 24 63 [.ref x, v1, v2] st h Q = mr_wp 24 64 [.ref x, v1, v2] (.ref x :: st) h Q) ∧
    (∀ (v0 v1 v2 : Value) (a : Nat) (st : List Value) (h : mr_h) (Q : Option Value → mr_h → Prop), mr_wp 24 64 [v0, v1, v2] (.ref a :: st) h Q = mr_gf (h.1 a) 6 1 (fun v => mr_wp 24 67 [v0, v1, v2] (v :: st) h Q)) ∧
    (∀ (v0 v2 : Value) (x : Int32) (st : List Value) (h : mr_h) (Q : Option Value → mr_h → Prop), mr_wp 24 67 [v0, .int x, v2] st h Q = mr_wp 24 68 [v0, .int x, v2] (.int x :: st) h Q) ∧
    (∀ (v0 v1 v2 : Value) (a : Nat) (x : Int32) (st : List Value) (h : mr_h) (Q : Option Value → mr_h → Prop), mr_wp 24 68 [v0, v1, v2] (.int x :: .ref a :: st) h Q = mr_ai (h.1 a) x (fun v => mr_wp 24 69 [v0, v1, v2] (.int v :: st) h Q)) ∧
    (∀ (v0 v1 v2 : Value) (x : Int32) (y : Int32) (st : List Value) (h : mr_h) (Q : Option Value → mr_h → Prop), mr_wp 24 69 [v0, v1, v2] (.int y :: .int x :: st) h Q = mr_wp 24 70 [v0, v1, v2] (.int (x &&& y) :: st) h Q) :=
  ⟨fun v0 v1 v2 st h Q => gx_one (i := .iconst 0) (len := 1) (by decide +kernel) rfl,
   fun v1 v2 w0 x st h Q => gx_one (i := .istore_n 1) (len := 1) (by decide +kernel) rfl,
   fun v1 v2 x st h Q => gx_one (i := .aload_n 0) (len := 1) (by decide +kernel) rfl,
   fun v0 v1 v2 a st h Q => gx_get (x := 36) (by decide +kernel) (by decide +kernel),
   fun v0 v1 v2 x y st h Q => gx_br (i := .if_icmp .ge 143) (len := 3) (c := .ge) (by decide +kernel) rfl rfl,
   fun v1 v2 x st h Q => gx_one (i := .aload_n 0) (len := 1) (by decide +kernel) rfl,
   fun v0 v1 v2 a st h Q => gx_get (x := 21) (by decide +kernel) (by decide +kernel),
   fun v0 v2 x st h Q => gx_one (i := .iload_n 1) (len := 1) (by decide +kernel) rfl,
   fun v0 v1 v2 st h Q => gx_one (i := .iconst 0) (len := 1) (by decide +kernel) rfl,
   fun v0 v1 v2 a x y st h Q => gx_iast (by decide +kernel),
   fun v1 v2 x st h Q => gx_one (i := .aload_n 0) (len := 1) (by decide +kernel) rfl,
   fun v0 v1 v2 a st h Q => gx_get (x := 24) (by decide +kernel) (by decide +kernel),
   fun v0 v2 x st h Q => gx_one (i := .iload_n 1) (len := 1) (by decide +kernel) rfl,
   fun v0 v1 v2 st h Q => gx_one (i := .iconst 0) (len := 1) (by decide +kernel) rfl,
   fun v0 v1 v2 a x y st h Q => gx_iast (by decide +kernel),
   fun v0 v1 v2 st h Q => gx_one (i := .iconst 0) (len := 1) (by decide +kernel) rfl,
   fun v0 v2 w1 x st h Q => gx_one (i := .istore_n 2) (len := 1) (by decide +kernel) rfl,
   fun v1 v2 x st h Q => gx_one (i := .aload_n 0) (len := 1) (by decide +kernel) rfl,
   fun v0 v1 v2 a st h Q => gx_get (x := 36) (by decide +kernel) (by decide +kernel),
   fun v0 v1 v2 x y st h Q => gx_br (i := .if_icmp .ge 113) (len := 3) (c := .ge) (by decide +kernel) rfl rfl,
   fun v1 v2 x st h Q => gx_one (i := .aload_n 0) (len := 1) (by decide +kernel) rfl,
   fun v0 v1 v2 a st h Q => gx_get (x := 40) (by decide +kernel) (by decide +kernel),
   fun v0 v1 x st h Q => gx_one (i := .iload_n 2) (len := 1) (by decide +kernel) rfl,
   fun v0 v1 v2 a0 a1 h Q => gx_stat (x := 75) (t := 17) (n := 2) (by decide +kernel) (by decide +kernel) (by decide) (by decide +kernel) rfl (Or.inl (Nat.le_of_ble_eq_true rfl)) (by show _ ≤ mr_mxl 17; rw [show mr_mxl 17 = 2 from by decide +kernel]; exact Nat.le_of_ble_eq_true rfl),
   fun v0 v1 v2 x st h Q => gx_br (i := .ifCond .ne 6) (len := 3) (c := .ne) (by decide +kernel) rfl rfl,
   fun v0 v1 v2 st h Q => gx_one (i := .goto 93) (len := 3) (by decide +kernel) rfl,
   fun v1 v2 x st h Q => gx_one (i := .aload_n 0) (len := 1) (by decide +kernel) rfl,
   fun v0 v1 x st h Q => gx_one (i := .iload_n 2) (len := 1) (by decide +kernel) rfl,
   fun v0 v2 x st h Q => gx_one (i := .iload_n 1) (len := 1) (by decide +kernel) rfl,
   fun v0 v1 v2 a0 a1 o h Q => gx_virt (x := 114) (n := 2) (by decide +kernel) (by decide +kernel) rfl (Or.inl (Nat.le_of_ble_eq_true rfl)) (by show _ ≤ mr_mxl 25; rw [show mr_mxl 25 = 3 from by decide +kernel]; exact Nat.le_of_ble_eq_true rfl) (by decide +kernel),
   fun v0 v1 v2 x st h Q => gx_br (i := .ifCond .eq 39) (len := 3) (c := .eq) (by decide +kernel) rfl rfl,
   fun v1 v2 x st h Q => gx_one (i := .aload_n 0) (len := 1) (by decide +kernel) rfl,
   fun v0 v1 v2 a st h Q => gx_get (x := 9) (by decide +kernel) (by decide +kernel),
   fun v0 v1 x st h Q => gx_one (i := .iload_n 2) (len := 1) (by decide +kernel) rfl,
   fun v0 v1 v2 a x st h Q => gx_iald (by decide +kernel),
   fun v1 v2 x st h Q => gx_one (i := .aload_n 0) (len := 1) (by decide +kernel) rfl,
   fun v0 v1 v2 a st h Q => gx_get (x := 15) (by decide +kernel) (by decide +kernel),
   fun v0 v2 x st h Q => gx_one (i := .iload_n 1) (len := 1) (by decide +kernel) rfl,
   fun v0 v1 v2 a x st h Q => gx_iald (by decide +kernel),
   fun v0 v1 v2 x y st h Q => gx_one (i := .iand) (len := 1) (by decide +kernel) rfl⟩
theorem S_re_label_1 : (∀ (v1 v2 : Value) (x : Nat) (st : List Value) (h : mr_h) (Q : Option Value → mr_h → Prop), mr_wp 24 70 [.ref x, v1, v2] st h Q = mr_wp 24 71 [.ref x, v1, v2] (.ref x :: st) h Q) ∧
    (∀ (v0 v1 v2 : Value) (a : Nat) (st : List Value) (h : mr_h) (Q : Option Value → mr_h → Prop), mr_wp 24 71 [v0, v1, v2] (.ref a :: st) h Q = mr_gf (h.1 a) 6 6 (fun v => mr_wp 24 74 [v0, v1, v2] (v :: st) h Q)) ∧
    (∀ (v0 v1 : Value) (x : Int32) (st : List Value) (h : mr_h) (Q : Option Value → mr_h → Prop), mr_wp 24 74 [v0, v1, .int x] st h Q = mr_wp 24 75 [v0, v1, .int x] (.int x :: st) h Q) ∧
    (∀ (v0 v1 v2 : Value) (a : Nat) (x : Int32) (st : List Value) (h : mr_h) (Q : Option Value → mr_h → Prop), mr_wp 24 75 [v0, v1, v2] (.int x :: .ref a :: st) h Q = mr_ai (h.1 a) x (fun v => mr_wp 24 76 [v0, v1, v2] (.int v :: st) h Q)) ∧
    (∀ (v0 v1 v2 : Value) (x : Int32) (y : Int32) (st : List Value) (h : mr_h) (Q : Option Value → mr_h → Prop), mr_wp 24 76 [v0, v1, v2] (.int y :: .int x :: st) h Q = mr_wp 24 77 [v0, v1, v2] (.int (x &&& y) :: st) h Q) ∧
    (∀ (v0 v1 v2 : Value) (x : Int32) (st : List Value) (h : mr_h) (Q : Option Value → mr_h → Prop), mr_wp 24 77 [v0, v1, v2] (.int x :: st) h Q = if ¬ x = 0 then mr_wp 24 93 [v0, v1, v2] st h Q else mr_wp 24 80 [v0, v1, v2] st h Q) ∧
    (∀ (v1 v2 : Value) (x : Nat) (st : List Value) (h : mr_h) (Q : Option Value → mr_h → Prop), mr_wp 24 80 [.ref x, v1, v2] st h Q = mr_wp 24 81 [.ref x, v1, v2] (.ref x :: st) h Q) ∧
    (∀ (v0 v1 v2 : Value) (a : Nat) (st : List Value) (h : mr_h) (Q : Option Value → mr_h → Prop), mr_wp 24 81 [v0, v1, v2] (.ref a :: st) h Q = mr_gf (h.1 a) 6 3 (fun v => mr_wp 24 84 [v0, v1, v2] (v :: st) h Q)) ∧
    (∀ (v0 v2 : Value) (x : Int32) (st : List Value) (h : mr_h) (Q : Option Value → mr_h → Prop), mr_wp 24 84 [v0, .int x, v2] st h Q = mr_wp 24 85 [v0, .int x, v2] (.int x :: st) h Q) ∧
    (∀ (v0 v1 v2 : Value) (x : Int32) (y : Nat) (st : List Value) (h : mr_h) (Q : Option Value → mr_h → Prop), mr_wp 24 85 [v0, v1, v2] (.int x :: .ref y :: st) h Q = mr_wp 24 86 [v0, v1, v2] (.int x :: .ref y :: .int x :: .ref y :: st) h Q) ∧
    (∀ (v0 v1 v2 : Value) (a : Nat) (x : Int32) (st : List Value) (h : mr_h) (Q : Option Value → mr_h → Prop), mr_wp 24 86 [v0, v1, v2] (.int x :: .ref a :: st) h Q = mr_ai (h.1 a) x (fun v => mr_wp 24 87 [v0, v1, v2] (.int v :: st) h Q)) ∧
    (∀ (v0 v1 : Value) (x : Int32) (st : List Value) (h : mr_h) (Q : Option Value → mr_h → Prop), mr_wp 24 87 [v0, v1, .int x] st h Q = mr_wp 24 88 [v0, v1, .int x] (.int x :: st) h Q) ∧
    (∀ (v0 v1 v2 : Value) (a0 : Int32) (r0 : Value) (r1 : Value) (r2 : Value) (h : mr_h) (Q : Option Value → mr_h → Prop), mr_wp 24 88 [v0, v1, v2] [.int a0, r0, r1, r2] h Q = mr_run 16 [.int a0] h (fun v h' => mr_wp 24 91 [v0, v1, v2] (v.toList ++ [r0, r1, r2]) h' Q)) ∧
    (∀ (v0 v1 v2 : Value) (x : Int32) (y : Int32) (st : List Value) (h : mr_h) (Q : Option Value → mr_h → Prop), mr_wp 24 91 [v0, v1, v2] (.int y :: .int x :: st) h Q = mr_wp 24 92 [v0, v1, v2] (.int (x ||| y) :: st) h Q) ∧
    (∀ (v0 v1 v2 : Value) (a : Nat) (x : Int32) (y : Int32) (st : List Value) (h : mr_h) (Q : Option Value → mr_h → Prop), mr_wp 24 92 [v0, v1, v2] (.int y :: .int x :: .ref a :: st) h Q = mr_si (h.1 a) x y (fun c => mr_wp 24 93 [v0, v1, v2] st (mr_up h a c) Q)) ∧
    (∀ (v1 v2 : Value) (x : Nat) (st : List Value) (h : mr_h) (Q : Option Value → mr_h → Prop), mr_wp 24 93 [.ref x, v1, v2] st h Q = mr_wp 24 94 [.ref x, v1, v2] (.ref x :: st) h Q) ∧
    (∀ (v0 v2 : Value) (x : Int32) (st : List Value) (h : mr_h) (Q : Option Value → mr_h → Prop), mr_wp 24 94 [v0, .int x, v2] st h Q = mr_wp 24 95 [v0, .int x, v2] (.int x :: st) h Q) ∧
    (∀ (v0 v1 : Value) (x : Int32) (st : List Value) (h : mr_h) (Q : Option Value → mr_h → Prop), mr_wp 24 95 [v0, v1, .int x] st h Q = mr_wp 24 96 [v0, v1, .int x] (.int x :: st) h Q) ∧
    (∀ (v0 v1 v2 : Value) (a0 : Int32) (a1 : Int32) (o : Nat) (h : mr_h) (Q : Option Value → mr_h → Prop), mr_wp 24 96 [v0, v1, v2] [.int a1, .int a0, .ref o] h Q = mr_rc (h.1 o) 6 (mr_run 25 [.ref o, .int a0, .int a1] h (fun v h' => mr_wp 24 99 [v0, v1, v2] (v.toList ++ []) h' Q))) ∧
    (∀ (v0 v1 v2 : Value) (x : Int32) (st : List Value) (h : mr_h) (Q : Option Value → mr_h → Prop), mr_wp 24 99 [v0, v1, v2] (.int x :: st) h Q = if x = 0 then mr_wp 24 138 [v0, v1, v2] st h Q else mr_wp 24 102 [v0, v1, v2] st h Q) ∧
    (∀ (v1 v2 : Value) (x : Nat) (st : List Value) (h : mr_h) (Q : Option Value → mr_h → Prop), mr_wp 24 102 [.ref x, v1, v2] st h Q = mr_wp 24 103 [.ref x, v1, v2] (.ref x :: st) h Q) ∧
    (∀ (v0 v1 v2 : Value) (a : Nat) (st : List Value) (h : mr_h) (Q : Option Value → mr_h → Prop), mr_wp 24 103 [v0, v1, v2] (.ref a :: st) h Q = mr_gf (h.1 a) 6 0 (fun v => mr_wp 24 106 [v0, v1, v2] (v :: st) h Q)) ∧
    (∀ (v0 v2 : Value) (x : Int32) (st : List Value) (h : mr_h) (Q : Option Value → mr_h → Prop), mr_wp 24 106 [v0, .int x, v2] st h Q = mr_wp 24 107 [v0, .int x, v2] (.int x :: st) h Q) ∧
    (∀ (v0 v1 v2 : Value) (a : Nat) (x : Int32) (st : List Value) (h : mr_h) (Q : Option Value → mr_h → Prop), mr_wp 24 107 [v0, v1, v2] (.int x :: .ref a :: st) h Q = mr_ai (h.1 a) x (fun v => mr_wp 24 108 [v0, v1, v2] (.int v :: st) h Q)) ∧
    (∀ (v1 v2 : Value) (x : Nat) (st : List Value) (h : mr_h) (Q : Option Value → mr_h → Prop), mr_wp 24 108 [.ref x, v1, v2] st h Q = mr_wp 24 109 [.ref x, v1, v2] (.ref x :: st) h Q) ∧
    (∀ (v0 v1 v2 : Value) (a : Nat) (st : List Value) (h : mr_h) (Q : Option Value → mr_h → Prop), mr_wp 24 109 [v0, v1, v2] (.ref a :: st) h Q = mr_gf (h.1 a) 6 1 (fun v => mr_wp 24 112 [v0, v1, v2] (v :: st) h Q)) ∧
    (∀ (v0 v1 : Value) (x : Int32) (st : List Value) (h : mr_h) (Q : Option Value → mr_h → Prop), mr_wp 24 112 [v0, v1, .int x] st h Q = mr_wp 24 113 [v0, v1, .int x] (.int x :: st) h Q) ∧
    (∀ (v0 v1 v2 : Value) (a : Nat) (x : Int32) (st : List Value) (h : mr_h) (Q : Option Value → mr_h → Prop), mr_wp 24 113 [v0, v1, v2] (.int x :: .ref a :: st) h Q = mr_ai (h.1 a) x (fun v => mr_wp 24 114 [v0, v1, v2] (.int v :: st) h Q)) ∧
    (∀ (v0 v1 v2 : Value) (x : Int32) (y : Int32) (st : List Value) (h : mr_h) (Q : Option Value → mr_h → Prop), mr_wp 24 114 [v0, v1, v2] (.int y :: .int x :: st) h Q = mr_wp 24 115 [v0, v1, v2] (.int (x &&& y) :: st) h Q) ∧
    (∀ (v1 v2 : Value) (x : Nat) (st : List Value) (h : mr_h) (Q : Option Value → mr_h → Prop), mr_wp 24 115 [.ref x, v1, v2] st h Q = mr_wp 24 116 [.ref x, v1, v2] (.ref x :: st) h Q) ∧
    (∀ (v0 v1 v2 : Value) (a : Nat) (st : List Value) (h : mr_h) (Q : Option Value → mr_h → Prop), mr_wp 24 116 [v0, v1, v2] (.ref a :: st) h Q = mr_gf (h.1 a) 6 6 (fun v => mr_wp 24 119 [v0, v1, v2] (v :: st) h Q)) ∧
    (∀ (v0 v1 : Value) (x : Int32) (st : List Value) (h : mr_h) (Q : Option Value → mr_h → Prop), mr_wp 24 119 [v0, v1, .int x] st h Q = mr_wp 24 120 [v0, v1, .int x] (.int x :: st) h Q) ∧
    (∀ (v0 v1 v2 : Value) (a : Nat) (x : Int32) (st : List Value) (h : mr_h) (Q : Option Value → mr_h → Prop), mr_wp 24 120 [v0, v1, v2] (.int x :: .ref a :: st) h Q = mr_ai (h.1 a) x (fun v => mr_wp 24 121 [v0, v1, v2] (.int v :: st) h Q)) ∧
    (∀ (v0 v1 v2 : Value) (x : Int32) (y : Int32) (st : List Value) (h : mr_h) (Q : Option Value → mr_h → Prop), mr_wp 24 121 [v0, v1, v2] (.int y :: .int x :: st) h Q = mr_wp 24 122 [v0, v1, v2] (.int (x &&& y) :: st) h Q) ∧
    (∀ (v0 v1 v2 : Value) (x : Int32) (st : List Value) (h : mr_h) (Q : Option Value → mr_h → Prop), mr_wp 24 122 [v0, v1, v2] (.int x :: st) h Q = if ¬ x = 0 then mr_wp 24 138 [v0, v1, v2] st h Q else mr_wp 24 125 [v0, v1, v2] st h Q) ∧
    (∀ (v1 v2 : Value) (x : Nat) (st : List Value) (h : mr_h) (Q : Option Value → mr_h → Prop), mr_wp 24 125 [.ref x, v1, v2] st h Q = mr_wp 24 126 [.ref x, v1, v2] (.ref x :: st) h Q) ∧
    (∀ (v0 v1 v2 : Value) (a : Nat) (st : List Value) (h : mr_h) (Q : Option Value → mr_h → Prop), mr_wp 24 126 [v0, v1, v2] (.ref a :: st) h Q = mr_gf (h.1 a) 6 4 (fun v => mr_wp 24 129 [v0, v1, v2] (v :: st) h Q)) ∧
    (∀ (v0 v2 : Value) (x : Int32) (st : List Value) (h : mr_h) (Q : Option Value → mr_h → Prop), mr_wp 24 129 [v0, .int x, v2] st h Q = mr_wp 24 130 [v0, .int x, v2] (.int x :: st) h Q) ∧
    (∀ (v0 v1 v2 : Value) (x : Int32) (y : Nat) (st : List Value) (h : mr_h) (Q : Option Value → mr_h → Prop), mr_wp 24 130 [v0, v1, v2] (.int x :: .ref y :: st) h Q = mr_wp 24 131 [v0, v1, v2] (.int x :: .ref y :: .int x :: .ref y :: st) h Q) ∧
    (∀ (v0 v1 v2 : Value) (a : Nat) (x : Int32) (st : List Value) (h : mr_h) (Q : Option Value → mr_h → Prop), mr_wp 24 131 [v0, v1, v2] (.int x :: .ref a :: st) h Q = mr_ai (h.1 a) x (fun v => mr_wp 24 132 [v0, v1, v2] (.int v :: st) h Q)) :=
  ⟨fun v1 v2 x st h Q => gx_one (i := .aload_n 0) (len := 1) (by decide +kernel) rfl,
   fun v0 v1 v2 a st h Q => gx_get (x := 30) (by decide +kernel) (by decide +kernel),
   fun v0 v1 x st h Q => gx_one (i := .iload_n 2) (len := 1) (by decide +kernel) rfl,
   fun v0 v1 v2 a x st h Q => gx_iald (by decide +kernel),
   fun v0 v1 v2 x y st h Q => gx_one (i := .iand) (len := 1) (by decide +kernel) rfl,
   fun v0 v1 v2 x st h Q => gx_br (i := .ifCond .ne 16) (len := 3) (c := .ne) (by decide +kernel) rfl rfl,
   fun v1 v2 x st h Q => gx_one (i := .aload_n 0) (len := 1) (by decide +kernel) rfl,
   fun v0 v1 v2 a st h Q => gx_get (x := 21) (by decide +kernel) (by decide +kernel),
   fun v0 v2 x st h Q => gx_one (i := .iload_n 1) (len := 1) (by decide +kernel) rfl,
   fun v0 v1 v2 x y st h Q => gx_one (i := .dup2) (len := 1) (by decide +kernel) rfl,
   fun v0 v1 v2 a x st h Q => gx_iald (by decide +kernel),
   fun v0 v1 x st h Q => gx_one (i := .iload_n 2) (len := 1) (by decide +kernel) rfl,
   fun v0 v1 v2 a0 r0 r1 r2 h Q => gx_stat (x := 105) (t := 16) (n := 1) (by decide +kernel) (by decide +kernel) (by decide) (by decide +kernel) rfl (Or.inl (Nat.le_of_ble_eq_true rfl)) (by show _ ≤ mr_mxl 16; rw [show mr_mxl 16 = 1 from by decide +kernel]; exact Nat.le_of_ble_eq_true rfl),
   fun v0 v1 v2 x y st h Q => gx_one (i := .ior) (len := 1) (by decide +kernel) rfl,
   fun v0 v1 v2 a x y st h Q => gx_iast (by decide +kernel),
   fun v1 v2 x st h Q => gx_one (i := .aload_n 0) (len := 1) (by decide +kernel) rfl,
   fun v0 v2 x st h Q => gx_one (i := .iload_n 1) (len := 1) (by decide +kernel) rfl,
   fun v0 v1 x st h Q => gx_one (i := .iload_n 2) (len := 1) (by decide +kernel) rfl,
   fun v0 v1 v2 a0 a1 o h Q => gx_virt (x := 114) (n := 2) (by decide +kernel) (by decide +kernel) rfl (Or.inl (Nat.le_of_ble_eq_true rfl)) (by show _ ≤ mr_mxl 25; rw [show mr_mxl 25 = 3 from by decide +kernel]; exact Nat.le_of_ble_eq_true rfl) (by decide +kernel),
   fun v0 v1 v2 x st h Q => gx_br (i := .ifCond .eq 39) (len := 3) (c := .eq) (by decide +kernel) rfl rfl,
   fun v1 v2 x st h Q => gx_one (i := .aload_n 0) (len := 1) (by decide +kernel) rfl,
   fun v0 v1 v2 a st h Q => gx_get (x := 9) (by decide +kernel) (by decide +kernel),
   fun v0 v2 x st h Q => gx_one (i := .iload_n 1) (len := 1) (by decide +kernel) rfl,
   fun v0 v1 v2 a x st h Q => gx_iald (by decide +kernel),
   fun v1 v2 x st h Q => gx_one (i := .aload_n 0) (len := 1) (by decide +kernel) rfl,
   fun v0 v1 v2 a st h Q => gx_get (x := 15) (by decide +kernel) (by decide +kernel),
   fun v0 v1 x st h Q => gx_one (i := .iload_n 2) (len := 1) (by decide +kernel) rfl,
   fun v0 v1 v2 a x st h Q => gx_iald (by decide +kernel),
   fun v0 v1 v2 x y st h Q => gx_one (i := .iand) (len := 1) (by decide +kernel) rfl,
   fun v1 v2 x st h Q => gx_one (i := .aload_n 0) (len := 1) (by decide +kernel) rfl,
   fun v0 v1 v2 a st h Q => gx_get (x := 30) (by decide +kernel) (by decide +kernel),
   fun v0 v1 x st h Q => gx_one (i := .iload_n 2) (len := 1) (by decide +kernel) rfl,
   fun v0 v1 v2 a x st h Q => gx_iald (by decide +kernel),
   fun v0 v1 v2 x y st h Q => gx_one (i := .iand) (len := 1) (by decide +kernel) rfl,
   fun v0 v1 v2 x st h Q => gx_br (i := .ifCond .ne 16) (len := 3) (c := .ne) (by decide +kernel) rfl rfl,
   fun v1 v2 x st h Q => gx_one (i := .aload_n 0) (len := 1) (by decide +kernel) rfl,
   fun v0 v1 v2 a st h Q => gx_get (x := 24) (by decide +kernel) (by decide +kernel),
   fun v0 v2 x st h Q => gx_one (i := .iload_n 1) (len := 1) (by decide +kernel) rfl,
   fun v0 v1 v2 x y st h Q => gx_one (i := .dup2) (len := 1) (by decide +kernel) rfl,
   fun v0 v1 v2 a x st h Q => gx_iald (by decide +kernel)⟩
theorem S_re_label_2 : (∀ (v0 v1 : Value) (x : Int32) (st : List Value) (h : mr_h) (Q : Option Value → mr_h → Prop), mr_wp 24 132 [v0, v1, .int x] st h Q = mr_wp 24 133 [v0, v1, .int x] (.int x :: st) h Q) ∧
    (∀ (v0 v1 v2 : Value) (a0 : Int32) (r0 : Value) (r1 : Value) (r2 : Value) (h : mr_h) (Q : Option Value → mr_h → Prop), mr_wp 24 133 [v0, v1, v2] [.int a0, r0, r1, r2] h Q = mr_run 16 [.int a0] h (fun v h' => mr_wp 24 136 [v0, v1, v2] (v.toList ++ [r0, r1, r2]) h' Q)) ∧
    (∀ (v0 v1 v2 : Value) (x : Int32) (y : Int32) (st : List Value) (h : mr_h) (Q : Option Value → mr_h → Prop), mr_wp 24 136 [v0, v1, v2] (.int y :: .int x :: st) h Q = mr_wp 24 137 [v0, v1, v2] (.int (x ||| y) :: st) h Q) ∧
    (∀ (v0 v1 v2 : Value) (a : Nat) (x : Int32) (y : Int32) (st : List Value) (h : mr_h) (Q : Option Value → mr_h → Prop), mr_wp 24 137 [v0, v1, v2] (.int y :: .int x :: .ref a :: st) h Q = mr_si (h.1 a) x y (fun c => mr_wp 24 138 [v0, v1, v2] st (mr_up h a c) Q)) ∧
    (∀ (v0 : Value) (x : Int32) (w1 : Int32) (st : List Value) (h : mr_h) (Q : Option Value → mr_h → Prop), mr_wp 24 138 [v0, .int w1, .int x] st h Q = mr_wp 24 141 [v0, .int w1, .int (x + (1))] st h Q) ∧
    (∀ (v0 v1 v2 : Value) (st : List Value) (h : mr_h) (Q : Option Value → mr_h → Prop), mr_wp 24 141 [v0, v1, v2] st h Q = mr_wp 24 26 [v0, v1, v2] st h Q) ∧
    (∀ (v2 : Value) (x : Int32) (w0 : Nat) (st : List Value) (h : mr_h) (Q : Option Value → mr_h → Prop), mr_wp 24 144 [.ref w0, .int x, v2] st h Q = mr_wp 24 147 [.ref w0, .int (x + (1)), v2] st h Q) ∧
    (∀ (v0 v1 v2 : Value) (st : List Value) (h : mr_h) (Q : Option Value → mr_h → Prop), mr_wp 24 147 [v0, v1, v2] st h Q = mr_wp 24 2 [v0, v1, v2] st h Q) ∧
    (∀ (v0 v1 v2 : Value) (h : mr_h) (Q : Option Value → mr_h → Prop), mr_wp 24 150 [v0, v1, v2] [] h Q = Q none h) :=
  ⟨fun v0 v1 x st h Q => gx_one (i := .iload_n 2) (len := 1) (by decide +kernel) rfl,
   fun v0 v1 v2 a0 r0 r1 r2 h Q => gx_stat (x := 105) (t := 16) (n := 1) (by decide +kernel) (by decide +kernel) (by decide) (by decide +kernel) rfl (Or.inl (Nat.le_of_ble_eq_true rfl)) (by show _ ≤ mr_mxl 16; rw [show mr_mxl 16 = 1 from by decide +kernel]; exact Nat.le_of_ble_eq_true rfl),
   fun v0 v1 v2 x y st h Q => gx_one (i := .ior) (len := 1) (by decide +kernel) rfl,
   fun v0 v1 v2 a x y st h Q => gx_iast (by decide +kernel),
   fun v0 x w1 st h Q => gx_one (i := .iinc 2 1) (len := 3) (by decide +kernel) rfl,
   fun v0 v1 v2 st h Q => gx_one (i := .goto (-115)) (len := 3) (by decide +kernel) rfl,
   fun v2 x w0 st h Q => gx_one (i := .iinc 1 1) (len := 3) (by decide +kernel) rfl,
   fun v0 v1 v2 st h Q => gx_one (i := .goto (-145)) (len := 3) (by decide +kernel) rfl,
   fun v0 v1 v2 h Q => gx_ret (i := .return_) (len := 1) (by decide +kernel) rfl rfl (by simp only [mr_rt, if_pos]; rw [if_pos (by decide +kernel)])⟩

theorem S_re_leads : (∀ (v1 v2 : Value) (x : Nat) (st : List Value) (h : mr_h) (Q : Option Value → mr_h → Prop), mr_wp 25 0 [.ref x, v1, v2] st h Q = mr_wp 25 1 [.ref x, v1, v2] (.ref x :: st) h Q) ∧
    (∀ (v0 v1 v2 : Value) (a : Nat) (st : List Value) (h : mr_h) (Q : Option Value → mr_h → Prop), mr_wp 25 1 [v0, v1, v2] (.ref a :: st) h Q = mr_gf (h.1 a) 6 0 (fun v => mr_wp 25 4 [v0, v1, v2] (v :: st) h Q)) ∧
    (∀ (v0 v2 : Value) (x : Int32) (st : List Value) (h : mr_h) (Q : Option Value → mr_h → Prop), mr_wp 25 4 [v0, .int x, v2] st h Q = mr_wp 25 5 [v0, .int x, v2] (.int x :: st) h Q) ∧
    (∀ (v0 v1 v2 : Value) (a : Nat) (x : Int32) (st : List Value) (h : mr_h) (Q : Option Value → mr_h → Prop), mr_wp 25 5 [v0, v1, v2] (.int x :: .ref a :: st) h Q = mr_ai (h.1 a) x (fun v => mr_wp 25 6 [v0, v1, v2] (.int v :: st) h Q)) ∧
    (∀ (v0 v1 : Value) (x : Int32) (st : List Value) (h : mr_h) (Q : Option Value → mr_h → Prop), mr_wp 25 6 [v0, v1, .int x] st h Q = mr_wp 25 7 [v0, v1, .int x] (.int x :: st) h Q) ∧
    (∀ (v0 v1 v2 : Value) (a0 : Int32) (a1 : Int32) (h : mr_h) (Q : Option Value → mr_h → Prop), mr_wp 25 7 [v0, v1, v2] [.int a1, .int a0] h Q = mr_run 17 [.int a0, .int a1] h (fun v h' => mr_wp 25 10 [v0, v1, v2] (v.toList ++ []) h' Q)) ∧
    (∀ (v0 v1 v2 : Value) (x : Int32) (h : mr_h) (Q : Option Value → mr_h → Prop) (hv : x &&& 1 = x), mr_wp 25 10 [v0, v1, v2] [.int x] h Q = Q (some (.int x)) h) :=
  ⟨fun v1 v2 x st h Q => gx_one (i := .aload_n 0) (len := 1) (by decide +kernel) rfl,
   fun v0 v1 v2 a st h Q => gx_get (x := 9) (by decide +kernel) (by decide +kernel),
   fun v0 v2 x st h Q => gx_one (i := .iload_n 1) (len := 1) (by decide +kernel) rfl,
   fun v0 v1 v2 a x st h Q => gx_iald (by decide +kernel),
   fun v0 v1 x st h Q => gx_one (i := .iload_n 2) (len := 1) (by decide +kernel) rfl,
   fun v0 v1 v2 a0 a1 h Q => gx_stat (x := 75) (t := 17) (n := 2) (by decide +kernel) (by decide +kernel) (by decide) (by decide +kernel) rfl (Or.inl (Nat.le_of_ble_eq_true rfl)) (by show _ ≤ mr_mxl 17; rw [show mr_mxl 17 = 2 from by decide +kernel]; exact Nat.le_of_ble_eq_true rfl),
   fun v0 v1 v2 x h Q hv => gx_ret (i := .ireturn) (len := 1) (by decide +kernel) rfl rfl (by simp only [mr_rt, if_pos]; rw [if_pos (Or.inr ⟨by decide +kernel, hv⟩)])⟩
theorem S_rl_type : (∀ (v0 : Value) (x : Int32) (st : List Value) (h : mr_h) (Q : Option Value → mr_h → Prop), mr_wp 26 0 [v0, .int x] st h Q = mr_wp 26 1 [v0, .int x] (.int x :: st) h Q) ∧
    (∀ (v0 v1 : Value) (x : Int32) (st : List Value) (h : mr_h) (Q : Option Value → mr_h → Prop), mr_wp 26 1 [v0, v1] (.int x :: st) h Q = if x < 0 then mr_wp 26 11 [v0, v1] st h Q else mr_wp 26 4 [v0, v1] st h Q) ∧
    (∀ (v0 : Value) (x : Int32) (st : List Value) (h : mr_h) (Q : Option Value → mr_h → Prop), mr_wp 26 4 [v0, .int x] st h Q = mr_wp 26 5 [v0, .int x] (.int x :: st) h Q) ∧
    (∀ (v0 v1 : Value) (st : List Value) (h : mr_h) (Q : Option Value → mr_h → Prop), mr_wp 26 5 [v0, v1] st h Q = mr_wp 26 8 [v0, v1] (.int (255) :: st) h Q) ∧
    (∀ (v0 v1 : Value) (x : Int32) (y : Int32) (st : List Value) (h : mr_h) (Q : Option Value → mr_h → Prop), mr_wp 26 8 [v0, v1] (.int y :: .int x :: st) h Q = if x ≤ y then mr_wp 26 13 [v0, v1] st h Q else mr_wp 26 11 [v0, v1] st h Q) ∧
    (∀ (v0 v1 : Value) (st : List Value) (h : mr_h) (Q : Option Value → mr_h → Prop), mr_wp 26 11 [v0, v1] st h Q = mr_wp 26 12 [v0, v1] (.int (-1) :: st) h Q) ∧
    (∀ (v0 v1 : Value) (x : Int32) (h : mr_h) (Q : Option Value → mr_h → Prop), mr_wp 26 12 [v0, v1] [.int x] h Q = Q (some (.int x)) h) ∧
    (∀ (v1 : Value) (x : Nat) (st : List Value) (h : mr_h) (Q : Option Value → mr_h → Prop), mr_wp 26 13 [.ref x, v1] st h Q = mr_wp 26 14 [.ref x, v1] (.ref x :: st) h Q) ∧
    (∀ (v0 v1 : Value) (a : Nat) (st : List Value) (h : mr_h) (Q : Option Value → mr_h → Prop), mr_wp 26 14 [v0, v1] (.ref a :: st) h Q = mr_gf (h.1 a) 10 2 (fun v => mr_wp 26 17 [v0, v1] (v :: st) h Q)) ∧
    (∀ (v0 : Value) (x : Int32) (st : List Value) (h : mr_h) (Q : Option Value → mr_h → Prop), mr_wp 26 17 [v0, .int x] st h Q = mr_wp 26 18 [v0, .int x] (.int x :: st) h Q) ∧
    (∀ (v0 v1 : Value) (a0 : Int32) (o : Nat) (h : mr_h) (Q : Option Value → mr_h → Prop), mr_wp 26 18 [v0, v1] [.int a0, .ref o] h Q = mr_rc (h.1 o) 7 (mr_run 27 [.ref o, .int a0] h (fun v h' => mr_wp 26 21 [v0, v1] (v.toList ++ []) h' Q))) ∧
    (∀ (v0 v1 : Value) (x : Int32) (st : List Value) (h : mr_h) (Q : Option Value → mr_h → Prop), mr_wp 26 21 [v0, v1] (.int x :: st) h Q = if x = 0 then mr_wp 26 34 [v0, v1] st h Q else mr_wp 26 24 [v0, v1] st h Q) ∧
    (∀ (v1 : Value) (x : Nat) (st : List Value) (h : mr_h) (Q : Option Value → mr_h → Prop), mr_wp 26 24 [.ref x, v1] st h Q = mr_wp 26 25 [.ref x, v1] (.ref x :: st) h Q) ∧
    (∀ (v0 v1 : Value) (a : Nat) (st : List Value) (h : mr_h) (Q : Option Value → mr_h → Prop), mr_wp 26 25 [v0, v1] (.ref a :: st) h Q = mr_gf (h.1 a) 10 2 (fun v => mr_wp 26 28 [v0, v1] (v :: st) h Q)) ∧
    (∀ (v0 v1 : Value) (a : Nat) (st : List Value) (h : mr_h) (Q : Option Value → mr_h → Prop), mr_wp 26 28 [v0, v1] (.ref a :: st) h Q = mr_gf (h.1 a) 7 0 (fun v => mr_wp 26 31 [v0, v1] (v :: st) h Q)) ∧
    (∀ (v0 v1 : Value) (st : List Value) (h : mr_h) (Q : Option Value → mr_h → Prop), mr_wp 26 31 [v0, v1] st h Q = mr_wp 26 36 [v0, v1] st h Q) ∧
    (∀ (v0 v1 : Value) (st : List Value) (h : mr_h) (Q : Option Value → mr_h → Prop), mr_wp 26 34 [v0, v1] st h Q = mr_wp 26 36 [v0, v1] (.int (-3) :: st) h Q) ∧
    (∀ (v0 v1 : Value) (x : Int32) (h : mr_h) (Q : Option Value → mr_h → Prop), mr_wp 26 36 [v0, v1] [.int x] h Q = Q (some (.int x)) h) :=
  ⟨fun v0 x st h Q => gx_one (i := .iload_n 1) (len := 1) (by decide +kernel) rfl,
   fun v0 v1 x st h Q => gx_br (i := .ifCond .lt 10) (len := 3) (c := .lt) (by decide +kernel) rfl rfl,
   fun v0 x st h Q => gx_one (i := .iload_n 1) (len := 1) (by decide +kernel) rfl,
   fun v0 v1 st h Q => gx_one (i := .sipush 255) (len := 3) (by decide +kernel) rfl,
   fun v0 v1 x y st h Q => gx_br (i := .if_icmp .le 5) (len := 3) (c := .le) (by decide +kernel) rfl rfl,
   fun v0 v1 st h Q => gx_one (i := .iconst (-1)) (len := 1) (by decide +kernel) rfl,
   fun v0 v1 x h Q => gx_ret (i := .ireturn) (len := 1) (by decide +kernel) rfl rfl (by simp only [mr_rt, if_pos]; rw [if_pos (Or.inl (by decide +kernel))]),
   fun v1 x st h Q => gx_one (i := .aload_n 0) (len := 1) (by decide +kernel) rfl,
   fun v0 v1 a st h Q => gx_get (x := 22) (by decide +kernel) (by decide +kernel),
   fun v0 x st h Q => gx_one (i := .iload_n 1) (len := 1) (by decide +kernel) rfl,
   fun v0 v1 a0 o h Q => gx_virt (x := 86) (n := 1) (by decide +kernel) (by decide +kernel) rfl (Or.inl (Nat.le_of_ble_eq_true rfl)) (by show _ ≤ mr_mxl 27; rw [show mr_mxl 27 = 2 from by decide +kernel]; exact Nat.le_of_ble_eq_true rfl) (by decide +kernel),
   fun v0 v1 x st h Q => gx_br (i := .ifCond .eq 13) (len := 3) (c := .eq) (by decide +kernel) rfl rfl,
   fun v1 x st h Q => gx_one (i := .aload_n 0) (len := 1) (by decide +kernel) rfl,
   fun v0 v1 a st h Q => gx_get (x := 22) (by decide +kernel) (by decide +kernel),
   fun v0 v1 a st h Q => gx_get (x := 90) (by decide +kernel) (by decide +kernel),
   fun v0 v1 st h Q => gx_one (i := .goto 5) (len := 3) (by decide +kernel) rfl,
   fun v0 v1 st h Q => gx_one (i := .bipush (-3)) (len := 2) (by decide +kernel) rfl,
   fun v0 v1 x h Q => gx_ret (i := .ireturn) (len := 1) (by decide +kernel) rfl rfl (by simp only [mr_rt, if_pos]; rw [if_pos (Or.inl (by decide +kernel))])⟩
theorem S_sc_append : (∀ (v1 : Value) (x : Nat) (st : List Value) (h : mr_h) (Q : Option Value → mr_h → Prop), mr_wp 27 0 [.ref x, v1] st h Q = mr_wp 27 1 [.ref x, v1] (.ref x :: st) h Q) ∧
    (∀ (v0 v1 : Value) (a : Nat) (st : List Value) (h : mr_h) (Q : Option Value → mr_h → Prop), mr_wp 27 1 [v0, v1] (.ref a :: st) h Q = mr_gf (h.1 a) 7 0 (fun v => mr_wp 27 4 [v0, v1] (v :: st) h Q)) ∧
    (∀ (v0 v1 : Value) (st : List Value) (h : mr_h) (Q : Option Value → mr_h → Prop), mr_wp 27 4 [v0, v1] st h Q = mr_wp 27 6 [v0, v1] (.int (120) :: st) h Q) ∧
    (∀ (v0 v1 : Value) (x : Int32) (y : Int32) (st : List Value) (h : mr_h) (Q : Option Value → mr_h → Prop), mr_wp 27 6 [v0, v1] (.int y :: .int x :: st) h Q = if x < y then mr_wp 27 11 [v0, v1] st h Q else mr_wp 27 9 [v0, v1] st h Q) ∧
    (∀ (v0 v1 : Value) (st : List Value) (h : mr_h) (Q : Option Value → mr_h → Prop), mr_wp 27 9 [v0, v1] st h Q = mr_wp 27 10 [v0, v1] (.int (0) :: st) h Q) ∧
    (∀ (v0 v1 : Value) (x : Int32) (h : mr_h) (Q : Option Value → mr_h → Prop) (hv : x &&& 1 = x), mr_wp 27 10 [v0, v1] [.int x] h Q = Q (some (.int x)) h) ∧
    (∀ (v1 : Value) (x : Nat) (st : List Value) (h : mr_h) (Q : Option Value → mr_h → Prop), mr_wp 27 11 [.ref x, v1] st h Q = mr_wp 27 12 [.ref x, v1] (.ref x :: st) h Q) ∧
    (∀ (v0 v1 : Value) (a : Nat) (st : List Value) (h : mr_h) (Q : Option Value → mr_h → Prop), mr_wp 27 12 [v0, v1] (.ref a :: st) h Q = mr_gf (h.1 a) 7 1 (fun v => mr_wp 27 15 [v0, v1] (v :: st) h Q)) ∧
    (∀ (v1 : Value) (x : Nat) (st : List Value) (h : mr_h) (Q : Option Value → mr_h → Prop), mr_wp 27 15 [.ref x, v1] st h Q = mr_wp 27 16 [.ref x, v1] (.ref x :: st) h Q) ∧
    (∀ (v0 v1 : Value) (a : Nat) (st : List Value) (h : mr_h) (Q : Option Value → mr_h → Prop), mr_wp 27 16 [v0, v1] (.ref a :: st) h Q = mr_gf (h.1 a) 7 0 (fun v => mr_wp 27 19 [v0, v1] (v :: st) h Q)) ∧
    (∀ (v0 : Value) (x : Int32) (st : List Value) (h : mr_h) (Q : Option Value → mr_h → Prop), mr_wp 27 19 [v0, .int x] st h Q = mr_wp 27 20 [v0, .int x] (.int x :: st) h Q) ∧
    (∀ (v0 v1 : Value) (a : Nat) (x : Int32) (y : Int32) (st : List Value) (h : mr_h) (Q : Option Value → mr_h → Prop), mr_wp 27 20 [v0, v1] (.int y :: .int x :: .ref a :: st) h Q = mr_si (h.1 a) x y (fun c => mr_wp 27 21 [v0, v1] st (mr_up h a c) Q)) ∧
    (∀ (v1 : Value) (x : Nat) (st : List Value) (h : mr_h) (Q : Option Value → mr_h → Prop), mr_wp 27 21 [.ref x, v1] st h Q = mr_wp 27 22 [.ref x, v1] (.ref x :: st) h Q) ∧
    (∀ (v0 v1 : Value) (x : Nat) (st : List Value) (h : mr_h) (Q : Option Value → mr_h → Prop), mr_wp 27 22 [v0, v1] (.ref x :: st) h Q = mr_wp 27 23 [v0, v1] (.ref x :: .ref x :: st) h Q) ∧
    (∀ (v0 v1 : Value) (a : Nat) (st : List Value) (h : mr_h) (Q : Option Value → mr_h → Prop), mr_wp 27 23 [v0, v1] (.ref a :: st) h Q = mr_gf (h.1 a) 7 0 (fun v => mr_wp 27 26 [v0, v1] (v :: st) h Q)) ∧
    (∀ (v0 v1 : Value) (st : List Value) (h : mr_h) (Q : Option Value → mr_h → Prop), mr_wp 27 26 [v0, v1] st h Q = mr_wp 27 27 [v0, v1] (.int (1) :: st) h Q) ∧
    (∀ (v0 v1 : Value) (x : Int32) (y : Int32) (st : List Value) (h : mr_h) (Q : Option Value → mr_h → Prop), mr_wp 27 27 [v0, v1] (.int y :: .int x :: st) h Q = mr_wp 27 28 [v0, v1] (.int (x + y) :: st) h Q) ∧
    (∀ (v0 v1 : Value) (a : Nat) (x : Int32) (st : List Value) (h : mr_h) (Q : Option Value → mr_h → Prop), mr_wp 27 28 [v0, v1] (.int x :: .ref a :: st) h Q = mr_pf (h.1 a) 7 0 (.int x) (fun c => mr_wp 27 31 [v0, v1] st (mr_up h a c) Q)) ∧
    (∀ (v0 v1 : Value) (st : List Value) (h : mr_h) (Q : Option Value → mr_h → Prop), mr_wp 27 31 [v0, v1] st h Q = mr_wp 27 32 [v0, v1] (.int (1) :: st) h Q) ∧
    (∀ (v0 v1 : Value) (x : Int32) (h : mr_h) (Q : Option Value → mr_h → Prop) (hv : x &&& 1 = x), mr_wp 27 32 [v0, v1] [.int x] h Q = Q (some (.int x)) h) :=
  ⟨fun v1 x st h Q => gx_one (i := .aload_n 0) (len := 1) (by decide +kernel) rfl,
   fun v0 v1 a st h Q => gx_get (x := 9) (by decide +kernel) (by decide +kernel),
   fun v0 v1 st h Q => gx_one (i := .bipush 120) (len := 2) (by decide +kernel) rfl,
   fun v0 v1 x y st h Q => gx_br (i := .if_icmp .lt 5) (len := 3) (c := .lt) (by decide +kernel) rfl rfl,
   fun v0 v1 st h Q => gx_one (i := .iconst 0) (len := 1) (by decide +kernel) rfl,
   fun v0 v1 x h Q hv => gx_ret (i := .ireturn) (len := 1) (by decide +kernel) rfl rfl (by simp only [mr_rt, if_pos]; rw [if_pos (Or.inr ⟨by decide +kernel, hv⟩)]),
   fun v1 x st h Q => gx_one (i := .aload_n 0) (len := 1) (by decide +kernel) rfl,
   fun v0 v1 a st h Q => gx_get (x := 15) (by decide +kernel) (by decide +kernel),
   fun v1 x st h Q => gx_one (i := .aload_n 0) (len := 1) (by decide +kernel) rfl,
   fun v0 v1 a st h Q => gx_get (x := 9) (by decide +kernel) (by decide +kernel),
   fun v0 x st h Q => gx_one (i := .iload_n 1) (len := 1) (by decide +kernel) rfl,
   fun v0 v1 a x y st h Q => gx_iast (by decide +kernel),
   fun v1 x st h Q => gx_one (i := .aload_n 0) (len := 1) (by decide +kernel) rfl,
   fun v0 v1 x st h Q => gx_one (i := .dup) (len := 1) (by decide +kernel) rfl,
   fun v0 v1 a st h Q => gx_get (x := 9) (by decide +kernel) (by decide +kernel),
   fun v0 v1 st h Q => gx_one (i := .iconst 1) (len := 1) (by decide +kernel) rfl,
   fun v0 v1 x y st h Q => gx_one (i := .iadd) (len := 1) (by decide +kernel) rfl,
   fun v0 v1 a x st h Q => gx_put (x := 9) (by decide +kernel) (by decide +kernel) ⟨rfl, Or.inl rfl⟩,
   fun v0 v1 st h Q => gx_one (i := .iconst 1) (len := 1) (by decide +kernel) rfl,
   fun v0 v1 x h Q hv => gx_ret (i := .ireturn) (len := 1) (by decide +kernel) rfl rfl (by simp only [mr_rt, if_pos]; rw [if_pos (Or.inr ⟨by decide +kernel, hv⟩)])⟩
theorem S_rl_clear : (∀ (v1 : Value) (x : Nat) (st : List Value) (h : mr_h) (Q : Option Value → mr_h → Prop), mr_wp 28 0 [.ref x, v1] st h Q = mr_wp 28 1 [.ref x, v1] (.ref x :: st) h Q) ∧
    (∀ (v0 v1 : Value) (a : Nat) (st : List Value) (h : mr_h) (Q : Option Value → mr_h → Prop), mr_wp 28 1 [v0, v1] (.ref a :: st) h Q = mr_gf (h.1 a) 10 2 (fun v => mr_wp 28 4 [v0, v1] (v :: st) h Q)) ∧
    (∀ (v0 v1 : Value) (a : Nat) (st : List Value) (h : mr_h) (Q : Option Value → mr_h → Prop), mr_wp 28 4 [v0, v1] (.ref a :: st) h Q = mr_gf (h.1 a) 7 0 (fun v => mr_wp 28 7 [v0, v1] (v :: st) h Q)) ∧
    (∀ (v1 : Value) (w0 : Nat) (x : Int32) (st : List Value) (h : mr_h) (Q : Option Value → mr_h → Prop), mr_wp 28 7 [.ref w0, v1] (.int x :: st) h Q = mr_wp 28 8 [.ref w0, .int x] st h Q) ∧
    (∀ (v1 : Value) (x : Nat) (st : List Value) (h : mr_h) (Q : Option Value → mr_h → Prop), mr_wp 28 8 [.ref x, v1] st h Q = mr_wp 28 9 [.ref x, v1] (.ref x :: st) h Q) ∧
    (∀ (v0 v1 : Value) (a : Nat) (st : List Value) (h : mr_h) (Q : Option Value → mr_h → Prop), mr_wp 28 9 [v0, v1] (.ref a :: st) h Q = mr_gf (h.1 a) 10 2 (fun v => mr_wp 28 12 [v0, v1] (v :: st) h Q)) ∧
    (∀ (v0 v1 : Value) (st : List Value) (h : mr_h) (Q : Option Value → mr_h → Prop), mr_wp 28 12 [v0, v1] st h Q = mr_wp 28 13 [v0, v1] (.int (0) :: st) h Q) ∧
    (∀ (v0 v1 : Value) (a : Nat) (x : Int32) (st : List Value) (h : mr_h) (Q : Option Value → mr_h → Prop), mr_wp 28 13 [v0, v1] (.int x :: .ref a :: st) h Q = mr_pf (h.1 a) 7 0 (.int x) (fun c => mr_wp 28 16 [v0, v1] st (mr_up h a c) Q)) ∧
    (∀ (v0 : Value) (x : Int32) (st : List Value) (h : mr_h) (Q : Option Value → mr_h → Prop), mr_wp 28 16 [v0, .int x] st h Q = mr_wp 28 17 [v0, .int x] (.int x :: st) h Q) ∧
    (∀ (v0 v1 : Value) (x : Int32) (h : mr_h) (Q : Option Value → mr_h → Prop), mr_wp 28 17 [v0, v1] [.int x] h Q = Q (some (.int x)) h) :=
  ⟨fun v1 x st h Q => gx_one (i := .aload_n 0) (len := 1) (by decide +kernel) rfl,
   fun v0 v1 a st h Q => gx_get (x := 22) (by decide +kernel) (by decide +kernel),
   fun v0 v1 a st h Q => gx_get (x := 90) (by decide +kernel) (by decide +kernel),
   fun v1 w0 x st h Q => gx_one (i := .istore_n 1) (len := 1) (by decide +kernel) rfl,
   fun v1 x st h Q => gx_one (i := .aload_n 0) (len := 1) (by decide +kernel) rfl,
   fun v0 v1 a st h Q => gx_get (x := 22) (by decide +kernel) (by decide +kernel),
   fun v0 v1 st h Q => gx_one (i := .iconst 0) (len := 1) (by decide +kernel) rfl,
   fun v0 v1 a x st h Q => gx_put (x := 90) (by decide +kernel) (by decide +kernel) ⟨rfl, Or.inl rfl⟩,
   fun v0 x st h Q => gx_one (i := .iload_n 1) (len := 1) (by decide +kernel) rfl,
   fun v0 v1 x h Q => gx_ret (i := .ireturn) (len := 1) (by decide +kernel) rfl rfl (by simp only [mr_rt, if_pos]; rw [if_pos (Or.inl (by decide +kernel))])⟩
theorem S_rl_graph : (∀ (v1 : Value) (x : Nat) (st : List Value) (h : mr_h) (Q : Option Value → mr_h → Prop), mr_wp 29 0 [.ref x, v1] st h Q = mr_wp 29 1 [.ref x, v1] (.ref x :: st) h Q) ∧
    (∀ (v0 v1 : Value) (a : Nat) (st : List Value) (h : mr_h) (Q : Option Value → mr_h → Prop), mr_wp 29 1 [v0, v1] (.ref a :: st) h Q = mr_gf (h.1 a) 10 2 (fun v => mr_wp 29 4 [v0, v1] (v :: st) h Q)) ∧
    (∀ (v1 : Value) (x : Nat) (st : List Value) (h : mr_h) (Q : Option Value → mr_h → Prop), mr_wp 29 4 [.ref x, v1] st h Q = mr_wp 29 5 [.ref x, v1] (.ref x :: st) h Q) ∧
    (∀ (v0 v1 : Value) (a : Nat) (st : List Value) (h : mr_h) (Q : Option Value → mr_h → Prop), mr_wp 29 5 [v0, v1] (.ref a :: st) h Q = mr_gf (h.1 a) 10 1 (fun v => mr_wp 29 8 [v0, v1] (v :: st) h Q)) ∧
    (∀ (v0 v1 : Value) (a0 : Nat) (o : Nat) (h : mr_h) (Q : Option Value → mr_h → Prop), mr_wp 29 8 [v0, v1] [.ref a0, .ref o] h Q = mr_rc (h.1 o) 7 (mr_run 30 [.ref o, .ref a0] h (fun v h' => mr_wp 29 11 [v0, v1] (v.toList ++ []) h' Q))) ∧
    (∀ (v1 : Value) (w0 : Nat) (x : Int32) (st : List Value) (h : mr_h) (Q : Option Value → mr_h → Prop), mr_wp 29 11 [.ref w0, v1] (.int x :: st) h Q = mr_wp 29 12 [.ref w0, .int x] st h Q) ∧
    (∀ (v0 : Value) (x : Int32) (st : List Value) (h : mr_h) (Q : Option Value → mr_h → Prop), mr_wp 29 12 [v0, .int x] st h Q = mr_wp 29 13 [v0, .int x] (.int x :: st) h Q) ∧
    (∀ (v0 v1 : Value) (x : Int32) (st : List Value) (h : mr_h) (Q : Option Value → mr_h → Prop), mr_wp 29 13 [v0, v1] (.int x :: st) h Q = if 0 ≤ x then mr_wp 29 18 [v0, v1] st h Q else mr_wp 29 16 [v0, v1] st h Q) ∧
    (∀ (v0 : Value) (x : Int32) (st : List Value) (h : mr_h) (Q : Option Value → mr_h → Prop), mr_wp 29 16 [v0, .int x] st h Q = mr_wp 29 17 [v0, .int x] (.int x :: st) h Q) ∧
    (∀ (v0 v1 : Value) (x : Int32) (h : mr_h) (Q : Option Value → mr_h → Prop), mr_wp 29 17 [v0, v1] [.int x] h Q = Q (some (.int x)) h) ∧
    (∀ (v1 : Value) (x : Nat) (st : List Value) (h : mr_h) (Q : Option Value → mr_h → Prop), mr_wp 29 18 [.ref x, v1] st h Q = mr_wp 29 19 [.ref x, v1] (.ref x :: st) h Q) ∧
    (∀ (v0 v1 : Value) (a : Nat) (st : List Value) (h : mr_h) (Q : Option Value → mr_h → Prop), mr_wp 29 19 [v0, v1] (.ref a :: st) h Q = mr_gf (h.1 a) 10 0 (fun v => mr_wp 29 22 [v0, v1] (v :: st) h Q)) ∧
    (∀ (v1 : Value) (x : Nat) (st : List Value) (h : mr_h) (Q : Option Value → mr_h → Prop), mr_wp 29 22 [.ref x, v1] st h Q = mr_wp 29 23 [.ref x, v1] (.ref x :: st) h Q) ∧
    (∀ (v0 v1 : Value) (a : Nat) (st : List Value) (h : mr_h) (Q : Option Value → mr_h → Prop), mr_wp 29 23 [v0, v1] (.ref a :: st) h Q = mr_gf (h.1 a) 10 1 (fun v => mr_wp 29 26 [v0, v1] (v :: st) h Q)) ∧
    (∀ (v0 v1 : Value) (a0 : Nat) (o : Nat) (h : mr_h) (Q : Option Value → mr_h → Prop), mr_wp 29 26 [v0, v1] [.ref a0, .ref o] h Q = mr_rc (h.1 o) 3 (mr_run 41 [.ref o, .ref a0] h (fun v h' => mr_wp 29 29 [v0, v1] (v.toList ++ []) h' Q))) ∧
    (∀ (v1 : Value) (x : Nat) (st : List Value) (h : mr_h) (Q : Option Value → mr_h → Prop), mr_wp 29 29 [.ref x, v1] st h Q = mr_wp 29 30 [.ref x, v1] (.ref x :: st) h Q) ∧
    (∀ (v0 v1 : Value) (a : Nat) (st : List Value) (h : mr_h) (Q : Option Value → mr_h → Prop), mr_wp 29 30 [v0, v1] (.ref a :: st) h Q = mr_gf (h.1 a) 10 3 (fun v => mr_wp 29 33 [v0, v1] (v :: st) h Q)) ∧
    (∀ (v1 : Value) (x : Nat) (st : List Value) (h : mr_h) (Q : Option Value → mr_h → Prop), mr_wp 29 33 [.ref x, v1] st h Q = mr_wp 29 34 [.ref x, v1] (.ref x :: st) h Q) ∧
    (∀ (v0 v1 : Value) (a : Nat) (st : List Value) (h : mr_h) (Q : Option Value → mr_h → Prop), mr_wp 29 34 [v0, v1] (.ref a :: st) h Q = mr_gf (h.1 a) 10 0 (fun v => mr_wp 29 37 [v0, v1] (v :: st) h Q)) ∧
    (∀ (v0 v1 : Value) (a0 : Nat) (o : Nat) (h : mr_h) (Q : Option Value → mr_h → Prop), mr_wp 29 37 [v0, v1] [.ref a0, .ref o] h Q = mr_rc (h.1 o) 6 (mr_run 14 [.ref o, .ref a0] h (fun v h' => mr_wp 29 40 [v0, v1] (v.toList ++ []) h' Q))) ∧
    (∀ (v1 : Value) (x : Nat) (st : List Value) (h : mr_h) (Q : Option Value → mr_h → Prop), mr_wp 29 40 [.ref x, v1] st h Q = mr_wp 29 41 [.ref x, v1] (.ref x :: st) h Q) ∧
    (∀ (v0 v1 : Value) (a : Nat) (st : List Value) (h : mr_h) (Q : Option Value → mr_h → Prop), mr_wp 29 41 [v0, v1] (.ref a :: st) h Q = mr_gf (h.1 a) 10 2 (fun v => mr_wp 29 44 [v0, v1] (v :: st) h Q)) ∧
    (∀ (v0 v1 : Value) (st : List Value) (h : mr_h) (Q : Option Value → mr_h → Prop), mr_wp 29 44 [v0, v1] st h Q = mr_wp 29 45 [v0, v1] (.int (0) :: st) h Q) ∧
    (∀ (v0 v1 : Value) (a : Nat) (x : Int32) (st : List Value) (h : mr_h) (Q : Option Value → mr_h → Prop), mr_wp 29 45 [v0, v1] (.int x :: .ref a :: st) h Q = mr_pf (h.1 a) 7 0 (.int x) (fun c => mr_wp 29 48 [v0, v1] st (mr_up h a c) Q)) ∧
    (∀ (v1 : Value) (x : Nat) (st : List Value) (h : mr_h) (Q : Option Value → mr_h → Prop), mr_wp 29 48 [.ref x, v1] st h Q = mr_wp 29 49 [.ref x, v1] (.ref x :: st) h Q) ∧
    (∀ (v0 v1 : Value) (a : Nat) (st : List Value) (h : mr_h) (Q : Option Value → mr_h → Prop), mr_wp 29 49 [v0, v1] (.ref a :: st) h Q = mr_gf (h.1 a) 10 8 (fun v => mr_wp 29 52 [v0, v1] (v :: st) h Q)) ∧
    (∀ (v0 v1 : Value) (st : List Value) (h : mr_h) (Q : Option Value → mr_h → Prop), mr_wp 29 52 [v0, v1] st h Q = mr_wp 29 53 [v0, v1] (.int (0) :: st) h Q) ∧
    (∀ (v0 v1 : Value) (a : Nat) (x : Int32) (st : List Value) (h : mr_h) (Q : Option Value → mr_h → Prop), mr_wp 29 53 [v0, v1] (.int x :: .ref a :: st) h Q = mr_pf (h.1 a) 8 0 (.int x) (fun c => mr_wp 29 56 [v0, v1] st (mr_up h a c) Q)) ∧
    (∀ (v1 : Value) (x : Nat) (st : List Value) (h : mr_h) (Q : Option Value → mr_h → Prop), mr_wp 29 56 [.ref x, v1] st h Q = mr_wp 29 57 [.ref x, v1] (.ref x :: st) h Q) ∧
    (∀ (v0 v1 : Value) (a : Nat) (st : List Value) (h : mr_h) (Q : Option Value → mr_h → Prop), mr_wp 29 57 [v0, v1] (.ref a :: st) h Q = mr_gf (h.1 a) 10 9 (fun v => mr_wp 29 60 [v0, v1] (v :: st) h Q)) ∧
    (∀ (v0 v1 : Value) (st : List Value) (h : mr_h) (Q : Option Value → mr_h → Prop), mr_wp 29 60 [v0, v1] st h Q = mr_wp 29 61 [v0, v1] (.int (0) :: st) h Q) ∧
    (∀ (v0 v1 : Value) (a : Nat) (x : Int32) (st : List Value) (h : mr_h) (Q : Option Value → mr_h → Prop), mr_wp 29 61 [v0, v1] (.int x :: .ref a :: st) h Q = mr_pf (h.1 a) 4 0 (.int x) (fun c => mr_wp 29 64 [v0, v1] st (mr_up h a c) Q)) ∧
    (∀ (v1 : Value) (x : Nat) (st : List Value) (h : mr_h) (Q : Option Value → mr_h → Prop), mr_wp 29 64 [.ref x, v1] st h Q = mr_wp 29 65 [.ref x, v1] (.ref x :: st) h Q) ∧
    (∀ (v0 v1 : Value) (a : Nat) (st : List Value) (h : mr_h) (Q : Option Value → mr_h → Prop), mr_wp 29 65 [v0, v1] (.ref a :: st) h Q = mr_gf (h.1 a) 10 10 (fun v => mr_wp 29 68 [v0, v1] (v :: st) h Q)) ∧
    (∀ (v0 v1 : Value) (o : Nat) (h : mr_h) (Q : Option Value → mr_h → Prop), mr_wp 29 68 [v0, v1] [.ref o] h Q = mr_rc (h.1 o) 0 (mr_run 42 [.ref o] h (fun v h' => mr_wp 29 71 [v0, v1] (v.toList ++ []) h' Q))) ∧
    (∀ (v0 : Value) (x : Int32) (st : List Value) (h : mr_h) (Q : Option Value → mr_h → Prop), mr_wp 29 71 [v0, .int x] st h Q = mr_wp 29 72 [v0, .int x] (.int x :: st) h Q) ∧
    (∀ (v0 v1 : Value) (x : Int32) (h : mr_h) (Q : Option Value → mr_h → Prop), mr_wp 29 72 [v0, v1] [.int x] h Q = Q (some (.int x)) h) :=
  ⟨fun v1 x st h Q => gx_one (i := .aload_n 0) (len := 1) (by decide +kernel) rfl,
   fun v0 v1 a st h Q => gx_get (x := 22) (by decide +kernel) (by decide +kernel),
   fun v1 x st h Q => gx_one (i := .aload_n 0) (len := 1) (by decide +kernel) rfl,
   fun v0 v1 a st h Q => gx_get (x := 16) (by decide +kernel) (by decide +kernel),
   fun v0 v1 a0 o h Q => gx_virt (x := 94) (n := 1) (by decide +kernel) (by decide +kernel) rfl (Or.inl (Nat.le_of_ble_eq_true rfl)) (by show _ ≤ mr_mxl 30; rw [show mr_mxl 30 = 3 from by decide +kernel]; exact Nat.le_of_ble_eq_true rfl) (by decide +kernel),
   fun v1 w0 x st h Q => gx_one (i := .istore_n 1) (len := 1) (by decide +kernel) rfl,
   fun v0 x st h Q => gx_one (i := .iload_n 1) (len := 1) (by decide +kernel) rfl,
   fun v0 v1 x st h Q => gx_br (i := .ifCond .ge 5) (len := 3) (c := .ge) (by decide +kernel) rfl rfl,
   fun v0 x st h Q => gx_one (i := .iload_n 1) (len := 1) (by decide +kernel) rfl,
   fun v0 v1 x h Q => gx_ret (i := .ireturn) (len := 1) (by decide +kernel) rfl rfl (by simp only [mr_rt, if_pos]; rw [if_pos (Or.inl (by decide +kernel))]),
   fun v1 x st h Q => gx_one (i := .aload_n 0) (len := 1) (by decide +kernel) rfl,
   fun v0 v1 a st h Q => gx_get (x := 10) (by decide +kernel) (by decide +kernel),
   fun v1 x st h Q => gx_one (i := .aload_n 0) (len := 1) (by decide +kernel) rfl,
   fun v0 v1 a st h Q => gx_get (x := 16) (by decide +kernel) (by decide +kernel),
   fun v0 v1 a0 o h Q => gx_virt (x := 98) (n := 1) (by decide +kernel) (by decide +kernel) rfl (Or.inl (Nat.le_of_ble_eq_true rfl)) (by show _ ≤ mr_mxl 41; rw [show mr_mxl 41 = 2 from by decide +kernel]; exact Nat.le_of_ble_eq_true rfl) (by decide +kernel),
   fun v1 x st h Q => gx_one (i := .aload_n 0) (len := 1) (by decide +kernel) rfl,
   fun v0 v1 a st h Q => gx_get (x := 29) (by decide +kernel) (by decide +kernel),
   fun v1 x st h Q => gx_one (i := .aload_n 0) (len := 1) (by decide +kernel) rfl,
   fun v0 v1 a st h Q => gx_get (x := 10) (by decide +kernel) (by decide +kernel),
   fun v0 v1 a0 o h Q => gx_virt (x := 82) (n := 1) (by decide +kernel) (by decide +kernel) rfl (Or.inl (Nat.le_of_ble_eq_true rfl)) (by show _ ≤ mr_mxl 14; rw [show mr_mxl 14 = 2 from by decide +kernel]; exact Nat.le_of_ble_eq_true rfl) (by decide +kernel),
   fun v1 x st h Q => gx_one (i := .aload_n 0) (len := 1) (by decide +kernel) rfl,
   fun v0 v1 a st h Q => gx_get (x := 22) (by decide +kernel) (by decide +kernel),
   fun v0 v1 st h Q => gx_one (i := .iconst 0) (len := 1) (by decide +kernel) rfl,
   fun v0 v1 a x st h Q => gx_put (x := 90) (by decide +kernel) (by decide +kernel) ⟨rfl, Or.inl rfl⟩,
   fun v1 x st h Q => gx_one (i := .aload_n 0) (len := 1) (by decide +kernel) rfl,
   fun v0 v1 a st h Q => gx_get (x := 64) (by decide +kernel) (by decide +kernel),
   fun v0 v1 st h Q => gx_one (i := .iconst 0) (len := 1) (by decide +kernel) rfl,
   fun v0 v1 a x st h Q => gx_put (x := 101) (by decide +kernel) (by decide +kernel) ⟨rfl, Or.inl rfl⟩,
   fun v1 x st h Q => gx_one (i := .aload_n 0) (len := 1) (by decide +kernel) rfl,
   fun v0 v1 a st h Q => gx_get (x := 71) (by decide +kernel) (by decide +kernel),
   fun v0 v1 st h Q => gx_one (i := .iconst 0) (len := 1) (by decide +kernel) rfl,
   fun v0 v1 a x st h Q => gx_put (x := 104) (by decide +kernel) (by decide +kernel) ⟨rfl, Or.inl rfl⟩,
   fun v1 x st h Q => gx_one (i := .aload_n 0) (len := 1) (by decide +kernel) rfl,
   fun v0 v1 a st h Q => gx_get (x := 78) (by decide +kernel) (by decide +kernel),
   fun v0 v1 o h Q => gx_virt (x := 105) (n := 0) (by decide +kernel) (by decide +kernel) rfl (Or.inl (Nat.le_of_ble_eq_true rfl)) (by show _ ≤ mr_mxl 42; rw [show mr_mxl 42 = 2 from by decide +kernel]; exact Nat.le_of_ble_eq_true rfl) (by decide +kernel),
   fun v0 x st h Q => gx_one (i := .iload_n 1) (len := 1) (by decide +kernel) rfl,
   fun v0 v1 x h Q => gx_ret (i := .ireturn) (len := 1) (by decide +kernel) rfl rfl (by simp only [mr_rt, if_pos]; rw [if_pos (Or.inl (by decide +kernel))])⟩
theorem s_sc_readInto_20 (v1 v2 : Value) (x : Nat) (st : List Value) (h : mr_h) (Q : Option Value → mr_h → Prop) : mr_wp 30 20 [.ref x, v1, v2] st h Q = mr_wp 30 21 [.ref x, v1, v2] (.ref x :: st) h Q := gx_one (i := .aload_n 0) (len := 1) (by decide +kernel) rfl
theorem S_sc_readInto_0 : (∀ (v0 v2 : Value) (x : Nat) (st : List Value) (h : mr_h) (Q : Option Value → mr_h → Prop), mr_wp 30 0 [v0, .ref x, v2] st h Q = mr_wp 30 1 [v0, .ref x, v2] (.ref x :: st) h Q) ∧
    (∀ (v0 v1 v2 : Value) (o : Nat) (h : mr_h) (Q : Option Value → mr_h → Prop), mr_wp 30 1 [v0, v1, v2] [.ref o] h Q = mr_rc (h.1 o) 3 (mr_run 2 [.ref o] h (fun v h' => mr_wp 30 4 [v0, v1, v2] (v.toList ++ []) h' Q))) ∧
    (∀ (v1 v2 : Value) (x : Nat) (st : List Value) (h : mr_h) (Q : Option Value → mr_h → Prop), mr_wp 30 4 [.ref x, v1, v2] st h Q = mr_wp 30 5 [.ref x, v1, v2] (.ref x :: st) h Q) ∧
    (∀ (v0 v1 v2 : Value) (st : List Value) (h : mr_h) (Q : Option Value → mr_h → Prop), mr_wp 30 5 [v0, v1, v2] st h Q = mr_wp 30 6 [v0, v1, v2] (.int (0) :: st) h Q) ∧
    (∀ (v0 v1 v2 : Value) (a : Nat) (x : Int32) (st : List Value) (h : mr_h) (Q : Option Value → mr_h → Prop), mr_wp 30 6 [v0, v1, v2] (.int x :: .ref a :: st) h Q = mr_pf (h.1 a) 7 6 (.int x) (fun c => mr_wp 30 9 [v0, v1, v2] st (mr_up h a c) Q)) ∧
    (∀ (v1 v2 : Value) (x : Nat) (st : List Value) (h : mr_h) (Q : Option Value → mr_h → Prop), mr_wp 30 9 [.ref x, v1, v2] st h Q = mr_wp 30 10 [.ref x, v1, v2] (.ref x :: st) h Q) ∧
    (∀ (v0 v1 v2 : Value) (st : List Value) (h : mr_h) (Q : Option Value → mr_h → Prop), mr_wp 30 10 [v0, v1, v2] st h Q = mr_wp 30 11 [v0, v1, v2] (.int (0) :: st) h Q) ∧
    (∀ (v0 v1 v2 : Value) (a : Nat) (x : Int32) (st : List Value) (h : mr_h) (Q : Option Value → mr_h → Prop), mr_wp 30 11 [v0, v1, v2] (.int x :: .ref a :: st) h Q = mr_pf (h.1 a) 7 2 (.int x) (fun c => mr_wp 30 14 [v0, v1, v2] st (mr_up h a c) Q)) ∧
    (∀ (v0 v1 v2 : Value) (st : List Value) (h : mr_h) (Q : Option Value → mr_h → Prop), mr_wp 30 14 [v0, v1, v2] st h Q = mr_wp 30 15 [v0, v1, v2] (.int (0) :: st) h Q) ∧
    (∀ (v0 v2 : Value) (w1 : Nat) (x : Int32) (st : List Value) (h : mr_h) (Q : Option Value → mr_h → Prop), mr_wp 30 15 [v0, .ref w1, v2] (.int x :: st) h Q = mr_wp 30 16 [v0, .ref w1, .int x] st h Q) ∧
    (∀ (v1 v2 : Value) (x : Nat) (st : List Value) (h : mr_h) (Q : Option Value → mr_h → Prop), mr_wp 30 16 [.ref x, v1, v2] st h Q = mr_wp 30 17 [.ref x, v1, v2] (.ref x :: st) h Q) ∧
    (∀ (v0 v1 v2 : Value) (o : Nat) (h : mr_h) (Q : Option Value → mr_h → Prop), mr_wp 30 17 [v0, v1, v2] [.ref o] h Q = mr_rc (h.1 o) 7 (mr_run 31 [.ref o] h (fun v h' => mr_wp 30 20 [v0, v1, v2] (v.toList ++ []) h' Q))) ∧
    (∀ (v0 v1 v2 : Value) (a : Nat) (st : List Value) (h : mr_h) (Q : Option Value → mr_h → Prop), mr_wp 30 21 [v0, v1, v2] (.ref a :: st) h Q = mr_gf (h.1 a) 7 4 (fun v => mr_wp 30 24 [v0, v1, v2] (v :: st) h Q)) ∧
    (∀ (v0 v1 v2 : Value) (st : List Value) (h : mr_h) (Q : Option Value → mr_h → Prop), mr_wp 30 24 [v0, v1, v2] st h Q = mr_wp 30 26 [v0, v1, v2] (.int (-2) :: st) h Q) ∧
    (∀ (v0 v1 v2 : Value) (x : Int32) (y : Int32) (st : List Value) (h : mr_h) (Q : Option Value → mr_h → Prop), mr_wp 30 26 [v0, v1, v2] (.int y :: .int x :: st) h Q = if x = y then mr_wp 30 70 [v0, v1, v2] st h Q else mr_wp 30 29 [v0, v1, v2] st h Q) ∧
    (∀ (v0 v1 : Value) (x : Int32) (st : List Value) (h : mr_h) (Q : Option Value → mr_h → Prop), mr_wp 30 29 [v0, v1, .int x] st h Q = mr_wp 30 30 [v0, v1, .int x] (.int x :: st) h Q) ∧
    (∀ (v0 v1 v2 : Value) (st : List Value) (h : mr_h) (Q : Option Value → mr_h → Prop), mr_wp 30 30 [v0, v1, v2] st h Q = mr_wp 30 32 [v0, v1, v2] (.int (120) :: st) h Q) ∧
    (∀ (v0 v1 v2 : Value) (x : Int32) (y : Int32) (st : List Value) (h : mr_h) (Q : Option Value → mr_h → Prop), mr_wp 30 32 [v0, v1, v2] (.int y :: .int x :: st) h Q = if y ≤ x then mr_wp 30 70 [v0, v1, v2] st h Q else mr_wp 30 35 [v0, v1, v2] st h Q) ∧
    (∀ (v1 v2 : Value) (x : Nat) (st : List Value) (h : mr_h) (Q : Option Value → mr_h → Prop), mr_wp 30 35 [.ref x, v1, v2] st h Q = mr_wp 30 36 [.ref x, v1, v2] (.ref x :: st) h Q) ∧
    (∀ (v0 v2 : Value) (x : Nat) (st : List Value) (h : mr_h) (Q : Option Value → mr_h → Prop), mr_wp 30 36 [v0, .ref x, v2] st h Q = mr_wp 30 37 [v0, .ref x, v2] (.ref x :: st) h Q) ∧
    (∀ (v0 v1 : Value) (x : Int32) (st : List Value) (h : mr_h) (Q : Option Value → mr_h → Prop), mr_wp 30 37 [v0, v1, .int x] st h Q = mr_wp 30 38 [v0, v1, .int x] (.int x :: st) h Q) ∧
    (∀ (v0 v1 v2 : Value) (x : Int32) (st : List Value) (h : mr_h) (Q : Option Value → mr_h → Prop), mr_wp 30 38 [v0, v1, v2] (.int x :: st) h Q = if ¬ x = 0 then mr_wp 30 45 [v0, v1, v2] st h Q else mr_wp 30 41 [v0, v1, v2] st h Q) ∧
    (∀ (v0 v1 v2 : Value) (st : List Value) (h : mr_h) (Q : Option Value → mr_h → Prop), mr_wp 30 41 [v0, v1, v2] st h Q = mr_wp 30 42 [v0, v1, v2] (.int (1) :: st) h Q) ∧
    (∀ (v0 v1 v2 : Value) (st : List Value) (h : mr_h) (Q : Option Value → mr_h → Prop), mr_wp 30 42 [v0, v1, v2] st h Q = mr_wp 30 46 [v0, v1, v2] st h Q) ∧
    (∀ (v0 v1 v2 : Value) (st : List Value) (h : mr_h) (Q : Option Value → mr_h → Prop), mr_wp 30 45 [v0, v1, v2] st h Q = mr_wp 30 46 [v0, v1, v2] (.int (0) :: st) h Q) ∧
    (∀ (v0 v1 v2 : Value) (a0 : Nat) (a1 : Int32) (o : Nat) (h : mr_h) (Q : Option Value → mr_h → Prop), mr_wp 30 46 [v0, v1, v2] [.int a1, .ref a0, .ref o] h Q = mr_rc (h.1 o) 7 (mr_run 34 [.ref o, .ref a0, .int a1] h (fun v h' => mr_wp 30 49 [v0, v1, v2] (v.toList ++ []) h' Q))) ∧
    (∀ (v0 v1 v2 : Value) (x : Int32) (st : List Value) (h : mr_h) (Q : Option Value → mr_h → Prop), mr_wp 30 49 [v0, v1, v2] (.int x :: st) h Q = if ¬ x = 0 then mr_wp 30 60 [v0, v1, v2] st h Q else mr_wp 30 52 [v0, v1, v2] st h Q) ∧
    (∀ (v0 v1 v2 : Value) (st : List Value) (h : mr_h) (Q : Option Value → mr_h → Prop), mr_wp 30 52 [v0, v1, v2] st h Q = mr_wp 30 54 [v0, v1, v2] (.int (-10) :: st) h Q) ∧
    (∀ (v1 v2 : Value) (x : Nat) (st : List Value) (h : mr_h) (Q : Option Value → mr_h → Prop), mr_wp 30 54 [.ref x, v1, v2] st h Q = mr_wp 30 55 [.ref x, v1, v2] (.ref x :: st) h Q) ∧
    (∀ (v0 v1 v2 : Value) (a : Nat) (st : List Value) (h : mr_h) (Q : Option Value → mr_h → Prop), mr_wp 30 55 [v0, v1, v2] (.ref a :: st) h Q = mr_gf (h.1 a) 7 3 (fun v => mr_wp 30 58 [v0, v1, v2] (v :: st) h Q)) ∧
    (∀ (v0 v1 v2 : Value) (x : Int32) (y : Int32) (st : List Value) (h : mr_h) (Q : Option Value → mr_h → Prop), mr_wp 30 58 [v0, v1, v2] (.int y :: .int x :: st) h Q = mr_wp 30 59 [v0, v1, v2] (.int (x - y) :: st) h Q) ∧
    (∀ (v0 v1 v2 : Value) (x : Int32) (h : mr_h) (Q : Option Value → mr_h → Prop), mr_wp 30 59 [v0, v1, v2] [.int x] h Q = Q (some (.int x)) h) ∧
    (∀ (v0 : Value) (x : Int32) (w1 : Nat) (st : List Value) (h : mr_h) (Q : Option Value → mr_h → Prop), mr_wp 30 60 [v0, .ref w1, .int x] st h Q = mr_wp 30 63 [v0, .ref w1, .int (x + (1))] st h Q) ∧
    (∀ (v1 v2 : Value) (x : Nat) (st : List Value) (h : mr_h) (Q : Option Value → mr_h → Prop), mr_wp 30 63 [.ref x, v1, v2] st h Q = mr_wp 30 64 [.ref x, v1, v2] (.ref x :: st) h Q) ∧
    (∀ (v0 v1 v2 : Value) (o : Nat) (h : mr_h) (Q : Option Value → mr_h → Prop), mr_wp 30 64 [v0, v1, v2] [.ref o] h Q = mr_rc (h.1 o) 7 (mr_run 31 [.ref o] h (fun v h' => mr_wp 30 67 [v0, v1, v2] (v.toList ++ []) h' Q))) ∧
    (∀ (v0 v1 v2 : Value) (st : List Value) (h : mr_h) (Q : Option Value → mr_h → Prop), mr_wp 30 67 [v0, v1, v2] st h Q = mr_wp 30 20 [v0, v1, v2] st h Q) ∧
    (∀ (v0 v2 : Value) (x : Nat) (st : List Value) (h : mr_h) (Q : Option Value → mr_h → Prop), mr_wp 30 70 [v0, .ref x, v2] st h Q = mr_wp 30 71 [v0, .ref x, v2] (.ref x :: st) h Q) ∧
    (∀ (v1 v2 : Value) (x : Nat) (st : List Value) (h : mr_h) (Q : Option Value → mr_h → Prop), mr_wp 30 71 [.ref x, v1, v2] st h Q = mr_wp 30 72 [.ref x, v1, v2] (.ref x :: st) h Q) ∧
    (∀ (v0 v1 v2 : Value) (a : Nat) (st : List Value) (h : mr_h) (Q : Option Value → mr_h → Prop), mr_wp 30 72 [v0, v1, v2] (.ref a :: st) h Q = mr_gf (h.1 a) 7 6 (fun v => mr_wp 30 75 [v0, v1, v2] (v :: st) h Q)) ∧
    (∀ (v0 v1 v2 : Value) (a0 : Int32) (o : Nat) (h : mr_h) (Q : Option Value → mr_h → Prop), mr_wp 30 75 [v0, v1, v2] [.int a0, .ref o] h Q = mr_rc (h.1 o) 3 (mr_run 3 [.ref o, .int a0] h (fun v h' => mr_wp 30 78 [v0, v1, v2] (v.toList ++ []) h' Q))) :=
  ⟨fun v0 v2 x st h Q => gx_one (i := .aload_n 1) (len := 1) (by decide +kernel) rfl,
   fun v0 v1 v2 o h Q => gx_virt (x := 34) (n := 0) (by decide +kernel) (by decide +kernel) rfl (Or.inl (Nat.le_of_ble_eq_true rfl)) (by show _ ≤ mr_mxl 2; rw [show mr_mxl 2 = 2 from by decide +kernel]; exact Nat.le_of_ble_eq_true rfl) (by decide +kernel),
   fun v1 v2 x st h Q => gx_one (i := .aload_n 0) (len := 1) (by decide +kernel) rfl,
   fun v0 v1 v2 st h Q => gx_one (i := .iconst 0) (len := 1) (by decide +kernel) rfl,
   fun v0 v1 v2 a x st h Q => gx_put (x := 31) (by decide +kernel) (by decide +kernel) ⟨rfl, Or.inl rfl⟩,
   fun v1 v2 x st h Q => gx_one (i := .aload_n 0) (len := 1) (by decide +kernel) rfl,
   fun v0 v1 v2 st h Q => gx_one (i := .iconst 0) (len := 1) (by decide +kernel) rfl,
   fun v0 v1 v2 a x st h Q => gx_put (x := 19) (by decide +kernel) (by decide +kernel) ⟨rfl, Or.inl rfl⟩,
   fun v0 v1 v2 st h Q => gx_one (i := .iconst 0) (len := 1) (by decide +kernel) rfl,
   fun v0 v2 w1 x st h Q => gx_one (i := .istore_n 2) (len := 1) (by decide +kernel) rfl,
   fun v1 v2 x st h Q => gx_one (i := .aload_n 0) (len := 1) (by decide +kernel) rfl,
   fun v0 v1 v2 o h Q => gx_virt (x := 39) (n := 0) (by decide +kernel) (by decide +kernel) rfl (Or.inl (Nat.le_of_ble_eq_true rfl)) (by show _ ≤ mr_mxl 31; rw [show mr_mxl 31 = 3 from by decide +kernel]; exact Nat.le_of_ble_eq_true rfl) (by decide +kernel),
   fun v0 v1 v2 a st h Q => gx_get (x := 25) (by decide +kernel) (by decide +kernel),
   fun v0 v1 v2 st h Q => gx_one (i := .bipush (-2)) (len := 2) (by decide +kernel) rfl,
   fun v0 v1 v2 x y st h Q => gx_br (i := .if_icmp .eq 44) (len := 3) (c := .eq) (by decide +kernel) rfl rfl,
   fun v0 v1 x st h Q => gx_one (i := .iload_n 2) (len := 1) (by decide +kernel) rfl,
   fun v0 v1 v2 st h Q => gx_one (i := .bipush 120) (len := 2) (by decide +kernel) rfl,
   fun v0 v1 v2 x y st h Q => gx_br (i := .if_icmp .ge 38) (len := 3) (c := .ge) (by decide +kernel) rfl rfl,
   fun v1 v2 x st h Q => gx_one (i := .aload_n 0) (len := 1) (by decide +kernel) rfl,
   fun v0 v2 x st h Q => gx_one (i := .aload_n 1) (len := 1) (by decide +kernel) rfl,
   fun v0 v1 x st h Q => gx_one (i := .iload_n 2) (len := 1) (by decide +kernel) rfl,
   fun v0 v1 v2 x st h Q => gx_br (i := .ifCond .ne 7) (len := 3) (c := .ne) (by decide +kernel) rfl rfl,
   fun v0 v1 v2 st h Q => gx_one (i := .iconst 1) (len := 1) (by decide +kernel) rfl,
   fun v0 v1 v2 st h Q => gx_one (i := .goto 4) (len := 3) (by decide +kernel) rfl,
   fun v0 v1 v2 st h Q => gx_one (i := .iconst 0) (len := 1) (by decide +kernel) rfl,
   fun v0 v1 v2 a0 a1 o h Q => gx_virt (x := 42) (n := 2) (by decide +kernel) (by decide +kernel) rfl (Or.inl (Nat.le_of_ble_eq_true rfl)) (by show _ ≤ mr_mxl 34; rw [show mr_mxl 34 = 4 from by decide +kernel]; exact Nat.le_of_ble_eq_true rfl) (by decide +kernel),
   fun v0 v1 v2 x st h Q => gx_br (i := .ifCond .ne 11) (len := 3) (c := .ne) (by decide +kernel) rfl rfl,
   fun v0 v1 v2 st h Q => gx_one (i := .bipush (-10)) (len := 2) (by decide +kernel) rfl,
   fun v1 v2 x st h Q => gx_one (i := .aload_n 0) (len := 1) (by decide +kernel) rfl,
   fun v0 v1 v2 a st h Q => gx_get (x := 22) (by decide +kernel) (by decide +kernel),
   fun v0 v1 v2 x y st h Q => gx_one (i := .isub) (len := 1) (by decide +kernel) rfl,
   fun v0 v1 v2 x h Q => gx_ret (i := .ireturn) (len := 1) (by decide +kernel) rfl rfl (by simp only [mr_rt, if_pos]; rw [if_pos (Or.inl (by decide +kernel))]),
   fun v0 x w1 st h Q => gx_one (i := .iinc 2 1) (len := 3) (by decide +kernel) rfl,
   fun v1 v2 x st h Q => gx_one (i := .aload_n 0) (len := 1) (by decide +kernel) rfl,
   fun v0 v1 v2 o h Q => gx_virt (x := 39) (n := 0) (by decide +kernel) (by decide +kernel) rfl (Or.inl (Nat.le_of_ble_eq_true rfl)) (by show _ ≤ mr_mxl 31; rw [show mr_mxl 31 = 3 from by decide +kernel]; exact Nat.le_of_ble_eq_true rfl) (by decide +kernel),
   fun v0 v1 v2 st h Q => gx_one (i := .goto (-47)) (len := 3) (by decide +kernel) rfl,
   fun v0 v2 x st h Q => gx_one (i := .aload_n 1) (len := 1) (by decide +kernel) rfl,
   fun v1 v2 x st h Q => gx_one (i := .aload_n 0) (len := 1) (by decide +kernel) rfl,
   fun v0 v1 v2 a st h Q => gx_get (x := 31) (by decide +kernel) (by decide +kernel),
   fun v0 v1 v2 a0 o h Q => gx_virt (x := 46) (n := 1) (by decide +kernel) (by decide +kernel) rfl (Or.inl (Nat.le_of_ble_eq_true rfl)) (by show _ ≤ mr_mxl 3; rw [show mr_mxl 3 = 4 from by decide +kernel]; exact Nat.le_of_ble_eq_true rfl) (by decide +kernel)⟩
theorem S_sc_readInto_1 : (∀ (v0 v1 : Value) (x : Int32) (st : List Value) (h : mr_h) (Q : Option Value → mr_h → Prop), mr_wp 30 78 [v0, v1, .int x] st h Q = mr_wp 30 79 [v0, v1, .int x] (.int x :: st) h Q) ∧
    (∀ (v0 v1 v2 : Value) (x : Int32) (h : mr_h) (Q : Option Value → mr_h → Prop), mr_wp 30 79 [v0, v1, v2] [.int x] h Q = Q (some (.int x)) h) :=
  ⟨fun v0 v1 x st h Q => gx_one (i := .iload_n 2) (len := 1) (by decide +kernel) rfl,
   fun v0 v1 v2 x h Q => gx_ret (i := .ireturn) (len := 1) (by decide +kernel) rfl rfl (by simp only [mr_rt, if_pos]; rw [if_pos (Or.inl (by decide +kernel))])⟩

theorem s_sc_readToken_0 (v1 v2 : Value) (x : Nat) (st : List Value) (h : mr_h) (Q : Option Value → mr_h → Prop) : mr_wp 31 0 [.ref x, v1, v2] st h Q = mr_wp 31 1 [.ref x, v1, v2] (.ref x :: st) h Q := gx_one (i := .aload_n 0) (len := 1) (by decide +kernel) rfl
theorem s_sc_readToken_116 (v1 v2 : Value) (x : Nat) (st : List Value) (h : mr_h) (Q : Option Value → mr_h → Prop) : mr_wp 31 116 [.ref x, v1, v2] st h Q = mr_wp 31 117 [.ref x, v1, v2] (.ref x :: st) h Q := gx_one (i := .aload_n 0) (len := 1) (by decide +kernel) rfl
theorem S_sc_readToken_0 : (∀ (v0 v1 v2 : Value) (a : Nat) (st : List Value) (h : mr_h) (Q : Option Value → mr_h → Prop), mr_wp 31 1 [v0, v1, v2] (.ref a :: st) h Q = mr_gf (h.1 a) 7 2 (fun v => mr_wp 31 4 [v0, v1, v2] (v :: st) h Q)) ∧
    (∀ (v1 v2 : Value) (x : Nat) (st : List Value) (h : mr_h) (Q : Option Value → mr_h → Prop), mr_wp 31 4 [.ref x, v1, v2] st h Q = mr_wp 31 5 [.ref x, v1, v2] (.ref x :: st) h Q) ∧
    (∀ (v0 v1 v2 : Value) (a : Nat) (st : List Value) (h : mr_h) (Q : Option Value → mr_h → Prop), mr_wp 31 5 [v0, v1, v2] (.ref a :: st) h Q = mr_gf (h.1 a) 7 0 (fun v => mr_wp 31 8 [v0, v1, v2] (v :: st) h Q)) ∧
    (∀ (v0 v1 v2 : Value) (x : Int32) (y : Int32) (st : List Value) (h : mr_h) (Q : Option Value → mr_h → Prop), mr_wp 31 8 [v0, v1, v2] (.int y :: .int x :: st) h Q = if y ≤ x then mr_wp 31 38 [v0, v1, v2] st h Q else mr_wp 31 11 [v0, v1, v2] st h Q) ∧
    (∀ (v1 v2 : Value) (x : Nat) (st : List Value) (h : mr_h) (Q : Option Value → mr_h → Prop), mr_wp 31 11 [.ref x, v1, v2] st h Q = mr_wp 31 12 [.ref x, v1, v2] (.ref x :: st) h Q) ∧
    (∀ (v0 v1 v2 : Value) (a : Nat) (st : List Value) (h : mr_h) (Q : Option Value → mr_h → Prop), mr_wp 31 12 [v0, v1, v2] (.ref a :: st) h Q = mr_gf (h.1 a) 7 1 (fun v => mr_wp 31 15 [v0, v1, v2] (v :: st) h Q)) ∧
    (∀ (v1 v2 : Value) (x : Nat) (st : List Value) (h : mr_h) (Q : Option Value → mr_h → Prop), mr_wp 31 15 [.ref x, v1, v2] st h Q = mr_wp 31 16 [.ref x, v1, v2] (.ref x :: st) h Q) ∧
    (∀ (v0 v1 v2 : Value) (a : Nat) (st : List Value) (h : mr_h) (Q : Option Value → mr_h → Prop), mr_wp 31 16 [v0, v1, v2] (.ref a :: st) h Q = mr_gf (h.1 a) 7 2 (fun v => mr_wp 31 19 [v0, v1, v2] (v :: st) h Q)) ∧
    (∀ (v0 v1 v2 : Value) (a : Nat) (x : Int32) (st : List Value) (h : mr_h) (Q : Option Value → mr_h → Prop), mr_wp 31 19 [v0, v1, v2] (.int x :: .ref a :: st) h Q = mr_ai (h.1 a) x (fun v => mr_wp 31 20 [v0, v1, v2] (.int v :: st) h Q)) ∧
    (∀ (v0 v1 v2 : Value) (st : List Value) (h : mr_h) (Q : Option Value → mr_h → Prop), mr_wp 31 20 [v0, v1, v2] st h Q = mr_wp 31 22 [v0, v1, v2] (.int (32) :: st) h Q) ∧
    (∀ (v0 v1 v2 : Value) (x : Int32) (y : Int32) (st : List Value) (h : mr_h) (Q : Option Value → mr_h → Prop), mr_wp 31 22 [v0, v1, v2] (.int y :: .int x :: st) h Q = if ¬ x = y then mr_wp 31 38 [v0, v1, v2] st h Q else mr_wp 31 25 [v0, v1, v2] st h Q) ∧
    (∀ (v1 v2 : Value) (x : Nat) (st : List Value) (h : mr_h) (Q : Option Value → mr_h → Prop), mr_wp 31 25 [.ref x, v1, v2] st h Q = mr_wp 31 26 [.ref x, v1, v2] (.ref x :: st) h Q) ∧
    (∀ (v0 v1 v2 : Value) (x : Nat) (st : List Value) (h : mr_h) (Q : Option Value → mr_h → Prop), mr_wp 31 26 [v0, v1, v2] (.ref x :: st) h Q = mr_wp 31 27 [v0, v1, v2] (.ref x :: .ref x :: st) h Q) ∧
    (∀ (v0 v1 v2 : Value) (a : Nat) (st : List Value) (h : mr_h) (Q : Option Value → mr_h → Prop), mr_wp 31 27 [v0, v1, v2] (.ref a :: st) h Q = mr_gf (h.1 a) 7 2 (fun v => mr_wp 31 30 [v0, v1, v2] (v :: st) h Q)) ∧
    (∀ (v0 v1 v2 : Value) (st : List Value) (h : mr_h) (Q : Option Value → mr_h → Prop), mr_wp 31 30 [v0, v1, v2] st h Q = mr_wp 31 31 [v0, v1, v2] (.int (1) :: st) h Q) ∧
    (∀ (v0 v1 v2 : Value) (x : Int32) (y : Int32) (st : List Value) (h : mr_h) (Q : Option Value → mr_h → Prop), mr_wp 31 31 [v0, v1, v2] (.int y :: .int x :: st) h Q = mr_wp 31 32 [v0, v1, v2] (.int (x + y) :: st) h Q) ∧
    (∀ (v0 v1 v2 : Value) (a : Nat) (x : Int32) (st : List Value) (h : mr_h) (Q : Option Value → mr_h → Prop), mr_wp 31 32 [v0, v1, v2] (.int x :: .ref a :: st) h Q = mr_pf (h.1 a) 7 2 (.int x) (fun c => mr_wp 31 35 [v0, v1, v2] st (mr_up h a c) Q)) ∧
    (∀ (v0 v1 v2 : Value) (st : List Value) (h : mr_h) (Q : Option Value → mr_h → Prop), mr_wp 31 35 [v0, v1, v2] st h Q = mr_wp 31 0 [v0, v1, v2] st h Q) ∧
    (∀ (v1 v2 : Value) (x : Nat) (st : List Value) (h : mr_h) (Q : Option Value → mr_h → Prop), mr_wp 31 38 [.ref x, v1, v2] st h Q = mr_wp 31 39 [.ref x, v1, v2] (.ref x :: st) h Q) ∧
    (∀ (v1 v2 : Value) (x : Nat) (st : List Value) (h : mr_h) (Q : Option Value → mr_h → Prop), mr_wp 31 39 [.ref x, v1, v2] st h Q = mr_wp 31 40 [.ref x, v1, v2] (.ref x :: st) h Q) ∧
    (∀ (v0 v1 v2 : Value) (a : Nat) (st : List Value) (h : mr_h) (Q : Option Value → mr_h → Prop), mr_wp 31 40 [v0, v1, v2] (.ref a :: st) h Q = mr_gf (h.1 a) 7 2 (fun v => mr_wp 31 43 [v0, v1, v2] (v :: st) h Q)) ∧
    (∀ (v0 v1 v2 : Value) (a : Nat) (x : Int32) (st : List Value) (h : mr_h) (Q : Option Value → mr_h → Prop), mr_wp 31 43 [v0, v1, v2] (.int x :: .ref a :: st) h Q = mr_pf (h.1 a) 7 3 (.int x) (fun c => mr_wp 31 46 [v0, v1, v2] st (mr_up h a c) Q)) ∧
    (∀ (v1 v2 : Value) (x : Nat) (st : List Value) (h : mr_h) (Q : Option Value → mr_h → Prop), mr_wp 31 46 [.ref x, v1, v2] st h Q = mr_wp 31 47 [.ref x, v1, v2] (.ref x :: st) h Q) ∧
    (∀ (v0 v1 v2 : Value) (a : Nat) (st : List Value) (h : mr_h) (Q : Option Value → mr_h → Prop), mr_wp 31 47 [v0, v1, v2] (.ref a :: st) h Q = mr_gf (h.1 a) 7 2 (fun v => mr_wp 31 50 [v0, v1, v2] (v :: st) h Q)) ∧
    (∀ (v1 v2 : Value) (x : Nat) (st : List Value) (h : mr_h) (Q : Option Value → mr_h → Prop), mr_wp 31 50 [.ref x, v1, v2] st h Q = mr_wp 31 51 [.ref x, v1, v2] (.ref x :: st) h Q) ∧
    (∀ (v0 v1 v2 : Value) (a : Nat) (st : List Value) (h : mr_h) (Q : Option Value → mr_h → Prop), mr_wp 31 51 [v0, v1, v2] (.ref a :: st) h Q = mr_gf (h.1 a) 7 0 (fun v => mr_wp 31 54 [v0, v1, v2] (v :: st) h Q)) ∧
    (∀ (v0 v1 v2 : Value) (x : Int32) (y : Int32) (st : List Value) (h : mr_h) (Q : Option Value → mr_h → Prop), mr_wp 31 54 [v0, v1, v2] (.int y :: .int x :: st) h Q = if x < y then mr_wp 31 64 [v0, v1, v2] st h Q else mr_wp 31 57 [v0, v1, v2] st h Q) ∧
    (∀ (v1 v2 : Value) (x : Nat) (st : List Value) (h : mr_h) (Q : Option Value → mr_h → Prop), mr_wp 31 57 [.ref x, v1, v2] st h Q = mr_wp 31 58 [.ref x, v1, v2] (.ref x :: st) h Q) ∧
    (∀ (v0 v1 v2 : Value) (st : List Value) (h : mr_h) (Q : Option Value → mr_h → Prop), mr_wp 31 58 [v0, v1, v2] st h Q = mr_wp 31 60 [v0, v1, v2] (.int (-2) :: st) h Q) ∧
    (∀ (v0 v1 v2 : Value) (a : Nat) (x : Int32) (st : List Value) (h : mr_h) (Q : Option Value → mr_h → Prop), mr_wp 31 60 [v0, v1, v2] (.int x :: .ref a :: st) h Q = mr_pf (h.1 a) 7 4 (.int x) (fun c => mr_wp 31 63 [v0, v1, v2] st (mr_up h a c) Q)) ∧
    (∀ (v0 v1 v2 : Value) (h : mr_h) (Q : Option Value → mr_h → Prop), mr_wp 31 63 [v0, v1, v2] [] h Q = Q none h) ∧
    (∀ (v1 v2 : Value) (x : Nat) (st : List Value) (h : mr_h) (Q : Option Value → mr_h → Prop), mr_wp 31 64 [.ref x, v1, v2] st h Q = mr_wp 31 65 [.ref x, v1, v2] (.ref x :: st) h Q) ∧
    (∀ (v0 v1 v2 : Value) (a : Nat) (st : List Value) (h : mr_h) (Q : Option Value → mr_h → Prop), mr_wp 31 65 [v0, v1, v2] (.ref a :: st) h Q = mr_gf (h.1 a) 7 1 (fun v => mr_wp 31 68 [v0, v1, v2] (v :: st) h Q)) ∧
    (∀ (v1 v2 : Value) (x : Nat) (st : List Value) (h : mr_h) (Q : Option Value → mr_h → Prop), mr_wp 31 68 [.ref x, v1, v2] st h Q = mr_wp 31 69 [.ref x, v1, v2] (.ref x :: st) h Q) ∧
    (∀ (v0 v1 v2 : Value) (a : Nat) (st : List Value) (h : mr_h) (Q : Option Value → mr_h → Prop), mr_wp 31 69 [v0, v1, v2] (.ref a :: st) h Q = mr_gf (h.1 a) 7 2 (fun v => mr_wp 31 72 [v0, v1, v2] (v :: st) h Q)) ∧
    (∀ (v0 v1 v2 : Value) (a : Nat) (x : Int32) (st : List Value) (h : mr_h) (Q : Option Value → mr_h → Prop), mr_wp 31 72 [v0, v1, v2] (.int x :: .ref a :: st) h Q = mr_ai (h.1 a) x (fun v => mr_wp 31 73 [v0, v1, v2] (.int v :: st) h Q)) ∧
    (∀ (v1 v2 : Value) (w0 : Nat) (x : Int32) (st : List Value) (h : mr_h) (Q : Option Value → mr_h → Prop), mr_wp 31 73 [.ref w0, v1, v2] (.int x :: st) h Q = mr_wp 31 74 [.ref w0, .int x, v2] st h Q) ∧
    (∀ (v1 v2 : Value) (x : Nat) (st : List Value) (h : mr_h) (Q : Option Value → mr_h → Prop), mr_wp 31 74 [.ref x, v1, v2] st h Q = mr_wp 31 75 [.ref x, v1, v2] (.ref x :: st) h Q) ∧
    (∀ (v0 v1 v2 : Value) (x : Nat) (st : List Value) (h : mr_h) (Q : Option Value → mr_h → Prop), mr_wp 31 75 [v0, v1, v2] (.ref x :: st) h Q = mr_wp 31 76 [v0, v1, v2] (.ref x :: .ref x :: st) h Q) ∧
    (∀ (v0 v1 v2 : Value) (a : Nat) (st : List Value) (h : mr_h) (Q : Option Value → mr_h → Prop), mr_wp 31 76 [v0, v1, v2] (.ref a :: st) h Q = mr_gf (h.1 a) 7 2 (fun v => mr_wp 31 79 [v0, v1, v2] (v :: st) h Q)) :=
  ⟨fun v0 v1 v2 a st h Q => gx_get (x := 19) (by decide +kernel) (by decide +kernel),
   fun v1 v2 x st h Q => gx_one (i := .aload_n 0) (len := 1) (by decide +kernel) rfl,
   fun v0 v1 v2 a st h Q => gx_get (x := 9) (by decide +kernel) (by decide +kernel),
   fun v0 v1 v2 x y st h Q => gx_br (i := .if_icmp .ge 30) (len := 3) (c := .ge) (by decide +kernel) rfl rfl,
   fun v1 v2 x st h Q => gx_one (i := .aload_n 0) (len := 1) (by decide +kernel) rfl,
   fun v0 v1 v2 a st h Q => gx_get (x := 15) (by decide +kernel) (by decide +kernel),
   fun v1 v2 x st h Q => gx_one (i := .aload_n 0) (len := 1) (by decide +kernel) rfl,
   fun v0 v1 v2 a st h Q => gx_get (x := 19) (by decide +kernel) (by decide +kernel),
   fun v0 v1 v2 a x st h Q => gx_iald (by decide +kernel),
   fun v0 v1 v2 st h Q => gx_one (i := .bipush 32) (len := 2) (by decide +kernel) rfl,
   fun v0 v1 v2 x y st h Q => gx_br (i := .if_icmp .ne 16) (len := 3) (c := .ne) (by decide +kernel) rfl rfl,
   fun v1 v2 x st h Q => gx_one (i := .aload_n 0) (len := 1) (by decide +kernel) rfl,
   fun v0 v1 v2 x st h Q => gx_one (i := .dup) (len := 1) (by decide +kernel) rfl,
   fun v0 v1 v2 a st h Q => gx_get (x := 19) (by decide +kernel) (by decide +kernel),
   fun v0 v1 v2 st h Q => gx_one (i := .iconst 1) (len := 1) (by decide +kernel) rfl,
   fun v0 v1 v2 x y st h Q => gx_one (i := .iadd) (len := 1) (by decide +kernel) rfl,
   fun v0 v1 v2 a x st h Q => gx_put (x := 19) (by decide +kernel) (by decide +kernel) ⟨rfl, Or.inl rfl⟩,
   fun v0 v1 v2 st h Q => gx_one (i := .goto (-35)) (len := 3) (by decide +kernel) rfl,
   fun v1 v2 x st h Q => gx_one (i := .aload_n 0) (len := 1) (by decide +kernel) rfl,
   fun v1 v2 x st h Q => gx_one (i := .aload_n 0) (len := 1) (by decide +kernel) rfl,
   fun v0 v1 v2 a st h Q => gx_get (x := 19) (by decide +kernel) (by decide +kernel),
   fun v0 v1 v2 a x st h Q => gx_put (x := 22) (by decide +kernel) (by decide +kernel) ⟨rfl, Or.inl rfl⟩,
   fun v1 v2 x st h Q => gx_one (i := .aload_n 0) (len := 1) (by decide +kernel) rfl,
   fun v0 v1 v2 a st h Q => gx_get (x := 19) (by decide +kernel) (by decide +kernel),
   fun v1 v2 x st h Q => gx_one (i := .aload_n 0) (len := 1) (by decide +kernel) rfl,
   fun v0 v1 v2 a st h Q => gx_get (x := 9) (by decide +kernel) (by decide +kernel),
   fun v0 v1 v2 x y st h Q => gx_br (i := .if_icmp .lt 10) (len := 3) (c := .lt) (by decide +kernel) rfl rfl,
   fun v1 v2 x st h Q => gx_one (i := .aload_n 0) (len := 1) (by decide +kernel) rfl,
   fun v0 v1 v2 st h Q => gx_one (i := .bipush (-2)) (len := 2) (by decide +kernel) rfl,
   fun v0 v1 v2 a x st h Q => gx_put (x := 25) (by decide +kernel) (by decide +kernel) ⟨rfl, Or.inl rfl⟩,
   fun v0 v1 v2 h Q => gx_ret (i := .return_) (len := 1) (by decide +kernel) rfl rfl (by simp only [mr_rt, if_pos]; rw [if_pos (by decide +kernel)]),
   fun v1 v2 x st h Q => gx_one (i := .aload_n 0) (len := 1) (by decide +kernel) rfl,
   fun v0 v1 v2 a st h Q => gx_get (x := 15) (by decide +kernel) (by decide +kernel),
   fun v1 v2 x st h Q => gx_one (i := .aload_n 0) (len := 1) (by decide +kernel) rfl,
   fun v0 v1 v2 a st h Q => gx_get (x := 19) (by decide +kernel) (by decide +kernel),
   fun v0 v1 v2 a x st h Q => gx_iald (by decide +kernel),
   fun v1 v2 w0 x st h Q => gx_one (i := .istore_n 1) (len := 1) (by decide +kernel) rfl,
   fun v1 v2 x st h Q => gx_one (i := .aload_n 0) (len := 1) (by decide +kernel) rfl,
   fun v0 v1 v2 x st h Q => gx_one (i := .dup) (len := 1) (by decide +kernel) rfl,
   fun v0 v1 v2 a st h Q => gx_get (x := 19) (by decide +kernel) (by decide +kernel)⟩
theorem S_sc_readToken_1 : (∀ (v0 v1 v2 : Value) (st : List Value) (h : mr_h) (Q : Option Value → mr_h → Prop), mr_wp 31 79 [v0, v1, v2] st h Q = mr_wp 31 80 [v0, v1, v2] (.int (1) :: st) h Q) ∧
    (∀ (v0 v1 v2 : Value) (x : Int32) (y : Int32) (st : List Value) (h : mr_h) (Q : Option Value → mr_h → Prop), mr_wp 31 80 [v0, v1, v2] (.int y :: .int x :: st) h Q = mr_wp 31 81 [v0, v1, v2] (.int (x + y) :: st) h Q) ∧
    (∀ (v0 v1 v2 : Value) (a : Nat) (x : Int32) (st : List Value) (h : mr_h) (Q : Option Value → mr_h → Prop), mr_wp 31 81 [v0, v1, v2] (.int x :: .ref a :: st) h Q = mr_pf (h.1 a) 7 2 (.int x) (fun c => mr_wp 31 84 [v0, v1, v2] st (mr_up h a c) Q)) ∧
    (∀ (v0 v2 : Value) (x : Int32) (st : List Value) (h : mr_h) (Q : Option Value → mr_h → Prop), mr_wp 31 84 [v0, .int x, v2] st h Q = mr_wp 31 85 [v0, .int x, v2] (.int x :: st) h Q) ∧
    (∀ (v0 v1 v2 : Value) (a0 : Int32) (h : mr_h) (Q : Option Value → mr_h → Prop), mr_wp 31 85 [v0, v1, v2] [.int a0] h Q = mr_run 32 [.int a0] h (fun v h' => mr_wp 31 88 [v0, v1, v2] (v.toList ++ []) h' Q)) ∧
    (∀ (v0 v1 v2 : Value) (x : Int32) (st : List Value) (h : mr_h) (Q : Option Value → mr_h → Prop), mr_wp 31 88 [v0, v1, v2] (.int x :: st) h Q = if ¬ x = 0 then mr_wp 31 108 [v0, v1, v2] st h Q else mr_wp 31 91 [v0, v1, v2] st h Q) ∧
    (∀ (v1 v2 : Value) (x : Nat) (st : List Value) (h : mr_h) (Q : Option Value → mr_h → Prop), mr_wp 31 91 [.ref x, v1, v2] st h Q = mr_wp 31 92 [.ref x, v1, v2] (.ref x :: st) h Q) ∧
    (∀ (v0 v2 : Value) (x : Int32) (st : List Value) (h : mr_h) (Q : Option Value → mr_h → Prop), mr_wp 31 92 [v0, .int x, v2] st h Q = mr_wp 31 93 [v0, .int x, v2] (.int x :: st) h Q) ∧
    (∀ (v0 v1 v2 : Value) (a0 : Int32) (r0 : Value) (h : mr_h) (Q : Option Value → mr_h → Prop), mr_wp 31 93 [v0, v1, v2] [.int a0, r0] h Q = mr_run 33 [.int a0] h (fun v h' => mr_wp 31 96 [v0, v1, v2] (v.toList ++ [r0]) h' Q)) ∧
    (∀ (v0 v1 v2 : Value) (x : Int32) (st : List Value) (h : mr_h) (Q : Option Value → mr_h → Prop), mr_wp 31 96 [v0, v1, v2] (.int x :: st) h Q = if x = 0 then mr_wp 31 103 [v0, v1, v2] st h Q else mr_wp 31 99 [v0, v1, v2] st h Q) ∧
    (∀ (v0 v2 : Value) (x : Int32) (st : List Value) (h : mr_h) (Q : Option Value → mr_h → Prop), mr_wp 31 99 [v0, .int x, v2] st h Q = mr_wp 31 100 [v0, .int x, v2] (.int x :: st) h Q) ∧
    (∀ (v0 v1 v2 : Value) (st : List Value) (h : mr_h) (Q : Option Value → mr_h → Prop), mr_wp 31 100 [v0, v1, v2] st h Q = mr_wp 31 104 [v0, v1, v2] st h Q) ∧
    (∀ (v0 v1 v2 : Value) (st : List Value) (h : mr_h) (Q : Option Value → mr_h → Prop), mr_wp 31 103 [v0, v1, v2] st h Q = mr_wp 31 104 [v0, v1, v2] (.int (-1) :: st) h Q) ∧
    (∀ (v0 v1 v2 : Value) (a : Nat) (x : Int32) (st : List Value) (h : mr_h) (Q : Option Value → mr_h → Prop), mr_wp 31 104 [v0, v1, v2] (.int x :: .ref a :: st) h Q = mr_pf (h.1 a) 7 4 (.int x) (fun c => mr_wp 31 107 [v0, v1, v2] st (mr_up h a c) Q)) ∧
    (∀ (v0 v1 v2 : Value) (h : mr_h) (Q : Option Value → mr_h → Prop), mr_wp 31 107 [v0, v1, v2] [] h Q = Q none h) ∧
    (∀ (v1 v2 : Value) (x : Nat) (st : List Value) (h : mr_h) (Q : Option Value → mr_h → Prop), mr_wp 31 108 [.ref x, v1, v2] st h Q = mr_wp 31 109 [.ref x, v1, v2] (.ref x :: st) h Q) ∧
    (∀ (v0 v2 : Value) (x : Int32) (st : List Value) (h : mr_h) (Q : Option Value → mr_h → Prop), mr_wp 31 109 [v0, .int x, v2] st h Q = mr_wp 31 110 [v0, .int x, v2] (.int x :: st) h Q) ∧
    (∀ (v0 v1 v2 : Value) (st : List Value) (h : mr_h) (Q : Option Value → mr_h → Prop), mr_wp 31 110 [v0, v1, v2] st h Q = mr_wp 31 112 [v0, v1, v2] (.int (48) :: st) h Q) ∧
    (∀ (v0 v1 v2 : Value) (x : Int32) (y : Int32) (st : List Value) (h : mr_h) (Q : Option Value → mr_h → Prop), mr_wp 31 112 [v0, v1, v2] (.int y :: .int x :: st) h Q = mr_wp 31 113 [v0, v1, v2] (.int (x - y) :: st) h Q) ∧
    (∀ (v0 v1 v2 : Value) (a : Nat) (x : Int32) (st : List Value) (h : mr_h) (Q : Option Value → mr_h → Prop), mr_wp 31 113 [v0, v1, v2] (.int x :: .ref a :: st) h Q = mr_pf (h.1 a) 7 5 (.int x) (fun c => mr_wp 31 116 [v0, v1, v2] st (mr_up h a c) Q)) ∧
    (∀ (v0 v1 v2 : Value) (a : Nat) (st : List Value) (h : mr_h) (Q : Option Value → mr_h → Prop), mr_wp 31 117 [v0, v1, v2] (.ref a :: st) h Q = mr_gf (h.1 a) 7 2 (fun v => mr_wp 31 120 [v0, v1, v2] (v :: st) h Q)) ∧
    (∀ (v1 v2 : Value) (x : Nat) (st : List Value) (h : mr_h) (Q : Option Value → mr_h → Prop), mr_wp 31 120 [.ref x, v1, v2] st h Q = mr_wp 31 121 [.ref x, v1, v2] (.ref x :: st) h Q) ∧
    (∀ (v0 v1 v2 : Value) (a : Nat) (st : List Value) (h : mr_h) (Q : Option Value → mr_h → Prop), mr_wp 31 121 [v0, v1, v2] (.ref a :: st) h Q = mr_gf (h.1 a) 7 0 (fun v => mr_wp 31 124 [v0, v1, v2] (v :: st) h Q)) ∧
    (∀ (v0 v1 v2 : Value) (x : Int32) (y : Int32) (st : List Value) (h : mr_h) (Q : Option Value → mr_h → Prop), mr_wp 31 124 [v0, v1, v2] (.int y :: .int x :: st) h Q = if y ≤ x then mr_wp 31 184 [v0, v1, v2] st h Q else mr_wp 31 127 [v0, v1, v2] st h Q) ∧
    (∀ (v1 v2 : Value) (x : Nat) (st : List Value) (h : mr_h) (Q : Option Value → mr_h → Prop), mr_wp 31 127 [.ref x, v1, v2] st h Q = mr_wp 31 128 [.ref x, v1, v2] (.ref x :: st) h Q) ∧
    (∀ (v0 v1 v2 : Value) (a : Nat) (st : List Value) (h : mr_h) (Q : Option Value → mr_h → Prop), mr_wp 31 128 [v0, v1, v2] (.ref a :: st) h Q = mr_gf (h.1 a) 7 1 (fun v => mr_wp 31 131 [v0, v1, v2] (v :: st) h Q)) ∧
    (∀ (v1 v2 : Value) (x : Nat) (st : List Value) (h : mr_h) (Q : Option Value → mr_h → Prop), mr_wp 31 131 [.ref x, v1, v2] st h Q = mr_wp 31 132 [.ref x, v1, v2] (.ref x :: st) h Q) ∧
    (∀ (v0 v1 v2 : Value) (a : Nat) (st : List Value) (h : mr_h) (Q : Option Value → mr_h → Prop), mr_wp 31 132 [v0, v1, v2] (.ref a :: st) h Q = mr_gf (h.1 a) 7 2 (fun v => mr_wp 31 135 [v0, v1, v2] (v :: st) h Q)) ∧
    (∀ (v0 v1 v2 : Value) (a : Nat) (x : Int32) (st : List Value) (h : mr_h) (Q : Option Value → mr_h → Prop), mr_wp 31 135 [v0, v1, v2] (.int x :: .ref a :: st) h Q = mr_ai (h.1 a) x (fun v => mr_wp 31 136 [v0, v1, v2] (.int v :: st) h Q)) ∧
    (∀ (v0 v1 v2 : Value) (a0 : Int32) (h : mr_h) (Q : Option Value → mr_h → Prop), mr_wp 31 136 [v0, v1, v2] [.int a0] h Q = mr_run 32 [.int a0] h (fun v h' => mr_wp 31 139 [v0, v1, v2] (v.toList ++ []) h' Q)) ∧
    (∀ (v0 v1 v2 : Value) (x : Int32) (st : List Value) (h : mr_h) (Q : Option Value → mr_h → Prop), mr_wp 31 139 [v0, v1, v2] (.int x :: st) h Q = if x = 0 then mr_wp 31 184 [v0, v1, v2] st h Q else mr_wp 31 142 [v0, v1, v2] st h Q) ∧
    (∀ (v1 v2 : Value) (x : Nat) (st : List Value) (h : mr_h) (Q : Option Value → mr_h → Prop), mr_wp 31 142 [.ref x, v1, v2] st h Q = mr_wp 31 143 [.ref x, v1, v2] (.ref x :: st) h Q) ∧
    (∀ (v0 v1 v2 : Value) (st : List Value) (h : mr_h) (Q : Option Value → mr_h → Prop), mr_wp 31 143 [v0, v1, v2] st h Q = mr_wp 31 145 [v0, v1, v2] (.int (10) :: st) h Q) ∧
    (∀ (v1 v2 : Value) (x : Nat) (st : List Value) (h : mr_h) (Q : Option Value → mr_h → Prop), mr_wp 31 145 [.ref x, v1, v2] st h Q = mr_wp 31 146 [.ref x, v1, v2] (.ref x :: st) h Q) ∧
    (∀ (v0 v1 v2 : Value) (a : Nat) (st : List Value) (h : mr_h) (Q : Option Value → mr_h → Prop), mr_wp 31 146 [v0, v1, v2] (.ref a :: st) h Q = mr_gf (h.1 a) 7 5 (fun v => mr_wp 31 149 [v0, v1, v2] (v :: st) h Q)) ∧
    (∀ (v0 v1 v2 : Value) (x : Int32) (y : Int32) (st : List Value) (h : mr_h) (Q : Option Value → mr_h → Prop), mr_wp 31 149 [v0, v1, v2] (.int y :: .int x :: st) h Q = mr_wp 31 150 [v0, v1, v2] (.int (x * y) :: st) h Q) ∧
    (∀ (v1 v2 : Value) (x : Nat) (st : List Value) (h : mr_h) (Q : Option Value → mr_h → Prop), mr_wp 31 150 [.ref x, v1, v2] st h Q = mr_wp 31 151 [.ref x, v1, v2] (.ref x :: st) h Q) ∧
    (∀ (v0 v1 v2 : Value) (a : Nat) (st : List Value) (h : mr_h) (Q : Option Value → mr_h → Prop), mr_wp 31 151 [v0, v1, v2] (.ref a :: st) h Q = mr_gf (h.1 a) 7 1 (fun v => mr_wp 31 154 [v0, v1, v2] (v :: st) h Q)) ∧
    (∀ (v1 v2 : Value) (x : Nat) (st : List Value) (h : mr_h) (Q : Option Value → mr_h → Prop), mr_wp 31 154 [.ref x, v1, v2] st h Q = mr_wp 31 155 [.ref x, v1, v2] (.ref x :: st) h Q) ∧
    (∀ (v0 v1 v2 : Value) (a : Nat) (st : List Value) (h : mr_h) (Q : Option Value → mr_h → Prop), mr_wp 31 155 [v0, v1, v2] (.ref a :: st) h Q = mr_gf (h.1 a) 7 2 (fun v => mr_wp 31 158 [v0, v1, v2] (v :: st) h Q)) :=
  ⟨fun v0 v1 v2 st h Q => gx_one (i := .iconst 1) (len := 1) (by decide +kernel) rfl,
   fun v0 v1 v2 x y st h Q => gx_one (i := .iadd) (len := 1) (by decide +kernel) rfl,
   fun v0 v1 v2 a x st h Q => gx_put (x := 19) (by decide +kernel) (by decide +kernel) ⟨rfl, Or.inl rfl⟩,
   fun v0 v2 x st h Q => gx_one (i := .iload_n 1) (len := 1) (by decide +kernel) rfl,
   fun v0 v1 v2 a0 h Q => gx_stat (x := 81) (t := 32) (n := 1) (by decide +kernel) (by decide +kernel) (by decide) (by decide +kernel) rfl (Or.inl (Nat.le_of_ble_eq_true rfl)) (by show _ ≤ mr_mxl 32; rw [show mr_mxl 32 = 1 from by decide +kernel]; exact Nat.le_of_ble_eq_true rfl),
   fun v0 v1 v2 x st h Q => gx_br (i := .ifCond .ne 20) (len := 3) (c := .ne) (by decide +kernel) rfl rfl,
   fun v1 v2 x st h Q => gx_one (i := .aload_n 0) (len := 1) (by decide +kernel) rfl,
   fun v0 v2 x st h Q => gx_one (i := .iload_n 1) (len := 1) (by decide +kernel) rfl,
   fun v0 v1 v2 a0 r0 h Q => gx_stat (x := 84) (t := 33) (n := 1) (by decide +kernel) (by decide +kernel) (by decide) (by decide +kernel) rfl (Or.inl (Nat.le_of_ble_eq_true rfl)) (by show _ ≤ mr_mxl 33; rw [show mr_mxl 33 = 1 from by decide +kernel]; exact Nat.le_of_ble_eq_true rfl),
   fun v0 v1 v2 x st h Q => gx_br (i := .ifCond .eq 7) (len := 3) (c := .eq) (by decide +kernel) rfl rfl,
   fun v0 v2 x st h Q => gx_one (i := .iload_n 1) (len := 1) (by decide +kernel) rfl,
   fun v0 v1 v2 st h Q => gx_one (i := .goto 4) (len := 3) (by decide +kernel) rfl,
   fun v0 v1 v2 st h Q => gx_one (i := .iconst (-1)) (len := 1) (by decide +kernel) rfl,
   fun v0 v1 v2 a x st h Q => gx_put (x := 25) (by decide +kernel) (by decide +kernel) ⟨rfl, Or.inl rfl⟩,
   fun v0 v1 v2 h Q => gx_ret (i := .return_) (len := 1) (by decide +kernel) rfl rfl (by simp only [mr_rt, if_pos]; rw [if_pos (by decide +kernel)]),
   fun v1 v2 x st h Q => gx_one (i := .aload_n 0) (len := 1) (by decide +kernel) rfl,
   fun v0 v2 x st h Q => gx_one (i := .iload_n 1) (len := 1) (by decide +kernel) rfl,
   fun v0 v1 v2 st h Q => gx_one (i := .bipush 48) (len := 2) (by decide +kernel) rfl,
   fun v0 v1 v2 x y st h Q => gx_one (i := .isub) (len := 1) (by decide +kernel) rfl,
   fun v0 v1 v2 a x st h Q => gx_put (x := 28) (by decide +kernel) (by decide +kernel) ⟨rfl, Or.inl rfl⟩,
   fun v0 v1 v2 a st h Q => gx_get (x := 19) (by decide +kernel) (by decide +kernel),
   fun v1 v2 x st h Q => gx_one (i := .aload_n 0) (len := 1) (by decide +kernel) rfl,
   fun v0 v1 v2 a st h Q => gx_get (x := 9) (by decide +kernel) (by decide +kernel),
   fun v0 v1 v2 x y st h Q => gx_br (i := .if_icmp .ge 60) (len := 3) (c := .ge) (by decide +kernel) rfl rfl,
   fun v1 v2 x st h Q => gx_one (i := .aload_n 0) (len := 1) (by decide +kernel) rfl,
   fun v0 v1 v2 a st h Q => gx_get (x := 15) (by decide +kernel) (by decide +kernel),
   fun v1 v2 x st h Q => gx_one (i := .aload_n 0) (len := 1) (by decide +kernel) rfl,
   fun v0 v1 v2 a st h Q => gx_get (x := 19) (by decide +kernel) (by decide +kernel),
   fun v0 v1 v2 a x st h Q => gx_iald (by decide +kernel),
   fun v0 v1 v2 a0 h Q => gx_stat (x := 81) (t := 32) (n := 1) (by decide +kernel) (by decide +kernel) (by decide) (by decide +kernel) rfl (Or.inl (Nat.le_of_ble_eq_true rfl)) (by show _ ≤ mr_mxl 32; rw [show mr_mxl 32 = 1 from by decide +kernel]; exact Nat.le_of_ble_eq_true rfl),
   fun v0 v1 v2 x st h Q => gx_br (i := .ifCond .eq 45) (len := 3) (c := .eq) (by decide +kernel) rfl rfl,
   fun v1 v2 x st h Q => gx_one (i := .aload_n 0) (len := 1) (by decide +kernel) rfl,
   fun v0 v1 v2 st h Q => gx_one (i := .bipush 10) (len := 2) (by decide +kernel) rfl,
   fun v1 v2 x st h Q => gx_one (i := .aload_n 0) (len := 1) (by decide +kernel) rfl,
   fun v0 v1 v2 a st h Q => gx_get (x := 28) (by decide +kernel) (by decide +kernel),
   fun v0 v1 v2 x y st h Q => gx_one (i := .imul) (len := 1) (by decide +kernel) rfl,
   fun v1 v2 x st h Q => gx_one (i := .aload_n 0) (len := 1) (by decide +kernel) rfl,
   fun v0 v1 v2 a st h Q => gx_get (x := 15) (by decide +kernel) (by decide +kernel),
   fun v1 v2 x st h Q => gx_one (i := .aload_n 0) (len := 1) (by decide +kernel) rfl,
   fun v0 v1 v2 a st h Q => gx_get (x := 19) (by decide +kernel) (by decide +kernel)⟩
theorem S_sc_readToken_2 : (∀ (v0 v1 v2 : Value) (a : Nat) (x : Int32) (st : List Value) (h : mr_h) (Q : Option Value → mr_h → Prop), mr_wp 31 158 [v0, v1, v2] (.int x :: .ref a :: st) h Q = mr_ai (h.1 a) x (fun v => mr_wp 31 159 [v0, v1, v2] (.int v :: st) h Q)) ∧
    (∀ (v0 v1 v2 : Value) (x : Int32) (y : Int32) (st : List Value) (h : mr_h) (Q : Option Value → mr_h → Prop), mr_wp 31 159 [v0, v1, v2] (.int y :: .int x :: st) h Q = mr_wp 31 160 [v0, v1, v2] (.int (x + y) :: st) h Q) ∧
    (∀ (v0 v1 v2 : Value) (st : List Value) (h : mr_h) (Q : Option Value → mr_h → Prop), mr_wp 31 160 [v0, v1, v2] st h Q = mr_wp 31 162 [v0, v1, v2] (.int (48) :: st) h Q) ∧
    (∀ (v0 v1 v2 : Value) (x : Int32) (y : Int32) (st : List Value) (h : mr_h) (Q : Option Value → mr_h → Prop), mr_wp 31 162 [v0, v1, v2] (.int y :: .int x :: st) h Q = mr_wp 31 163 [v0, v1, v2] (.int (x - y) :: st) h Q) ∧
    (∀ (v0 v1 v2 : Value) (st : List Value) (h : mr_h) (Q : Option Value → mr_h → Prop), mr_wp 31 163 [v0, v1, v2] st h Q = mr_wp 31 165 [v0, v1, v2] (.int (100) :: st) h Q) ∧
    (∀ (v0 v1 v2 : Value) (x : Int32) (y : Int32) (r0 : Value) (h : mr_h) (Q : Option Value → mr_h → Prop), mr_wp 31 165 [v0, v1, v2] [.int y, .int x, r0] h Q = mr_wp 31 168 [v0, v1, v2] [.int (if y < x then y else x), r0] h Q) ∧
    (∀ (v0 v1 v2 : Value) (a : Nat) (x : Int32) (st : List Value) (h : mr_h) (Q : Option Value → mr_h → Prop), mr_wp 31 168 [v0, v1, v2] (.int x :: .ref a :: st) h Q = mr_pf (h.1 a) 7 5 (.int x) (fun c => mr_wp 31 171 [v0, v1, v2] st (mr_up h a c) Q)) ∧
    (∀ (v1 v2 : Value) (x : Nat) (st : List Value) (h : mr_h) (Q : Option Value → mr_h → Prop), mr_wp 31 171 [.ref x, v1, v2] st h Q = mr_wp 31 172 [.ref x, v1, v2] (.ref x :: st) h Q) ∧
    (∀ (v0 v1 v2 : Value) (x : Nat) (st : List Value) (h : mr_h) (Q : Option Value → mr_h → Prop), mr_wp 31 172 [v0, v1, v2] (.ref x :: st) h Q = mr_wp 31 173 [v0, v1, v2] (.ref x :: .ref x :: st) h Q) ∧
    (∀ (v0 v1 v2 : Value) (a : Nat) (st : List Value) (h : mr_h) (Q : Option Value → mr_h → Prop), mr_wp 31 173 [v0, v1, v2] (.ref a :: st) h Q = mr_gf (h.1 a) 7 2 (fun v => mr_wp 31 176 [v0, v1, v2] (v :: st) h Q)) ∧
    (∀ (v0 v1 v2 : Value) (st : List Value) (h : mr_h) (Q : Option Value → mr_h → Prop), mr_wp 31 176 [v0, v1, v2] st h Q = mr_wp 31 177 [v0, v1, v2] (.int (1) :: st) h Q) ∧
    (∀ (v0 v1 v2 : Value) (x : Int32) (y : Int32) (st : List Value) (h : mr_h) (Q : Option Value → mr_h → Prop), mr_wp 31 177 [v0, v1, v2] (.int y :: .int x :: st) h Q = mr_wp 31 178 [v0, v1, v2] (.int (x + y) :: st) h Q) ∧
    (∀ (v0 v1 v2 : Value) (a : Nat) (x : Int32) (st : List Value) (h : mr_h) (Q : Option Value → mr_h → Prop), mr_wp 31 178 [v0, v1, v2] (.int x :: .ref a :: st) h Q = mr_pf (h.1 a) 7 2 (.int x) (fun c => mr_wp 31 181 [v0, v1, v2] st (mr_up h a c) Q)) ∧
    (∀ (v0 v1 v2 : Value) (st : List Value) (h : mr_h) (Q : Option Value → mr_h → Prop), mr_wp 31 181 [v0, v1, v2] st h Q = mr_wp 31 116 [v0, v1, v2] st h Q) ∧
    (∀ (v0 v2 : Value) (x : Int32) (st : List Value) (h : mr_h) (Q : Option Value → mr_h → Prop), mr_wp 31 184 [v0, .int x, v2] st h Q = mr_wp 31 185 [v0, .int x, v2] (.int x :: st) h Q) ∧
    (∀ (v0 v1 v2 : Value) (st : List Value) (h : mr_h) (Q : Option Value → mr_h → Prop), mr_wp 31 185 [v0, v1, v2] st h Q = mr_wp 31 187 [v0, v1, v2] (.int (48) :: st) h Q) ∧
    (∀ (v0 v1 v2 : Value) (x : Int32) (y : Int32) (st : List Value) (h : mr_h) (Q : Option Value → mr_h → Prop), mr_wp 31 187 [v0, v1, v2] (.int y :: .int x :: st) h Q = if ¬ x = y then mr_wp 31 207 [v0, v1, v2] st h Q else mr_wp 31 190 [v0, v1, v2] st h Q) ∧
    (∀ (v1 v2 : Value) (x : Nat) (st : List Value) (h : mr_h) (Q : Option Value → mr_h → Prop), mr_wp 31 190 [.ref x, v1, v2] st h Q = mr_wp 31 191 [.ref x, v1, v2] (.ref x :: st) h Q) ∧
    (∀ (v0 v1 v2 : Value) (a : Nat) (st : List Value) (h : mr_h) (Q : Option Value → mr_h → Prop), mr_wp 31 191 [v0, v1, v2] (.ref a :: st) h Q = mr_gf (h.1 a) 7 2 (fun v => mr_wp 31 194 [v0, v1, v2] (v :: st) h Q)) ∧
    (∀ (v1 v2 : Value) (x : Nat) (st : List Value) (h : mr_h) (Q : Option Value → mr_h → Prop), mr_wp 31 194 [.ref x, v1, v2] st h Q = mr_wp 31 195 [.ref x, v1, v2] (.ref x :: st) h Q) ∧
    (∀ (v0 v1 v2 : Value) (a : Nat) (st : List Value) (h : mr_h) (Q : Option Value → mr_h → Prop), mr_wp 31 195 [v0, v1, v2] (.ref a :: st) h Q = mr_gf (h.1 a) 7 3 (fun v => mr_wp 31 198 [v0, v1, v2] (v :: st) h Q)) ∧
    (∀ (v0 v1 v2 : Value) (x : Int32) (y : Int32) (st : List Value) (h : mr_h) (Q : Option Value → mr_h → Prop), mr_wp 31 198 [v0, v1, v2] (.int y :: .int x :: st) h Q = mr_wp 31 199 [v0, v1, v2] (.int (x - y) :: st) h Q) ∧
    (∀ (v0 v1 v2 : Value) (st : List Value) (h : mr_h) (Q : Option Value → mr_h → Prop), mr_wp 31 199 [v0, v1, v2] st h Q = mr_wp 31 200 [v0, v1, v2] (.int (1) :: st) h Q) ∧
    (∀ (v0 v1 v2 : Value) (x : Int32) (y : Int32) (st : List Value) (h : mr_h) (Q : Option Value → mr_h → Prop), mr_wp 31 200 [v0, v1, v2] (.int y :: .int x :: st) h Q = if x ≤ y then mr_wp 31 207 [v0, v1, v2] st h Q else mr_wp 31 203 [v0, v1, v2] st h Q) ∧
    (∀ (v0 v1 v2 : Value) (st : List Value) (h : mr_h) (Q : Option Value → mr_h → Prop), mr_wp 31 203 [v0, v1, v2] st h Q = mr_wp 31 204 [v0, v1, v2] (.int (1) :: st) h Q) ∧
    (∀ (v0 v1 v2 : Value) (st : List Value) (h : mr_h) (Q : Option Value → mr_h → Prop), mr_wp 31 204 [v0, v1, v2] st h Q = mr_wp 31 208 [v0, v1, v2] st h Q) ∧
    (∀ (v0 v1 v2 : Value) (st : List Value) (h : mr_h) (Q : Option Value → mr_h → Prop), mr_wp 31 207 [v0, v1, v2] st h Q = mr_wp 31 208 [v0, v1, v2] (.int (0) :: st) h Q) ∧
    (∀ (v0 v2 : Value) (w1 : Int32) (x : Int32) (st : List Value) (h : mr_h) (Q : Option Value → mr_h → Prop), mr_wp 31 208 [v0, .int w1, v2] (.int x :: st) h Q = mr_wp 31 209 [v0, .int w1, .int x] st h Q) ∧
    (∀ (v1 v2 : Value) (x : Nat) (st : List Value) (h : mr_h) (Q : Option Value → mr_h → Prop), mr_wp 31 209 [.ref x, v1, v2] st h Q = mr_wp 31 210 [.ref x, v1, v2] (.ref x :: st) h Q) ∧
    (∀ (v0 v1 : Value) (x : Int32) (st : List Value) (h : mr_h) (Q : Option Value → mr_h → Prop), mr_wp 31 210 [v0, v1, .int x] st h Q = mr_wp 31 211 [v0, v1, .int x] (.int x :: st) h Q) ∧
    (∀ (v0 v1 v2 : Value) (x : Int32) (st : List Value) (h : mr_h) (Q : Option Value → mr_h → Prop), mr_wp 31 211 [v0, v1, v2] (.int x :: st) h Q = if ¬ x = 0 then mr_wp 31 223 [v0, v1, v2] st h Q else mr_wp 31 214 [v0, v1, v2] st h Q) ∧
    (∀ (v1 v2 : Value) (x : Nat) (st : List Value) (h : mr_h) (Q : Option Value → mr_h → Prop), mr_wp 31 214 [.ref x, v1, v2] st h Q = mr_wp 31 215 [.ref x, v1, v2] (.ref x :: st) h Q) ∧
    (∀ (v0 v1 v2 : Value) (a : Nat) (st : List Value) (h : mr_h) (Q : Option Value → mr_h → Prop), mr_wp 31 215 [v0, v1, v2] (.ref a :: st) h Q = mr_gf (h.1 a) 7 5 (fun v => mr_wp 31 218 [v0, v1, v2] (v :: st) h Q)) ∧
    (∀ (v0 v1 v2 : Value) (st : List Value) (h : mr_h) (Q : Option Value → mr_h → Prop), mr_wp 31 218 [v0, v1, v2] st h Q = mr_wp 31 220 [v0, v1, v2] (.int (99) :: st) h Q) ∧
    (∀ (v0 v1 v2 : Value) (x : Int32) (y : Int32) (st : List Value) (h : mr_h) (Q : Option Value → mr_h → Prop), mr_wp 31 220 [v0, v1, v2] (.int y :: .int x :: st) h Q = if x ≤ y then mr_wp 31 227 [v0, v1, v2] st h Q else mr_wp 31 223 [v0, v1, v2] st h Q) ∧
    (∀ (v0 v1 v2 : Value) (st : List Value) (h : mr_h) (Q : Option Value → mr_h → Prop), mr_wp 31 223 [v0, v1, v2] st h Q = mr_wp 31 224 [v0, v1, v2] (.int (-1) :: st) h Q) ∧
    (∀ (v0 v1 v2 : Value) (st : List Value) (h : mr_h) (Q : Option Value → mr_h → Prop), mr_wp 31 224 [v0, v1, v2] st h Q = mr_wp 31 229 [v0, v1, v2] st h Q) ∧
    (∀ (v0 v1 v2 : Value) (st : List Value) (h : mr_h) (Q : Option Value → mr_h → Prop), mr_wp 31 227 [v0, v1, v2] st h Q = mr_wp 31 229 [v0, v1, v2] (.int (48) :: st) h Q) ∧
    (∀ (v0 v1 v2 : Value) (a : Nat) (x : Int32) (st : List Value) (h : mr_h) (Q : Option Value → mr_h → Prop), mr_wp 31 229 [v0, v1, v2] (.int x :: .ref a :: st) h Q = mr_pf (h.1 a) 7 4 (.int x) (fun c => mr_wp 31 232 [v0, v1, v2] st (mr_up h a c) Q)) ∧
    (∀ (v0 v1 v2 : Value) (h : mr_h) (Q : Option Value → mr_h → Prop), mr_wp 31 232 [v0, v1, v2] [] h Q = Q none h) :=
  ⟨fun v0 v1 v2 a x st h Q => gx_iald (by decide +kernel),
   fun v0 v1 v2 x y st h Q => gx_one (i := .iadd) (len := 1) (by decide +kernel) rfl,
   fun v0 v1 v2 st h Q => gx_one (i := .bipush 48) (len := 2) (by decide +kernel) rfl,
   fun v0 v1 v2 x y st h Q => gx_one (i := .isub) (len := 1) (by decide +kernel) rfl,
   fun v0 v1 v2 st h Q => gx_one (i := .bipush 100) (len := 2) (by decide +kernel) rfl,
   fun v0 v1 v2 x y r0 h Q => gx_min (x := 87) (by decide +kernel) (by decide +kernel) (Nat.le_of_ble_eq_true rfl),
   fun v0 v1 v2 a x st h Q => gx_put (x := 28) (by decide +kernel) (by decide +kernel) ⟨rfl, Or.inl rfl⟩,
   fun v1 v2 x st h Q => gx_one (i := .aload_n 0) (len := 1) (by decide +kernel) rfl,
   fun v0 v1 v2 x st h Q => gx_one (i := .dup) (len := 1) (by decide +kernel) rfl,
   fun v0 v1 v2 a st h Q => gx_get (x := 19) (by decide +kernel) (by decide +kernel),
   fun v0 v1 v2 st h Q => gx_one (i := .iconst 1) (len := 1) (by decide +kernel) rfl,
   fun v0 v1 v2 x y st h Q => gx_one (i := .iadd) (len := 1) (by decide +kernel) rfl,
   fun v0 v1 v2 a x st h Q => gx_put (x := 19) (by decide +kernel) (by decide +kernel) ⟨rfl, Or.inl rfl⟩,
   fun v0 v1 v2 st h Q => gx_one (i := .goto (-65)) (len := 3) (by decide +kernel) rfl,
   fun v0 v2 x st h Q => gx_one (i := .iload_n 1) (len := 1) (by decide +kernel) rfl,
   fun v0 v1 v2 st h Q => gx_one (i := .bipush 48) (len := 2) (by decide +kernel) rfl,
   fun v0 v1 v2 x y st h Q => gx_br (i := .if_icmp .ne 20) (len := 3) (c := .ne) (by decide +kernel) rfl rfl,
   fun v1 v2 x st h Q => gx_one (i := .aload_n 0) (len := 1) (by decide +kernel) rfl,
   fun v0 v1 v2 a st h Q => gx_get (x := 19) (by decide +kernel) (by decide +kernel),
   fun v1 v2 x st h Q => gx_one (i := .aload_n 0) (len := 1) (by decide +kernel) rfl,
   fun v0 v1 v2 a st h Q => gx_get (x := 22) (by decide +kernel) (by decide +kernel),
   fun v0 v1 v2 x y st h Q => gx_one (i := .isub) (len := 1) (by decide +kernel) rfl,
   fun v0 v1 v2 st h Q => gx_one (i := .iconst 1) (len := 1) (by decide +kernel) rfl,
   fun v0 v1 v2 x y st h Q => gx_br (i := .if_icmp .le 7) (len := 3) (c := .le) (by decide +kernel) rfl rfl,
   fun v0 v1 v2 st h Q => gx_one (i := .iconst 1) (len := 1) (by decide +kernel) rfl,
   fun v0 v1 v2 st h Q => gx_one (i := .goto 4) (len := 3) (by decide +kernel) rfl,
   fun v0 v1 v2 st h Q => gx_one (i := .iconst 0) (len := 1) (by decide +kernel) rfl,
   fun v0 v2 w1 x st h Q => gx_one (i := .istore_n 2) (len := 1) (by decide +kernel) rfl,
   fun v1 v2 x st h Q => gx_one (i := .aload_n 0) (len := 1) (by decide +kernel) rfl,
   fun v0 v1 x st h Q => gx_one (i := .iload_n 2) (len := 1) (by decide +kernel) rfl,
   fun v0 v1 v2 x st h Q => gx_br (i := .ifCond .ne 12) (len := 3) (c := .ne) (by decide +kernel) rfl rfl,
   fun v1 v2 x st h Q => gx_one (i := .aload_n 0) (len := 1) (by decide +kernel) rfl,
   fun v0 v1 v2 a st h Q => gx_get (x := 28) (by decide +kernel) (by decide +kernel),
   fun v0 v1 v2 st h Q => gx_one (i := .bipush 99) (len := 2) (by decide +kernel) rfl,
   fun v0 v1 v2 x y st h Q => gx_br (i := .if_icmp .le 7) (len := 3) (c := .le) (by decide +kernel) rfl rfl,
   fun v0 v1 v2 st h Q => gx_one (i := .iconst (-1)) (len := 1) (by decide +kernel) rfl,
   fun v0 v1 v2 st h Q => gx_one (i := .goto 5) (len := 3) (by decide +kernel) rfl,
   fun v0 v1 v2 st h Q => gx_one (i := .bipush 48) (len := 2) (by decide +kernel) rfl,
   fun v0 v1 v2 a x st h Q => gx_put (x := 25) (by decide +kernel) (by decide +kernel) ⟨rfl, Or.inl rfl⟩,
   fun v0 v1 v2 h Q => gx_ret (i := .return_) (len := 1) (by decide +kernel) rfl rfl (by simp only [mr_rt, if_pos]; rw [if_pos (by decide +kernel)])⟩

theorem S_sc_isDigit : (∀ (x : Int32) (st : List Value) (h : mr_h) (Q : Option Value → mr_h → Prop), mr_wp 32 0 [.int x] st h Q = mr_wp 32 1 [.int x] (.int x :: st) h Q) ∧
    (∀ (v0 : Value) (st : List Value) (h : mr_h) (Q : Option Value → mr_h → Prop), mr_wp 32 1 [v0] st h Q = mr_wp 32 3 [v0] (.int (48) :: st) h Q) ∧
    (∀ (v0 : Value) (x : Int32) (y : Int32) (st : List Value) (h : mr_h) (Q : Option Value → mr_h → Prop), mr_wp 32 3 [v0] (.int y :: .int x :: st) h Q = if x < y then mr_wp 32 16 [v0] st h Q else mr_wp 32 6 [v0] st h Q) ∧
    (∀ (x : Int32) (st : List Value) (h : mr_h) (Q : Option Value → mr_h → Prop), mr_wp 32 6 [.int x] st h Q = mr_wp 32 7 [.int x] (.int x :: st) h Q) ∧
    (∀ (v0 : Value) (st : List Value) (h : mr_h) (Q : Option Value → mr_h → Prop), mr_wp 32 7 [v0] st h Q = mr_wp 32 9 [v0] (.int (57) :: st) h Q) ∧
    (∀ (v0 : Value) (x : Int32) (y : Int32) (st : List Value) (h : mr_h) (Q : Option Value → mr_h → Prop), mr_wp 32 9 [v0] (.int y :: .int x :: st) h Q = if y < x then mr_wp 32 16 [v0] st h Q else mr_wp 32 12 [v0] st h Q) ∧
    (∀ (v0 : Value) (st : List Value) (h : mr_h) (Q : Option Value → mr_h → Prop), mr_wp 32 12 [v0] st h Q = mr_wp 32 13 [v0] (.int (1) :: st) h Q) ∧
    (∀ (v0 : Value) (st : List Value) (h : mr_h) (Q : Option Value → mr_h → Prop), mr_wp 32 13 [v0] st h Q = mr_wp 32 17 [v0] st h Q) ∧
    (∀ (v0 : Value) (st : List Value) (h : mr_h) (Q : Option Value → mr_h → Prop), mr_wp 32 16 [v0] st h Q = mr_wp 32 17 [v0] (.int (0) :: st) h Q) ∧
    (∀ (v0 : Value) (x : Int32) (h : mr_h) (Q : Option Value → mr_h → Prop) (hv : x &&& 1 = x), mr_wp 32 17 [v0] [.int x] h Q = Q (some (.int x)) h) :=
  ⟨fun x st h Q => gx_one (i := .iload_n 0) (len := 1) (by decide +kernel) rfl,
   fun v0 st h Q => gx_one (i := .bipush 48) (len := 2) (by decide +kernel) rfl,
   fun v0 x y st h Q => gx_br (i := .if_icmp .lt 13) (len := 3) (c := .lt) (by decide +kernel) rfl rfl,
   fun x st h Q => gx_one (i := .iload_n 0) (len := 1) (by decide +kernel) rfl,
   fun v0 st h Q => gx_one (i := .bipush 57) (len := 2) (by decide +kernel) rfl,
   fun v0 x y st h Q => gx_br (i := .if_icmp .gt 7) (len := 3) (c := .gt) (by decide +kernel) rfl rfl,
   fun v0 st h Q => gx_one (i := .iconst 1) (len := 1) (by decide +kernel) rfl,
   fun v0 st h Q => gx_one (i := .goto 4) (len := 3) (by decide +kernel) rfl,
   fun v0 st h Q => gx_one (i := .iconst 0) (len := 1) (by decide +kernel) rfl,
   fun v0 x h Q hv => gx_ret (i := .ireturn) (len := 1) (by decide +kernel) rfl rfl (by simp only [mr_rt, if_pos]; rw [if_pos (Or.inr ⟨by decide +kernel, hv⟩)])⟩
theorem S_sc_isSign : (∀ (x : Int32) (st : List Value) (h : mr_h) (Q : Option Value → mr_h → Prop), mr_wp 33 0 [.int x] st h Q = mr_wp 33 1 [.int x] (.int x :: st) h Q) ∧
    (∀ (v0 : Value) (st : List Value) (h : mr_h) (Q : Option Value → mr_h → Prop), mr_wp 33 1 [v0] st h Q = mr_wp 33 3 [v0] (.int (110) :: st) h Q) ∧
    (∀ (v0 : Value) (x : Int32) (y : Int32) (st : List Value) (h : mr_h) (Q : Option Value → mr_h → Prop), mr_wp 33 3 [v0] (.int y :: .int x :: st) h Q = if x = y then mr_wp 33 24 [v0] st h Q else mr_wp 33 6 [v0] st h Q) ∧
    (∀ (x : Int32) (st : List Value) (h : mr_h) (Q : Option Value → mr_h → Prop), mr_wp 33 6 [.int x] st h Q = mr_wp 33 7 [.int x] (.int x :: st) h Q) ∧
    (∀ (v0 : Value) (st : List Value) (h : mr_h) (Q : Option Value → mr_h → Prop), mr_wp 33 7 [v0] st h Q = mr_wp 33 9 [v0] (.int (101) :: st) h Q) ∧
    (∀ (v0 : Value) (x : Int32) (y : Int32) (st : List Value) (h : mr_h) (Q : Option Value → mr_h → Prop), mr_wp 33 9 [v0] (.int y :: .int x :: st) h Q = if x = y then mr_wp 33 24 [v0] st h Q else mr_wp 33 12 [v0] st h Q) ∧
    (∀ (x : Int32) (st : List Value) (h : mr_h) (Q : Option Value → mr_h → Prop), mr_wp 33 12 [.int x] st h Q = mr_wp 33 13 [.int x] (.int x :: st) h Q) ∧
    (∀ (v0 : Value) (st : List Value) (h : mr_h) (Q : Option Value → mr_h → Prop), mr_wp 33 13 [v0] st h Q = mr_wp 33 15 [v0] (.int (114) :: st) h Q) ∧
    (∀ (v0 : Value) (x : Int32) (y : Int32) (st : List Value) (h : mr_h) (Q : Option Value → mr_h → Prop), mr_wp 33 15 [v0] (.int y :: .int x :: st) h Q = if x = y then mr_wp 33 24 [v0] st h Q else mr_wp 33 18 [v0] st h Q) ∧
    (∀ (x : Int32) (st : List Value) (h : mr_h) (Q : Option Value → mr_h → Prop), mr_wp 33 18 [.int x] st h Q = mr_wp 33 19 [.int x] (.int x :: st) h Q) ∧
    (∀ (v0 : Value) (st : List Value) (h : mr_h) (Q : Option Value → mr_h → Prop), mr_wp 33 19 [v0] st h Q = mr_wp 33 21 [v0] (.int (59) :: st) h Q) ∧
    (∀ (v0 : Value) (x : Int32) (y : Int32) (st : List Value) (h : mr_h) (Q : Option Value → mr_h → Prop), mr_wp 33 21 [v0] (.int y :: .int x :: st) h Q = if ¬ x = y then mr_wp 33 28 [v0] st h Q else mr_wp 33 24 [v0] st h Q) ∧
    (∀ (v0 : Value) (st : List Value) (h : mr_h) (Q : Option Value → mr_h → Prop), mr_wp 33 24 [v0] st h Q = mr_wp 33 25 [v0] (.int (1) :: st) h Q) ∧
    (∀ (v0 : Value) (st : List Value) (h : mr_h) (Q : Option Value → mr_h → Prop), mr_wp 33 25 [v0] st h Q = mr_wp 33 29 [v0] st h Q) ∧
    (∀ (v0 : Value) (st : List Value) (h : mr_h) (Q : Option Value → mr_h → Prop), mr_wp 33 28 [v0] st h Q = mr_wp 33 29 [v0] (.int (0) :: st) h Q) ∧
    (∀ (v0 : Value) (x : Int32) (h : mr_h) (Q : Option Value → mr_h → Prop) (hv : x &&& 1 = x), mr_wp 33 29 [v0] [.int x] h Q = Q (some (.int x)) h) :=
  ⟨fun x st h Q => gx_one (i := .iload_n 0) (len := 1) (by decide +kernel) rfl,
   fun v0 st h Q => gx_one (i := .bipush 110) (len := 2) (by decide +kernel) rfl,
   fun v0 x y st h Q => gx_br (i := .if_icmp .eq 21) (len := 3) (c := .eq) (by decide +kernel) rfl rfl,
   fun x st h Q => gx_one (i := .iload_n 0) (len := 1) (by decide +kernel) rfl,
   fun v0 st h Q => gx_one (i := .bipush 101) (len := 2) (by decide +kernel) rfl,
   fun v0 x y st h Q => gx_br (i := .if_icmp .eq 15) (len := 3) (c := .eq) (by decide +kernel) rfl rfl,
   fun x st h Q => gx_one (i := .iload_n 0) (len := 1) (by decide +kernel) rfl,
   fun v0 st h Q => gx_one (i := .bipush 114) (len := 2) (by decide +kernel) rfl,
   fun v0 x y st h Q => gx_br (i := .if_icmp .eq 9) (len := 3) (c := .eq) (by decide +kernel) rfl rfl,
   fun x st h Q => gx_one (i := .iload_n 0) (len := 1) (by decide +kernel) rfl,
   fun v0 st h Q => gx_one (i := .bipush 59) (len := 2) (by decide +kernel) rfl,
   fun v0 x y st h Q => gx_br (i := .if_icmp .ne 7) (len := 3) (c := .ne) (by decide +kernel) rfl rfl,
   fun v0 st h Q => gx_one (i := .iconst 1) (len := 1) (by decide +kernel) rfl,
   fun v0 st h Q => gx_one (i := .goto 4) (len := 3) (by decide +kernel) rfl,
   fun v0 st h Q => gx_one (i := .iconst 0) (len := 1) (by decide +kernel) rfl,
   fun v0 x h Q hv => gx_ret (i := .ireturn) (len := 1) (by decide +kernel) rfl rfl (by simp only [mr_rt, if_pos]; rw [if_pos (Or.inr ⟨by decide +kernel, hv⟩)])⟩
-- switch sc_readItem 4
set_option maxRecDepth 10000 in
theorem s_sc_readItem_4 (v0 v1 v2 v3 : Value) (x : Int32) (st : List Value) (h : mr_h) (Q : Option Value → mr_h → Prop) : mr_wp 34 4 [v0, v1, v2, v3] (.int x :: st) h Q = if x = 101 then mr_wp 34 61 [v0, v1, v2, v3] st h Q else if x = 110 then mr_wp 34 40 [v0, v1, v2, v3] st h Q else if x = 114 then mr_wp 34 70 [v0, v1, v2, v3] st h Q else mr_wp 34 79 [v0, v1, v2, v3] st h Q := by
  by_cases e101 : x = 101
  · subst e101
    rw [if_pos rfl]
    exact gx_one (i := .lookupswitch 75 #[(101, 57), (110, 36), (114, 66)]) (len := 36) (by decide +kernel) rfl
  rw [if_neg e101]
  by_cases e110 : x = 110
  · subst e110
    rw [if_pos rfl]
    exact gx_one (i := .lookupswitch 75 #[(101, 57), (110, 36), (114, 66)]) (len := 36) (by decide +kernel) rfl
  rw [if_neg e110]
  by_cases e114 : x = 114
  · subst e114
    rw [if_pos rfl]
    exact gx_one (i := .lookupswitch 75 #[(101, 57), (110, 36), (114, 66)]) (len := 36) (by decide +kernel) rfl
  rw [if_neg e114]
  exact gx_one (i := .lookupswitch 75 #[(101, 57), (110, 36), (114, 66)]) (len := 36) (by decide +kernel) (by simp only [mr_one]; rw [if_pos (by decide), lv_osw (a := 101) e101 rfl, lv_osw (a := 110) e110 rfl, lv_osw (a := 114) e114 rfl]; rfl)

theorem S_sc_readItem : (∀ (v1 v2 v3 : Value) (x : Nat) (st : List Value) (h : mr_h) (Q : Option Value → mr_h → Prop), mr_wp 34 0 [.ref x, v1, v2, v3] st h Q = mr_wp 34 1 [.ref x, v1, v2, v3] (.ref x :: st) h Q) ∧
    (∀ (v0 v1 v2 v3 : Value) (a : Nat) (st : List Value) (h : mr_h) (Q : Option Value → mr_h → Prop), mr_wp 34 1 [v0, v1, v2, v3] (.ref a :: st) h Q = mr_gf (h.1 a) 7 4 (fun v => mr_wp 34 4 [v0, v1, v2, v3] (v :: st) h Q)) ∧
    (∀ (v0 v1 v3 : Value) (x : Int32) (st : List Value) (h : mr_h) (Q : Option Value → mr_h → Prop), mr_wp 34 40 [v0, v1, .int x, v3] st h Q = mr_wp 34 41 [v0, v1, .int x, v3] (.int x :: st) h Q) ∧
    (∀ (v0 v1 v2 v3 : Value) (x : Int32) (st : List Value) (h : mr_h) (Q : Option Value → mr_h → Prop), mr_wp 34 41 [v0, v1, v2, v3] (.int x :: st) h Q = if x = 0 then mr_wp 34 56 [v0, v1, v2, v3] st h Q else mr_wp 34 44 [v0, v1, v2, v3] st h Q) ∧
    (∀ (v1 v2 v3 : Value) (x : Nat) (st : List Value) (h : mr_h) (Q : Option Value → mr_h → Prop), mr_wp 34 44 [.ref x, v1, v2, v3] st h Q = mr_wp 34 45 [.ref x, v1, v2, v3] (.ref x :: st) h Q) ∧
    (∀ (v0 v2 v3 : Value) (x : Nat) (st : List Value) (h : mr_h) (Q : Option Value → mr_h → Prop), mr_wp 34 45 [v0, .ref x, v2, v3] st h Q = mr_wp 34 46 [v0, .ref x, v2, v3] (.ref x :: st) h Q) ∧
    (∀ (v0 v1 v2 v3 : Value) (a0 : Nat) (o : Nat) (h : mr_h) (Q : Option Value → mr_h → Prop), mr_wp 34 46 [v0, v1, v2, v3] [.ref a0, .ref o] h Q = mr_rc (h.1 o) 7 (mr_run 35 [.ref o, .ref a0] h (fun v h' => mr_wp 34 49 [v0, v1, v2, v3] (v.toList ++ []) h' Q))) ∧
    (∀ (v0 v1 v2 v3 : Value) (x : Int32) (st : List Value) (h : mr_h) (Q : Option Value → mr_h → Prop), mr_wp 34 49 [v0, v1, v2, v3] (.int x :: st) h Q = if x = 0 then mr_wp 34 56 [v0, v1, v2, v3] st h Q else mr_wp 34 52 [v0, v1, v2, v3] st h Q) ∧
    (∀ (v0 v1 v2 v3 : Value) (st : List Value) (h : mr_h) (Q : Option Value → mr_h → Prop), mr_wp 34 52 [v0, v1, v2, v3] st h Q = mr_wp 34 53 [v0, v1, v2, v3] (.int (1) :: st) h Q) ∧
    (∀ (v0 v1 v2 v3 : Value) (st : List Value) (h : mr_h) (Q : Option Value → mr_h → Prop), mr_wp 34 53 [v0, v1, v2, v3] st h Q = mr_wp 34 57 [v0, v1, v2, v3] st h Q) ∧
    (∀ (v0 v1 v2 v3 : Value) (st : List Value) (h : mr_h) (Q : Option Value → mr_h → Prop), mr_wp 34 56 [v0, v1, v2, v3] st h Q = mr_wp 34 57 [v0, v1, v2, v3] (.int (0) :: st) h Q) ∧
    (∀ (v0 v1 v3 : Value) (w2 : Int32) (x : Int32) (st : List Value) (h : mr_h) (Q : Option Value → mr_h → Prop), mr_wp 34 57 [v0, v1, .int w2, v3] (.int x :: st) h Q = mr_wp 34 58 [v0, v1, .int w2, .int x] st h Q) ∧
    (∀ (v0 v1 v2 v3 : Value) (st : List Value) (h : mr_h) (Q : Option Value → mr_h → Prop), mr_wp 34 58 [v0, v1, v2, v3] st h Q = mr_wp 34 81 [v0, v1, v2, v3] st h Q) ∧
    (∀ (v1 v2 v3 : Value) (x : Nat) (st : List Value) (h : mr_h) (Q : Option Value → mr_h → Prop), mr_wp 34 61 [.ref x, v1, v2, v3] st h Q = mr_wp 34 62 [.ref x, v1, v2, v3] (.ref x :: st) h Q) ∧
    (∀ (v0 v2 v3 : Value) (x : Nat) (st : List Value) (h : mr_h) (Q : Option Value → mr_h → Prop), mr_wp 34 62 [v0, .ref x, v2, v3] st h Q = mr_wp 34 63 [v0, .ref x, v2, v3] (.ref x :: st) h Q) ∧
    (∀ (v0 v1 v2 v3 : Value) (a0 : Nat) (o : Nat) (h : mr_h) (Q : Option Value → mr_h → Prop), mr_wp 34 63 [v0, v1, v2, v3] [.ref a0, .ref o] h Q = mr_rc (h.1 o) 7 (mr_run 37 [.ref o, .ref a0] h (fun v h' => mr_wp 34 66 [v0, v1, v2, v3] (v.toList ++ []) h' Q))) ∧
    (∀ (v0 v1 v3 : Value) (w2 : Int32) (x : Int32) (st : List Value) (h : mr_h) (Q : Option Value → mr_h → Prop), mr_wp 34 66 [v0, v1, .int w2, v3] (.int x :: st) h Q = mr_wp 34 67 [v0, v1, .int w2, .int x] st h Q) ∧
    (∀ (v0 v1 v2 v3 : Value) (st : List Value) (h : mr_h) (Q : Option Value → mr_h → Prop), mr_wp 34 67 [v0, v1, v2, v3] st h Q = mr_wp 34 81 [v0, v1, v2, v3] st h Q) ∧
    (∀ (v1 v2 v3 : Value) (x : Nat) (st : List Value) (h : mr_h) (Q : Option Value → mr_h → Prop), mr_wp 34 70 [.ref x, v1, v2, v3] st h Q = mr_wp 34 71 [.ref x, v1, v2, v3] (.ref x :: st) h Q) ∧
    (∀ (v0 v2 v3 : Value) (x : Nat) (st : List Value) (h : mr_h) (Q : Option Value → mr_h → Prop), mr_wp 34 71 [v0, .ref x, v2, v3] st h Q = mr_wp 34 72 [v0, .ref x, v2, v3] (.ref x :: st) h Q) ∧
    (∀ (v0 v1 v2 v3 : Value) (a0 : Nat) (o : Nat) (h : mr_h) (Q : Option Value → mr_h → Prop), mr_wp 34 72 [v0, v1, v2, v3] [.ref a0, .ref o] h Q = mr_rc (h.1 o) 7 (mr_run 40 [.ref o, .ref a0] h (fun v h' => mr_wp 34 75 [v0, v1, v2, v3] (v.toList ++ []) h' Q))) ∧
    (∀ (v0 v1 v3 : Value) (w2 : Int32) (x : Int32) (st : List Value) (h : mr_h) (Q : Option Value → mr_h → Prop), mr_wp 34 75 [v0, v1, .int w2, v3] (.int x :: st) h Q = mr_wp 34 76 [v0, v1, .int w2, .int x] st h Q) ∧
    (∀ (v0 v1 v2 v3 : Value) (st : List Value) (h : mr_h) (Q : Option Value → mr_h → Prop), mr_wp 34 76 [v0, v1, v2, v3] st h Q = mr_wp 34 81 [v0, v1, v2, v3] st h Q) ∧
    (∀ (v0 v1 v2 v3 : Value) (st : List Value) (h : mr_h) (Q : Option Value → mr_h → Prop), mr_wp 34 79 [v0, v1, v2, v3] st h Q = mr_wp 34 80 [v0, v1, v2, v3] (.int (0) :: st) h Q) ∧
    (∀ (v0 v1 v3 : Value) (w2 : Int32) (x : Int32) (st : List Value) (h : mr_h) (Q : Option Value → mr_h → Prop), mr_wp 34 80 [v0, v1, .int w2, v3] (.int x :: st) h Q = mr_wp 34 81 [v0, v1, .int w2, .int x] st h Q) ∧
    (∀ (v0 v1 v2 : Value) (x : Int32) (st : List Value) (h : mr_h) (Q : Option Value → mr_h → Prop), mr_wp 34 81 [v0, v1, v2, .int x] st h Q = mr_wp 34 82 [v0, v1, v2, .int x] (.int x :: st) h Q) ∧
    (∀ (v0 v1 v2 v3 : Value) (x : Int32) (st : List Value) (h : mr_h) (Q : Option Value → mr_h → Prop), mr_wp 34 82 [v0, v1, v2, v3] (.int x :: st) h Q = if ¬ x = 0 then mr_wp 34 87 [v0, v1, v2, v3] st h Q else mr_wp 34 85 [v0, v1, v2, v3] st h Q) ∧
    (∀ (v0 v1 v2 v3 : Value) (st : List Value) (h : mr_h) (Q : Option Value → mr_h → Prop), mr_wp 34 85 [v0, v1, v2, v3] st h Q = mr_wp 34 86 [v0, v1, v2, v3] (.int (0) :: st) h Q) ∧
    (∀ (v0 v1 v2 v3 : Value) (x : Int32) (h : mr_h) (Q : Option Value → mr_h → Prop) (hv : x &&& 1 = x), mr_wp 34 86 [v0, v1, v2, v3] [.int x] h Q = Q (some (.int x)) h) ∧
    (∀ (v1 v2 v3 : Value) (x : Nat) (st : List Value) (h : mr_h) (Q : Option Value → mr_h → Prop), mr_wp 34 87 [.ref x, v1, v2, v3] st h Q = mr_wp 34 88 [.ref x, v1, v2, v3] (.ref x :: st) h Q) ∧
    (∀ (v0 v1 v2 v3 : Value) (o : Nat) (h : mr_h) (Q : Option Value → mr_h → Prop), mr_wp 34 88 [v0, v1, v2, v3] [.ref o] h Q = mr_rc (h.1 o) 7 (mr_run 31 [.ref o] h (fun v h' => mr_wp 34 91 [v0, v1, v2, v3] (v.toList ++ []) h' Q))) ∧
    (∀ (v1 v2 v3 : Value) (x : Nat) (st : List Value) (h : mr_h) (Q : Option Value → mr_h → Prop), mr_wp 34 91 [.ref x, v1, v2, v3] st h Q = mr_wp 34 92 [.ref x, v1, v2, v3] (.ref x :: st) h Q) ∧
    (∀ (v0 v1 v2 v3 : Value) (a : Nat) (st : List Value) (h : mr_h) (Q : Option Value → mr_h → Prop), mr_wp 34 92 [v0, v1, v2, v3] (.ref a :: st) h Q = mr_gf (h.1 a) 7 4 (fun v => mr_wp 34 95 [v0, v1, v2, v3] (v :: st) h Q)) ∧
    (∀ (v0 v1 v2 v3 : Value) (st : List Value) (h : mr_h) (Q : Option Value → mr_h → Prop), mr_wp 34 95 [v0, v1, v2, v3] st h Q = mr_wp 34 97 [v0, v1, v2, v3] (.int (59) :: st) h Q) ∧
    (∀ (v0 v1 v2 v3 : Value) (x : Int32) (y : Int32) (st : List Value) (h : mr_h) (Q : Option Value → mr_h → Prop), mr_wp 34 97 [v0, v1, v2, v3] (.int y :: .int x :: st) h Q = if ¬ x = y then mr_wp 34 104 [v0, v1, v2, v3] st h Q else mr_wp 34 100 [v0, v1, v2, v3] st h Q) ∧
    (∀ (v0 v1 v2 v3 : Value) (st : List Value) (h : mr_h) (Q : Option Value → mr_h → Prop), mr_wp 34 100 [v0, v1, v2, v3] st h Q = mr_wp 34 101 [v0, v1, v2, v3] (.int (1) :: st) h Q) ∧
    (∀ (v0 v1 v2 v3 : Value) (st : List Value) (h : mr_h) (Q : Option Value → mr_h → Prop), mr_wp 34 101 [v0, v1, v2, v3] st h Q = mr_wp 34 105 [v0, v1, v2, v3] st h Q) ∧
    (∀ (v0 v1 v2 v3 : Value) (st : List Value) (h : mr_h) (Q : Option Value → mr_h → Prop), mr_wp 34 104 [v0, v1, v2, v3] st h Q = mr_wp 34 105 [v0, v1, v2, v3] (.int (0) :: st) h Q) ∧
    (∀ (v0 v1 v2 v3 : Value) (x : Int32) (h : mr_h) (Q : Option Value → mr_h → Prop) (hv : x &&& 1 = x), mr_wp 34 105 [v0, v1, v2, v3] [.int x] h Q = Q (some (.int x)) h) :=
  ⟨fun v1 v2 v3 x st h Q => gx_one (i := .aload_n 0) (len := 1) (by decide +kernel) rfl,
   fun v0 v1 v2 v3 a st h Q => gx_get (x := 25) (by decide +kernel) (by decide +kernel),
   fun v0 v1 v3 x st h Q => gx_one (i := .iload_n 2) (len := 1) (by decide +kernel) rfl,
   fun v0 v1 v2 v3 x st h Q => gx_br (i := .ifCond .eq 15) (len := 3) (c := .eq) (by decide +kernel) rfl rfl,
   fun v1 v2 v3 x st h Q => gx_one (i := .aload_n 0) (len := 1) (by decide +kernel) rfl,
   fun v0 v2 v3 x st h Q => gx_one (i := .aload_n 1) (len := 1) (by decide +kernel) rfl,
   fun v0 v1 v2 v3 a0 o h Q => gx_virt (x := 50) (n := 1) (by decide +kernel) (by decide +kernel) rfl (Or.inl (Nat.le_of_ble_eq_true rfl)) (by show _ ≤ mr_mxl 35; rw [show mr_mxl 35 = 2 from by decide +kernel]; exact Nat.le_of_ble_eq_true rfl) (by decide +kernel),
   fun v0 v1 v2 v3 x st h Q => gx_br (i := .ifCond .eq 7) (len := 3) (c := .eq) (by decide +kernel) rfl rfl,
   fun v0 v1 v2 v3 st h Q => gx_one (i := .iconst 1) (len := 1) (by decide +kernel) rfl,
   fun v0 v1 v2 v3 st h Q => gx_one (i := .goto 4) (len := 3) (by decide +kernel) rfl,
   fun v0 v1 v2 v3 st h Q => gx_one (i := .iconst 0) (len := 1) (by decide +kernel) rfl,
   fun v0 v1 v3 w2 x st h Q => gx_one (i := .istore_n 3) (len := 1) (by decide +kernel) rfl,
   fun v0 v1 v2 v3 st h Q => gx_one (i := .goto 23) (len := 3) (by decide +kernel) rfl,
   fun v1 v2 v3 x st h Q => gx_one (i := .aload_n 0) (len := 1) (by decide +kernel) rfl,
   fun v0 v2 v3 x st h Q => gx_one (i := .aload_n 1) (len := 1) (by decide +kernel) rfl,
   fun v0 v1 v2 v3 a0 o h Q => gx_virt (x := 54) (n := 1) (by decide +kernel) (by decide +kernel) rfl (Or.inl (Nat.le_of_ble_eq_true rfl)) (by show _ ≤ mr_mxl 37; rw [show mr_mxl 37 = 3 from by decide +kernel]; exact Nat.le_of_ble_eq_true rfl) (by decide +kernel),
   fun v0 v1 v3 w2 x st h Q => gx_one (i := .istore_n 3) (len := 1) (by decide +kernel) rfl,
   fun v0 v1 v2 v3 st h Q => gx_one (i := .goto 14) (len := 3) (by decide +kernel) rfl,
   fun v1 v2 v3 x st h Q => gx_one (i := .aload_n 0) (len := 1) (by decide +kernel) rfl,
   fun v0 v2 v3 x st h Q => gx_one (i := .aload_n 1) (len := 1) (by decide +kernel) rfl,
   fun v0 v1 v2 v3 a0 o h Q => gx_virt (x := 57) (n := 1) (by decide +kernel) (by decide +kernel) rfl (Or.inl (Nat.le_of_ble_eq_true rfl)) (by show _ ≤ mr_mxl 40; rw [show mr_mxl 40 = 2 from by decide +kernel]; exact Nat.le_of_ble_eq_true rfl) (by decide +kernel),
   fun v0 v1 v3 w2 x st h Q => gx_one (i := .istore_n 3) (len := 1) (by decide +kernel) rfl,
   fun v0 v1 v2 v3 st h Q => gx_one (i := .goto 5) (len := 3) (by decide +kernel) rfl,
   fun v0 v1 v2 v3 st h Q => gx_one (i := .iconst 0) (len := 1) (by decide +kernel) rfl,
   fun v0 v1 v3 w2 x st h Q => gx_one (i := .istore_n 3) (len := 1) (by decide +kernel) rfl,
   fun v0 v1 v2 x st h Q => gx_one (i := .iload_n 3) (len := 1) (by decide +kernel) rfl,
   fun v0 v1 v2 v3 x st h Q => gx_br (i := .ifCond .ne 5) (len := 3) (c := .ne) (by decide +kernel) rfl rfl,
   fun v0 v1 v2 v3 st h Q => gx_one (i := .iconst 0) (len := 1) (by decide +kernel) rfl,
   fun v0 v1 v2 v3 x h Q hv => gx_ret (i := .ireturn) (len := 1) (by decide +kernel) rfl rfl (by simp only [mr_rt, if_pos]; rw [if_pos (Or.inr ⟨by decide +kernel, hv⟩)]),
   fun v1 v2 v3 x st h Q => gx_one (i := .aload_n 0) (len := 1) (by decide +kernel) rfl,
   fun v0 v1 v2 v3 o h Q => gx_virt (x := 39) (n := 0) (by decide +kernel) (by decide +kernel) rfl (Or.inl (Nat.le_of_ble_eq_true rfl)) (by show _ ≤ mr_mxl 31; rw [show mr_mxl 31 = 3 from by decide +kernel]; exact Nat.le_of_ble_eq_true rfl) (by decide +kernel),
   fun v1 v2 v3 x st h Q => gx_one (i := .aload_n 0) (len := 1) (by decide +kernel) rfl,
   fun v0 v1 v2 v3 a st h Q => gx_get (x := 25) (by decide +kernel) (by decide +kernel),
   fun v0 v1 v2 v3 st h Q => gx_one (i := .bipush 59) (len := 2) (by decide +kernel) rfl,
   fun v0 v1 v2 v3 x y st h Q => gx_br (i := .if_icmp .ne 7) (len := 3) (c := .ne) (by decide +kernel) rfl rfl,
   fun v0 v1 v2 v3 st h Q => gx_one (i := .iconst 1) (len := 1) (by decide +kernel) rfl,
   fun v0 v1 v2 v3 st h Q => gx_one (i := .goto 4) (len := 3) (by decide +kernel) rfl,
   fun v0 v1 v2 v3 st h Q => gx_one (i := .iconst 0) (len := 1) (by decide +kernel) rfl,
   fun v0 v1 v2 v3 x h Q hv => gx_ret (i := .ireturn) (len := 1) (by decide +kernel) rfl rfl (by simp only [mr_rt, if_pos]; rw [if_pos (Or.inr ⟨by decide +kernel, hv⟩)])⟩
theorem S_sc_readNodes : (∀ (v1 : Value) (x : Nat) (st : List Value) (h : mr_h) (Q : Option Value → mr_h → Prop), mr_wp 35 0 [.ref x, v1] st h Q = mr_wp 35 1 [.ref x, v1] (.ref x :: st) h Q) ∧
    (∀ (v0 v1 : Value) (st : List Value) (h : mr_h) (Q : Option Value → mr_h → Prop), mr_wp 35 1 [v0, v1] st h Q = mr_wp 35 2 [v0, v1] (.int (1) :: st) h Q) ∧
    (∀ (v0 v1 : Value) (st : List Value) (h : mr_h) (Q : Option Value → mr_h → Prop), mr_wp 35 2 [v0, v1] st h Q = mr_wp 35 4 [v0, v1] (.int (12) :: st) h Q) ∧
    (∀ (v0 v1 : Value) (a0 : Int32) (a1 : Int32) (o : Nat) (h : mr_h) (Q : Option Value → mr_h → Prop), mr_wp 35 4 [v0, v1] [.int a1, .int a0, .ref o] h Q = mr_rc (h.1 o) 7 (mr_run 36 [.ref o, .int a0, .int a1] h (fun v h' => mr_wp 35 7 [v0, v1] (v.toList ++ []) h' Q))) ∧
    (∀ (v0 v1 : Value) (x : Int32) (st : List Value) (h : mr_h) (Q : Option Value → mr_h → Prop), mr_wp 35 7 [v0, v1] (.int x :: st) h Q = if ¬ x = 0 then mr_wp 35 12 [v0, v1] st h Q else mr_wp 35 10 [v0, v1] st h Q) ∧
    (∀ (v0 v1 : Value) (st : List Value) (h : mr_h) (Q : Option Value → mr_h → Prop), mr_wp 35 10 [v0, v1] st h Q = mr_wp 35 11 [v0, v1] (.int (0) :: st) h Q) ∧
    (∀ (v0 v1 : Value) (x : Int32) (h : mr_h) (Q : Option Value → mr_h → Prop) (hv : x &&& 1 = x), mr_wp 35 11 [v0, v1] [.int x] h Q = Q (some (.int x)) h) ∧
    (∀ (v0 : Value) (x : Nat) (st : List Value) (h : mr_h) (Q : Option Value → mr_h → Prop), mr_wp 35 12 [v0, .ref x] st h Q = mr_wp 35 13 [v0, .ref x] (.ref x :: st) h Q) ∧
    (∀ (v1 : Value) (x : Nat) (st : List Value) (h : mr_h) (Q : Option Value → mr_h → Prop), mr_wp 35 13 [.ref x, v1] st h Q = mr_wp 35 14 [.ref x, v1] (.ref x :: st) h Q) ∧
    (∀ (v0 v1 : Value) (a : Nat) (st : List Value) (h : mr_h) (Q : Option Value → mr_h → Prop), mr_wp 35 14 [v0, v1] (.ref a :: st) h Q = mr_gf (h.1 a) 7 5 (fun v => mr_wp 35 17 [v0, v1] (v :: st) h Q)) ∧
    (∀ (v0 v1 : Value) (a : Nat) (x : Int32) (st : List Value) (h : mr_h) (Q : Option Value → mr_h → Prop), mr_wp 35 17 [v0, v1] (.int x :: .ref a :: st) h Q = mr_pf (h.1 a) 3 0 (.int x) (fun c => mr_wp 35 20 [v0, v1] st (mr_up h a c) Q)) ∧
    (∀ (v0 v1 : Value) (st : List Value) (h : mr_h) (Q : Option Value → mr_h → Prop), mr_wp 35 20 [v0, v1] st h Q = mr_wp 35 21 [v0, v1] (.int (1) :: st) h Q) ∧
    (∀ (v0 v1 : Value) (x : Int32) (h : mr_h) (Q : Option Value → mr_h → Prop) (hv : x &&& 1 = x), mr_wp 35 21 [v0, v1] [.int x] h Q = Q (some (.int x)) h) :=
  ⟨fun v1 x st h Q => gx_one (i := .aload_n 0) (len := 1) (by decide +kernel) rfl,
   fun v0 v1 st h Q => gx_one (i := .iconst 1) (len := 1) (by decide +kernel) rfl,
   fun v0 v1 st h Q => gx_one (i := .bipush 12) (len := 2) (by decide +kernel) rfl,
   fun v0 v1 a0 a1 o h Q => gx_virt (x := 60) (n := 2) (by decide +kernel) (by decide +kernel) rfl (Or.inl (Nat.le_of_ble_eq_true rfl)) (by show _ ≤ mr_mxl 36; rw [show mr_mxl 36 = 3 from by decide +kernel]; exact Nat.le_of_ble_eq_true rfl) (by decide +kernel),
   fun v0 v1 x st h Q => gx_br (i := .ifCond .ne 5) (len := 3) (c := .ne) (by decide +kernel) rfl rfl,
   fun v0 v1 st h Q => gx_one (i := .iconst 0) (len := 1) (by decide +kernel) rfl,
   fun v0 v1 x h Q hv => gx_ret (i := .ireturn) (len := 1) (by decide +kernel) rfl rfl (by simp only [mr_rt, if_pos]; rw [if_pos (Or.inr ⟨by decide +kernel, hv⟩)]),
   fun v0 x st h Q => gx_one (i := .aload_n 1) (len := 1) (by decide +kernel) rfl,
   fun v1 x st h Q => gx_one (i := .aload_n 0) (len := 1) (by decide +kernel) rfl,
   fun v0 v1 a st h Q => gx_get (x := 28) (by decide +kernel) (by decide +kernel),
   fun v0 v1 a x st h Q => gx_put (x := 64) (by decide +kernel) (by decide +kernel) ⟨rfl, Or.inl rfl⟩,
   fun v0 v1 st h Q => gx_one (i := .iconst 1) (len := 1) (by decide +kernel) rfl,
   fun v0 v1 x h Q hv => gx_ret (i := .ireturn) (len := 1) (by decide +kernel) rfl rfl (by simp only [mr_rt, if_pos]; rw [if_pos (Or.inr ⟨by decide +kernel, hv⟩)])⟩
theorem S_sc_readNumber : (∀ (v1 v2 : Value) (x : Nat) (st : List Value) (h : mr_h) (Q : Option Value → mr_h → Prop), mr_wp 36 0 [.ref x, v1, v2] st h Q = mr_wp 36 1 [.ref x, v1, v2] (.ref x :: st) h Q) ∧
    (∀ (v0 v1 v2 : Value) (o : Nat) (h : mr_h) (Q : Option Value → mr_h → Prop), mr_wp 36 1 [v0, v1, v2] [.ref o] h Q = mr_rc (h.1 o) 7 (mr_run 31 [.ref o] h (fun v h' => mr_wp 36 4 [v0, v1, v2] (v.toList ++ []) h' Q))) ∧
    (∀ (v1 v2 : Value) (x : Nat) (st : List Value) (h : mr_h) (Q : Option Value → mr_h → Prop), mr_wp 36 4 [.ref x, v1, v2] st h Q = mr_wp 36 5 [.ref x, v1, v2] (.ref x :: st) h Q) ∧
    (∀ (v0 v1 v2 : Value) (a : Nat) (st : List Value) (h : mr_h) (Q : Option Value → mr_h → Prop), mr_wp 36 5 [v0, v1, v2] (.ref a :: st) h Q = mr_gf (h.1 a) 7 4 (fun v => mr_wp 36 8 [v0, v1, v2] (v :: st) h Q)) ∧
    (∀ (v0 v1 v2 : Value) (st : List Value) (h : mr_h) (Q : Option Value → mr_h → Prop), mr_wp 36 8 [v0, v1, v2] st h Q = mr_wp 36 10 [v0, v1, v2] (.int (48) :: st) h Q) ∧
    (∀ (v0 v1 v2 : Value) (x : Int32) (y : Int32) (st : List Value) (h : mr_h) (Q : Option Value → mr_h → Prop), mr_wp 36 10 [v0, v1, v2] (.int y :: .int x :: st) h Q = if ¬ x = y then mr_wp 36 33 [v0, v1, v2] st h Q else mr_wp 36 13 [v0, v1, v2] st h Q) ∧
    (∀ (v1 v2 : Value) (x : Nat) (st : List Value) (h : mr_h) (Q : Option Value → mr_h → Prop), mr_wp 36 13 [.ref x, v1, v2] st h Q = mr_wp 36 14 [.ref x, v1, v2] (.ref x :: st) h Q) ∧
    (∀ (v0 v1 v2 : Value) (a : Nat) (st : List Value) (h : mr_h) (Q : Option Value → mr_h → Prop), mr_wp 36 14 [v0, v1, v2] (.ref a :: st) h Q = mr_gf (h.1 a) 7 5 (fun v => mr_wp 36 17 [v0, v1, v2] (v :: st) h Q)) ∧
    (∀ (v0 v2 : Value) (x : Int32) (st : List Value) (h : mr_h) (Q : Option Value → mr_h → Prop), mr_wp 36 17 [v0, .int x, v2] st h Q = mr_wp 36 18 [v0, .int x, v2] (.int x :: st) h Q) ∧
    (∀ (v0 v1 v2 : Value) (x : Int32) (y : Int32) (st : List Value) (h : mr_h) (Q : Option Value → mr_h → Prop), mr_wp 36 18 [v0, v1, v2] (.int y :: .int x :: st) h Q = if x < y then mr_wp 36 33 [v0, v1, v2] st h Q else mr_wp 36 21 [v0, v1, v2] st h Q) ∧
    (∀ (v1 v2 : Value) (x : Nat) (st : List Value) (h : mr_h) (Q : Option Value → mr_h → Prop), mr_wp 36 21 [.ref x, v1, v2] st h Q = mr_wp 36 22 [.ref x, v1, v2] (.ref x :: st) h Q) ∧
    (∀ (v0 v1 v2 : Value) (a : Nat) (st : List Value) (h : mr_h) (Q : Option Value → mr_h → Prop), mr_wp 36 22 [v0, v1, v2] (.ref a :: st) h Q = mr_gf (h.1 a) 7 5 (fun v => mr_wp 36 25 [v0, v1, v2] (v :: st) h Q)) ∧
    (∀ (v0 v1 : Value) (x : Int32) (st : List Value) (h : mr_h) (Q : Option Value → mr_h → Prop), mr_wp 36 25 [v0, v1, .int x] st h Q = mr_wp 36 26 [v0, v1, .int x] (.int x :: st) h Q) ∧
    (∀ (v0 v1 v2 : Value) (x : Int32) (y : Int32) (st : List Value) (h : mr_h) (Q : Option Value → mr_h → Prop), mr_wp 36 26 [v0, v1, v2] (.int y :: .int x :: st) h Q = if y < x then mr_wp 36 33 [v0, v1, v2] st h Q else mr_wp 36 29 [v0, v1, v2] st h Q) ∧
    (∀ (v0 v1 v2 : Value) (st : List Value) (h : mr_h) (Q : Option Value → mr_h → Prop), mr_wp 36 29 [v0, v1, v2] st h Q = mr_wp 36 30 [v0, v1, v2] (.int (1) :: st) h Q) ∧
    (∀ (v0 v1 v2 : Value) (st : List Value) (h : mr_h) (Q : Option Value → mr_h → Prop), mr_wp 36 30 [v0, v1, v2] st h Q = mr_wp 36 34 [v0, v1, v2] st h Q) ∧
    (∀ (v0 v1 v2 : Value) (st : List Value) (h : mr_h) (Q : Option Value → mr_h → Prop), mr_wp 36 33 [v0, v1, v2] st h Q = mr_wp 36 34 [v0, v1, v2] (.int (0) :: st) h Q) ∧
    (∀ (v0 v1 v2 : Value) (x : Int32) (h : mr_h) (Q : Option Value → mr_h → Prop) (hv : x &&& 1 = x), mr_wp 36 34 [v0, v1, v2] [.int x] h Q = Q (some (.int x)) h) :=
  ⟨fun v1 v2 x st h Q => gx_one (i := .aload_n 0) (len := 1) (by decide +kernel) rfl,
   fun v0 v1 v2 o h Q => gx_virt (x := 39) (n := 0) (by decide +kernel) (by decide +kernel) rfl (Or.inl (Nat.le_of_ble_eq_true rfl)) (by show _ ≤ mr_mxl 31; rw [show mr_mxl 31 = 3 from by decide +kernel]; exact Nat.le_of_ble_eq_true rfl) (by decide +kernel),
   fun v1 v2 x st h Q => gx_one (i := .aload_n 0) (len := 1) (by decide +kernel) rfl,
   fun v0 v1 v2 a st h Q => gx_get (x := 25) (by decide +kernel) (by decide +kernel),
   fun v0 v1 v2 st h Q => gx_one (i := .bipush 48) (len := 2) (by decide +kernel) rfl,
   fun v0 v1 v2 x y st h Q => gx_br (i := .if_icmp .ne 23) (len := 3) (c := .ne) (by decide +kernel) rfl rfl,
   fun v1 v2 x st h Q => gx_one (i := .aload_n 0) (len := 1) (by decide +kernel) rfl,
   fun v0 v1 v2 a st h Q => gx_get (x := 28) (by decide +kernel) (by decide +kernel),
   fun v0 v2 x st h Q => gx_one (i := .iload_n 1) (len := 1) (by decide +kernel) rfl,
   fun v0 v1 v2 x y st h Q => gx_br (i := .if_icmp .lt 15) (len := 3) (c := .lt) (by decide +kernel) rfl rfl,
   fun v1 v2 x st h Q => gx_one (i := .aload_n 0) (len := 1) (by decide +kernel) rfl,
   fun v0 v1 v2 a st h Q => gx_get (x := 28) (by decide +kernel) (by decide +kernel),
   fun v0 v1 x st h Q => gx_one (i := .iload_n 2) (len := 1) (by decide +kernel) rfl,
   fun v0 v1 v2 x y st h Q => gx_br (i := .if_icmp .gt 7) (len := 3) (c := .gt) (by decide +kernel) rfl rfl,
   fun v0 v1 v2 st h Q => gx_one (i := .iconst 1) (len := 1) (by decide +kernel) rfl,
   fun v0 v1 v2 st h Q => gx_one (i := .goto 4) (len := 3) (by decide +kernel) rfl,
   fun v0 v1 v2 st h Q => gx_one (i := .iconst 0) (len := 1) (by decide +kernel) rfl,
   fun v0 v1 v2 x h Q hv => gx_ret (i := .ireturn) (len := 1) (by decide +kernel) rfl rfl (by simp only [mr_rt, if_pos]; rw [if_pos (Or.inr ⟨by decide +kernel, hv⟩)])⟩
theorem S_sc_readEdge : (∀ (v1 v2 : Value) (x : Nat) (st : List Value) (h : mr_h) (Q : Option Value → mr_h → Prop), mr_wp 37 0 [.ref x, v1, v2] st h Q = mr_wp 37 1 [.ref x, v1, v2] (.ref x :: st) h Q) ∧
    (∀ (v0 v1 v2 : Value) (st : List Value) (h : mr_h) (Q : Option Value → mr_h → Prop), mr_wp 37 1 [v0, v1, v2] st h Q = mr_wp 37 2 [v0, v1, v2] (.int (0) :: st) h Q) ∧
    (∀ (v0 v2 : Value) (x : Nat) (st : List Value) (h : mr_h) (Q : Option Value → mr_h → Prop), mr_wp 37 2 [v0, .ref x, v2] st h Q = mr_wp 37 3 [v0, .ref x, v2] (.ref x :: st) h Q) ∧
    (∀ (v0 v1 v2 : Value) (a : Nat) (st : List Value) (h : mr_h) (Q : Option Value → mr_h → Prop), mr_wp 37 3 [v0, v1, v2] (.ref a :: st) h Q = mr_gf (h.1 a) 3 0 (fun v => mr_wp 37 6 [v0, v1, v2] (v :: st) h Q)) ∧
    (∀ (v0 v1 v2 : Value) (st : List Value) (h : mr_h) (Q : Option Value → mr_h → Prop), mr_wp 37 6 [v0, v1, v2] st h Q = mr_wp 37 7 [v0, v1, v2] (.int (1) :: st) h Q) ∧
    (∀ (v0 v1 v2 : Value) (x : Int32) (y : Int32) (st : List Value) (h : mr_h) (Q : Option Value → mr_h → Prop), mr_wp 37 7 [v0, v1, v2] (.int y :: .int x :: st) h Q = mr_wp 37 8 [v0, v1, v2] (.int (x - y) :: st) h Q) ∧
    (∀ (v0 v1 v2 : Value) (a0 : Int32) (a1 : Int32) (o : Nat) (h : mr_h) (Q : Option Value → mr_h → Prop), mr_wp 37 8 [v0, v1, v2] [.int a1, .int a0, .ref o] h Q = mr_rc (h.1 o) 7 (mr_run 36 [.ref o, .int a0, .int a1] h (fun v h' => mr_wp 37 11 [v0, v1, v2] (v.toList ++ []) h' Q))) ∧
    (∀ (v0 v1 v2 : Value) (x : Int32) (st : List Value) (h : mr_h) (Q : Option Value → mr_h → Prop), mr_wp 37 11 [v0, v1, v2] (.int x :: st) h Q = if ¬ x = 0 then mr_wp 37 16 [v0, v1, v2] st h Q else mr_wp 37 14 [v0, v1, v2] st h Q) ∧
    (∀ (v0 v1 v2 : Value) (st : List Value) (h : mr_h) (Q : Option Value → mr_h → Prop), mr_wp 37 14 [v0, v1, v2] st h Q = mr_wp 37 15 [v0, v1, v2] (.int (0) :: st) h Q) ∧
    (∀ (v0 v1 v2 : Value) (x : Int32) (h : mr_h) (Q : Option Value → mr_h → Prop) (hv : x &&& 1 = x), mr_wp 37 15 [v0, v1, v2] [.int x] h Q = Q (some (.int x)) h) ∧
    (∀ (v1 v2 : Value) (x : Nat) (st : List Value) (h : mr_h) (Q : Option Value → mr_h → Prop), mr_wp 37 16 [.ref x, v1, v2] st h Q = mr_wp 37 17 [.ref x, v1, v2] (.ref x :: st) h Q) ∧
    (∀ (v0 v1 v2 : Value) (a : Nat) (st : List Value) (h : mr_h) (Q : Option Value → mr_h → Prop), mr_wp 37 17 [v0, v1, v2] (.ref a :: st) h Q = mr_gf (h.1 a) 7 5 (fun v => mr_wp 37 20 [v0, v1, v2] (v :: st) h Q)) ∧
    (∀ (v0 v2 : Value) (w1 : Nat) (x : Int32) (st : List Value) (h : mr_h) (Q : Option Value → mr_h → Prop), mr_wp 37 20 [v0, .ref w1, v2] (.int x :: st) h Q = mr_wp 37 21 [v0, .ref w1, .int x] st h Q) ∧
    (∀ (v1 v2 : Value) (x : Nat) (st : List Value) (h : mr_h) (Q : Option Value → mr_h → Prop), mr_wp 37 21 [.ref x, v1, v2] st h Q = mr_wp 37 22 [.ref x, v1, v2] (.ref x :: st) h Q) ∧
    (∀ (v0 v1 v2 : Value) (st : List Value) (h : mr_h) (Q : Option Value → mr_h → Prop), mr_wp 37 22 [v0, v1, v2] st h Q = mr_wp 37 23 [v0, v1, v2] (.int (0) :: st) h Q) ∧
    (∀ (v0 v2 : Value) (x : Nat) (st : List Value) (h : mr_h) (Q : Option Value → mr_h → Prop), mr_wp 37 23 [v0, .ref x, v2] st h Q = mr_wp 37 24 [v0, .ref x, v2] (.ref x :: st) h Q) ∧
    (∀ (v0 v1 v2 : Value) (a : Nat) (st : List Value) (h : mr_h) (Q : Option Value → mr_h → Prop), mr_wp 37 24 [v0, v1, v2] (.ref a :: st) h Q = mr_gf (h.1 a) 3 0 (fun v => mr_wp 37 27 [v0, v1, v2] (v :: st) h Q)) ∧
    (∀ (v0 v1 v2 : Value) (st : List Value) (h : mr_h) (Q : Option Value → mr_h → Prop), mr_wp 37 27 [v0, v1, v2] st h Q = mr_wp 37 28 [v0, v1, v2] (.int (1) :: st) h Q) ∧
    (∀ (v0 v1 v2 : Value) (x : Int32) (y : Int32) (st : List Value) (h : mr_h) (Q : Option Value → mr_h → Prop), mr_wp 37 28 [v0, v1, v2] (.int y :: .int x :: st) h Q = mr_wp 37 29 [v0, v1, v2] (.int (x - y) :: st) h Q) ∧
    (∀ (v0 v1 v2 : Value) (a0 : Int32) (a1 : Int32) (o : Nat) (h : mr_h) (Q : Option Value → mr_h → Prop), mr_wp 37 29 [v0, v1, v2] [.int a1, .int a0, .ref o] h Q = mr_rc (h.1 o) 7 (mr_run 36 [.ref o, .int a0, .int a1] h (fun v h' => mr_wp 37 32 [v0, v1, v2] (v.toList ++ []) h' Q))) ∧
    (∀ (v0 v1 v2 : Value) (x : Int32) (st : List Value) (h : mr_h) (Q : Option Value → mr_h → Prop), mr_wp 37 32 [v0, v1, v2] (.int x :: st) h Q = if x = 0 then mr_wp 37 55 [v0, v1, v2] st h Q else mr_wp 37 35 [v0, v1, v2] st h Q) ∧
    (∀ (v1 v2 : Value) (x : Nat) (st : List Value) (h : mr_h) (Q : Option Value → mr_h → Prop), mr_wp 37 35 [.ref x, v1, v2] st h Q = mr_wp 37 36 [.ref x, v1, v2] (.ref x :: st) h Q) ∧
    (∀ (v0 v1 v2 : Value) (a : Nat) (st : List Value) (h : mr_h) (Q : Option Value → mr_h → Prop), mr_wp 37 36 [v0, v1, v2] (.ref a :: st) h Q = mr_gf (h.1 a) 7 5 (fun v => mr_wp 37 39 [v0, v1, v2] (v :: st) h Q)) ∧
    (∀ (v0 v1 : Value) (x : Int32) (st : List Value) (h : mr_h) (Q : Option Value → mr_h → Prop), mr_wp 37 39 [v0, v1, .int x] st h Q = mr_wp 37 40 [v0, v1, .int x] (.int x :: st) h Q) ∧
    (∀ (v0 v1 v2 : Value) (x : Int32) (y : Int32) (st : List Value) (h : mr_h) (Q : Option Value → mr_h → Prop), mr_wp 37 40 [v0, v1, v2] (.int y :: .int x :: st) h Q = if x = y then mr_wp 37 55 [v0, v1, v2] st h Q else mr_wp 37 43 [v0, v1, v2] st h Q) ∧
    (∀ (v0 v2 : Value) (x : Nat) (st : List Value) (h : mr_h) (Q : Option Value → mr_h → Prop), mr_wp 37 43 [v0, .ref x, v2] st h Q = mr_wp 37 44 [v0, .ref x, v2] (.ref x :: st) h Q) ∧
    (∀ (v0 v1 : Value) (x : Int32) (st : List Value) (h : mr_h) (Q : Option Value → mr_h → Prop), mr_wp 37 44 [v0, v1, .int x] st h Q = mr_wp 37 45 [v0, v1, .int x] (.int x :: st) h Q) ∧
    (∀ (v1 v2 : Value) (x : Nat) (st : List Value) (h : mr_h) (Q : Option Value → mr_h → Prop), mr_wp 37 45 [.ref x, v1, v2] st h Q = mr_wp 37 46 [.ref x, v1, v2] (.ref x :: st) h Q) ∧
    (∀ (v0 v1 v2 : Value) (a : Nat) (st : List Value) (h : mr_h) (Q : Option Value → mr_h → Prop), mr_wp 37 46 [v0, v1, v2] (.ref a :: st) h Q = mr_gf (h.1 a) 7 5 (fun v => mr_wp 37 49 [v0, v1, v2] (v :: st) h Q)) ∧
    (∀ (v0 v1 v2 : Value) (a0 : Int32) (a1 : Int32) (o : Nat) (h : mr_h) (Q : Option Value → mr_h → Prop), mr_wp 37 49 [v0, v1, v2] [.int a1, .int a0, .ref o] h Q = mr_rc (h.1 o) 3 (mr_run 38 [.ref o, .int a0, .int a1] h (fun v h' => mr_wp 37 52 [v0, v1, v2] (v.toList ++ []) h' Q))) ∧
    (∀ (v0 v1 v2 : Value) (x : Int32) (st : List Value) (h : mr_h) (Q : Option Value → mr_h → Prop), mr_wp 37 52 [v0, v1, v2] (.int x :: st) h Q = if x = 0 then mr_wp 37 57 [v0, v1, v2] st h Q else mr_wp 37 55 [v0, v1, v2] st h Q) ∧
    (∀ (v0 v1 v2 : Value) (st : List Value) (h : mr_h) (Q : Option Value → mr_h → Prop), mr_wp 37 55 [v0, v1, v2] st h Q = mr_wp 37 56 [v0, v1, v2] (.int (0) :: st) h Q) ∧
    (∀ (v0 v1 v2 : Value) (x : Int32) (h : mr_h) (Q : Option Value → mr_h → Prop) (hv : x &&& 1 = x), mr_wp 37 56 [v0, v1, v2] [.int x] h Q = Q (some (.int x)) h) ∧
    (∀ (v0 v2 : Value) (x : Nat) (st : List Value) (h : mr_h) (Q : Option Value → mr_h → Prop), mr_wp 37 57 [v0, .ref x, v2] st h Q = mr_wp 37 58 [v0, .ref x, v2] (.ref x :: st) h Q) ∧
    (∀ (v0 v1 : Value) (x : Int32) (st : List Value) (h : mr_h) (Q : Option Value → mr_h → Prop), mr_wp 37 58 [v0, v1, .int x] st h Q = mr_wp 37 59 [v0, v1, .int x] (.int x :: st) h Q) ∧
    (∀ (v1 v2 : Value) (x : Nat) (st : List Value) (h : mr_h) (Q : Option Value → mr_h → Prop), mr_wp 37 59 [.ref x, v1, v2] st h Q = mr_wp 37 60 [.ref x, v1, v2] (.ref x :: st) h Q) ∧
    (∀ (v0 v1 v2 : Value) (a : Nat) (st : List Value) (h : mr_h) (Q : Option Value → mr_h → Prop), mr_wp 37 60 [v0, v1, v2] (.ref a :: st) h Q = mr_gf (h.1 a) 7 5 (fun v => mr_wp 37 63 [v0, v1, v2] (v :: st) h Q)) ∧
    (∀ (v0 v1 v2 : Value) (a0 : Int32) (a1 : Int32) (o : Nat) (h : mr_h) (Q : Option Value → mr_h → Prop), mr_wp 37 63 [v0, v1, v2] [.int a1, .int a0, .ref o] h Q = mr_rc (h.1 o) 3 (mr_run 39 [.ref o, .int a0, .int a1] h (fun v h' => mr_wp 37 66 [v0, v1, v2] (v.toList ++ []) h' Q))) ∧
    (∀ (v0 v1 v2 : Value) (st : List Value) (h : mr_h) (Q : Option Value → mr_h → Prop), mr_wp 37 66 [v0, v1, v2] st h Q = mr_wp 37 67 [v0, v1, v2] (.int (1) :: st) h Q) ∧
    (∀ (v0 v1 v2 : Value) (x : Int32) (h : mr_h) (Q : Option Value → mr_h → Prop) (hv : x &&& 1 = x), mr_wp 37 67 [v0, v1, v2] [.int x] h Q = Q (some (.int x)) h) :=
  ⟨fun v1 v2 x st h Q => gx_one (i := .aload_n 0) (len := 1) (by decide +kernel) rfl,
   fun v0 v1 v2 st h Q => gx_one (i := .iconst 0) (len := 1) (by decide +kernel) rfl,
   fun v0 v2 x st h Q => gx_one (i := .aload_n 1) (len := 1) (by decide +kernel) rfl,
   fun v0 v1 v2 a st h Q => gx_get (x := 64) (by decide +kernel) (by decide +kernel),
   fun v0 v1 v2 st h Q => gx_one (i := .iconst 1) (len := 1) (by decide +kernel) rfl,
   fun v0 v1 v2 x y st h Q => gx_one (i := .isub) (len := 1) (by decide +kernel) rfl,
   fun v0 v1 v2 a0 a1 o h Q => gx_virt (x := 60) (n := 2) (by decide +kernel) (by decide +kernel) rfl (Or.inl (Nat.le_of_ble_eq_true rfl)) (by show _ ≤ mr_mxl 36; rw [show mr_mxl 36 = 3 from by decide +kernel]; exact Nat.le_of_ble_eq_true rfl) (by decide +kernel),
   fun v0 v1 v2 x st h Q => gx_br (i := .ifCond .ne 5) (len := 3) (c := .ne) (by decide +kernel) rfl rfl,
   fun v0 v1 v2 st h Q => gx_one (i := .iconst 0) (len := 1) (by decide +kernel) rfl,
   fun v0 v1 v2 x h Q hv => gx_ret (i := .ireturn) (len := 1) (by decide +kernel) rfl rfl (by simp only [mr_rt, if_pos]; rw [if_pos (Or.inr ⟨by decide +kernel, hv⟩)]),
   fun v1 v2 x st h Q => gx_one (i := .aload_n 0) (len := 1) (by decide +kernel) rfl,
   fun v0 v1 v2 a st h Q => gx_get (x := 28) (by decide +kernel) (by decide +kernel),
   fun v0 v2 w1 x st h Q => gx_one (i := .istore_n 2) (len := 1) (by decide +kernel) rfl,
   fun v1 v2 x st h Q => gx_one (i := .aload_n 0) (len := 1) (by decide +kernel) rfl,
   fun v0 v1 v2 st h Q => gx_one (i := .iconst 0) (len := 1) (by decide +kernel) rfl,
   fun v0 v2 x st h Q => gx_one (i := .aload_n 1) (len := 1) (by decide +kernel) rfl,
   fun v0 v1 v2 a st h Q => gx_get (x := 64) (by decide +kernel) (by decide +kernel),
   fun v0 v1 v2 st h Q => gx_one (i := .iconst 1) (len := 1) (by decide +kernel) rfl,
   fun v0 v1 v2 x y st h Q => gx_one (i := .isub) (len := 1) (by decide +kernel) rfl,
   fun v0 v1 v2 a0 a1 o h Q => gx_virt (x := 60) (n := 2) (by decide +kernel) (by decide +kernel) rfl (Or.inl (Nat.le_of_ble_eq_true rfl)) (by show _ ≤ mr_mxl 36; rw [show mr_mxl 36 = 3 from by decide +kernel]; exact Nat.le_of_ble_eq_true rfl) (by decide +kernel),
   fun v0 v1 v2 x st h Q => gx_br (i := .ifCond .eq 23) (len := 3) (c := .eq) (by decide +kernel) rfl rfl,
   fun v1 v2 x st h Q => gx_one (i := .aload_n 0) (len := 1) (by decide +kernel) rfl,
   fun v0 v1 v2 a st h Q => gx_get (x := 28) (by decide +kernel) (by decide +kernel),
   fun v0 v1 x st h Q => gx_one (i := .iload_n 2) (len := 1) (by decide +kernel) rfl,
   fun v0 v1 v2 x y st h Q => gx_br (i := .if_icmp .eq 15) (len := 3) (c := .eq) (by decide +kernel) rfl rfl,
   fun v0 v2 x st h Q => gx_one (i := .aload_n 1) (len := 1) (by decide +kernel) rfl,
   fun v0 v1 x st h Q => gx_one (i := .iload_n 2) (len := 1) (by decide +kernel) rfl,
   fun v1 v2 x st h Q => gx_one (i := .aload_n 0) (len := 1) (by decide +kernel) rfl,
   fun v0 v1 v2 a st h Q => gx_get (x := 28) (by decide +kernel) (by decide +kernel),
   fun v0 v1 v2 a0 a1 o h Q => gx_virt (x := 67) (n := 2) (by decide +kernel) (by decide +kernel) rfl (Or.inl (Nat.le_of_ble_eq_true rfl)) (by show _ ≤ mr_mxl 38; rw [show mr_mxl 38 = 3 from by decide +kernel]; exact Nat.le_of_ble_eq_true rfl) (by decide +kernel),
   fun v0 v1 v2 x st h Q => gx_br (i := .ifCond .eq 5) (len := 3) (c := .eq) (by decide +kernel) rfl rfl,
   fun v0 v1 v2 st h Q => gx_one (i := .iconst 0) (len := 1) (by decide +kernel) rfl,
   fun v0 v1 v2 x h Q hv => gx_ret (i := .ireturn) (len := 1) (by decide +kernel) rfl rfl (by simp only [mr_rt, if_pos]; rw [if_pos (Or.inr ⟨by decide +kernel, hv⟩)]),
   fun v0 v2 x st h Q => gx_one (i := .aload_n 1) (len := 1) (by decide +kernel) rfl,
   fun v0 v1 x st h Q => gx_one (i := .iload_n 2) (len := 1) (by decide +kernel) rfl,
   fun v1 v2 x st h Q => gx_one (i := .aload_n 0) (len := 1) (by decide +kernel) rfl,
   fun v0 v1 v2 a st h Q => gx_get (x := 28) (by decide +kernel) (by decide +kernel),
   fun v0 v1 v2 a0 a1 o h Q => gx_virt (x := 70) (n := 2) (by decide +kernel) (by decide +kernel) rfl (Or.inl (Nat.le_of_ble_eq_true rfl)) (by show _ ≤ mr_mxl 39; rw [show mr_mxl 39 = 3 from by decide +kernel]; exact Nat.le_of_ble_eq_true rfl) (by decide +kernel),
   fun v0 v1 v2 st h Q => gx_one (i := .iconst 1) (len := 1) (by decide +kernel) rfl,
   fun v0 v1 v2 x h Q hv => gx_ret (i := .ireturn) (len := 1) (by decide +kernel) rfl rfl (by simp only [mr_rt, if_pos]; rw [if_pos (Or.inr ⟨by decide +kernel, hv⟩)])⟩
theorem S_ne_has : (∀ (v1 v2 : Value) (x : Nat) (st : List Value) (h : mr_h) (Q : Option Value → mr_h → Prop), mr_wp 38 0 [.ref x, v1, v2] st h Q = mr_wp 38 1 [.ref x, v1, v2] (.ref x :: st) h Q) ∧
    (∀ (v0 v1 v2 : Value) (a : Nat) (st : List Value) (h : mr_h) (Q : Option Value → mr_h → Prop), mr_wp 38 1 [v0, v1, v2] (.ref a :: st) h Q = mr_gf (h.1 a) 3 1 (fun v => mr_wp 38 4 [v0, v1, v2] (v :: st) h Q)) ∧
    (∀ (v0 v2 : Value) (x : Int32) (st : List Value) (h : mr_h) (Q : Option Value → mr_h → Prop), mr_wp 38 4 [v0, .int x, v2] st h Q = mr_wp 38 5 [v0, .int x, v2] (.int x :: st) h Q) ∧
    (∀ (v0 v1 v2 : Value) (a : Nat) (x : Int32) (st : List Value) (h : mr_h) (Q : Option Value → mr_h → Prop), mr_wp 38 5 [v0, v1, v2] (.int x :: .ref a :: st) h Q = mr_ai (h.1 a) x (fun v => mr_wp 38 6 [v0, v1, v2] (.int v :: st) h Q)) ∧
    (∀ (v0 v1 : Value) (x : Int32) (st : List Value) (h : mr_h) (Q : Option Value → mr_h → Prop), mr_wp 38 6 [v0, v1, .int x] st h Q = mr_wp 38 7 [v0, v1, .int x] (.int x :: st) h Q) ∧
    (∀ (v0 v1 v2 : Value) (a0 : Int32) (a1 : Int32) (h : mr_h) (Q : Option Value → mr_h → Prop), mr_wp 38 7 [v0, v1, v2] [.int a1, .int a0] h Q = mr_run 17 [.int a0, .int a1] h (fun v h' => mr_wp 38 10 [v0, v1, v2] (v.toList ++ []) h' Q)) ∧
    (∀ (v0 v1 v2 : Value) (x : Int32) (h : mr_h) (Q : Option Value → mr_h → Prop) (hv : x &&& 1 = x), mr_wp 38 10 [v0, v1, v2] [.int x] h Q = Q (some (.int x)) h) :=
  ⟨fun v1 v2 x st h Q => gx_one (i := .aload_n 0) (len := 1) (by decide +kernel) rfl,
   fun v0 v1 v2 a st h Q => gx_get (x := 9) (by decide +kernel) (by decide +kernel),
   fun v0 v2 x st h Q => gx_one (i := .iload_n 1) (len := 1) (by decide +kernel) rfl,
   fun v0 v1 v2 a x st h Q => gx_iald (by decide +kernel),
   fun v0 v1 x st h Q => gx_one (i := .iload_n 2) (len := 1) (by decide +kernel) rfl,
   fun v0 v1 v2 a0 a1 h Q => gx_stat (x := 39) (t := 17) (n := 2) (by decide +kernel) (by decide +kernel) (by decide) (by decide +kernel) rfl (Or.inl (Nat.le_of_ble_eq_true rfl)) (by show _ ≤ mr_mxl 17; rw [show mr_mxl 17 = 2 from by decide +kernel]; exact Nat.le_of_ble_eq_true rfl),
   fun v0 v1 v2 x h Q hv => gx_ret (i := .ireturn) (len := 1) (by decide +kernel) rfl rfl (by simp only [mr_rt, if_pos]; rw [if_pos (Or.inr ⟨by decide +kernel, hv⟩)])⟩
theorem S_ne_link : (∀ (v1 v2 : Value) (x : Nat) (st : List Value) (h : mr_h) (Q : Option Value → mr_h → Prop), mr_wp 39 0 [.ref x, v1, v2] st h Q = mr_wp 39 1 [.ref x, v1, v2] (.ref x :: st) h Q) ∧
    (∀ (v0 v1 v2 : Value) (a : Nat) (st : List Value) (h : mr_h) (Q : Option Value → mr_h → Prop), mr_wp 39 1 [v0, v1, v2] (.ref a :: st) h Q = mr_gf (h.1 a) 3 1 (fun v => mr_wp 39 4 [v0, v1, v2] (v :: st) h Q)) ∧
    (∀ (v0 v2 : Value) (x : Int32) (st : List Value) (h : mr_h) (Q : Option Value → mr_h → Prop), mr_wp 39 4 [v0, .int x, v2] st h Q = mr_wp 39 5 [v0, .int x, v2] (.int x :: st) h Q) ∧
    (∀ (v0 v1 v2 : Value) (x : Int32) (y : Nat) (st : List Value) (h : mr_h) (Q : Option Value → mr_h → Prop), mr_wp 39 5 [v0, v1, v2] (.int x :: .ref y :: st) h Q = mr_wp 39 6 [v0, v1, v2] (.int x :: .ref y :: .int x :: .ref y :: st) h Q) ∧
    (∀ (v0 v1 v2 : Value) (a : Nat) (x : Int32) (st : List Value) (h : mr_h) (Q : Option Value → mr_h → Prop), mr_wp 39 6 [v0, v1, v2] (.int x :: .ref a :: st) h Q = mr_ai (h.1 a) x (fun v => mr_wp 39 7 [v0, v1, v2] (.int v :: st) h Q)) ∧
    (∀ (v0 v1 : Value) (x : Int32) (st : List Value) (h : mr_h) (Q : Option Value → mr_h → Prop), mr_wp 39 7 [v0, v1, .int x] st h Q = mr_wp 39 8 [v0, v1, .int x] (.int x :: st) h Q) ∧
    (∀ (v0 v1 v2 : Value) (a0 : Int32) (r0 : Value) (r1 : Value) (r2 : Value) (h : mr_h) (Q : Option Value → mr_h → Prop), mr_wp 39 8 [v0, v1, v2] [.int a0, r0, r1, r2] h Q = mr_run 16 [.int a0] h (fun v h' => mr_wp 39 11 [v0, v1, v2] (v.toList ++ [r0, r1, r2]) h' Q)) ∧
    (∀ (v0 v1 v2 : Value) (x : Int32) (y : Int32) (st : List Value) (h : mr_h) (Q : Option Value → mr_h → Prop), mr_wp 39 11 [v0, v1, v2] (.int y :: .int x :: st) h Q = mr_wp 39 12 [v0, v1, v2] (.int (x ||| y) :: st) h Q) ∧
    (∀ (v0 v1 v2 : Value) (a : Nat) (x : Int32) (y : Int32) (st : List Value) (h : mr_h) (Q : Option Value → mr_h → Prop), mr_wp 39 12 [v0, v1, v2] (.int y :: .int x :: .ref a :: st) h Q = mr_si (h.1 a) x y (fun c => mr_wp 39 13 [v0, v1, v2] st (mr_up h a c) Q)) ∧
    (∀ (v0 v1 v2 : Value) (h : mr_h) (Q : Option Value → mr_h → Prop), mr_wp 39 13 [v0, v1, v2] [] h Q = Q none h) :=
  ⟨fun v1 v2 x st h Q => gx_one (i := .aload_n 0) (len := 1) (by decide +kernel) rfl,
   fun v0 v1 v2 a st h Q => gx_get (x := 9) (by decide +kernel) (by decide +kernel),
   fun v0 v2 x st h Q => gx_one (i := .iload_n 1) (len := 1) (by decide +kernel) rfl,
   fun v0 v1 v2 x y st h Q => gx_one (i := .dup2) (len := 1) (by decide +kernel) rfl,
   fun v0 v1 v2 a x st h Q => gx_iald (by decide +kernel),
   fun v0 v1 x st h Q => gx_one (i := .iload_n 2) (len := 1) (by decide +kernel) rfl,
   fun v0 v1 v2 a0 r0 r1 r2 h Q => gx_stat (x := 35) (t := 16) (n := 1) (by decide +kernel) (by decide +kernel) (by decide) (by decide +kernel) rfl (Or.inl (Nat.le_of_ble_eq_true rfl)) (by show _ ≤ mr_mxl 16; rw [show mr_mxl 16 = 1 from by decide +kernel]; exact Nat.le_of_ble_eq_true rfl),
   fun v0 v1 v2 x y st h Q => gx_one (i := .ior) (len := 1) (by decide +kernel) rfl,
   fun v0 v1 v2 a x y st h Q => gx_iast (by decide +kernel),
   fun v0 v1 v2 h Q => gx_ret (i := .return_) (len := 1) (by decide +kernel) rfl rfl (by simp only [mr_rt, if_pos]; rw [if_pos (by decide +kernel)])⟩
theorem S_sc_readRanked : (∀ (v1 : Value) (x : Nat) (st : List Value) (h : mr_h) (Q : Option Value → mr_h → Prop), mr_wp 40 0 [.ref x, v1] st h Q = mr_wp 40 1 [.ref x, v1] (.ref x :: st) h Q) ∧
    (∀ (v0 v1 : Value) (st : List Value) (h : mr_h) (Q : Option Value → mr_h → Prop), mr_wp 40 1 [v0, v1] st h Q = mr_wp 40 2 [v0, v1] (.int (0) :: st) h Q) ∧
    (∀ (v0 : Value) (x : Nat) (st : List Value) (h : mr_h) (Q : Option Value → mr_h → Prop), mr_wp 40 2 [v0, .ref x] st h Q = mr_wp 40 3 [v0, .ref x] (.ref x :: st) h Q) ∧
    (∀ (v0 v1 : Value) (a : Nat) (st : List Value) (h : mr_h) (Q : Option Value → mr_h → Prop), mr_wp 40 3 [v0, v1] (.ref a :: st) h Q = mr_gf (h.1 a) 3 0 (fun v => mr_wp 40 6 [v0, v1] (v :: st) h Q)) ∧
    (∀ (v0 v1 : Value) (st : List Value) (h : mr_h) (Q : Option Value → mr_h → Prop), mr_wp 40 6 [v0, v1] st h Q = mr_wp 40 7 [v0, v1] (.int (1) :: st) h Q) ∧
    (∀ (v0 v1 : Value) (x : Int32) (y : Int32) (st : List Value) (h : mr_h) (Q : Option Value → mr_h → Prop), mr_wp 40 7 [v0, v1] (.int y :: .int x :: st) h Q = mr_wp 40 8 [v0, v1] (.int (x - y) :: st) h Q) ∧
    (∀ (v0 v1 : Value) (a0 : Int32) (a1 : Int32) (o : Nat) (h : mr_h) (Q : Option Value → mr_h → Prop), mr_wp 40 8 [v0, v1] [.int a1, .int a0, .ref o] h Q = mr_rc (h.1 o) 7 (mr_run 36 [.ref o, .int a0, .int a1] h (fun v h' => mr_wp 40 11 [v0, v1] (v.toList ++ []) h' Q))) ∧
    (∀ (v0 v1 : Value) (x : Int32) (st : List Value) (h : mr_h) (Q : Option Value → mr_h → Prop), mr_wp 40 11 [v0, v1] (.int x :: st) h Q = if x = 0 then mr_wp 40 25 [v0, v1] st h Q else mr_wp 40 14 [v0, v1] st h Q) ∧
    (∀ (v0 : Value) (x : Nat) (st : List Value) (h : mr_h) (Q : Option Value → mr_h → Prop), mr_wp 40 14 [v0, .ref x] st h Q = mr_wp 40 15 [v0, .ref x] (.ref x :: st) h Q) ∧
    (∀ (v1 : Value) (x : Nat) (st : List Value) (h : mr_h) (Q : Option Value → mr_h → Prop), mr_wp 40 15 [.ref x, v1] st h Q = mr_wp 40 16 [.ref x, v1] (.ref x :: st) h Q) ∧
    (∀ (v0 v1 : Value) (a : Nat) (st : List Value) (h : mr_h) (Q : Option Value → mr_h → Prop), mr_wp 40 16 [v0, v1] (.ref a :: st) h Q = mr_gf (h.1 a) 7 5 (fun v => mr_wp 40 19 [v0, v1] (v :: st) h Q)) ∧
    (∀ (v0 v1 : Value) (a0 : Int32) (o : Nat) (h : mr_h) (Q : Option Value → mr_h → Prop), mr_wp 40 19 [v0, v1] [.int a0, .ref o] h Q = mr_rc (h.1 o) 3 (mr_run 4 [.ref o, .int a0] h (fun v h' => mr_wp 40 22 [v0, v1] (v.toList ++ []) h' Q))) ∧
    (∀ (v0 v1 : Value) (x : Int32) (st : List Value) (h : mr_h) (Q : Option Value → mr_h → Prop), mr_wp 40 22 [v0, v1] (.int x :: st) h Q = if x = 0 then mr_wp 40 27 [v0, v1] st h Q else mr_wp 40 25 [v0, v1] st h Q) ∧
    (∀ (v0 v1 : Value) (st : List Value) (h : mr_h) (Q : Option Value → mr_h → Prop), mr_wp 40 25 [v0, v1] st h Q = mr_wp 40 26 [v0, v1] (.int (0) :: st) h Q) ∧
    (∀ (v0 v1 : Value) (x : Int32) (h : mr_h) (Q : Option Value → mr_h → Prop) (hv : x &&& 1 = x), mr_wp 40 26 [v0, v1] [.int x] h Q = Q (some (.int x)) h) ∧
    (∀ (v0 : Value) (x : Nat) (st : List Value) (h : mr_h) (Q : Option Value → mr_h → Prop), mr_wp 40 27 [v0, .ref x] st h Q = mr_wp 40 28 [v0, .ref x] (.ref x :: st) h Q) ∧
    (∀ (v0 v1 : Value) (a : Nat) (st : List Value) (h : mr_h) (Q : Option Value → mr_h → Prop), mr_wp 40 28 [v0, v1] (.ref a :: st) h Q = mr_gf (h.1 a) 3 2 (fun v => mr_wp 40 31 [v0, v1] (v :: st) h Q)) ∧
    (∀ (v1 : Value) (x : Nat) (st : List Value) (h : mr_h) (Q : Option Value → mr_h → Prop), mr_wp 40 31 [.ref x, v1] st h Q = mr_wp 40 32 [.ref x, v1] (.ref x :: st) h Q) ∧
    (∀ (v0 v1 : Value) (a : Nat) (st : List Value) (h : mr_h) (Q : Option Value → mr_h → Prop), mr_wp 40 32 [v0, v1] (.ref a :: st) h Q = mr_gf (h.1 a) 7 5 (fun v => mr_wp 40 35 [v0, v1] (v :: st) h Q)) ∧
    (∀ (v1 : Value) (x : Nat) (st : List Value) (h : mr_h) (Q : Option Value → mr_h → Prop), mr_wp 40 35 [.ref x, v1] st h Q = mr_wp 40 36 [.ref x, v1] (.ref x :: st) h Q) ∧
    (∀ (v0 v1 : Value) (a : Nat) (st : List Value) (h : mr_h) (Q : Option Value → mr_h → Prop), mr_wp 40 36 [v0, v1] (.ref a :: st) h Q = mr_gf (h.1 a) 7 6 (fun v => mr_wp 40 39 [v0, v1] (v :: st) h Q)) ∧
    (∀ (v0 v1 : Value) (a : Nat) (x : Int32) (y : Int32) (st : List Value) (h : mr_h) (Q : Option Value → mr_h → Prop), mr_wp 40 39 [v0, v1] (.int y :: .int x :: .ref a :: st) h Q = mr_si (h.1 a) x y (fun c => mr_wp 40 40 [v0, v1] st (mr_up h a c) Q)) ∧
    (∀ (v1 : Value) (x : Nat) (st : List Value) (h : mr_h) (Q : Option Value → mr_h → Prop), mr_wp 40 40 [.ref x, v1] st h Q = mr_wp 40 41 [.ref x, v1] (.ref x :: st) h Q) ∧
    (∀ (v0 v1 : Value) (x : Nat) (st : List Value) (h : mr_h) (Q : Option Value → mr_h → Prop), mr_wp 40 41 [v0, v1] (.ref x :: st) h Q = mr_wp 40 42 [v0, v1] (.ref x :: .ref x :: st) h Q) ∧
    (∀ (v0 v1 : Value) (a : Nat) (st : List Value) (h : mr_h) (Q : Option Value → mr_h → Prop), mr_wp 40 42 [v0, v1] (.ref a :: st) h Q = mr_gf (h.1 a) 7 6 (fun v => mr_wp 40 45 [v0, v1] (v :: st) h Q)) ∧
    (∀ (v0 v1 : Value) (st : List Value) (h : mr_h) (Q : Option Value → mr_h → Prop), mr_wp 40 45 [v0, v1] st h Q = mr_wp 40 46 [v0, v1] (.int (1) :: st) h Q) ∧
    (∀ (v0 v1 : Value) (x : Int32) (y : Int32) (st : List Value) (h : mr_h) (Q : Option Value → mr_h → Prop), mr_wp 40 46 [v0, v1] (.int y :: .int x :: st) h Q = mr_wp 40 47 [v0, v1] (.int (x + y) :: st) h Q) ∧
    (∀ (v0 v1 : Value) (a : Nat) (x : Int32) (st : List Value) (h : mr_h) (Q : Option Value → mr_h → Prop), mr_wp 40 47 [v0, v1] (.int x :: .ref a :: st) h Q = mr_pf (h.1 a) 7 6 (.int x) (fun c => mr_wp 40 50 [v0, v1] st (mr_up h a c) Q)) ∧
    (∀ (v0 v1 : Value) (st : List Value) (h : mr_h) (Q : Option Value → mr_h → Prop), mr_wp 40 50 [v0, v1] st h Q = mr_wp 40 51 [v0, v1] (.int (1) :: st) h Q) ∧
    (∀ (v0 v1 : Value) (x : Int32) (h : mr_h) (Q : Option Value → mr_h → Prop) (hv : x &&& 1 = x), mr_wp 40 51 [v0, v1] [.int x] h Q = Q (some (.int x)) h) :=
  ⟨fun v1 x st h Q => gx_one (i := .aload_n 0) (len := 1) (by decide +kernel) rfl,
   fun v0 v1 st h Q => gx_one (i := .iconst 0) (len := 1) (by decide +kernel) rfl,
   fun v0 x st h Q => gx_one (i := .aload_n 1) (len := 1) (by decide +kernel) rfl,
   fun v0 v1 a st h Q => gx_get (x := 64) (by decide +kernel) (by decide +kernel),
   fun v0 v1 st h Q => gx_one (i := .iconst 1) (len := 1) (by decide +kernel) rfl,
   fun v0 v1 x y st h Q => gx_one (i := .isub) (len := 1) (by decide +kernel) rfl,
   fun v0 v1 a0 a1 o h Q => gx_virt (x := 60) (n := 2) (by decide +kernel) (by decide +kernel) rfl (Or.inl (Nat.le_of_ble_eq_true rfl)) (by show _ ≤ mr_mxl 36; rw [show mr_mxl 36 = 3 from by decide +kernel]; exact Nat.le_of_ble_eq_true rfl) (by decide +kernel),
   fun v0 v1 x st h Q => gx_br (i := .ifCond .eq 14) (len := 3) (c := .eq) (by decide +kernel) rfl rfl,
   fun v0 x st h Q => gx_one (i := .aload_n 1) (len := 1) (by decide +kernel) rfl,
   fun v1 x st h Q => gx_one (i := .aload_n 0) (len := 1) (by decide +kernel) rfl,
   fun v0 v1 a st h Q => gx_get (x := 28) (by decide +kernel) (by decide +kernel),
   fun v0 v1 a0 o h Q => gx_virt (x := 74) (n := 1) (by decide +kernel) (by decide +kernel) rfl (Or.inl (Nat.le_of_ble_eq_true rfl)) (by show _ ≤ mr_mxl 4; rw [show mr_mxl 4 = 2 from by decide +kernel]; exact Nat.le_of_ble_eq_true rfl) (by decide +kernel),
   fun v0 v1 x st h Q => gx_br (i := .ifCond .eq 5) (len := 3) (c := .eq) (by decide +kernel) rfl rfl,
   fun v0 v1 st h Q => gx_one (i := .iconst 0) (len := 1) (by decide +kernel) rfl,
   fun v0 v1 x h Q hv => gx_ret (i := .ireturn) (len := 1) (by decide +kernel) rfl rfl (by simp only [mr_rt, if_pos]; rw [if_pos (Or.inr ⟨by decide +kernel, hv⟩)]),
   fun v0 x st h Q => gx_one (i := .aload_n 1) (len := 1) (by decide +kernel) rfl,
   fun v0 v1 a st h Q => gx_get (x := 78) (by decide +kernel) (by decide +kernel),
   fun v1 x st h Q => gx_one (i := .aload_n 0) (len := 1) (by decide +kernel) rfl,
   fun v0 v1 a st h Q => gx_get (x := 28) (by decide +kernel) (by decide +kernel),
   fun v1 x st h Q => gx_one (i := .aload_n 0) (len := 1) (by decide +kernel) rfl,
   fun v0 v1 a st h Q => gx_get (x := 31) (by decide +kernel) (by decide +kernel),
   fun v0 v1 a x y st h Q => gx_iast (by decide +kernel),
   fun v1 x st h Q => gx_one (i := .aload_n 0) (len := 1) (by decide +kernel) rfl,
   fun v0 v1 x st h Q => gx_one (i := .dup) (len := 1) (by decide +kernel) rfl,
   fun v0 v1 a st h Q => gx_get (x := 31) (by decide +kernel) (by decide +kernel),
   fun v0 v1 st h Q => gx_one (i := .iconst 1) (len := 1) (by decide +kernel) rfl,
   fun v0 v1 x y st h Q => gx_one (i := .iadd) (len := 1) (by decide +kernel) rfl,
   fun v0 v1 a x st h Q => gx_put (x := 31) (by decide +kernel) (by decide +kernel) ⟨rfl, Or.inl rfl⟩,
   fun v0 v1 st h Q => gx_one (i := .iconst 1) (len := 1) (by decide +kernel) rfl,
   fun v0 v1 x h Q hv => gx_ret (i := .ireturn) (len := 1) (by decide +kernel) rfl rfl (by simp only [mr_rt, if_pos]; rw [if_pos (Or.inr ⟨by decide +kernel, hv⟩)])⟩
theorem S_ne_become : (∀ (v1 : Value) (x : Nat) (st : List Value) (h : mr_h) (Q : Option Value → mr_h → Prop), mr_wp 41 0 [.ref x, v1] st h Q = mr_wp 41 1 [.ref x, v1] (.ref x :: st) h Q) ∧
    (∀ (v0 : Value) (x : Nat) (st : List Value) (h : mr_h) (Q : Option Value → mr_h → Prop), mr_wp 41 1 [v0, .ref x] st h Q = mr_wp 41 2 [v0, .ref x] (.ref x :: st) h Q) ∧
    (∀ (v0 v1 : Value) (a : Nat) (st : List Value) (h : mr_h) (Q : Option Value → mr_h → Prop), mr_wp 41 2 [v0, v1] (.ref a :: st) h Q = mr_gf (h.1 a) 3 0 (fun v => mr_wp 41 5 [v0, v1] (v :: st) h Q)) ∧
    (∀ (v0 v1 : Value) (a : Nat) (x : Int32) (st : List Value) (h : mr_h) (Q : Option Value → mr_h → Prop), mr_wp 41 5 [v0, v1] (.int x :: .ref a :: st) h Q = mr_pf (h.1 a) 3 0 (.int x) (fun c => mr_wp 41 8 [v0, v1] st (mr_up h a c) Q)) ∧
    (∀ (v0 : Value) (x : Nat) (st : List Value) (h : mr_h) (Q : Option Value → mr_h → Prop), mr_wp 41 8 [v0, .ref x] st h Q = mr_wp 41 9 [v0, .ref x] (.ref x :: st) h Q) ∧
    (∀ (v0 v1 : Value) (a : Nat) (st : List Value) (h : mr_h) (Q : Option Value → mr_h → Prop), mr_wp 41 9 [v0, v1] (.ref a :: st) h Q = mr_gf (h.1 a) 3 1 (fun v => mr_wp 41 12 [v0, v1] (v :: st) h Q)) ∧
    (∀ (v0 v1 : Value) (st : List Value) (h : mr_h) (Q : Option Value → mr_h → Prop), mr_wp 41 12 [v0, v1] st h Q = mr_wp 41 13 [v0, v1] (.int (0) :: st) h Q) ∧
    (∀ (v1 : Value) (x : Nat) (st : List Value) (h : mr_h) (Q : Option Value → mr_h → Prop), mr_wp 41 13 [.ref x, v1] st h Q = mr_wp 41 14 [.ref x, v1] (.ref x :: st) h Q) ∧
    (∀ (v0 v1 : Value) (a : Nat) (st : List Value) (h : mr_h) (Q : Option Value → mr_h → Prop), mr_wp 41 14 [v0, v1] (.ref a :: st) h Q = mr_gf (h.1 a) 3 1 (fun v => mr_wp 41 17 [v0, v1] (v :: st) h Q)) ∧
    (∀ (v0 v1 : Value) (st : List Value) (h : mr_h) (Q : Option Value → mr_h → Prop), mr_wp 41 17 [v0, v1] st h Q = mr_wp 41 18 [v0, v1] (.int (0) :: st) h Q) ∧
    (∀ (v0 v1 : Value) (st : List Value) (h : mr_h) (Q : Option Value → mr_h → Prop), mr_wp 41 18 [v0, v1] st h Q = mr_wp 41 20 [v0, v1] (.int (12) :: st) h Q) ∧
    (∀ (v0 v1 : Value) (x : Int32) (y : Int32) (a : Nat) (z : Int32) (b : Nat) (h : mr_h) (Q : Option Value → mr_h → Prop), mr_wp 41 20 [v0, v1] [.int x, .int y, .ref a, .int z, .ref b] h Q = mr_cpy (h.1 a) (h.1 b) a b z y x (fun c => mr_wp 41 23 [v0, v1] [] (mr_up h a c) Q)) ∧
    (∀ (v0 : Value) (x : Nat) (st : List Value) (h : mr_h) (Q : Option Value → mr_h → Prop), mr_wp 41 23 [v0, .ref x] st h Q = mr_wp 41 24 [v0, .ref x] (.ref x :: st) h Q) ∧
    (∀ (v0 v1 : Value) (a : Nat) (st : List Value) (h : mr_h) (Q : Option Value → mr_h → Prop), mr_wp 41 24 [v0, v1] (.ref a :: st) h Q = mr_gf (h.1 a) 3 2 (fun v => mr_wp 41 27 [v0, v1] (v :: st) h Q)) ∧
    (∀ (v0 v1 : Value) (st : List Value) (h : mr_h) (Q : Option Value → mr_h → Prop), mr_wp 41 27 [v0, v1] st h Q = mr_wp 41 28 [v0, v1] (.int (0) :: st) h Q) ∧
    (∀ (v1 : Value) (x : Nat) (st : List Value) (h : mr_h) (Q : Option Value → mr_h → Prop), mr_wp 41 28 [.ref x, v1] st h Q = mr_wp 41 29 [.ref x, v1] (.ref x :: st) h Q) ∧
    (∀ (v0 v1 : Value) (a : Nat) (st : List Value) (h : mr_h) (Q : Option Value → mr_h → Prop), mr_wp 41 29 [v0, v1] (.ref a :: st) h Q = mr_gf (h.1 a) 3 2 (fun v => mr_wp 41 32 [v0, v1] (v :: st) h Q)) ∧
    (∀ (v0 v1 : Value) (st : List Value) (h : mr_h) (Q : Option Value → mr_h → Prop), mr_wp 41 32 [v0, v1] st h Q = mr_wp 41 33 [v0, v1] (.int (0) :: st) h Q) ∧
    (∀ (v0 v1 : Value) (st : List Value) (h : mr_h) (Q : Option Value → mr_h → Prop), mr_wp 41 33 [v0, v1] st h Q = mr_wp 41 35 [v0, v1] (.int (12) :: st) h Q) ∧
    (∀ (v0 v1 : Value) (x : Int32) (y : Int32) (a : Nat) (z : Int32) (b : Nat) (h : mr_h) (Q : Option Value → mr_h → Prop), mr_wp 41 35 [v0, v1] [.int x, .int y, .ref a, .int z, .ref b] h Q = mr_cpy (h.1 a) (h.1 b) a b z y x (fun c => mr_wp 41 38 [v0, v1] [] (mr_up h a c) Q)) ∧
    (∀ (v0 v1 : Value) (h : mr_h) (Q : Option Value → mr_h → Prop), mr_wp 41 38 [v0, v1] [] h Q = Q none h) :=
  ⟨fun v1 x st h Q => gx_one (i := .aload_n 0) (len := 1) (by decide +kernel) rfl,
   fun v0 x st h Q => gx_one (i := .aload_n 1) (len := 1) (by decide +kernel) rfl,
   fun v0 v1 a st h Q => gx_get (x := 25) (by decide +kernel) (by decide +kernel),
   fun v0 v1 a x st h Q => gx_put (x := 25) (by decide +kernel) (by decide +kernel) ⟨rfl, Or.inl rfl⟩,
   fun v0 x st h Q => gx_one (i := .aload_n 1) (len := 1) (by decide +kernel) rfl,
   fun v0 v1 a st h Q => gx_get (x := 9) (by decide +kernel) (by decide +kernel),
   fun v0 v1 st h Q => gx_one (i := .iconst 0) (len := 1) (by decide +kernel) rfl,
   fun v1 x st h Q => gx_one (i := .aload_n 0) (len := 1) (by decide +kernel) rfl,
   fun v0 v1 a st h Q => gx_get (x := 9) (by decide +kernel) (by decide +kernel),
   fun v0 v1 st h Q => gx_one (i := .iconst 0) (len := 1) (by decide +kernel) rfl,
   fun v0 v1 st h Q => gx_one (i := .bipush 12) (len := 2) (by decide +kernel) rfl,
   fun v0 v1 x y a z b h Q => gx_copy (x := 29) (by decide +kernel) (by decide +kernel) (by decide +kernel) (Nat.le_of_ble_eq_true rfl),
   fun v0 x st h Q => gx_one (i := .aload_n 1) (len := 1) (by decide +kernel) rfl,
   fun v0 v1 a st h Q => gx_get (x := 15) (by decide +kernel) (by decide +kernel),
   fun v0 v1 st h Q => gx_one (i := .iconst 0) (len := 1) (by decide +kernel) rfl,
   fun v1 x st h Q => gx_one (i := .aload_n 0) (len := 1) (by decide +kernel) rfl,
   fun v0 v1 a st h Q => gx_get (x := 15) (by decide +kernel) (by decide +kernel),
   fun v0 v1 st h Q => gx_one (i := .iconst 0) (len := 1) (by decide +kernel) rfl,
   fun v0 v1 st h Q => gx_one (i := .bipush 12) (len := 2) (by decide +kernel) rfl,
   fun v0 v1 x y a z b h Q => gx_copy (x := 29) (by decide +kernel) (by decide +kernel) (by decide +kernel) (Nat.le_of_ble_eq_true rfl),
   fun v0 v1 h Q => gx_ret (i := .return_) (len := 1) (by decide +kernel) rfl rfl (by simp only [mr_rt, if_pos]; rw [if_pos (by decide +kernel)])⟩
theorem s_al_empty_2 (v0 : Value) (x : Int32) (st : List Value) (h : mr_h) (Q : Option Value → mr_h → Prop) : mr_wp 42 2 [v0, .int x] st h Q = mr_wp 42 3 [v0, .int x] (.int x :: st) h Q := gx_one (i := .iload_n 1) (len := 1) (by decide +kernel) rfl
theorem S_al_empty : (∀ (v0 v1 : Value) (st : List Value) (h : mr_h) (Q : Option Value → mr_h → Prop), mr_wp 42 0 [v0, v1] st h Q = mr_wp 42 1 [v0, v1] (.int (0) :: st) h Q) ∧
    (∀ (v1 : Value) (w0 : Nat) (x : Int32) (st : List Value) (h : mr_h) (Q : Option Value → mr_h → Prop), mr_wp 42 1 [.ref w0, v1] (.int x :: st) h Q = mr_wp 42 2 [.ref w0, .int x] st h Q) ∧
    (∀ (v0 v1 : Value) (st : List Value) (h : mr_h) (Q : Option Value → mr_h → Prop), mr_wp 42 3 [v0, v1] st h Q = mr_wp 42 4 [v0, v1] (.int (2) :: st) h Q) ∧
    (∀ (v0 v1 : Value) (x : Int32) (y : Int32) (st : List Value) (h : mr_h) (Q : Option Value → mr_h → Prop), mr_wp 42 4 [v0, v1] (.int y :: .int x :: st) h Q = if y ≤ x then mr_wp 42 20 [v0, v1] st h Q else mr_wp 42 7 [v0, v1] st h Q) ∧
    (∀ (v1 : Value) (x : Nat) (st : List Value) (h : mr_h) (Q : Option Value → mr_h → Prop), mr_wp 42 7 [.ref x, v1] st h Q = mr_wp 42 8 [.ref x, v1] (.ref x :: st) h Q) ∧
    (∀ (v0 v1 : Value) (a : Nat) (st : List Value) (h : mr_h) (Q : Option Value → mr_h → Prop), mr_wp 42 8 [v0, v1] (.ref a :: st) h Q = mr_gf (h.1 a) 0 1 (fun v => mr_wp 42 11 [v0, v1] (v :: st) h Q)) ∧
    (∀ (v0 : Value) (x : Int32) (st : List Value) (h : mr_h) (Q : Option Value → mr_h → Prop), mr_wp 42 11 [v0, .int x] st h Q = mr_wp 42 12 [v0, .int x] (.int x :: st) h Q) ∧
    (∀ (v0 v1 : Value) (st : List Value) (h : mr_h) (Q : Option Value → mr_h → Prop), mr_wp 42 12 [v0, v1] st h Q = mr_wp 42 13 [v0, v1] (.int (0) :: st) h Q) ∧
    (∀ (v0 v1 : Value) (a : Nat) (x : Int32) (y : Int32) (st : List Value) (h : mr_h) (Q : Option Value → mr_h → Prop), mr_wp 42 13 [v0, v1] (.int y :: .int x :: .ref a :: st) h Q = mr_sz (h.1 a) x y (fun c => mr_wp 42 14 [v0, v1] st (mr_up h a c) Q)) ∧
    (∀ (x : Int32) (w0 : Nat) (st : List Value) (h : mr_h) (Q : Option Value → mr_h → Prop), mr_wp 42 14 [.ref w0, .int x] st h Q = mr_wp 42 17 [.ref w0, .int (x + (1))] st h Q) ∧
    (∀ (v0 v1 : Value) (st : List Value) (h : mr_h) (Q : Option Value → mr_h → Prop), mr_wp 42 17 [v0, v1] st h Q = mr_wp 42 2 [v0, v1] st h Q) ∧
    (∀ (v0 v1 : Value) (h : mr_h) (Q : Option Value → mr_h → Prop), mr_wp 42 20 [v0, v1] [] h Q = Q none h) :=
  ⟨fun v0 v1 st h Q => gx_one (i := .iconst 0) (len := 1) (by decide +kernel) rfl,
   fun v1 w0 x st h Q => gx_one (i := .istore_n 1) (len := 1) (by decide +kernel) rfl,
   fun v0 v1 st h Q => gx_one (i := .iconst 2) (len := 1) (by decide +kernel) rfl,
   fun v0 v1 x y st h Q => gx_br (i := .if_icmp .ge 16) (len := 3) (c := .ge) (by decide +kernel) rfl rfl,
   fun v1 x st h Q => gx_one (i := .aload_n 0) (len := 1) (by decide +kernel) rfl,
   fun v0 v1 a st h Q => gx_get (x := 17) (by decide +kernel) (by decide +kernel),
   fun v0 x st h Q => gx_one (i := .iload_n 1) (len := 1) (by decide +kernel) rfl,
   fun v0 v1 st h Q => gx_one (i := .iconst 0) (len := 1) (by decide +kernel) rfl,
   fun v0 v1 a x y st h Q => gx_zast (by decide +kernel),
   fun x w0 st h Q => gx_one (i := .iinc 1 1) (len := 3) (by decide +kernel) rfl,
   fun v0 v1 st h Q => gx_one (i := .goto (-15)) (len := 3) (by decide +kernel) rfl,
   fun v0 v1 h Q => gx_ret (i := .return_) (len := 1) (by decide +kernel) rfl rfl (by simp only [mr_rt, if_pos]; rw [if_pos (by decide +kernel)])⟩
